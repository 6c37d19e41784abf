def wd_X6_set_s4 (c_most : Int32) (c_sizes : Nat → Int32) (c_cells : Nat → Nat → Int32) : va_W := [(0, .inr (5, [.int c_most, .ref 1, .ref 2])), (1, .inl (4, 4, .inr (.inr (.inr (.inr (gg_rf 2 1)))))), (2, .inl (0, 4, .inl c_sizes)), (3, .inl (0, 60, .inl (c_cells 0))), (4, .inl (0, 60, .inl (c_cells 1))), (5, .inl (0, 60, .inl (c_cells 2))), (6, .inl (0, 60, .inl (c_cells 3)))]
def MD_X6_set_s4 : gg_M := (yX6_set, cX6_set, 4, none, 2, 43)
theorem nV_X6_set_s4 : gg_nV MD_X6_set_s4 3 := ⟨⟨gg_mem (by decide +kernel) rfl, gg_mem cw_X6_set rfl, by decide, by decide, by decide +kernel⟩, gg_mem (by decide +kernel) rfl, gg_mem (by decide +kernel) rfl⟩
def f_X6_set_s4 (a0 : Int32) (a1 : Int32) (a2 : Int32) (c_sizes : Nat → Int32) (c_cells : Nat → Nat → Int32) : Option ((Nat → Nat → Int32)) := (f_X6_holds_s4 a0 a1 c_sizes).bind (fun v1 => gg_lt (fun (c_cells_18 : Nat → Nat → Int32) => (some c_cells_18)) (fun k18 => (if v1 = (0 : Int32) then (k18 c_cells) else gg_chk (gg_in a0 4) (gg_chk (gg_in a1 60) ((k18 (gg_up c_cells a0.toNatClampNeg (upd (c_cells a0.toNatClampNeg) a1.toNatClampNeg a2))))))))
set_option maxRecDepth 20000 in
set_option maxHeartbeats 8000000 in
theorem C_X6_set_s4 (a0 : Int32) (a1 : Int32) (a2 : Int32) (c_most : Int32) (c_sizes : Nat → Int32) (c_cells : Nat → Nat → Int32) {res : (Nat → Nat → Int32)} (h : f_X6_set_s4 a0 a1 a2 c_sizes c_cells = some res) : gg_C MD_X6_set_s4 [.ref 0, .int a0, .int a1, .int a2] (wd_X6_set_s4 c_most c_sizes c_cells) (none) (wd_X6_set_s4 c_most c_sizes res) := by
  refine gg_ofG [some (.ref 0), some (.int a0), some (.int a1), some (.int a2)] (plainFor_of_name (by decide)) (Nat.le_of_ble_eq_true rfl) rfl ?_
  unfold f_X6_set_s4 at h
  refine gg_aload_n dX6_set_0 rfl ?_
  refine gg_iload_n dX6_set_1 rfl ?_
  refine gg_iload_n dX6_set_2 rfl ?_
  obtain ⟨v1, hv1, h⟩ := gg_bd h
  refine gg_callV (gg_sg [0]) [0, 2] (wd_X6_set_s4 c_most c_sizes c_cells) 0 (C_X6_holds_s4 a0 a1 c_most c_sizes hv1) nV_X6_holds_s4 ml_X6_29 rfl rfl rfl rfl rfl rfl rfl rfl rfl rfl [1, 3, 4, 5, 6] 7 rfl rfl rfl rfl rfl ⟨Nat.le_of_ble_eq_true rfl, Nat.le_of_ble_eq_true rfl⟩ (Nat.le_of_ble_eq_true rfl) dX6_set_3 [.int v1] rfl ?_
  obtain ⟨k18, hke18, h⟩ := gg_lte h
  have hk18 : ∀ (c_cells_18 : Nat → Nat → Int32), k18 c_cells_18 = some res → gg_G MD_X6_set_s4 18 [none, none, none, none] [] (wd_X6_set_s4 c_most c_sizes c_cells_18) (none) (wd_X6_set_s4 c_most c_sizes res) := by
    intro c_cells_18 h
    subst hke18
    cases h
    exact gg_vret dX6_set_18 rfl
  clear hke18
  refine gg_if_eq 18 dX6_set_6 (by decide) (fun hc => ?_) (fun hc => ?_)
  · replace h := gg_th h hc
    refine gg_fg [false, false, false, false] [none, none, none, none] rfl ?_
    exact hk18 c_cells h
  · replace h := gg_el h hc
    refine gg_aload_n dX6_set_9 rfl ?_
    refine gg_get 0 fl_X6_15 dX6_set_10 rfl rfl ?_
    refine gg_iload_n dX6_set_13 rfl ?_
    obtain ⟨hr14, h⟩ := gg_ck h
    refine gg_aldA 1 (3 + a0.toNatClampNeg) dX6_set_14 rfl hr14 rfl (gg_ad 1 2 _) ?_
    refine gg_iload_n dX6_set_15 rfl ?_
    refine gg_iload_n dX6_set_16 rfl ?_
    obtain ⟨hb17, h⟩ := gg_ck h
    refine gg_iast (3 + a0.toNatClampNeg) (wd_X6_set_s4 c_most c_sizes (gg_up c_cells a0.toNatClampNeg (upd (c_cells a0.toNatClampNeg) a1.toNatClampNeg a2))) dX6_set_17 (gg_rows4 rfl rfl rfl rfl (gg_in_lt hr14)) hb17 (gg_pick4 (P := fun t => List.set (wd_X6_set_s4 c_most c_sizes c_cells) (3 + t) (3 + t, .inl (0, 60, .inl (upd (c_cells t) a1.toNatClampNeg a2))) = (wd_X6_set_s4 c_most c_sizes (gg_up c_cells t (upd (c_cells t) a1.toNatClampNeg a2)))) rfl rfl rfl rfl (gg_in_lt hr14)) ?_
    refine gg_fg [false, false, false, false] [none, none, none, none] rfl ?_
    exact hk18 (gg_up c_cells a0.toNatClampNeg (upd (c_cells a0.toNatClampNeg) a1.toNatClampNeg a2)) h
def wd_X8_text (c_latestFinding : Int32) (c_told : Int32) (c_above : Int64) (c_below : Int64) (c_texts_most : Int32) (c_texts_sizes : Nat → Int32) (c_texts_cells : Nat → Nat → Int32) (c_found : Nat → Int32) : va_W := [(0, .inr (7, [.ref 1, .ref 10, .ref 17, .ref 19, .ref 27, .ref 35, .ref 43, .ref 45, .ref 52, .ref 56, .ref 60, .ref 67, .int c_latestFinding, .int c_told, .long c_above, .long c_below])), (10, .inr (5, [.int c_texts_most, .ref 11, .ref 12])), (11, .inl (4, 4, .inr (.inr (.inr (.inr (gg_rf 2 1)))))), (12, .inl (0, 4, .inl c_texts_sizes)), (13, .inl (0, 60, .inl (c_texts_cells 0))), (14, .inl (0, 60, .inl (c_texts_cells 1))), (15, .inl (0, 60, .inl (c_texts_cells 2))), (16, .inl (0, 60, .inl (c_texts_cells 3))), (67, .inl (0, 6, .inl c_found))]
def MD_X8_text : gg_M := (yX8_text, cX8_text, 5, some .int, 3, 67)
theorem nV_X8_text : gg_nV MD_X8_text 2 := ⟨⟨gg_mem (by decide +kernel) rfl, gg_mem cw_X8_text rfl, by decide, by decide, by decide +kernel⟩, gg_mem (by decide +kernel) rfl, gg_mem (by decide +kernel) rfl⟩
def lp_X8_text_14 {β : Type} (y1 : Int32) (y3 : Int32) (c_texts_sizes : Nat → Int32) (k38 : (Nat → Nat → Int32) → Option β) : Nat → (Int32) → (Nat → Nat → Int32) → Option β
  | 0, _, _ => none
  | n + 1, x4_14, c_texts_cells_14 => (if y3 ≤ x4_14 then (k38 c_texts_cells_14) else (f_X6_set_s4 y1 x4_14 (32 : Int32) c_texts_sizes c_texts_cells_14).bind (fun v2 => (lp_X8_text_14 y1 y3 c_texts_sizes k38 n (x4_14 + (1 : Int32)) v2)))
def f_X8_text (a0 : Int32) (a1 : Int32) (c_latestFinding : Int32) (c_texts_most : Int32) (c_texts_sizes : Nat → Int32) (c_texts_cells : Nat → Nat → Int32) (c_found : Nat → Int32) : Option (Int32 × (Int32) × (Nat → Int32) × (Nat → Nat → Int32) × (Nat → Int32)) := gg_b5 (f_X8_makeOn_s4 a0 a1 c_latestFinding c_found c_texts_most c_texts_sizes c_texts_cells) (fun v1_0 v1_1 v1_2 v1_3 v1_4 => (lp_X8_text_14 a0 v1_0 v1_3 (fun (c_texts_cells_38 : Nat → Nat → Int32) => (some (v1_0, v1_1, v1_3, c_texts_cells_38, v1_2))) gg_fuel (0 : Int32) v1_4))
set_option maxRecDepth 20000 in
set_option maxHeartbeats 4000000 in
theorem lq_X8_text_14 {β : Type} {res : β} {rr : Option Value} {ww : va_W} (y1 : Int32) (y3 : Int32) (c_latestFinding : Int32) (c_told : Int32) (c_above : Int64) (c_below : Int64) (c_texts_most : Int32) (c_texts_sizes : Nat → Int32) (c_found : Nat → Int32) (k38 : (Nat → Nat → Int32) → Option β) (hk38 : ∀ (c_texts_cells_38 : Nat → Nat → Int32), k38 c_texts_cells_38 = some res → gg_G MD_X8_text 38 [none, none, none, some (.int y3), none] [] (wd_X8_text c_latestFinding c_told c_above c_below c_texts_most c_texts_sizes c_texts_cells_38 c_found) rr ww) : ∀ (n : Nat) (x4_14 : Int32) (c_texts_cells_14 : Nat → Nat → Int32), lp_X8_text_14 y1 y3 c_texts_sizes k38 n x4_14 c_texts_cells_14 = some res → gg_G MD_X8_text 14 [some (.ref 0), some (.int y1), none, some (.int y3), some (.int x4_14)] [] (wd_X8_text c_latestFinding c_told c_above c_below c_texts_most c_texts_sizes c_texts_cells_14 c_found) rr ww := by
  intro n
  induction n with
  | zero =>
    intro x4_14 c_texts_cells_14 h
    exact nomatch (show (none : Option β) = some res from h)
  | succ n ih =>
    intro x4_14 c_texts_cells_14 h
    rw [lp_X8_text_14] at h
    refine gg_iload dX8_text_14 rfl ?_
    refine gg_iload_n dX8_text_16 rfl ?_
    refine gg_icmp_ge 38 dX8_text_17 (by decide) (fun hc => ?_) (fun hc => ?_)
    · replace h := gg_th h hc
      refine gg_fg [false, false, false, true, false] [none, none, none, some (.int y3), none] rfl ?_
      exact hk38 c_texts_cells_14 h
    · replace h := gg_el h hc
      refine gg_aload_n dX8_text_20 rfl ?_
      refine gg_get 0 fl_X8_18 dX8_text_21 rfl rfl ?_
      refine gg_iload_n dX8_text_24 rfl ?_
      refine gg_iload dX8_text_25 rfl ?_
      refine gg_bipush (32 : Int32) dX8_text_27 (by decide) ?_
      obtain ⟨v2, hv2, h⟩ := gg_bd h
      refine gg_callV (gg_sg [10]) [1, 2, 3, 4, 5, 6, 7] (wd_X8_text c_latestFinding c_told c_above c_below c_texts_most c_texts_sizes v2 c_found) 0 (C_X6_set_s4 y1 x4_14 (32 : Int32) c_texts_most c_texts_sizes c_texts_cells_14 hv2) nV_X6_set_s4 ml_X8_104 rfl rfl rfl rfl rfl rfl rfl rfl rfl rfl [0, 8] 9 rfl rfl rfl rfl rfl ⟨Nat.le_of_ble_eq_true rfl, Nat.le_of_ble_eq_true rfl⟩ (Nat.le_of_ble_eq_true rfl) dX8_text_29 [] rfl ?_
      refine gg_iinc (x4_14 + (1 : Int32)) [some (.ref 0), some (.int y1), none, some (.int y3), some (.int (x4_14 + (1 : Int32)))] dX8_text_32 rfl rfl rfl (Nat.le_of_ble_eq_true rfl) rfl ?_
      refine gg_goto 14 dX8_text_35 (by decide) ?_
      exact ih (x4_14 + (1 : Int32)) v2 h
set_option maxRecDepth 20000 in
set_option maxHeartbeats 8000000 in
theorem C_X8_text (a0 : Int32) (a1 : Int32) (c_latestFinding : Int32) (c_told : Int32) (c_above : Int64) (c_below : Int64) (c_texts_most : Int32) (c_texts_sizes : Nat → Int32) (c_texts_cells : Nat → Nat → Int32) (c_found : Nat → Int32) {r0 : Int32} {r1 : (Int32)} {r2 : (Nat → Int32)} {r3 : (Nat → Nat → Int32)} {r4 : (Nat → Int32)} (h : f_X8_text a0 a1 c_latestFinding c_texts_most c_texts_sizes c_texts_cells c_found = some (r0, r1, r2, r3, r4)) : gg_C MD_X8_text [.ref 0, .int a0, .int a1] (wd_X8_text c_latestFinding c_told c_above c_below c_texts_most c_texts_sizes c_texts_cells c_found) (some (.int r0)) (wd_X8_text r1 c_told c_above c_below c_texts_most r2 r3 r4) := by
  refine gg_ofG [some (.ref 0), some (.int a0), some (.int a1), none, none] (plainFor_of_name (by decide)) (Nat.le_of_ble_eq_true rfl) rfl ?_
  unfold f_X8_text at h
  refine gg_aload_n dX8_text_0 rfl ?_
  refine gg_aload_n dX8_text_1 rfl ?_
  refine gg_get 0 fl_X8_18 dX8_text_2 rfl rfl ?_
  refine gg_iload_n dX8_text_5 rfl ?_
  refine gg_iload_n dX8_text_6 rfl ?_
  obtain ⟨v1_0, v1_1, v1_2, v1_3, v1_4, hv1, h⟩ := gg_bd5 h
  refine gg_callV (gg_sg [0, 10]) [0, 8, 1, 2, 3, 4, 5, 6, 7] (wd_X8_text v1_1 c_told c_above c_below c_texts_most v1_3 v1_4 v1_2) 0 (C_X8_makeOn_s4 a0 a1 c_latestFinding c_told c_above c_below c_found c_texts_most c_texts_sizes c_texts_cells hv1) nV_X8_makeOn_s4 ml_X8_93 rfl rfl rfl rfl rfl rfl rfl rfl rfl rfl [] 9 rfl rfl rfl rfl rfl ⟨Nat.le_of_ble_eq_true rfl, Nat.le_of_ble_eq_true rfl⟩ (Nat.le_of_ble_eq_true rfl) dX8_text_7 [.int v1_0] rfl ?_
  refine gg_istore_n [some (.ref 0), some (.int a0), some (.int a1), some (.int v1_0), none] dX8_text_10 rfl (Nat.le_of_ble_eq_true rfl) rfl ?_
  refine gg_iconst (0 : Int32) dX8_text_11 (by decide) ?_
  refine gg_istore [some (.ref 0), some (.int a0), some (.int a1), some (.int v1_0), some (.int (0 : Int32))] dX8_text_12 rfl (Nat.le_of_ble_eq_true rfl) rfl ?_
  refine gg_fg [true, true, false, true, true] [some (.ref 0), some (.int a0), none, some (.int v1_0), some (.int (0 : Int32))] rfl ?_
  refine lq_X8_text_14 a0 v1_0 v1_1 c_told c_above c_below c_texts_most v1_3 v1_2 _ ?_ gg_fuel (0 : Int32) v1_4 h
  intro c_texts_cells_38 h
  refine gg_iload_n dX8_text_38 rfl ?_
  cases h
  exact gg_iret dX8_text_39 rfl
def wd_X6_has_s4 (c_most : Int32) (c_sizes : Nat → Int32) : va_W := [(0, .inr (5, [.int c_most, .ref 1, .ref 2])), (2, .inl (0, 4, .inl c_sizes))]
def MD_X6_has_s4 : gg_M := (yX6_has, cX6_has, 2, some .boolean, 1, 21)
theorem nV_X6_has_s4 : gg_nV MD_X6_has_s4 1 := ⟨⟨gg_mem (by decide +kernel) rfl, gg_mem cw_X6_has rfl, by decide, by decide, by decide +kernel⟩, gg_mem (by decide +kernel) rfl, gg_mem (by decide +kernel) rfl⟩
def f_X6_has_s4 (a0 : Int32) (c_sizes : Nat → Int32) : Option (Int32) := (f_X6_knows_s4 a0).bind (fun v1 => gg_lt (fun (s0_23 : Int32) => gg_chk (gg_isb s0_23) (some s0_23)) (fun k23 => gg_lt ((k23 (0 : Int32))) (fun k22 => (if v1 = (0 : Int32) then k22 else gg_chk (gg_in a0 4) ((if (c_sizes a0.toNatClampNeg) = (-1 : Int32) then k22 else (k23 (1 : Int32))))))))
set_option maxRecDepth 20000 in
set_option maxHeartbeats 8000000 in
theorem C_X6_has_s4 (a0 : Int32) (c_most : Int32) (c_sizes : Nat → Int32) {res : Int32} (h : f_X6_has_s4 a0 c_sizes = some res) : gg_C MD_X6_has_s4 [.ref 0, .int a0] (wd_X6_has_s4 c_most c_sizes) (some (.int res)) (wd_X6_has_s4 c_most c_sizes) := by
  refine gg_ofG [some (.ref 0), some (.int a0)] (plainFor_of_name (by decide)) (Nat.le_of_ble_eq_true rfl) rfl ?_
  unfold f_X6_has_s4 at h
  refine gg_aload_n dX6_has_0 rfl ?_
  refine gg_iload_n dX6_has_1 rfl ?_
  obtain ⟨v1, hv1, h⟩ := gg_bd h
  refine gg_callV (gg_sg [0]) [0, 1] (wd_X6_has_s4 c_most c_sizes) 0 (C_X6_knows_s4 a0 c_most c_sizes hv1) nV_X6_knows_s4 ml_X6_22 rfl rfl rfl rfl rfl rfl rfl rfl rfl rfl [] 2 rfl rfl rfl rfl rfl ⟨Nat.le_of_ble_eq_true rfl, Nat.le_of_ble_eq_true rfl⟩ (Nat.le_of_ble_eq_true rfl) dX6_has_2 [.int v1] rfl ?_
  obtain ⟨k23, hke23, h⟩ := gg_lte h
  have hk23 : ∀ (s0_23 : Int32), k23 s0_23 = some res → gg_G MD_X6_has_s4 23 [none, none] [.int s0_23] (wd_X6_has_s4 c_most c_sizes) (some (.int res)) (wd_X6_has_s4 c_most c_sizes) := by
    intro s0_23 h
    subst hke23
    obtain ⟨hz, h⟩ := gg_ck h
    cases h
    exact gg_zret dX6_has_23 rfl hz
  clear hke23
  obtain ⟨k22, hke22, h⟩ := gg_lte h
  have hk22 : k22 = some res → gg_G MD_X6_has_s4 22 [none, none] [] (wd_X6_has_s4 c_most c_sizes) (some (.int res)) (wd_X6_has_s4 c_most c_sizes) := by
    intro  h
    subst hke22
    refine gg_iconst (0 : Int32) dX6_has_22 (by decide) ?_
    exact hk23 (0 : Int32) h
  clear hke22
  refine gg_if_eq 22 dX6_has_5 (by decide) (fun hc => ?_) (fun hc => ?_)
  · replace h := gg_th h hc
    refine gg_fg [false, false] [none, none] rfl ?_
    exact hk22 h
  · replace h := gg_el h hc
    refine gg_aload_n dX6_has_8 rfl ?_
    refine gg_get 0 fl_X6_18 dX6_has_9 rfl rfl ?_
    refine gg_iload_n dX6_has_12 rfl ?_
    obtain ⟨hb13, h⟩ := gg_ck h
    refine gg_iald 1 dX6_has_13 rfl hb13 ?_
    refine gg_iconst (-1 : Int32) dX6_has_14 (by decide) ?_
    refine gg_icmp_eq 22 dX6_has_15 (by decide) (fun hc => ?_) (fun hc => ?_)
    · replace h := gg_th h hc
      refine gg_fg [false, false] [none, none] rfl ?_
      exact hk22 h
    · replace h := gg_el h hc
      refine gg_iconst (1 : Int32) dX6_has_18 (by decide) ?_
      refine gg_goto 23 dX6_has_19 (by decide) ?_
      refine gg_fg [false, false] [none, none] rfl ?_
      exact hk23 (1 : Int32) h
def wd_X8_refusedMissing_s4 (c_latestFinding : Int32) (c_told : Int32) (c_above : Int64) (c_below : Int64) (c_found : Nat → Int32) (c_p1_most : Int32) (c_p1_sizes : Nat → Int32) : va_W := [(0, .inr (7, [.ref 1, .ref 10, .ref 17, .ref 19, .ref 27, .ref 35, .ref 43, .ref 45, .ref 52, .ref 56, .ref 60, .ref 67, .int c_latestFinding, .int c_told, .long c_above, .long c_below])), (67, .inl (0, 6, .inl c_found)), (100, .inr (5, [.int c_p1_most, .ref 101, .ref 102])), (102, .inl (0, 4, .inl c_p1_sizes))]
def MD_X8_refusedMissing_s4 : gg_M := (yX8_refusedMissing, cX8_refusedMissing, 3, some .int, 2, 42)
theorem nV_X8_refusedMissing_s4 : gg_nV MD_X8_refusedMissing_s4 2 := ⟨⟨gg_mem (by decide +kernel) rfl, gg_mem cw_X8_refusedMissing rfl, by decide, by decide, by decide +kernel⟩, gg_mem (by decide +kernel) rfl, gg_mem (by decide +kernel) rfl⟩
def f_X8_refusedMissing_s4 (a0 : Int32) (c_latestFinding : Int32) (c_found : Nat → Int32) (c_p1_sizes : Nat → Int32) : Option (Int32 × (Int32) × (Nat → Int32)) := (f_X6_knows_s4 a0).bind (fun v1 => (if v1 = (0 : Int32) then (some ((-1 : Int32), c_latestFinding, c_found)) else (f_X6_has_s4 a0 c_p1_sizes).bind (fun v2 => gg_lt (fun (s0_27 : Int32) (c_latestFinding_27 : Int32) (c_found_27 : Nat → Int32) => (some (s0_27, c_latestFinding_27, c_found_27))) (fun k27 => (if v2 = (0 : Int32) then gg_b3 (f_X8_find (1 : Int32) c_latestFinding c_found) (fun v3_0 v3_1 v3_2 => (k27 v3_0 v3_1 v3_2)) else (k27 (0 : Int32) c_latestFinding c_found))))))
set_option maxRecDepth 20000 in
set_option maxHeartbeats 8000000 in
theorem C_X8_refusedMissing_s4 (a0 : Int32) (c_latestFinding : Int32) (c_told : Int32) (c_above : Int64) (c_below : Int64) (c_found : Nat → Int32) (c_p1_most : Int32) (c_p1_sizes : Nat → Int32) {r0 : Int32} {r1 : (Int32)} {r2 : (Nat → Int32)} (h : f_X8_refusedMissing_s4 a0 c_latestFinding c_found c_p1_sizes = some (r0, r1, r2)) : gg_C MD_X8_refusedMissing_s4 [.ref 0, .ref 100, .int a0] (wd_X8_refusedMissing_s4 c_latestFinding c_told c_above c_below c_found c_p1_most c_p1_sizes) (some (.int r0)) (wd_X8_refusedMissing_s4 r1 c_told c_above c_below r2 c_p1_most c_p1_sizes) := by
  refine gg_ofG [some (.ref 0), some (.ref 100), some (.int a0)] (plainFor_of_name (by decide)) (Nat.le_of_ble_eq_true rfl) rfl ?_
  unfold f_X8_refusedMissing_s4 at h
  refine gg_aload_n dX8_refusedMissing_0 rfl ?_
  refine gg_iload_n dX8_refusedMissing_1 rfl ?_
  obtain ⟨v1, hv1, h⟩ := gg_bd h
  refine gg_callV (gg_sg [100]) [2, 3] (wd_X8_refusedMissing_s4 c_latestFinding c_told c_above c_below c_found c_p1_most c_p1_sizes) 0 (C_X6_knows_s4 a0 c_p1_most c_p1_sizes hv1) nV_X6_knows_s4 ml_X8_115 rfl rfl rfl rfl rfl rfl rfl rfl rfl rfl [0, 1] 4 rfl rfl rfl rfl rfl ⟨Nat.le_of_ble_eq_true rfl, Nat.le_of_ble_eq_true rfl⟩ (Nat.le_of_ble_eq_true rfl) dX8_refusedMissing_2 [.int v1] rfl ?_
  refine gg_if_ne 10 dX8_refusedMissing_5 (by decide) (fun hc => ?_) (fun hc => ?_)
  · replace h := gg_el h hc
    refine gg_aload_n dX8_refusedMissing_10 rfl ?_
    refine gg_iload_n dX8_refusedMissing_11 rfl ?_
    obtain ⟨v2, hv2, h⟩ := gg_bd h
    refine gg_callV (gg_sg [100]) [2, 3] (wd_X8_refusedMissing_s4 c_latestFinding c_told c_above c_below c_found c_p1_most c_p1_sizes) 0 (C_X6_has_s4 a0 c_p1_most c_p1_sizes hv2) nV_X6_has_s4 ml_X8_123 rfl rfl rfl rfl rfl rfl rfl rfl rfl rfl [0, 1] 4 rfl rfl rfl rfl rfl ⟨Nat.le_of_ble_eq_true rfl, Nat.le_of_ble_eq_true rfl⟩ (Nat.le_of_ble_eq_true rfl) dX8_refusedMissing_12 [.int v2] rfl ?_
    obtain ⟨k27, hke27, h⟩ := gg_lte h
    have hk27 : ∀ (s0_27 : Int32) (c_latestFinding_27 : Int32) (c_found_27 : Nat → Int32), k27 s0_27 c_latestFinding_27 c_found_27 = some (r0, r1, r2) → gg_G MD_X8_refusedMissing_s4 27 [none, none, none] [.int s0_27] (wd_X8_refusedMissing_s4 c_latestFinding_27 c_told c_above c_below c_found_27 c_p1_most c_p1_sizes) (some (.int r0)) (wd_X8_refusedMissing_s4 r1 c_told c_above c_below r2 c_p1_most c_p1_sizes) := by
      intro s0_27 c_latestFinding_27 c_found_27 h
      subst hke27
      cases h
      exact gg_iret dX8_refusedMissing_27 rfl
    clear hke27
    refine gg_if_eq 22 dX8_refusedMissing_15 (by decide) (fun hc => ?_) (fun hc => ?_)
    · replace h := gg_th h hc
      refine gg_aload_n dX8_refusedMissing_22 rfl ?_
      refine gg_iconst (1 : Int32) dX8_refusedMissing_23 (by decide) ?_
      obtain ⟨v3_0, v3_1, v3_2, hv3, h⟩ := gg_bd3 h
      refine gg_callV (gg_sg [0]) [0, 1] (wd_X8_refusedMissing_s4 v3_1 c_told c_above c_below v3_2 c_p1_most c_p1_sizes) 0 (C_X8_find (1 : Int32) c_latestFinding c_told c_above c_below c_found hv3) nV_X8_find ml_X8_119 rfl rfl rfl rfl rfl rfl rfl rfl rfl rfl [2, 3] 4 rfl rfl rfl rfl rfl ⟨Nat.le_of_ble_eq_true rfl, Nat.le_of_ble_eq_true rfl⟩ (Nat.le_of_ble_eq_true rfl) dX8_refusedMissing_24 [.int v3_0] rfl ?_
      refine gg_fg [false, false, false] [none, none, none] rfl ?_
      exact hk27 v3_0 v3_1 v3_2 h
    · replace h := gg_el h hc
      refine gg_iconst (0 : Int32) dX8_refusedMissing_18 (by decide) ?_
      refine gg_goto 27 dX8_refusedMissing_19 (by decide) ?_
      refine gg_fg [false, false, false] [none, none, none] rfl ?_
      exact hk27 (0 : Int32) c_latestFinding c_found h
  · replace h := gg_th h hc
    refine gg_iconst (-1 : Int32) dX8_refusedMissing_8 (by decide) ?_
    cases h
    exact gg_iret dX8_refusedMissing_9 rfl
def wd_X8_refusedPlace_s4 (c_latestFinding : Int32) (c_told : Int32) (c_above : Int64) (c_below : Int64) (c_found : Nat → Int32) (c_p1_most : Int32) (c_p1_sizes : Nat → Int32) : va_W := [(0, .inr (7, [.ref 1, .ref 10, .ref 17, .ref 19, .ref 27, .ref 35, .ref 43, .ref 45, .ref 52, .ref 56, .ref 60, .ref 67, .int c_latestFinding, .int c_told, .long c_above, .long c_below])), (67, .inl (0, 6, .inl c_found)), (100, .inr (5, [.int c_p1_most, .ref 101, .ref 102])), (102, .inl (0, 4, .inl c_p1_sizes))]
def MD_X8_refusedPlace_s4 : gg_M := (yX8_refusedPlace, cX8_refusedPlace, 5, some .int, 3, 64)
theorem nV_X8_refusedPlace_s4 : gg_nV MD_X8_refusedPlace_s4 3 := ⟨⟨gg_mem (by decide +kernel) rfl, gg_mem cw_X8_refusedPlace rfl, by decide, by decide, by decide +kernel⟩, gg_mem (by decide +kernel) rfl, gg_mem (by decide +kernel) rfl⟩
def f_X8_refusedPlace_s4 (a0 : Int32) (a1 : Int32) (c_latestFinding : Int32) (c_found : Nat → Int32) (c_p1_sizes : Nat → Int32) : Option (Int32 × (Int32) × (Nat → Int32)) := gg_b3 (f_X8_refusedMissing_s4 a0 c_latestFinding c_found c_p1_sizes) (fun v1_0 v1_1 v1_2 => (if v1_0 = (0 : Int32) then (f_X6_holds_s4 a0 a1 c_p1_sizes).bind (fun v2 => gg_lt (fun (s0_34 : Int32) (c_latestFinding_34 : Int32) (c_found_34 : Nat → Int32) => (some (s0_34, c_latestFinding_34, c_found_34))) (fun k34 => (if v2 = (0 : Int32) then gg_b3 (f_X8_find (2 : Int32) v1_1 v1_2) (fun v3_0 v3_1 v3_2 => (k34 v3_0 v3_1 v3_2)) else (k34 (0 : Int32) v1_1 v1_2)))) else (some (v1_0, v1_1, v1_2))))
set_option maxRecDepth 20000 in
set_option maxHeartbeats 8000000 in
theorem C_X8_refusedPlace_s4 (a0 : Int32) (a1 : Int32) (c_latestFinding : Int32) (c_told : Int32) (c_above : Int64) (c_below : Int64) (c_found : Nat → Int32) (c_p1_most : Int32) (c_p1_sizes : Nat → Int32) {r0 : Int32} {r1 : (Int32)} {r2 : (Nat → Int32)} (h : f_X8_refusedPlace_s4 a0 a1 c_latestFinding c_found c_p1_sizes = some (r0, r1, r2)) : gg_C MD_X8_refusedPlace_s4 [.ref 0, .ref 100, .int a0, .int a1] (wd_X8_refusedPlace_s4 c_latestFinding c_told c_above c_below c_found c_p1_most c_p1_sizes) (some (.int r0)) (wd_X8_refusedPlace_s4 r1 c_told c_above c_below r2 c_p1_most c_p1_sizes) := by
  refine gg_ofG [some (.ref 0), some (.ref 100), some (.int a0), some (.int a1), none] (plainFor_of_name (by decide)) (Nat.le_of_ble_eq_true rfl) rfl ?_
  unfold f_X8_refusedPlace_s4 at h
  refine gg_aload_n dX8_refusedPlace_0 rfl ?_
  refine gg_aload_n dX8_refusedPlace_1 rfl ?_
  refine gg_iload_n dX8_refusedPlace_2 rfl ?_
  obtain ⟨v1_0, v1_1, v1_2, hv1, h⟩ := gg_bd3 h
  refine gg_callV (gg_sg [0, 100]) [0, 1, 2, 3] (wd_X8_refusedPlace_s4 v1_1 c_told c_above c_below v1_2 c_p1_most c_p1_sizes) 0 (C_X8_refusedMissing_s4 a0 c_latestFinding c_told c_above c_below c_found c_p1_most c_p1_sizes hv1) nV_X8_refusedMissing_s4 ml_X8_108 rfl rfl rfl rfl rfl rfl rfl rfl rfl rfl [] 4 rfl rfl rfl rfl rfl ⟨Nat.le_of_ble_eq_true rfl, Nat.le_of_ble_eq_true rfl⟩ (Nat.le_of_ble_eq_true rfl) dX8_refusedPlace_3 [.int v1_0] rfl ?_
  refine gg_istore [some (.ref 0), some (.ref 100), some (.int a0), some (.int a1), some (.int v1_0)] dX8_refusedPlace_6 rfl (Nat.le_of_ble_eq_true rfl) rfl ?_
  refine gg_iload dX8_refusedPlace_8 rfl ?_
  refine gg_if_eq 16 dX8_refusedPlace_10 (by decide) (fun hc => ?_) (fun hc => ?_)
  · replace h := gg_th h hc
    refine gg_aload_n dX8_refusedPlace_16 rfl ?_
    refine gg_iload_n dX8_refusedPlace_17 rfl ?_
    refine gg_iload_n dX8_refusedPlace_18 rfl ?_
    obtain ⟨v2, hv2, h⟩ := gg_bd h
    refine gg_callV (gg_sg [100]) [2, 3] (wd_X8_refusedPlace_s4 v1_1 c_told c_above c_below v1_2 c_p1_most c_p1_sizes) 0 (C_X6_holds_s4 a0 a1 c_p1_most c_p1_sizes hv2) nV_X6_holds_s4 ml_X8_333 rfl rfl rfl rfl rfl rfl rfl rfl rfl rfl [0, 1] 4 rfl rfl rfl rfl rfl ⟨Nat.le_of_ble_eq_true rfl, Nat.le_of_ble_eq_true rfl⟩ (Nat.le_of_ble_eq_true rfl) dX8_refusedPlace_19 [.int v2] rfl ?_
    obtain ⟨k34, hke34, h⟩ := gg_lte h
    have hk34 : ∀ (s0_34 : Int32) (c_latestFinding_34 : Int32) (c_found_34 : Nat → Int32), k34 s0_34 c_latestFinding_34 c_found_34 = some (r0, r1, r2) → gg_G MD_X8_refusedPlace_s4 34 [none, none, none, none, none] [.int s0_34] (wd_X8_refusedPlace_s4 c_latestFinding_34 c_told c_above c_below c_found_34 c_p1_most c_p1_sizes) (some (.int r0)) (wd_X8_refusedPlace_s4 r1 c_told c_above c_below r2 c_p1_most c_p1_sizes) := by
      intro s0_34 c_latestFinding_34 c_found_34 h
      subst hke34
      cases h
      exact gg_iret dX8_refusedPlace_34 rfl
    clear hke34
    refine gg_if_eq 29 dX8_refusedPlace_22 (by decide) (fun hc => ?_) (fun hc => ?_)
    · replace h := gg_th h hc
      refine gg_aload_n dX8_refusedPlace_29 rfl ?_
      refine gg_iconst (2 : Int32) dX8_refusedPlace_30 (by decide) ?_
      obtain ⟨v3_0, v3_1, v3_2, hv3, h⟩ := gg_bd3 h
      refine gg_callV (gg_sg [0]) [0, 1] (wd_X8_refusedPlace_s4 v3_1 c_told c_above c_below v3_2 c_p1_most c_p1_sizes) 0 (C_X8_find (2 : Int32) v1_1 c_told c_above c_below v1_2 hv3) nV_X8_find ml_X8_119 rfl rfl rfl rfl rfl rfl rfl rfl rfl rfl [2, 3] 4 rfl rfl rfl rfl rfl ⟨Nat.le_of_ble_eq_true rfl, Nat.le_of_ble_eq_true rfl⟩ (Nat.le_of_ble_eq_true rfl) dX8_refusedPlace_31 [.int v3_0] rfl ?_
      refine gg_fg [false, false, false, false, false] [none, none, none, none, none] rfl ?_
      exact hk34 v3_0 v3_1 v3_2 h
    · replace h := gg_el h hc
      refine gg_iconst (0 : Int32) dX8_refusedPlace_25 (by decide) ?_
      refine gg_goto 34 dX8_refusedPlace_26 (by decide) ?_
      refine gg_fg [false, false, false, false, false] [none, none, none, none, none] rfl ?_
      exact hk34 (0 : Int32) v1_1 v1_2 h
  · replace h := gg_el h hc
    refine gg_iload dX8_refusedPlace_13 rfl ?_
    cases h
    exact gg_iret dX8_refusedPlace_15 rfl
def wd_X6_get_s4 (c_most : Int32) (c_sizes : Nat → Int32) (c_cells : Nat → Nat → Int32) : va_W := [(0, .inr (5, [.int c_most, .ref 1, .ref 2])), (1, .inl (4, 4, .inr (.inr (.inr (.inr (gg_rf 2 1)))))), (2, .inl (0, 4, .inl c_sizes)), (3, .inl (0, 60, .inl (c_cells 0))), (4, .inl (0, 60, .inl (c_cells 1))), (5, .inl (0, 60, .inl (c_cells 2))), (6, .inl (0, 60, .inl (c_cells 3)))]
def MD_X6_get_s4 : gg_M := (yX6_get, cX6_get, 3, some .int, 2, 43)
theorem nV_X6_get_s4 : gg_nV MD_X6_get_s4 2 := ⟨⟨gg_mem (by decide +kernel) rfl, gg_mem cw_X6_get rfl, by decide, by decide, by decide +kernel⟩, gg_mem (by decide +kernel) rfl, gg_mem (by decide +kernel) rfl⟩
def f_X6_get_s4 (a0 : Int32) (a1 : Int32) (c_sizes : Nat → Int32) (c_cells : Nat → Nat → Int32) : Option (Int32) := (f_X6_holds_s4 a0 a1 c_sizes).bind (fun v1 => gg_lt (fun (s0_21 : Int32) => (some s0_21)) (fun k21 => (if v1 = (0 : Int32) then (k21 (0 : Int32)) else gg_chk (gg_in a0 4) (gg_chk (gg_in a1 60) ((k21 (c_cells a0.toNatClampNeg a1.toNatClampNeg)))))))
set_option maxRecDepth 20000 in
set_option maxHeartbeats 8000000 in
theorem C_X6_get_s4 (a0 : Int32) (a1 : Int32) (c_most : Int32) (c_sizes : Nat → Int32) (c_cells : Nat → Nat → Int32) {res : Int32} (h : f_X6_get_s4 a0 a1 c_sizes c_cells = some res) : gg_C MD_X6_get_s4 [.ref 0, .int a0, .int a1] (wd_X6_get_s4 c_most c_sizes c_cells) (some (.int res)) (wd_X6_get_s4 c_most c_sizes c_cells) := by
  refine gg_ofG [some (.ref 0), some (.int a0), some (.int a1)] (plainFor_of_name (by decide)) (Nat.le_of_ble_eq_true rfl) rfl ?_
  unfold f_X6_get_s4 at h
  refine gg_aload_n dX6_get_0 rfl ?_
  refine gg_iload_n dX6_get_1 rfl ?_
  refine gg_iload_n dX6_get_2 rfl ?_
  obtain ⟨v1, hv1, h⟩ := gg_bd h
  refine gg_callV (gg_sg [0]) [0, 2] (wd_X6_get_s4 c_most c_sizes c_cells) 0 (C_X6_holds_s4 a0 a1 c_most c_sizes hv1) nV_X6_holds_s4 ml_X6_29 rfl rfl rfl rfl rfl rfl rfl rfl rfl rfl [1, 3, 4, 5, 6] 7 rfl rfl rfl rfl rfl ⟨Nat.le_of_ble_eq_true rfl, Nat.le_of_ble_eq_true rfl⟩ (Nat.le_of_ble_eq_true rfl) dX6_get_3 [.int v1] rfl ?_
  obtain ⟨k21, hke21, h⟩ := gg_lte h
  have hk21 : ∀ (s0_21 : Int32), k21 s0_21 = some res → gg_G MD_X6_get_s4 21 [none, none, none] [.int s0_21] (wd_X6_get_s4 c_most c_sizes c_cells) (some (.int res)) (wd_X6_get_s4 c_most c_sizes c_cells) := by
    intro s0_21 h
    subst hke21
    cases h
    exact gg_iret dX6_get_21 rfl
  clear hke21
  refine gg_if_eq 20 dX6_get_6 (by decide) (fun hc => ?_) (fun hc => ?_)
  · replace h := gg_th h hc
    refine gg_iconst (0 : Int32) dX6_get_20 (by decide) ?_
    refine gg_fg [false, false, false] [none, none, none] rfl ?_
    exact hk21 (0 : Int32) h
  · replace h := gg_el h hc
    refine gg_aload_n dX6_get_9 rfl ?_
    refine gg_get 0 fl_X6_15 dX6_get_10 rfl rfl ?_
    refine gg_iload_n dX6_get_13 rfl ?_
    obtain ⟨hr14, h⟩ := gg_ck h
    refine gg_aldA 1 (3 + a0.toNatClampNeg) dX6_get_14 rfl hr14 rfl (gg_ad 1 2 _) ?_
    refine gg_iload_n dX6_get_15 rfl ?_
    obtain ⟨hb16, h⟩ := gg_ck h
    refine gg_iald (3 + a0.toNatClampNeg) dX6_get_16 (gg_rows4 rfl rfl rfl rfl (gg_in_lt hr14)) hb16 ?_
    refine gg_goto 21 dX6_get_17 (by decide) ?_
    refine gg_fg [false, false, false] [none, none, none] rfl ?_
    exact hk21 (c_cells a0.toNatClampNeg a1.toNatClampNeg) h
def wd_X8_put (c_latestFinding : Int32) (c_told : Int32) (c_above : Int64) (c_below : Int64) (c_texts_most : Int32) (c_texts_sizes : Nat → Int32) (c_texts_cells : Nat → Nat → Int32) (c_found : Nat → Int32) : va_W := [(0, .inr (7, [.ref 1, .ref 10, .ref 17, .ref 19, .ref 27, .ref 35, .ref 43, .ref 45, .ref 52, .ref 56, .ref 60, .ref 67, .int c_latestFinding, .int c_told, .long c_above, .long c_below])), (10, .inr (5, [.int c_texts_most, .ref 11, .ref 12])), (11, .inl (4, 4, .inr (.inr (.inr (.inr (gg_rf 2 1)))))), (12, .inl (0, 4, .inl c_texts_sizes)), (13, .inl (0, 60, .inl (c_texts_cells 0))), (14, .inl (0, 60, .inl (c_texts_cells 1))), (15, .inl (0, 60, .inl (c_texts_cells 2))), (16, .inl (0, 60, .inl (c_texts_cells 3))), (67, .inl (0, 6, .inl c_found))]
def MD_X8_put : gg_M := (yX8_put, cX8_put, 6, some .int, 4, 88)
theorem nV_X8_put : gg_nV MD_X8_put 3 := ⟨⟨gg_mem (by decide +kernel) rfl, gg_mem cw_X8_put rfl, by decide, by decide, by decide +kernel⟩, gg_mem (by decide +kernel) rfl, gg_mem (by decide +kernel) rfl⟩
def f_X8_put (a0 : Int32) (a1 : Int32) (a2 : Int32) (c_latestFinding : Int32) (c_texts_sizes : Nat → Int32) (c_texts_cells : Nat → Nat → Int32) (c_found : Nat → Int32) : Option (Int32 × (Int32) × (Nat → Nat → Int32) × (Nat → Int32)) := gg_b3 (f_X8_refusedPlace_s4 a0 a1 c_latestFinding c_found c_texts_sizes) (fun v1_0 v1_1 v1_2 => (if v1_0 = (0 : Int32) then (f_X6_get_s4 a0 a1 c_texts_sizes c_texts_cells).bind (fun v2 => (f_X6_set_s4 a0 a1 (a2.toInt8.toInt32) c_texts_sizes c_texts_cells).bind (fun v3 => (some ((v2 + (1000 : Int32)), v1_1, v3, v1_2)))) else (some (v1_0, v1_1, c_texts_cells, v1_2))))
set_option maxRecDepth 20000 in
set_option maxHeartbeats 8000000 in
theorem C_X8_put (a0 : Int32) (a1 : Int32) (a2 : Int32) (c_latestFinding : Int32) (c_told : Int32) (c_above : Int64) (c_below : Int64) (c_texts_most : Int32) (c_texts_sizes : Nat → Int32) (c_texts_cells : Nat → Nat → Int32) (c_found : Nat → Int32) {r0 : Int32} {r1 : (Int32)} {r2 : (Nat → Nat → Int32)} {r3 : (Nat → Int32)} (h : f_X8_put a0 a1 a2 c_latestFinding c_texts_sizes c_texts_cells c_found = some (r0, r1, r2, r3)) : gg_C MD_X8_put [.ref 0, .int a0, .int a1, .int a2] (wd_X8_put c_latestFinding c_told c_above c_below c_texts_most c_texts_sizes c_texts_cells c_found) (some (.int r0)) (wd_X8_put r1 c_told c_above c_below c_texts_most c_texts_sizes r2 r3) := by
  refine gg_ofG [some (.ref 0), some (.int a0), some (.int a1), some (.int a2), none, none] (plainFor_of_name (by decide)) (Nat.le_of_ble_eq_true rfl) rfl ?_
  unfold f_X8_put at h
  refine gg_aload_n dX8_put_0 rfl ?_
  refine gg_aload_n dX8_put_1 rfl ?_
  refine gg_get 0 fl_X8_18 dX8_put_2 rfl rfl ?_
  refine gg_iload_n dX8_put_5 rfl ?_
  refine gg_iload_n dX8_put_6 rfl ?_
  obtain ⟨v1_0, v1_1, v1_2, hv1, h⟩ := gg_bd3 h
  refine gg_callV (gg_sg [0, 10]) [0, 8, 1, 3] (wd_X8_put v1_1 c_told c_above c_below c_texts_most c_texts_sizes c_texts_cells v1_2) 0 (C_X8_refusedPlace_s4 a0 a1 c_latestFinding c_told c_above c_below c_found c_texts_most c_texts_sizes hv1) nV_X8_refusedPlace_s4 ml_X8_97 rfl rfl rfl rfl rfl rfl rfl rfl rfl rfl [2, 4, 5, 6, 7] 9 rfl rfl rfl rfl rfl ⟨Nat.le_of_ble_eq_true rfl, Nat.le_of_ble_eq_true rfl⟩ (Nat.le_of_ble_eq_true rfl) dX8_put_7 [.int v1_0] rfl ?_
  refine gg_istore [some (.ref 0), some (.int a0), some (.int a1), some (.int a2), some (.int v1_0), none] dX8_put_10 rfl (Nat.le_of_ble_eq_true rfl) rfl ?_
  refine gg_iload dX8_put_12 rfl ?_
  refine gg_if_eq 20 dX8_put_14 (by decide) (fun hc => ?_) (fun hc => ?_)
  · replace h := gg_th h hc
    refine gg_aload_n dX8_put_20 rfl ?_
    refine gg_get 0 fl_X8_18 dX8_put_21 rfl rfl ?_
    refine gg_iload_n dX8_put_24 rfl ?_
    refine gg_iload_n dX8_put_25 rfl ?_
    obtain ⟨v2, hv2, h⟩ := gg_bd h
    refine gg_callV (gg_sg [10]) [1, 2, 3, 4, 5, 6, 7] (wd_X8_put v1_1 c_told c_above c_below c_texts_most c_texts_sizes c_texts_cells v1_2) 0 (C_X6_get_s4 a0 a1 c_texts_most c_texts_sizes c_texts_cells hv2) nV_X6_get_s4 ml_X8_100 rfl rfl rfl rfl rfl rfl rfl rfl rfl rfl [0, 8] 9 rfl rfl rfl rfl rfl ⟨Nat.le_of_ble_eq_true rfl, Nat.le_of_ble_eq_true rfl⟩ (Nat.le_of_ble_eq_true rfl) dX8_put_26 [.int v2] rfl ?_
    refine gg_istore [some (.ref 0), some (.int a0), some (.int a1), some (.int a2), some (.int v1_0), some (.int v2)] dX8_put_29 rfl (Nat.le_of_ble_eq_true rfl) rfl ?_
    refine gg_aload_n dX8_put_31 rfl ?_
    refine gg_get 0 fl_X8_18 dX8_put_32 rfl rfl ?_
    refine gg_iload_n dX8_put_35 rfl ?_
    refine gg_iload_n dX8_put_36 rfl ?_
    refine gg_iload_n dX8_put_37 rfl ?_
    refine gg_i2b dX8_put_38 ?_
    obtain ⟨v3, hv3, h⟩ := gg_bd h
    refine gg_callV (gg_sg [10]) [1, 2, 3, 4, 5, 6, 7] (wd_X8_put v1_1 c_told c_above c_below c_texts_most c_texts_sizes v3 v1_2) 0 (C_X6_set_s4 a0 a1 (a2.toInt8.toInt32) c_texts_most c_texts_sizes c_texts_cells hv3) nV_X6_set_s4 ml_X8_104 rfl rfl rfl rfl rfl rfl rfl rfl rfl rfl [0, 8] 9 rfl rfl rfl rfl rfl ⟨Nat.le_of_ble_eq_true rfl, Nat.le_of_ble_eq_true rfl⟩ (Nat.le_of_ble_eq_true rfl) dX8_put_39 [] rfl ?_
    refine gg_iload dX8_put_42 rfl ?_
    refine gg_sipush (1000 : Int32) dX8_put_44 (by decide) ?_
    refine gg_iadd dX8_put_47 ?_
    cases h
    exact gg_iret dX8_put_48 rfl
  · replace h := gg_el h hc
    refine gg_iload dX8_put_17 rfl ?_
    cases h
    exact gg_iret dX8_put_19 rfl
def wd_X6_size_s4 (c_most : Int32) (c_sizes : Nat → Int32) : va_W := [(0, .inr (5, [.int c_most, .ref 1, .ref 2])), (2, .inl (0, 4, .inl c_sizes))]
def MD_X6_size_s4 : gg_M := (yX6_size, cX6_size, 2, some .int, 1, 21)
theorem nV_X6_size_s4 : gg_nV MD_X6_size_s4 1 := ⟨⟨gg_mem (by decide +kernel) rfl, gg_mem cw_X6_size rfl, by decide, by decide, by decide +kernel⟩, gg_mem (by decide +kernel) rfl, gg_mem (by decide +kernel) rfl⟩
def f_X6_size_s4 (a0 : Int32) (c_sizes : Nat → Int32) : Option (Int32) := (f_X6_knows_s4 a0).bind (fun v1 => gg_lt (fun (s0_18 : Int32) => (some s0_18)) (fun k18 => (if v1 = (0 : Int32) then (k18 (-1 : Int32)) else gg_chk (gg_in a0 4) ((k18 (c_sizes a0.toNatClampNeg))))))
set_option maxRecDepth 20000 in
set_option maxHeartbeats 8000000 in
theorem C_X6_size_s4 (a0 : Int32) (c_most : Int32) (c_sizes : Nat → Int32) {res : Int32} (h : f_X6_size_s4 a0 c_sizes = some res) : gg_C MD_X6_size_s4 [.ref 0, .int a0] (wd_X6_size_s4 c_most c_sizes) (some (.int res)) (wd_X6_size_s4 c_most c_sizes) := by
  refine gg_ofG [some (.ref 0), some (.int a0)] (plainFor_of_name (by decide)) (Nat.le_of_ble_eq_true rfl) rfl ?_
  unfold f_X6_size_s4 at h
  refine gg_aload_n dX6_size_0 rfl ?_
  refine gg_iload_n dX6_size_1 rfl ?_
  obtain ⟨v1, hv1, h⟩ := gg_bd h
  refine gg_callV (gg_sg [0]) [0, 1] (wd_X6_size_s4 c_most c_sizes) 0 (C_X6_knows_s4 a0 c_most c_sizes hv1) nV_X6_knows_s4 ml_X6_22 rfl rfl rfl rfl rfl rfl rfl rfl rfl rfl [] 2 rfl rfl rfl rfl rfl ⟨Nat.le_of_ble_eq_true rfl, Nat.le_of_ble_eq_true rfl⟩ (Nat.le_of_ble_eq_true rfl) dX6_size_2 [.int v1] rfl ?_
  obtain ⟨k18, hke18, h⟩ := gg_lte h
  have hk18 : ∀ (s0_18 : Int32), k18 s0_18 = some res → gg_G MD_X6_size_s4 18 [none, none] [.int s0_18] (wd_X6_size_s4 c_most c_sizes) (some (.int res)) (wd_X6_size_s4 c_most c_sizes) := by
    intro s0_18 h
    subst hke18
    cases h
    exact gg_iret dX6_size_18 rfl
  clear hke18
  refine gg_if_eq 17 dX6_size_5 (by decide) (fun hc => ?_) (fun hc => ?_)
  · replace h := gg_th h hc
    refine gg_iconst (-1 : Int32) dX6_size_17 (by decide) ?_
    refine gg_fg [false, false] [none, none] rfl ?_
    exact hk18 (-1 : Int32) h
  · replace h := gg_el h hc
    refine gg_aload_n dX6_size_8 rfl ?_
    refine gg_get 0 fl_X6_18 dX6_size_9 rfl rfl ?_
    refine gg_iload_n dX6_size_12 rfl ?_
    obtain ⟨hb13, h⟩ := gg_ck h
    refine gg_iald 1 dX6_size_13 rfl hb13 ?_
    refine gg_goto 18 dX6_size_14 (by decide) ?_
    refine gg_fg [false, false] [none, none] rfl ?_
    exact hk18 (c_sizes a0.toNatClampNeg) h
def wd_J9_min_7cf53  : va_W := []
def MD_J9_min_7cf53 : gg_M := (yJ9_min_7cf53, cJ9_min_7cf53, 2, some .int, 0, 0)
theorem nS_J9_min_7cf53 : gg_nS MD_J9_min_7cf53 2 := ⟨⟨gg_mem (by decide +kernel) rfl, gg_mem cw_J9_min_7cf53 rfl, by decide, by decide, by decide +kernel⟩, gg_mem (by decide +kernel) rfl⟩
def f_J9_min_7cf53 (a0 : Int32) (a1 : Int32)  : Option (Int32) := gg_lt (fun (s0_10 : Int32) => (some s0_10)) (fun k10 => (if a1 < a0 then (k10 a1) else (k10 a0)))
set_option maxRecDepth 20000 in
set_option maxHeartbeats 8000000 in
theorem C_J9_min_7cf53 (a0 : Int32) (a1 : Int32)  {res : Int32} (h : f_J9_min_7cf53 a0 a1 = some res) : gg_C MD_J9_min_7cf53 [.int a0, .int a1] (wd_J9_min_7cf53) (some (.int res)) (wd_J9_min_7cf53) := by
  refine gg_ofG [some (.int a0), some (.int a1)] (by decide +kernel) (Nat.le_of_ble_eq_true rfl) rfl ?_
  unfold f_J9_min_7cf53 at h
  refine gg_iload_n dJ9_min_7cf53_0 rfl ?_
  refine gg_iload_n dJ9_min_7cf53_1 rfl ?_
  obtain ⟨k10, hke10, h⟩ := gg_lte h
  have hk10 : ∀ (s0_10 : Int32), k10 s0_10 = some res → gg_G MD_J9_min_7cf53 10 [none, none] [.int s0_10] (wd_J9_min_7cf53) (some (.int res)) (wd_J9_min_7cf53) := by
    intro s0_10 h
    subst hke10
    cases h
    exact gg_iret dJ9_min_7cf53_10 rfl
  clear hke10
  refine gg_icmp_gt 9 dJ9_min_7cf53_2 (by decide) (fun hc => ?_) (fun hc => ?_)
  · replace h := gg_th h hc
    refine gg_iload_n dJ9_min_7cf53_9 rfl ?_
    refine gg_fg [false, false] [none, none] rfl ?_
    exact hk10 a1 h
  · replace h := gg_el h hc
    refine gg_iload_n dJ9_min_7cf53_5 rfl ?_
    refine gg_goto 10 dJ9_min_7cf53_6 (by decide) ?_
    refine gg_fg [false, false] [none, none] rfl ?_
    exact hk10 a0 h
def wd_X2_clear (c_huts : Int32) (c_food : Int32) (c_due : Int32) (c_backs : Int32) : va_W := [(0, .inr (2, [.int c_huts, .int c_food, .int c_due, .ref 1, .ref 2, .ref 3, .ref 4, .ref 5, .ref 6, .ref 7, .int c_backs]))]
def MD_X2_clear : gg_M := (yX2_clear, cX2_clear, 1, none, 0, 0)
theorem nV_X2_clear : gg_nV MD_X2_clear 0 := ⟨⟨gg_mem (by decide +kernel) rfl, gg_mem cw_X2_clear rfl, by decide, by decide, by decide +kernel⟩, gg_mem (by decide +kernel) rfl, gg_mem (by decide +kernel) rfl⟩
def f_X2_clear  (c_huts : Int32) (c_food : Int32) (c_due : Int32) (c_backs : Int32) : Option ((Int32) × (Int32) × (Int32) × (Int32)) := (some ((0 : Int32), (0 : Int32), (0 : Int32), (0 : Int32)))
set_option maxRecDepth 20000 in
set_option maxHeartbeats 8000000 in
theorem C_X2_clear  (c_huts : Int32) (c_food : Int32) (c_due : Int32) (c_backs : Int32) {r0 : (Int32)} {r1 : (Int32)} {r2 : (Int32)} {r3 : (Int32)} (h : f_X2_clear c_huts c_food c_due c_backs = some (r0, r1, r2, r3)) : gg_C MD_X2_clear [.ref 0] (wd_X2_clear c_huts c_food c_due c_backs) (none) (wd_X2_clear r0 r1 r2 r3) := by
  refine gg_ofG [some (.ref 0)] (plainFor_of_name (by decide)) (Nat.le_of_ble_eq_true rfl) rfl ?_
  unfold f_X2_clear at h
  refine gg_aload_n dX2_clear_0 rfl ?_
  refine gg_iconst (0 : Int32) dX2_clear_1 (by decide) ?_
  refine gg_putf 0 (wd_X2_clear (0 : Int32) c_food c_due c_backs) fl_X2_9 dX2_clear_2 rfl (Nat.le_of_ble_eq_true rfl) (fun _ => ⟨rfl, rfl⟩) rfl ?_
  refine gg_aload_n dX2_clear_5 rfl ?_
  refine gg_iconst (0 : Int32) dX2_clear_6 (by decide) ?_
  refine gg_putf 0 (wd_X2_clear (0 : Int32) (0 : Int32) c_due c_backs) fl_X2_15 dX2_clear_7 rfl (Nat.le_of_ble_eq_true rfl) (fun _ => ⟨rfl, rfl⟩) rfl ?_
  refine gg_aload_n dX2_clear_10 rfl ?_
  refine gg_iconst (0 : Int32) dX2_clear_11 (by decide) ?_
  refine gg_putf 0 (wd_X2_clear (0 : Int32) (0 : Int32) (0 : Int32) c_backs) fl_X2_18 dX2_clear_12 rfl (Nat.le_of_ble_eq_true rfl) (fun _ => ⟨rfl, rfl⟩) rfl ?_
  refine gg_aload_n dX2_clear_15 rfl ?_
  refine gg_iconst (0 : Int32) dX2_clear_16 (by decide) ?_
  refine gg_putf 0 (wd_X2_clear (0 : Int32) (0 : Int32) (0 : Int32) (0 : Int32)) fl_X2_43 dX2_clear_17 rfl (Nat.le_of_ble_eq_true rfl) (fun _ => ⟨rfl, rfl⟩) rfl ?_
  cases h
  exact gg_vret dX2_clear_20 rfl
def wd_X5_skipBlanks (c_size : Int32) (c_place : Int32) (c_signs : Nat → Int32) : va_W := [(0, .inr (4, [.ref 1, .int c_size, .int c_place])), (1, .inl (0, 60, .inl c_signs))]
def MD_X5_skipBlanks : gg_M := (yX5_skipBlanks, cX5_skipBlanks, 1, none, 0, 0)
theorem nV_X5_skipBlanks : gg_nV MD_X5_skipBlanks 0 := ⟨⟨gg_mem (by decide +kernel) rfl, gg_mem cw_X5_skipBlanks rfl, by decide, by decide, by decide +kernel⟩, gg_mem (by decide +kernel) rfl, gg_mem (by decide +kernel) rfl⟩
def lp_X5_skipBlanks_0 {β : Type} (c_size : Int32) (c_signs : Nat → Int32) (k38 : (Int32) → Option β) : Nat → (Int32) → Option β
  | 0, _ => none
  | n + 1, c_place_0 => (if c_size ≤ c_place_0 then (k38 c_place_0) else gg_chk (gg_in c_place_0 60) ((if (c_signs c_place_0.toNatClampNeg) = (32 : Int32) then (lp_X5_skipBlanks_0 c_size c_signs k38 n (c_place_0 + (1 : Int32))) else (k38 c_place_0))))
def f_X5_skipBlanks  (c_size : Int32) (c_place : Int32) (c_signs : Nat → Int32) : Option ((Int32)) := (lp_X5_skipBlanks_0 c_size c_signs (fun (c_place_38 : Int32) => (some c_place_38)) gg_fuel c_place)
set_option maxRecDepth 20000 in
set_option maxHeartbeats 4000000 in
theorem lq_X5_skipBlanks_0 {β : Type} {res : β} {rr : Option Value} {ww : va_W} (c_size : Int32) (c_signs : Nat → Int32) (k38 : (Int32) → Option β) (hk38 : ∀ (c_place_38 : Int32), k38 c_place_38 = some res → gg_G MD_X5_skipBlanks 38 [none] [] (wd_X5_skipBlanks c_size c_place_38 c_signs) rr ww) : ∀ (n : Nat) (c_place_0 : Int32), lp_X5_skipBlanks_0 c_size c_signs k38 n c_place_0 = some res → gg_G MD_X5_skipBlanks 0 [some (.ref 0)] [] (wd_X5_skipBlanks c_size c_place_0 c_signs) rr ww := by
  intro n
  induction n with
  | zero =>
    intro c_place_0 h
    exact nomatch (show (none : Option β) = some res from h)
  | succ n ih =>
    intro c_place_0 h
    rw [lp_X5_skipBlanks_0] at h
    refine gg_aload_n dX5_skipBlanks_0 rfl ?_
    refine gg_get 0 fl_X5_19 dX5_skipBlanks_1 rfl rfl ?_
    refine gg_aload_n dX5_skipBlanks_4 rfl ?_
    refine gg_get 0 fl_X5_15 dX5_skipBlanks_5 rfl rfl ?_
    refine gg_icmp_ge 38 dX5_skipBlanks_8 (by decide) (fun hc => ?_) (fun hc => ?_)
    · replace h := gg_th h hc
      refine gg_fg [false] [none] rfl ?_
      exact hk38 c_place_0 h
    · replace h := gg_el h hc
      refine gg_aload_n dX5_skipBlanks_11 rfl ?_
      refine gg_get 0 fl_X5_9 dX5_skipBlanks_12 rfl rfl ?_
      refine gg_aload_n dX5_skipBlanks_15 rfl ?_
      refine gg_get 0 fl_X5_19 dX5_skipBlanks_16 rfl rfl ?_
      obtain ⟨hb19, h⟩ := gg_ck h
      refine gg_iald 1 dX5_skipBlanks_19 rfl hb19 ?_
      refine gg_bipush (32 : Int32) dX5_skipBlanks_20 (by decide) ?_
      refine gg_icmp_ne 38 dX5_skipBlanks_22 (by decide) (fun hc => ?_) (fun hc => ?_)
      · replace h := gg_el h hc
        refine gg_fg [false] [none] rfl ?_
        exact hk38 c_place_0 h
      · replace h := gg_th h hc
        refine gg_aload_n dX5_skipBlanks_25 rfl ?_
        refine gg_dup dX5_skipBlanks_26 rfl ?_
        refine gg_get 0 fl_X5_19 dX5_skipBlanks_27 rfl rfl ?_
        refine gg_iconst (1 : Int32) dX5_skipBlanks_30 (by decide) ?_
        refine gg_iadd dX5_skipBlanks_31 ?_
        refine gg_putf 0 (wd_X5_skipBlanks c_size (c_place_0 + (1 : Int32)) c_signs) fl_X5_19 dX5_skipBlanks_32 rfl (Nat.le_of_ble_eq_true rfl) (fun _ => ⟨rfl, rfl⟩) rfl ?_
        refine gg_goto 0 dX5_skipBlanks_35 (by decide) ?_
        exact ih (c_place_0 + (1 : Int32)) h
set_option maxRecDepth 20000 in
set_option maxHeartbeats 8000000 in
theorem C_X5_skipBlanks  (c_size : Int32) (c_place : Int32) (c_signs : Nat → Int32) {res : (Int32)} (h : f_X5_skipBlanks c_size c_place c_signs = some res) : gg_C MD_X5_skipBlanks [.ref 0] (wd_X5_skipBlanks c_size c_place c_signs) (none) (wd_X5_skipBlanks c_size res c_signs) := by
  refine gg_ofG [some (.ref 0)] (plainFor_of_name (by decide)) (Nat.le_of_ble_eq_true rfl) rfl ?_
  unfold f_X5_skipBlanks at h
  refine lq_X5_skipBlanks_0 c_size c_signs _ ?_ gg_fuel c_place h
  intro c_place_38 h
  cases h
  exact gg_vret dX5_skipBlanks_38 rfl
def wd_X5_sign (c_size : Int32) (c_place : Int32) (c_signs : Nat → Int32) : va_W := [(0, .inr (4, [.ref 1, .int c_size, .int c_place])), (1, .inl (0, 60, .inl c_signs))]
def MD_X5_sign : gg_M := (yX5_sign, cX5_sign, 1, some .int, 0, 0)
theorem nV_X5_sign : gg_nV MD_X5_sign 0 := ⟨⟨gg_mem (by decide +kernel) rfl, gg_mem cw_X5_sign rfl, by decide, by decide, by decide +kernel⟩, gg_mem (by decide +kernel) rfl, gg_mem (by decide +kernel) rfl⟩
def f_X5_sign  (c_size : Int32) (c_place : Int32) (c_signs : Nat → Int32) : Option (Int32) := gg_lt (fun (s0_25 : Int32) => (some s0_25)) (fun k25 => (if c_size ≤ c_place then (k25 (-9 : Int32)) else gg_chk (gg_in c_place 60) ((k25 (c_signs c_place.toNatClampNeg)))))
set_option maxRecDepth 20000 in
set_option maxHeartbeats 8000000 in
theorem C_X5_sign  (c_size : Int32) (c_place : Int32) (c_signs : Nat → Int32) {res : Int32} (h : f_X5_sign c_size c_place c_signs = some res) : gg_C MD_X5_sign [.ref 0] (wd_X5_sign c_size c_place c_signs) (some (.int res)) (wd_X5_sign c_size c_place c_signs) := by
  refine gg_ofG [some (.ref 0)] (plainFor_of_name (by decide)) (Nat.le_of_ble_eq_true rfl) rfl ?_
  unfold f_X5_sign at h
  refine gg_aload_n dX5_sign_0 rfl ?_
  refine gg_get 0 fl_X5_19 dX5_sign_1 rfl rfl ?_
  refine gg_aload_n dX5_sign_4 rfl ?_
  refine gg_get 0 fl_X5_15 dX5_sign_5 rfl rfl ?_
  obtain ⟨k25, hke25, h⟩ := gg_lte h
  have hk25 : ∀ (s0_25 : Int32), k25 s0_25 = some res → gg_G MD_X5_sign 25 [none] [.int s0_25] (wd_X5_sign c_size c_place c_signs) (some (.int res)) (wd_X5_sign c_size c_place c_signs) := by
    intro s0_25 h
    subst hke25
    cases h
    exact gg_iret dX5_sign_25 rfl
  clear hke25
  refine gg_icmp_ge 23 dX5_sign_8 (by decide) (fun hc => ?_) (fun hc => ?_)
  · replace h := gg_th h hc
    refine gg_bipush (-9 : Int32) dX5_sign_23 (by decide) ?_
    refine gg_fg [false] [none] rfl ?_
    exact hk25 (-9 : Int32) h
  · replace h := gg_el h hc
    refine gg_aload_n dX5_sign_11 rfl ?_
    refine gg_get 0 fl_X5_9 dX5_sign_12 rfl rfl ?_
    refine gg_aload_n dX5_sign_15 rfl ?_
    refine gg_get 0 fl_X5_19 dX5_sign_16 rfl rfl ?_
    obtain ⟨hb19, h⟩ := gg_ck h
    refine gg_iald 1 dX5_sign_19 rfl hb19 ?_
    refine gg_goto 25 dX5_sign_20 (by decide) ?_
    refine gg_fg [false] [none] rfl ?_
    exact hk25 (c_signs c_place.toNatClampNeg) h
def wd_X5_readFigure (c_size : Int32) (c_place : Int32) (c_signs : Nat → Int32) : va_W := [(0, .inr (4, [.ref 1, .int c_size, .int c_place])), (1, .inl (0, 60, .inl c_signs))]
def MD_X5_readFigure : gg_M := (yX5_readFigure, cX5_readFigure, 2, some .int, 1, 20)
theorem nV_X5_readFigure : gg_nV MD_X5_readFigure 0 := ⟨⟨gg_mem (by decide +kernel) rfl, gg_mem cw_X5_readFigure rfl, by decide, by decide, by decide +kernel⟩, gg_mem (by decide +kernel) rfl, gg_mem (by decide +kernel) rfl⟩
def f_X5_readFigure  (c_size : Int32) (c_place : Int32) (c_signs : Nat → Int32) : Option (Int32 × (Int32)) := (f_X5_sign c_size c_place c_signs).bind (fun v1 => gg_lt ((some ((-9 : Int32), c_place))) (fun k18 => (if (v1 - (48 : Int32)) < (0 : Int32) then k18 else (if (v1 - (48 : Int32)) ≤ (9 : Int32) then (some ((v1 - (48 : Int32)), (c_place + (1 : Int32)))) else k18))))
set_option maxRecDepth 20000 in
set_option maxHeartbeats 8000000 in
theorem C_X5_readFigure  (c_size : Int32) (c_place : Int32) (c_signs : Nat → Int32) {r0 : Int32} {r1 : (Int32)} (h : f_X5_readFigure c_size c_place c_signs = some (r0, r1)) : gg_C MD_X5_readFigure [.ref 0] (wd_X5_readFigure c_size c_place c_signs) (some (.int r0)) (wd_X5_readFigure c_size r1 c_signs) := by
  refine gg_ofG [some (.ref 0), none] (plainFor_of_name (by decide)) (Nat.le_of_ble_eq_true rfl) rfl ?_
  unfold f_X5_readFigure at h
  refine gg_aload_n dX5_readFigure_0 rfl ?_
  obtain ⟨v1, hv1, h⟩ := gg_bd h
  refine gg_callV (gg_sg [0]) [0, 1] (wd_X5_readFigure c_size c_place c_signs) 0 (C_X5_sign c_size c_place c_signs hv1) nV_X5_sign ml_X5_51 rfl rfl rfl rfl rfl rfl rfl rfl rfl rfl [] 2 rfl rfl rfl rfl rfl ⟨Nat.le_of_ble_eq_true rfl, Nat.le_of_ble_eq_true rfl⟩ (Nat.le_of_ble_eq_true rfl) dX5_readFigure_1 [.int v1] rfl ?_
  refine gg_bipush (48 : Int32) dX5_readFigure_4 (by decide) ?_
  refine gg_isub dX5_readFigure_6 ?_
  refine gg_istore_n [some (.ref 0), some (.int (v1 - (48 : Int32)))] dX5_readFigure_7 rfl (Nat.le_of_ble_eq_true rfl) rfl ?_
  refine gg_iload_n dX5_readFigure_8 rfl ?_
  obtain ⟨k18, hke18, h⟩ := gg_lte h
  have hk18 : k18 = some (r0, r1) → gg_G MD_X5_readFigure 18 [none, none] [] (wd_X5_readFigure c_size c_place c_signs) (some (.int r0)) (wd_X5_readFigure c_size r1 c_signs) := by
    intro  h
    subst hke18
    refine gg_bipush (-9 : Int32) dX5_readFigure_18 (by decide) ?_
    cases h
    exact gg_iret dX5_readFigure_20 rfl
  clear hke18
  refine gg_if_lt 18 dX5_readFigure_9 (by decide) (fun hc => ?_) (fun hc => ?_)
  · replace h := gg_th h hc
    refine gg_fg [false, false] [none, none] rfl ?_
    exact hk18 h
  · replace h := gg_el h hc
    refine gg_iload_n dX5_readFigure_12 rfl ?_
    refine gg_bipush (9 : Int32) dX5_readFigure_13 (by decide) ?_
    refine gg_icmp_le 21 dX5_readFigure_15 (by decide) (fun hc => ?_) (fun hc => ?_)
    · replace h := gg_th h hc
      refine gg_aload_n dX5_readFigure_21 rfl ?_
      refine gg_dup dX5_readFigure_22 rfl ?_
      refine gg_get 0 fl_X5_19 dX5_readFigure_23 rfl rfl ?_
      refine gg_iconst (1 : Int32) dX5_readFigure_26 (by decide) ?_
      refine gg_iadd dX5_readFigure_27 ?_
      refine gg_putf 0 (wd_X5_readFigure c_size (c_place + (1 : Int32)) c_signs) fl_X5_19 dX5_readFigure_28 rfl (Nat.le_of_ble_eq_true rfl) (fun _ => ⟨rfl, rfl⟩) rfl ?_
      refine gg_iload_n dX5_readFigure_31 rfl ?_
      cases h
      exact gg_iret dX5_readFigure_32 rfl
    · replace h := gg_el h hc
      refine gg_fg [false, false] [none, none] rfl ?_
      exact hk18 h
def wd_X5_readFood (c_size : Int32) (c_place : Int32) (c_signs : Nat → Int32) (c_p1_huts : Int32) (c_p1_food : Int32) (c_p1_due : Int32) (c_p1_backs : Int32) : va_W := [(0, .inr (4, [.ref 1, .int c_size, .int c_place])), (1, .inl (0, 60, .inl c_signs)), (100, .inr (2, [.int c_p1_huts, .int c_p1_food, .int c_p1_due, .ref 101, .ref 102, .ref 103, .ref 104, .ref 105, .ref 106, .ref 107, .int c_p1_backs]))]
def MD_X5_readFood : gg_M := (yX5_readFood, cX5_readFood, 4, some .boolean, 2, 41)
theorem nV_X5_readFood : gg_nV MD_X5_readFood 1 := ⟨⟨gg_mem (by decide +kernel) rfl, gg_mem cw_X5_readFood rfl, by decide, by decide, by decide +kernel⟩, gg_mem (by decide +kernel) rfl, gg_mem (by decide +kernel) rfl⟩
def f_X5_readFood  (c_size : Int32) (c_place : Int32) (c_signs : Nat → Int32) (c_p1_food : Int32) : Option (Int32 × (Int32) × (Int32)) := gg_b2 (f_X5_readFigure c_size c_place c_signs) (fun v1_0 v1_1 => gg_lt (fun (s0_20 : Int32) (c_place_20 : Int32) => (if s0_20 = (-9 : Int32) then (some ((0 : Int32), c_place_20, c_p1_food)) else (if (((10 : Int32) * v1_0) + s0_20) ≤ (40 : Int32) then (some ((1 : Int32), c_place_20, (((10 : Int32) * v1_0) + s0_20))) else (some ((0 : Int32), (c_place_20 - (2 : Int32)), (((10 : Int32) * v1_0) + s0_20)))))) (fun k20 => (if v1_0 = (-9 : Int32) then (k20 (-9 : Int32) v1_1) else gg_b2 (f_X5_readFigure c_size v1_1 c_signs) (fun v2_0 v2_1 => (k20 v2_0 v2_1)))))
set_option maxRecDepth 20000 in
set_option maxHeartbeats 8000000 in
theorem C_X5_readFood  (c_size : Int32) (c_place : Int32) (c_signs : Nat → Int32) (c_p1_huts : Int32) (c_p1_food : Int32) (c_p1_due : Int32) (c_p1_backs : Int32) {r0 : Int32} {r1 : (Int32)} {r2 : (Int32)} (h : f_X5_readFood c_size c_place c_signs c_p1_food = some (r0, r1, r2)) : gg_C MD_X5_readFood [.ref 0, .ref 100] (wd_X5_readFood c_size c_place c_signs c_p1_huts c_p1_food c_p1_due c_p1_backs) (some (.int r0)) (wd_X5_readFood c_size r1 c_signs c_p1_huts r2 c_p1_due c_p1_backs) := by
  refine gg_ofG [some (.ref 0), some (.ref 100), none, none] (plainFor_of_name (by decide)) (Nat.le_of_ble_eq_true rfl) rfl ?_
  unfold f_X5_readFood at h
  refine gg_aload_n dX5_readFood_0 rfl ?_
  obtain ⟨v1_0, v1_1, hv1, h⟩ := gg_bd2 h
  refine gg_callV (gg_sg [0]) [0, 1] (wd_X5_readFood c_size v1_1 c_signs c_p1_huts c_p1_food c_p1_due c_p1_backs) 0 (C_X5_readFigure c_size c_place c_signs hv1) nV_X5_readFigure ml_X5_58 rfl rfl rfl rfl rfl rfl rfl rfl rfl rfl [2] 3 rfl rfl rfl rfl rfl ⟨Nat.le_of_ble_eq_true rfl, Nat.le_of_ble_eq_true rfl⟩ (Nat.le_of_ble_eq_true rfl) dX5_readFood_1 [.int v1_0] rfl ?_
  refine gg_istore_n [some (.ref 0), some (.ref 100), some (.int v1_0), none] dX5_readFood_4 rfl (Nat.le_of_ble_eq_true rfl) rfl ?_
  refine gg_iload_n dX5_readFood_5 rfl ?_
  refine gg_bipush (-9 : Int32) dX5_readFood_6 (by decide) ?_
  obtain ⟨k20, hke20, h⟩ := gg_lte h
  have hk20 : ∀ (s0_20 : Int32) (c_place_20 : Int32), k20 s0_20 c_place_20 = some (r0, r1, r2) → gg_G MD_X5_readFood 20 [some (.ref 0), some (.ref 100), some (.int v1_0), none] [.int s0_20] (wd_X5_readFood c_size c_place_20 c_signs c_p1_huts c_p1_food c_p1_due c_p1_backs) (some (.int r0)) (wd_X5_readFood c_size r1 c_signs c_p1_huts r2 c_p1_due c_p1_backs) := by
    intro s0_20 c_place_20 h
    subst hke20
    refine gg_istore_n [some (.ref 0), some (.ref 100), some (.int v1_0), some (.int s0_20)] dX5_readFood_20 rfl (Nat.le_of_ble_eq_true rfl) rfl ?_
    refine gg_iload_n dX5_readFood_21 rfl ?_
    refine gg_bipush (-9 : Int32) dX5_readFood_22 (by decide) ?_
    refine gg_icmp_ne 29 dX5_readFood_24 (by decide) (fun hc => ?_) (fun hc => ?_)
    · replace h := gg_el h hc
      refine gg_aload_n dX5_readFood_29 rfl ?_
      refine gg_bipush (10 : Int32) dX5_readFood_30 (by decide) ?_
      refine gg_iload_n dX5_readFood_32 rfl ?_
      refine gg_imul dX5_readFood_33 ?_
      refine gg_iload_n dX5_readFood_34 rfl ?_
      refine gg_iadd dX5_readFood_35 ?_
      refine gg_putf 2 (wd_X5_readFood c_size c_place_20 c_signs c_p1_huts (((10 : Int32) * v1_0) + s0_20) c_p1_due c_p1_backs) fl_X5_64 dX5_readFood_36 rfl (Nat.le_of_ble_eq_true rfl) (fun _ => ⟨rfl, rfl⟩) rfl ?_
      refine gg_aload_n dX5_readFood_39 rfl ?_
      refine gg_get 2 fl_X5_64 dX5_readFood_40 rfl rfl ?_
      refine gg_bipush (40 : Int32) dX5_readFood_43 (by decide) ?_
      refine gg_icmp_le 60 dX5_readFood_45 (by decide) (fun hc => ?_) (fun hc => ?_)
      · replace h := gg_th h hc
        refine gg_iconst (1 : Int32) dX5_readFood_60 (by decide) ?_
        cases h
        exact gg_zret dX5_readFood_61 rfl rfl
      · replace h := gg_el h hc
        refine gg_aload_n dX5_readFood_48 rfl ?_
        refine gg_dup dX5_readFood_49 rfl ?_
        refine gg_get 0 fl_X5_19 dX5_readFood_50 rfl rfl ?_
        refine gg_iconst (2 : Int32) dX5_readFood_53 (by decide) ?_
        refine gg_isub dX5_readFood_54 ?_
        refine gg_putf 0 (wd_X5_readFood c_size (c_place_20 - (2 : Int32)) c_signs c_p1_huts (((10 : Int32) * v1_0) + s0_20) c_p1_due c_p1_backs) fl_X5_19 dX5_readFood_55 rfl (Nat.le_of_ble_eq_true rfl) (fun _ => ⟨rfl, rfl⟩) rfl ?_
        refine gg_iconst (0 : Int32) dX5_readFood_58 (by decide) ?_
        cases h
        exact gg_zret dX5_readFood_59 rfl rfl
    · replace h := gg_th h hc
      refine gg_iconst (0 : Int32) dX5_readFood_27 (by decide) ?_
      cases h
      exact gg_zret dX5_readFood_28 rfl rfl
  clear hke20
  refine gg_icmp_ne 16 dX5_readFood_8 (by decide) (fun hc => ?_) (fun hc => ?_)
  · replace h := gg_el h hc
    refine gg_aload_n dX5_readFood_16 rfl ?_
    obtain ⟨v2_0, v2_1, hv2, h⟩ := gg_bd2 h
    refine gg_callV (gg_sg [0]) [0, 1] (wd_X5_readFood c_size v2_1 c_signs c_p1_huts c_p1_food c_p1_due c_p1_backs) 0 (C_X5_readFigure c_size v1_1 c_signs hv2) nV_X5_readFigure ml_X5_58 rfl rfl rfl rfl rfl rfl rfl rfl rfl rfl [2] 3 rfl rfl rfl rfl rfl ⟨Nat.le_of_ble_eq_true rfl, Nat.le_of_ble_eq_true rfl⟩ (Nat.le_of_ble_eq_true rfl) dX5_readFood_17 [.int v2_0] rfl ?_
    exact hk20 v2_0 v2_1 h
  · replace h := gg_th h hc
    refine gg_bipush (-9 : Int32) dX5_readFood_11 (by decide) ?_
    refine gg_goto 20 dX5_readFood_13 (by decide) ?_
    exact hk20 (-9 : Int32) v1_1 h
def wd_X5_readHead (c_size : Int32) (c_place : Int32) (c_signs : Nat → Int32) (c_p1_huts : Int32) (c_p1_food : Int32) (c_p1_due : Int32) (c_p1_backs : Int32) (c_p1_winds : Nat → Int32) : va_W := [(0, .inr (4, [.ref 1, .int c_size, .int c_place])), (1, .inl (0, 60, .inl c_signs)), (100, .inr (2, [.int c_p1_huts, .int c_p1_food, .int c_p1_due, .ref 101, .ref 102, .ref 103, .ref 104, .ref 105, .ref 106, .ref 107, .int c_p1_backs])), (101, .inl (0, 4, .inl c_p1_winds))]
def MD_X5_readHead : gg_M := (yX5_readHead, cX5_readHead, 4, some .boolean, 3, 64)
theorem nV_X5_readHead : gg_nV MD_X5_readHead 1 := ⟨⟨gg_mem (by decide +kernel) rfl, gg_mem cw_X5_readHead rfl, by decide, by decide, by decide +kernel⟩, gg_mem (by decide +kernel) rfl, gg_mem (by decide +kernel) rfl⟩
def lp_X5_readHead_27 {β : Type} (c_size : Int32) (c_signs : Nat → Int32) (k47 : (Int32) → (Nat → Int32) → Option β) (k62 : (Int32) → (Nat → Int32) → Option β) : Nat → (Int32) → (Int32) → (Nat → Int32) → Option β
  | 0, _, _, _ => none
  | n + 1, x2_27, c_place_27, c_p1_winds_27 => (if (4 : Int32) ≤ x2_27 then (k62 c_place_27 c_p1_winds_27) else gg_b2 (f_X5_readFigure c_size c_place_27 c_signs) (fun v3_0 v3_1 => (if v3_0 = (-9 : Int32) then (k47 v3_1 c_p1_winds_27) else gg_chk (gg_in x2_27 4) ((lp_X5_readHead_27 c_size c_signs k47 k62 n (x2_27 + (1 : Int32)) v3_1 (upd c_p1_winds_27 x2_27.toNatClampNeg v3_0))))))
def f_X5_readHead  (c_size : Int32) (c_place : Int32) (c_signs : Nat → Int32) (c_p1_food : Int32) (c_p1_winds : Nat → Int32) : Option (Int32 × (Int32) × (Int32) × (Nat → Int32)) := (f_X5_skipBlanks c_size c_place c_signs).bind (fun v1 => (f_X5_sign c_size v1 c_signs).bind (fun v2 => (if v2 = (102 : Int32) then (lp_X5_readHead_27 c_size c_signs (fun (c_place_47 : Int32) (c_p1_winds_47 : Nat → Int32) => (some ((0 : Int32), c_place_47, c_p1_food, c_p1_winds_47))) (fun (c_place_62 : Int32) (c_p1_winds_62 : Nat → Int32) => gg_b3 (f_X5_readFood c_size c_place_62 c_signs c_p1_food) (fun v4_0 v4_1 v4_2 => gg_chk (gg_isb v4_0) (some (v4_0, v4_1, v4_2, c_p1_winds_62)))) gg_fuel (0 : Int32) (v1 + (1 : Int32)) c_p1_winds) else (some ((0 : Int32), v1, c_p1_food, c_p1_winds)))))
set_option maxRecDepth 20000 in
set_option maxHeartbeats 4000000 in
theorem lq_X5_readHead_27 {β : Type} {res : β} {rr : Option Value} {ww : va_W} (c_size : Int32) (c_signs : Nat → Int32) (c_p1_huts : Int32) (c_p1_food : Int32) (c_p1_due : Int32) (c_p1_backs : Int32) (k47 : (Int32) → (Nat → Int32) → Option β) (k62 : (Int32) → (Nat → Int32) → Option β) (hk47 : ∀ (c_place_47 : Int32) (c_p1_winds_47 : Nat → Int32), k47 c_place_47 c_p1_winds_47 = some res → gg_G MD_X5_readHead 47 [none, none, none, none] [] (wd_X5_readHead c_size c_place_47 c_signs c_p1_huts c_p1_food c_p1_due c_p1_backs c_p1_winds_47) rr ww) (hk62 : ∀ (c_place_62 : Int32) (c_p1_winds_62 : Nat → Int32), k62 c_place_62 c_p1_winds_62 = some res → gg_G MD_X5_readHead 62 [some (.ref 0), some (.ref 100), none, none] [] (wd_X5_readHead c_size c_place_62 c_signs c_p1_huts c_p1_food c_p1_due c_p1_backs c_p1_winds_62) rr ww) : ∀ (n : Nat) (x2_27 : Int32) (c_place_27 : Int32) (c_p1_winds_27 : Nat → Int32), lp_X5_readHead_27 c_size c_signs k47 k62 n x2_27 c_place_27 c_p1_winds_27 = some res → gg_G MD_X5_readHead 27 [some (.ref 0), some (.ref 100), some (.int x2_27), none] [] (wd_X5_readHead c_size c_place_27 c_signs c_p1_huts c_p1_food c_p1_due c_p1_backs c_p1_winds_27) rr ww := by
  intro n
  induction n with
  | zero =>
    intro x2_27 c_place_27 c_p1_winds_27 h
    exact nomatch (show (none : Option β) = some res from h)
  | succ n ih =>
    intro x2_27 c_place_27 c_p1_winds_27 h
    rw [lp_X5_readHead_27] at h
    refine gg_iload_n dX5_readHead_27 rfl ?_
    refine gg_aload_n dX5_readHead_28 rfl ?_
    refine gg_get 2 fl_X5_55 dX5_readHead_29 rfl rfl ?_
    refine gg_alen (4 : Int32) 3 dX5_readHead_32 rfl (by decide) rfl ?_
    refine gg_icmp_ge 62 dX5_readHead_33 (by decide) (fun hc => ?_) (fun hc => ?_)
    · replace h := gg_th h hc
      refine gg_fg [true, true, false, false] [some (.ref 0), some (.ref 100), none, none] rfl ?_
      exact hk62 c_place_27 c_p1_winds_27 h
    · replace h := gg_el h hc
      refine gg_aload_n dX5_readHead_36 rfl ?_
      obtain ⟨v3_0, v3_1, hv3, h⟩ := gg_bd2 h
      refine gg_callV (gg_sg [0]) [0, 1] (wd_X5_readHead c_size v3_1 c_signs c_p1_huts c_p1_food c_p1_due c_p1_backs c_p1_winds_27) 0 (C_X5_readFigure c_size c_place_27 c_signs hv3) nV_X5_readFigure ml_X5_58 rfl rfl rfl rfl rfl rfl rfl rfl rfl rfl [2, 3] 4 rfl rfl rfl rfl rfl ⟨Nat.le_of_ble_eq_true rfl, Nat.le_of_ble_eq_true rfl⟩ (Nat.le_of_ble_eq_true rfl) dX5_readHead_37 [.int v3_0] rfl ?_
      refine gg_istore_n [some (.ref 0), some (.ref 100), some (.int x2_27), some (.int v3_0)] dX5_readHead_40 rfl (Nat.le_of_ble_eq_true rfl) rfl ?_
      refine gg_iload_n dX5_readHead_41 rfl ?_
      refine gg_bipush (-9 : Int32) dX5_readHead_42 (by decide) ?_
      refine gg_icmp_ne 49 dX5_readHead_44 (by decide) (fun hc => ?_) (fun hc => ?_)
      · replace h := gg_el h hc
        refine gg_aload_n dX5_readHead_49 rfl ?_
        refine gg_get 2 fl_X5_55 dX5_readHead_50 rfl rfl ?_
        refine gg_iload_n dX5_readHead_53 rfl ?_
        refine gg_iload_n dX5_readHead_54 rfl ?_
        obtain ⟨hb55, h⟩ := gg_ck h
        refine gg_iast 3 (wd_X5_readHead c_size v3_1 c_signs c_p1_huts c_p1_food c_p1_due c_p1_backs (upd c_p1_winds_27 x2_27.toNatClampNeg v3_0)) dX5_readHead_55 rfl hb55 rfl ?_
        refine gg_iinc (x2_27 + (1 : Int32)) [some (.ref 0), some (.ref 100), some (.int (x2_27 + (1 : Int32))), some (.int v3_0)] dX5_readHead_56 rfl rfl rfl (Nat.le_of_ble_eq_true rfl) rfl ?_
        refine gg_goto 27 dX5_readHead_59 (by decide) ?_
        refine gg_fg [true, true, true, false] [some (.ref 0), some (.ref 100), some (.int (x2_27 + (1 : Int32))), none] rfl ?_
        exact ih (x2_27 + (1 : Int32)) v3_1 (upd c_p1_winds_27 x2_27.toNatClampNeg v3_0) h
      · replace h := gg_th h hc
        refine gg_fg [false, false, false, false] [none, none, none, none] rfl ?_
        exact hk47 v3_1 c_p1_winds_27 h
set_option maxRecDepth 20000 in
set_option maxHeartbeats 8000000 in
theorem C_X5_readHead  (c_size : Int32) (c_place : Int32) (c_signs : Nat → Int32) (c_p1_huts : Int32) (c_p1_food : Int32) (c_p1_due : Int32) (c_p1_backs : Int32) (c_p1_winds : Nat → Int32) {r0 : Int32} {r1 : (Int32)} {r2 : (Int32)} {r3 : (Nat → Int32)} (h : f_X5_readHead c_size c_place c_signs c_p1_food c_p1_winds = some (r0, r1, r2, r3)) : gg_C MD_X5_readHead [.ref 0, .ref 100] (wd_X5_readHead c_size c_place c_signs c_p1_huts c_p1_food c_p1_due c_p1_backs c_p1_winds) (some (.int r0)) (wd_X5_readHead c_size r1 c_signs c_p1_huts r2 c_p1_due c_p1_backs r3) := by
  refine gg_ofG [some (.ref 0), some (.ref 100), none, none] (plainFor_of_name (by decide)) (Nat.le_of_ble_eq_true rfl) rfl ?_
  unfold f_X5_readHead at h
  refine gg_aload_n dX5_readHead_0 rfl ?_
  obtain ⟨v1, hv1, h⟩ := gg_bd h
  refine gg_callV (gg_sg [0]) [0, 1] (wd_X5_readHead c_size v1 c_signs c_p1_huts c_p1_food c_p1_due c_p1_backs c_p1_winds) 0 (C_X5_skipBlanks c_size c_place c_signs hv1) nV_X5_skipBlanks ml_X5_48 rfl rfl rfl rfl rfl rfl rfl rfl rfl rfl [2, 3] 4 rfl rfl rfl rfl rfl ⟨Nat.le_of_ble_eq_true rfl, Nat.le_of_ble_eq_true rfl⟩ (Nat.le_of_ble_eq_true rfl) dX5_readHead_1 [] rfl ?_
  refine gg_aload_n dX5_readHead_4 rfl ?_
  obtain ⟨v2, hv2, h⟩ := gg_bd h
  refine gg_callV (gg_sg [0]) [0, 1] (wd_X5_readHead c_size v1 c_signs c_p1_huts c_p1_food c_p1_due c_p1_backs c_p1_winds) 0 (C_X5_sign c_size v1 c_signs hv2) nV_X5_sign ml_X5_51 rfl rfl rfl rfl rfl rfl rfl rfl rfl rfl [2, 3] 4 rfl rfl rfl rfl rfl ⟨Nat.le_of_ble_eq_true rfl, Nat.le_of_ble_eq_true rfl⟩ (Nat.le_of_ble_eq_true rfl) dX5_readHead_5 [.int v2] rfl ?_
  refine gg_bipush (102 : Int32) dX5_readHead_8 (by decide) ?_
  refine gg_icmp_eq 15 dX5_readHead_10 (by decide) (fun hc => ?_) (fun hc => ?_)
  · replace h := gg_th h hc
    refine gg_aload_n dX5_readHead_15 rfl ?_
    refine gg_dup dX5_readHead_16 rfl ?_
    refine gg_get 0 fl_X5_19 dX5_readHead_17 rfl rfl ?_
    refine gg_iconst (1 : Int32) dX5_readHead_20 (by decide) ?_
    refine gg_iadd dX5_readHead_21 ?_
    refine gg_putf 0 (wd_X5_readHead c_size (v1 + (1 : Int32)) c_signs c_p1_huts c_p1_food c_p1_due c_p1_backs c_p1_winds) fl_X5_19 dX5_readHead_22 rfl (Nat.le_of_ble_eq_true rfl) (fun _ => ⟨rfl, rfl⟩) rfl ?_
    refine gg_iconst (0 : Int32) dX5_readHead_25 (by decide) ?_
    refine gg_istore_n [some (.ref 0), some (.ref 100), some (.int (0 : Int32)), none] dX5_readHead_26 rfl (Nat.le_of_ble_eq_true rfl) rfl ?_
    refine lq_X5_readHead_27 c_size c_signs c_p1_huts c_p1_food c_p1_due c_p1_backs _ _ ?_ ?_ gg_fuel (0 : Int32) (v1 + (1 : Int32)) c_p1_winds h
    · intro c_place_47 c_p1_winds_47 h
      refine gg_iconst (0 : Int32) dX5_readHead_47 (by decide) ?_
      cases h
      exact gg_zret dX5_readHead_48 rfl rfl
    · intro c_place_62 c_p1_winds_62 h
      refine gg_aload_n dX5_readHead_62 rfl ?_
      refine gg_aload_n dX5_readHead_63 rfl ?_
      obtain ⟨v4_0, v4_1, v4_2, hv4, h⟩ := gg_bd3 h
      refine gg_callV (gg_sg [0, 100]) [0, 1, 2] (wd_X5_readHead c_size v4_1 c_signs c_p1_huts v4_2 c_p1_due c_p1_backs c_p1_winds_62) 0 (C_X5_readFood c_size c_place_62 c_signs c_p1_huts c_p1_food c_p1_due c_p1_backs hv4) nV_X5_readFood ml_X5_61 rfl rfl rfl rfl rfl rfl rfl rfl rfl rfl [3] 4 rfl rfl rfl rfl rfl ⟨Nat.le_of_ble_eq_true rfl, Nat.le_of_ble_eq_true rfl⟩ (Nat.le_of_ble_eq_true rfl) dX5_readHead_64 [.int v4_0] rfl ?_
      obtain ⟨hz, h⟩ := gg_ck h
      cases h
      exact gg_zret dX5_readHead_67 rfl hz
  · replace h := gg_el h hc
    refine gg_iconst (0 : Int32) dX5_readHead_13 (by decide) ?_
    cases h
    exact gg_zret dX5_readHead_14 rfl rfl
def wd_X3_byLetter  : va_W := []
def MD_X3_byLetter : gg_M := (yX3_byLetter, cX3_byLetter, 2, some .int, 0, 0)
theorem nS_X3_byLetter : gg_nS MD_X3_byLetter 1 := ⟨⟨gg_mem (by decide +kernel) rfl, gg_mem cw_X3_byLetter rfl, by decide, by decide, by decide +kernel⟩, gg_mem (by decide +kernel) rfl⟩
def lp_X3_byLetter_2 {β : Type} (y0 : Int32) (k19 : (Int32) → Option β) (k27 : Option β) : Nat → (Int32) → Option β
  | 0, _ => none
  | n + 1, x1_2 => (if (6 : Int32) ≤ x1_2 then k27 else gg_chk (gg_in x1_2 6) ((if (gg_let x1_2.toNatClampNeg) = y0 then (k19 x1_2) else (lp_X3_byLetter_2 y0 k19 k27 n (x1_2 + (1 : Int32))))))
def f_X3_byLetter (a0 : Int32)  : Option (Int32) := (lp_X3_byLetter_2 a0 (fun (x1_19 : Int32) => (some x1_19)) ((some (-9 : Int32))) gg_fuel (0 : Int32))
set_option maxRecDepth 20000 in
set_option maxHeartbeats 4000000 in
theorem lq_X3_byLetter_2 {β : Type} {res : β} {rr : Option Value} {ww : va_W} (y0 : Int32) (k19 : (Int32) → Option β) (k27 : Option β) (hk19 : ∀ (x1_19 : Int32), k19 x1_19 = some res → gg_G MD_X3_byLetter 19 [none, some (.int x1_19)] [] (wd_X3_byLetter) rr ww) (hk27 : k27 = some res → gg_G MD_X3_byLetter 27 [none, none] [] (wd_X3_byLetter) rr ww) : ∀ (n : Nat) (x1_2 : Int32), lp_X3_byLetter_2 y0 k19 k27 n x1_2 = some res → gg_G MD_X3_byLetter 2 [some (.int y0), some (.int x1_2)] [] (wd_X3_byLetter) rr ww := by
  intro n
  induction n with
  | zero =>
    intro x1_2 h
    exact nomatch (show (none : Option β) = some res from h)
  | succ n ih =>
    intro x1_2 h
    rw [lp_X3_byLetter_2] at h
    refine gg_iload_n dX3_byLetter_2 rfl ?_
    refine gg_getL dX3_byLetter_3 (gg_mem (by decide +kernel) rfl) ?_
    refine gg_lenL dX3_byLetter_6 ?_
    refine gg_icmp_ge 27 dX3_byLetter_7 (by decide) (fun hc => ?_) (fun hc => ?_)
    · replace h := gg_th h hc
      refine gg_fg [false, false] [none, none] rfl ?_
      exact hk27 h
    · replace h := gg_el h hc
      refine gg_getL dX3_byLetter_10 (gg_mem (by decide +kernel) rfl) ?_
      refine gg_iload_n dX3_byLetter_13 rfl ?_
      obtain ⟨hb14, h⟩ := gg_ck h
      refine gg_aldL dX3_byLetter_14 hb14 ?_
      refine gg_iload_n dX3_byLetter_15 rfl ?_
      refine gg_icmp_ne 21 dX3_byLetter_16 (by decide) (fun hc => ?_) (fun hc => ?_)
      · replace h := gg_el h hc
        refine gg_iinc (x1_2 + (1 : Int32)) [some (.int y0), some (.int (x1_2 + (1 : Int32)))] dX3_byLetter_21 rfl rfl rfl (Nat.le_of_ble_eq_true rfl) rfl ?_
        refine gg_goto 2 dX3_byLetter_24 (by decide) ?_
        exact ih (x1_2 + (1 : Int32)) h
      · replace h := gg_th h hc
        refine gg_fg [false, true] [none, some (.int x1_2)] rfl ?_
        exact hk19 x1_2 h
set_option maxRecDepth 20000 in
set_option maxHeartbeats 8000000 in
theorem C_X3_byLetter (a0 : Int32)  {res : Int32} (h : f_X3_byLetter a0 = some res) : gg_C MD_X3_byLetter [.int a0] (wd_X3_byLetter) (some (.int res)) (wd_X3_byLetter) := by
  refine gg_ofG [some (.int a0), none] (plainFor_of_name (by decide)) (Nat.le_of_ble_eq_true rfl) rfl ?_
  unfold f_X3_byLetter at h
  refine gg_iconst (0 : Int32) dX3_byLetter_0 (by decide) ?_
  refine gg_istore_n [some (.int a0), some (.int (0 : Int32))] dX3_byLetter_1 rfl (Nat.le_of_ble_eq_true rfl) rfl ?_
  refine lq_X3_byLetter_2 a0 _ _ ?_ ?_ gg_fuel (0 : Int32) h
  · intro x1_19 h
    refine gg_iload_n dX3_byLetter_19 rfl ?_
    cases h
    exact gg_iret dX3_byLetter_20 rfl
  · intro  h
    refine gg_bipush (-9 : Int32) dX3_byLetter_27 (by decide) ?_
    cases h
    exact gg_iret dX3_byLetter_29 rfl
def wd_X2_hasHomeOn (c_huts : Int32) (c_food : Int32) (c_due : Int32) (c_backs : Int32) (c_home : Nat → Int32) : va_W := [(0, .inr (2, [.int c_huts, .int c_food, .int c_due, .ref 1, .ref 2, .ref 3, .ref 4, .ref 5, .ref 6, .ref 7, .int c_backs])), (3, .inl (0, 6, .inl c_home))]
def MD_X2_hasHomeOn : gg_M := (yX2_hasHomeOn, cX2_hasHomeOn, 3, some .boolean, 0, 0)
theorem nV_X2_hasHomeOn : gg_nV MD_X2_hasHomeOn 1 := ⟨⟨gg_mem (by decide +kernel) rfl, gg_mem cw_X2_hasHomeOn rfl, by decide, by decide, by decide +kernel⟩, gg_mem (by decide +kernel) rfl, gg_mem (by decide +kernel) rfl⟩
def lp_X2_hasHomeOn_2 {β : Type} (y1 : Int32) (c_huts : Int32) (c_home : Nat → Int32) (k20 : Option β) (k28 : Option β) : Nat → (Int32) → Option β
  | 0, _ => none
  | n + 1, x2_2 => (if c_huts ≤ x2_2 then k28 else gg_chk (gg_in x2_2 6) ((if (c_home x2_2.toNatClampNeg) = y1 then k20 else (lp_X2_hasHomeOn_2 y1 c_huts c_home k20 k28 n (x2_2 + (1 : Int32))))))
def f_X2_hasHomeOn (a0 : Int32) (c_huts : Int32) (c_home : Nat → Int32) : Option (Int32) := (lp_X2_hasHomeOn_2 a0 c_huts c_home ((some (1 : Int32))) ((some (0 : Int32))) gg_fuel (0 : Int32))
set_option maxRecDepth 20000 in
set_option maxHeartbeats 4000000 in
theorem lq_X2_hasHomeOn_2 {β : Type} {res : β} {rr : Option Value} {ww : va_W} (y1 : Int32) (c_huts : Int32) (c_food : Int32) (c_due : Int32) (c_backs : Int32) (c_home : Nat → Int32) (k20 : Option β) (k28 : Option β) (hk20 : k20 = some res → gg_G MD_X2_hasHomeOn 20 [none, none, none] [] (wd_X2_hasHomeOn c_huts c_food c_due c_backs c_home) rr ww) (hk28 : k28 = some res → gg_G MD_X2_hasHomeOn 28 [none, none, none] [] (wd_X2_hasHomeOn c_huts c_food c_due c_backs c_home) rr ww) : ∀ (n : Nat) (x2_2 : Int32), lp_X2_hasHomeOn_2 y1 c_huts c_home k20 k28 n x2_2 = some res → gg_G MD_X2_hasHomeOn 2 [some (.ref 0), some (.int y1), some (.int x2_2)] [] (wd_X2_hasHomeOn c_huts c_food c_due c_backs c_home) rr ww := by
  intro n
  induction n with
  | zero =>
    intro x2_2 h
    exact nomatch (show (none : Option β) = some res from h)
  | succ n ih =>
    intro x2_2 h
    rw [lp_X2_hasHomeOn_2] at h
    refine gg_iload_n dX2_hasHomeOn_2 rfl ?_
    refine gg_aload_n dX2_hasHomeOn_3 rfl ?_
    refine gg_get 0 fl_X2_9 dX2_hasHomeOn_4 rfl rfl ?_
    refine gg_icmp_ge 28 dX2_hasHomeOn_7 (by decide) (fun hc => ?_) (fun hc => ?_)
    · replace h := gg_th h hc
      refine gg_fg [false, false, false] [none, none, none] rfl ?_
      exact hk28 h
    · replace h := gg_el h hc
      refine gg_aload_n dX2_hasHomeOn_10 rfl ?_
      refine gg_get 0 fl_X2_28 dX2_hasHomeOn_11 rfl rfl ?_
      refine gg_iload_n dX2_hasHomeOn_14 rfl ?_
      obtain ⟨hb15, h⟩ := gg_ck h
      refine gg_iald 1 dX2_hasHomeOn_15 rfl hb15 ?_
      refine gg_iload_n dX2_hasHomeOn_16 rfl ?_
      refine gg_icmp_ne 22 dX2_hasHomeOn_17 (by decide) (fun hc => ?_) (fun hc => ?_)
      · replace h := gg_el h hc
        refine gg_iinc (x2_2 + (1 : Int32)) [some (.ref 0), some (.int y1), some (.int (x2_2 + (1 : Int32)))] dX2_hasHomeOn_22 rfl rfl rfl (Nat.le_of_ble_eq_true rfl) rfl ?_
        refine gg_goto 2 dX2_hasHomeOn_25 (by decide) ?_
        exact ih (x2_2 + (1 : Int32)) h
      · replace h := gg_th h hc
        refine gg_fg [false, false, false] [none, none, none] rfl ?_
        exact hk20 h
set_option maxRecDepth 20000 in
set_option maxHeartbeats 8000000 in
theorem C_X2_hasHomeOn (a0 : Int32) (c_huts : Int32) (c_food : Int32) (c_due : Int32) (c_backs : Int32) (c_home : Nat → Int32) {res : Int32} (h : f_X2_hasHomeOn a0 c_huts c_home = some res) : gg_C MD_X2_hasHomeOn [.ref 0, .int a0] (wd_X2_hasHomeOn c_huts c_food c_due c_backs c_home) (some (.int res)) (wd_X2_hasHomeOn c_huts c_food c_due c_backs c_home) := by
  refine gg_ofG [some (.ref 0), some (.int a0), none] (plainFor_of_name (by decide)) (Nat.le_of_ble_eq_true rfl) rfl ?_
  unfold f_X2_hasHomeOn at h
  refine gg_iconst (0 : Int32) dX2_hasHomeOn_0 (by decide) ?_
  refine gg_istore_n [some (.ref 0), some (.int a0), some (.int (0 : Int32))] dX2_hasHomeOn_1 rfl (Nat.le_of_ble_eq_true rfl) rfl ?_
  refine lq_X2_hasHomeOn_2 a0 c_huts c_food c_due c_backs c_home _ _ ?_ ?_ gg_fuel (0 : Int32) h
  · intro  h
    refine gg_iconst (1 : Int32) dX2_hasHomeOn_20 (by decide) ?_
    cases h
    exact gg_zret dX2_hasHomeOn_21 rfl rfl
  · intro  h
    refine gg_iconst (0 : Int32) dX2_hasHomeOn_28 (by decide) ?_
    cases h
    exact gg_zret dX2_hasHomeOn_29 rfl rfl
def wd_X2_settle (c_huts : Int32) (c_food : Int32) (c_due : Int32) (c_backs : Int32) (c_kind : Nat → Int32) (c_home : Nat → Int32) (c_strength : Nat → Int32) (c_brown : Nat → Int32) (c_brick : Nat → Int32) : va_W := [(0, .inr (2, [.int c_huts, .int c_food, .int c_due, .ref 1, .ref 2, .ref 3, .ref 4, .ref 5, .ref 6, .ref 7, .int c_backs])), (2, .inl (0, 6, .inl c_kind)), (3, .inl (0, 6, .inl c_home)), (4, .inl (0, 6, .inl c_strength)), (5, .inl (0, 6, .inl c_brown)), (6, .inl (0, 6, .inl c_brick))]
def MD_X2_settle : gg_M := (yX2_settle, cX2_settle, 5, none, 0, 0)
theorem nV_X2_settle : gg_nV MD_X2_settle 4 := ⟨⟨gg_mem (by decide +kernel) rfl, gg_mem cw_X2_settle rfl, by decide, by decide, by decide +kernel⟩, gg_mem (by decide +kernel) rfl, gg_mem (by decide +kernel) rfl⟩
def f_X2_settle (a0 : Int32) (a1 : Int32) (a2 : Int32) (a3 : Int32) (c_huts : Int32) (c_kind : Nat → Int32) (c_home : Nat → Int32) (c_strength : Nat → Int32) (c_brown : Nat → Int32) (c_brick : Nat → Int32) : Option ((Int32) × (Nat → Int32) × (Nat → Int32) × (Nat → Int32) × (Nat → Int32) × (Nat → Int32)) := (if c_huts < (6 : Int32) then gg_chk (gg_in c_huts 6) (gg_chk (gg_in c_huts 6) (gg_chk (gg_in c_huts 6) (gg_chk (gg_in c_huts 6) (gg_chk (gg_in c_huts 6) ((some ((c_huts + (1 : Int32)), (upd c_kind c_huts.toNatClampNeg a0), (upd c_home c_huts.toNatClampNeg a1), (upd c_strength c_huts.toNatClampNeg a2), (upd c_brown c_huts.toNatClampNeg a3), (upd c_brick c_huts.toNatClampNeg a1)))))))) else (some (c_huts, c_kind, c_home, c_strength, c_brown, c_brick)))
set_option maxRecDepth 20000 in
set_option maxHeartbeats 8000000 in
theorem C_X2_settle (a0 : Int32) (a1 : Int32) (a2 : Int32) (a3 : Int32) (c_huts : Int32) (c_food : Int32) (c_due : Int32) (c_backs : Int32) (c_kind : Nat → Int32) (c_home : Nat → Int32) (c_strength : Nat → Int32) (c_brown : Nat → Int32) (c_brick : Nat → Int32) {r0 : (Int32)} {r1 : (Nat → Int32)} {r2 : (Nat → Int32)} {r3 : (Nat → Int32)} {r4 : (Nat → Int32)} {r5 : (Nat → Int32)} (h : f_X2_settle a0 a1 a2 a3 c_huts c_kind c_home c_strength c_brown c_brick = some (r0, r1, r2, r3, r4, r5)) : gg_C MD_X2_settle [.ref 0, .int a0, .int a1, .int a2, .int a3] (wd_X2_settle c_huts c_food c_due c_backs c_kind c_home c_strength c_brown c_brick) (none) (wd_X2_settle r0 c_food c_due c_backs r1 r2 r3 r4 r5) := by
  refine gg_ofG [some (.ref 0), some (.int a0), some (.int a1), some (.int a2), some (.int a3)] (plainFor_of_name (by decide)) (Nat.le_of_ble_eq_true rfl) rfl ?_
  unfold f_X2_settle at h
  refine gg_aload_n dX2_settle_0 rfl ?_
  refine gg_get 0 fl_X2_9 dX2_settle_1 rfl rfl ?_
  refine gg_bipush (6 : Int32) dX2_settle_4 (by decide) ?_
  refine gg_icmp_lt 10 dX2_settle_6 (by decide) (fun hc => ?_) (fun hc => ?_)
  · replace h := gg_th h hc
    refine gg_aload_n dX2_settle_10 rfl ?_
    refine gg_get 0 fl_X2_25 dX2_settle_11 rfl rfl ?_
    refine gg_aload_n dX2_settle_14 rfl ?_
    refine gg_get 0 fl_X2_9 dX2_settle_15 rfl rfl ?_
    refine gg_iload_n dX2_settle_18 rfl ?_
    obtain ⟨hb19, h⟩ := gg_ck h
    refine gg_iast 1 (wd_X2_settle c_huts c_food c_due c_backs (upd c_kind c_huts.toNatClampNeg a0) c_home c_strength c_brown c_brick) dX2_settle_19 rfl hb19 rfl ?_
    refine gg_aload_n dX2_settle_20 rfl ?_
    refine gg_get 0 fl_X2_28 dX2_settle_21 rfl rfl ?_
    refine gg_aload_n dX2_settle_24 rfl ?_
    refine gg_get 0 fl_X2_9 dX2_settle_25 rfl rfl ?_
    refine gg_iload_n dX2_settle_28 rfl ?_
    obtain ⟨hb29, h⟩ := gg_ck h
    refine gg_iast 2 (wd_X2_settle c_huts c_food c_due c_backs (upd c_kind c_huts.toNatClampNeg a0) (upd c_home c_huts.toNatClampNeg a1) c_strength c_brown c_brick) dX2_settle_29 rfl hb29 rfl ?_
    refine gg_aload_n dX2_settle_30 rfl ?_
    refine gg_get 0 fl_X2_31 dX2_settle_31 rfl rfl ?_
    refine gg_aload_n dX2_settle_34 rfl ?_
    refine gg_get 0 fl_X2_9 dX2_settle_35 rfl rfl ?_
    refine gg_iload_n dX2_settle_38 rfl ?_
    obtain ⟨hb39, h⟩ := gg_ck h
    refine gg_iast 3 (wd_X2_settle c_huts c_food c_due c_backs (upd c_kind c_huts.toNatClampNeg a0) (upd c_home c_huts.toNatClampNeg a1) (upd c_strength c_huts.toNatClampNeg a2) c_brown c_brick) dX2_settle_39 rfl hb39 rfl ?_
    refine gg_aload_n dX2_settle_40 rfl ?_
    refine gg_get 0 fl_X2_34 dX2_settle_41 rfl rfl ?_
    refine gg_aload_n dX2_settle_44 rfl ?_
    refine gg_get 0 fl_X2_9 dX2_settle_45 rfl rfl ?_
    refine gg_iload dX2_settle_48 rfl ?_
    obtain ⟨hb50, h⟩ := gg_ck h
    refine gg_iast 4 (wd_X2_settle c_huts c_food c_due c_backs (upd c_kind c_huts.toNatClampNeg a0) (upd c_home c_huts.toNatClampNeg a1) (upd c_strength c_huts.toNatClampNeg a2) (upd c_brown c_huts.toNatClampNeg a3) c_brick) dX2_settle_50 rfl hb50 rfl ?_
    refine gg_aload_n dX2_settle_51 rfl ?_
    refine gg_get 0 fl_X2_37 dX2_settle_52 rfl rfl ?_
    refine gg_aload_n dX2_settle_55 rfl ?_
    refine gg_get 0 fl_X2_9 dX2_settle_56 rfl rfl ?_
    refine gg_iload_n dX2_settle_59 rfl ?_
    obtain ⟨hb60, h⟩ := gg_ck h
    refine gg_iast 5 (wd_X2_settle c_huts c_food c_due c_backs (upd c_kind c_huts.toNatClampNeg a0) (upd c_home c_huts.toNatClampNeg a1) (upd c_strength c_huts.toNatClampNeg a2) (upd c_brown c_huts.toNatClampNeg a3) (upd c_brick c_huts.toNatClampNeg a1)) dX2_settle_60 rfl hb60 rfl ?_
    refine gg_aload_n dX2_settle_61 rfl ?_
    refine gg_dup dX2_settle_62 rfl ?_
    refine gg_get 0 fl_X2_9 dX2_settle_63 rfl rfl ?_
    refine gg_iconst (1 : Int32) dX2_settle_66 (by decide) ?_
    refine gg_iadd dX2_settle_67 ?_
    refine gg_putf 0 (wd_X2_settle (c_huts + (1 : Int32)) c_food c_due c_backs (upd c_kind c_huts.toNatClampNeg a0) (upd c_home c_huts.toNatClampNeg a1) (upd c_strength c_huts.toNatClampNeg a2) (upd c_brown c_huts.toNatClampNeg a3) (upd c_brick c_huts.toNatClampNeg a1)) fl_X2_9 dX2_settle_68 rfl (Nat.le_of_ble_eq_true rfl) (fun _ => ⟨rfl, rfl⟩) rfl ?_
    cases h
    exact gg_vret dX2_settle_71 rfl
  · replace h := gg_el h hc
    cases h
    exact gg_vret dX2_settle_9 rfl
def wd_X5_readHut (c_size : Int32) (c_place : Int32) (c_signs : Nat → Int32) (c_p1_huts : Int32) (c_p1_food : Int32) (c_p1_due : Int32) (c_p1_backs : Int32) (c_p1_kind : Nat → Int32) (c_p1_home : Nat → Int32) (c_p1_strength : Nat → Int32) (c_p1_brown : Nat → Int32) (c_p1_brick : Nat → Int32) : va_W := [(0, .inr (4, [.ref 1, .int c_size, .int c_place])), (1, .inl (0, 60, .inl c_signs)), (100, .inr (2, [.int c_p1_huts, .int c_p1_food, .int c_p1_due, .ref 101, .ref 102, .ref 103, .ref 104, .ref 105, .ref 106, .ref 107, .int c_p1_backs])), (102, .inl (0, 6, .inl c_p1_kind)), (103, .inl (0, 6, .inl c_p1_home)), (104, .inl (0, 6, .inl c_p1_strength)), (105, .inl (0, 6, .inl c_p1_brown)), (106, .inl (0, 6, .inl c_p1_brick))]
def MD_X5_readHut : gg_M := (yX5_readHut, cX5_readHut, 6, some .boolean, 2, 41)
theorem nV_X5_readHut : gg_nV MD_X5_readHut 1 := ⟨⟨gg_mem (by decide +kernel) rfl, gg_mem cw_X5_readHut rfl, by decide, by decide, by decide +kernel⟩, gg_mem (by decide +kernel) rfl, gg_mem (by decide +kernel) rfl⟩
def f_X5_readHut  (c_size : Int32) (c_place : Int32) (c_signs : Nat → Int32) (c_p1_huts : Int32) (c_p1_kind : Nat → Int32) (c_p1_home : Nat → Int32) (c_p1_strength : Nat → Int32) (c_p1_brown : Nat → Int32) (c_p1_brick : Nat → Int32) : Option (Int32 × (Int32) × (Int32) × (Nat → Int32) × (Nat → Int32) × (Nat → Int32) × (Nat → Int32) × (Nat → Int32)) := (f_X5_sign c_size c_place c_signs).bind (fun v1 => (f_X3_byLetter v1).bind (fun v2 => (if v2 = (-9 : Int32) then (some ((0 : Int32), c_place, c_p1_huts, c_p1_kind, c_p1_home, c_p1_strength, c_p1_brown, c_p1_brick)) else gg_b2 (f_X5_readFigure c_size (c_place + (1 : Int32)) c_signs) (fun v3_0 v3_1 => (if v3_0 = (-9 : Int32) then (some ((0 : Int32), v3_1, c_p1_huts, c_p1_kind, c_p1_home, c_p1_strength, c_p1_brown, c_p1_brick)) else (f_X2_hasHomeOn v3_0 c_p1_huts c_p1_home).bind (fun v4 => (if v4 = (0 : Int32) then gg_b2 (f_X5_readFigure c_size v3_1 c_signs) (fun v5_0 v5_1 => gg_lt (fun (s0_81 : Int32) (c_place_81 : Int32) => (if s0_81 = (-9 : Int32) then (some ((0 : Int32), c_place_81, c_p1_huts, c_p1_kind, c_p1_home, c_p1_strength, c_p1_brown, c_p1_brick)) else gg_b6 (f_X2_settle v2 v3_0 v5_0 s0_81 c_p1_huts c_p1_kind c_p1_home c_p1_strength c_p1_brown c_p1_brick) (fun v6_0 v6_1 v6_2 v6_3 v6_4 v6_5 => (some ((1 : Int32), c_place_81, v6_0, v6_1, v6_2, v6_3, v6_4, v6_5))))) (fun k81 => (if v5_0 = (-9 : Int32) then (k81 (-9 : Int32) v5_1) else gg_b2 (f_X5_readFigure c_size v5_1 c_signs) (fun v7_0 v7_1 => (k81 v7_0 v7_1))))) else (some ((0 : Int32), (v3_1 - (1 : Int32)), c_p1_huts, c_p1_kind, c_p1_home, c_p1_strength, c_p1_brown, c_p1_brick)))))))))
set_option maxRecDepth 20000 in
set_option maxHeartbeats 8000000 in
theorem C_X5_readHut  (c_size : Int32) (c_place : Int32) (c_signs : Nat → Int32) (c_p1_huts : Int32) (c_p1_food : Int32) (c_p1_due : Int32) (c_p1_backs : Int32) (c_p1_kind : Nat → Int32) (c_p1_home : Nat → Int32) (c_p1_strength : Nat → Int32) (c_p1_brown : Nat → Int32) (c_p1_brick : Nat → Int32) {r0 : Int32} {r1 : (Int32)} {r2 : (Int32)} {r3 : (Nat → Int32)} {r4 : (Nat → Int32)} {r5 : (Nat → Int32)} {r6 : (Nat → Int32)} {r7 : (Nat → Int32)} (h : f_X5_readHut c_size c_place c_signs c_p1_huts c_p1_kind c_p1_home c_p1_strength c_p1_brown c_p1_brick = some (r0, r1, r2, r3, r4, r5, r6, r7)) : gg_C MD_X5_readHut [.ref 0, .ref 100] (wd_X5_readHut c_size c_place c_signs c_p1_huts c_p1_food c_p1_due c_p1_backs c_p1_kind c_p1_home c_p1_strength c_p1_brown c_p1_brick) (some (.int r0)) (wd_X5_readHut c_size r1 c_signs r2 c_p1_food c_p1_due c_p1_backs r3 r4 r5 r6 r7) := by
  refine gg_ofG [some (.ref 0), some (.ref 100), none, none, none, none] (plainFor_of_name (by decide)) (Nat.le_of_ble_eq_true rfl) rfl ?_
  unfold f_X5_readHut at h
  refine gg_aload_n dX5_readHut_0 rfl ?_
  obtain ⟨v1, hv1, h⟩ := gg_bd h
  refine gg_callV (gg_sg [0]) [0, 1] (wd_X5_readHut c_size c_place c_signs c_p1_huts c_p1_food c_p1_due c_p1_backs c_p1_kind c_p1_home c_p1_strength c_p1_brown c_p1_brick) 0 (C_X5_sign c_size c_place c_signs hv1) nV_X5_sign ml_X5_51 rfl rfl rfl rfl rfl rfl rfl rfl rfl rfl [2, 3, 4, 5, 6, 7] 8 rfl rfl rfl rfl rfl ⟨Nat.le_of_ble_eq_true rfl, Nat.le_of_ble_eq_true rfl⟩ (Nat.le_of_ble_eq_true rfl) dX5_readHut_1 [.int v1] rfl ?_
  obtain ⟨v2, hv2, h⟩ := gg_bd h
  refine gg_callS (gg_sg []) [] (wd_X5_readHut c_size c_place c_signs c_p1_huts c_p1_food c_p1_due c_p1_backs c_p1_kind c_p1_home c_p1_strength c_p1_brown c_p1_brick) (C_X3_byLetter v1 hv2) nS_X3_byLetter ml_X5_73 rfl rfl rfl rfl rfl rfl rfl [0, 1, 2, 3, 4, 5, 6, 7] 8 rfl rfl rfl rfl rfl ⟨Nat.le_of_ble_eq_true rfl, Nat.le_of_ble_eq_true rfl⟩ (Nat.le_of_ble_eq_true rfl) dX5_readHut_4 [.int v2] rfl ?_
  refine gg_istore_n [some (.ref 0), some (.ref 100), some (.int v2), none, none, none] dX5_readHut_7 rfl (Nat.le_of_ble_eq_true rfl) rfl ?_
  refine gg_iload_n dX5_readHut_8 rfl ?_
  refine gg_bipush (-9 : Int32) dX5_readHut_9 (by decide) ?_
  refine gg_icmp_ne 16 dX5_readHut_11 (by decide) (fun hc => ?_) (fun hc => ?_)
  · replace h := gg_el h hc
    refine gg_aload_n dX5_readHut_16 rfl ?_
    refine gg_dup dX5_readHut_17 rfl ?_
    refine gg_get 0 fl_X5_19 dX5_readHut_18 rfl rfl ?_
    refine gg_iconst (1 : Int32) dX5_readHut_21 (by decide) ?_
    refine gg_iadd dX5_readHut_22 ?_
    refine gg_putf 0 (wd_X5_readHut c_size (c_place + (1 : Int32)) c_signs c_p1_huts c_p1_food c_p1_due c_p1_backs c_p1_kind c_p1_home c_p1_strength c_p1_brown c_p1_brick) fl_X5_19 dX5_readHut_23 rfl (Nat.le_of_ble_eq_true rfl) (fun _ => ⟨rfl, rfl⟩) rfl ?_
    refine gg_aload_n dX5_readHut_26 rfl ?_
    obtain ⟨v3_0, v3_1, hv3, h⟩ := gg_bd2 h
    refine gg_callV (gg_sg [0]) [0, 1] (wd_X5_readHut c_size v3_1 c_signs c_p1_huts c_p1_food c_p1_due c_p1_backs c_p1_kind c_p1_home c_p1_strength c_p1_brown c_p1_brick) 0 (C_X5_readFigure c_size (c_place + (1 : Int32)) c_signs hv3) nV_X5_readFigure ml_X5_58 rfl rfl rfl rfl rfl rfl rfl rfl rfl rfl [2, 3, 4, 5, 6, 7] 8 rfl rfl rfl rfl rfl ⟨Nat.le_of_ble_eq_true rfl, Nat.le_of_ble_eq_true rfl⟩ (Nat.le_of_ble_eq_true rfl) dX5_readHut_27 [.int v3_0] rfl ?_
    refine gg_istore_n [some (.ref 0), some (.ref 100), some (.int v2), some (.int v3_0), none, none] dX5_readHut_30 rfl (Nat.le_of_ble_eq_true rfl) rfl ?_
    refine gg_iload_n dX5_readHut_31 rfl ?_
    refine gg_bipush (-9 : Int32) dX5_readHut_32 (by decide) ?_
    refine gg_icmp_ne 39 dX5_readHut_34 (by decide) (fun hc => ?_) (fun hc => ?_)
    · replace h := gg_el h hc
      refine gg_aload_n dX5_readHut_39 rfl ?_
      refine gg_iload_n dX5_readHut_40 rfl ?_
      obtain ⟨v4, hv4, h⟩ := gg_bd h
      refine gg_callV (gg_sg [100]) [2, 4] (wd_X5_readHut c_size v3_1 c_signs c_p1_huts c_p1_food c_p1_due c_p1_backs c_p1_kind c_p1_home c_p1_strength c_p1_brown c_p1_brick) 0 (C_X2_hasHomeOn v3_0 c_p1_huts c_p1_food c_p1_due c_p1_backs c_p1_home hv4) nV_X2_hasHomeOn ml_X5_78 rfl rfl rfl rfl rfl rfl rfl rfl rfl rfl [0, 1, 3, 5, 6, 7] 8 rfl rfl rfl rfl rfl ⟨Nat.le_of_ble_eq_true rfl, Nat.le_of_ble_eq_true rfl⟩ (Nat.le_of_ble_eq_true rfl) dX5_readHut_41 [.int v4] rfl ?_
      refine gg_if_eq 59 dX5_readHut_44 (by decide) (fun hc => ?_) (fun hc => ?_)
      · replace h := gg_th h hc
        refine gg_aload_n dX5_readHut_59 rfl ?_
        obtain ⟨v5_0, v5_1, hv5, h⟩ := gg_bd2 h
        refine gg_callV (gg_sg [0]) [0, 1] (wd_X5_readHut c_size v5_1 c_signs c_p1_huts c_p1_food c_p1_due c_p1_backs c_p1_kind c_p1_home c_p1_strength c_p1_brown c_p1_brick) 0 (C_X5_readFigure c_size v3_1 c_signs hv5) nV_X5_readFigure ml_X5_58 rfl rfl rfl rfl rfl rfl rfl rfl rfl rfl [2, 3, 4, 5, 6, 7] 8 rfl rfl rfl rfl rfl ⟨Nat.le_of_ble_eq_true rfl, Nat.le_of_ble_eq_true rfl⟩ (Nat.le_of_ble_eq_true rfl) dX5_readHut_60 [.int v5_0] rfl ?_
        refine gg_istore [some (.ref 0), some (.ref 100), some (.int v2), some (.int v3_0), some (.int v5_0), none] dX5_readHut_63 rfl (Nat.le_of_ble_eq_true rfl) rfl ?_
        refine gg_iload dX5_readHut_65 rfl ?_
        refine gg_bipush (-9 : Int32) dX5_readHut_67 (by decide) ?_
        obtain ⟨k81, hke81, h⟩ := gg_lte h
        have hk81 : ∀ (s0_81 : Int32) (c_place_81 : Int32), k81 s0_81 c_place_81 = some (r0, r1, r2, r3, r4, r5, r6, r7) → gg_G MD_X5_readHut 81 [none, some (.ref 100), some (.int v2), some (.int v3_0), some (.int v5_0), none] [.int s0_81] (wd_X5_readHut c_size c_place_81 c_signs c_p1_huts c_p1_food c_p1_due c_p1_backs c_p1_kind c_p1_home c_p1_strength c_p1_brown c_p1_brick) (some (.int r0)) (wd_X5_readHut c_size r1 c_signs r2 c_p1_food c_p1_due c_p1_backs r3 r4 r5 r6 r7) := by
          intro s0_81 c_place_81 h
          subst hke81
          refine gg_istore [none, some (.ref 100), some (.int v2), some (.int v3_0), some (.int v5_0), some (.int s0_81)] dX5_readHut_81 rfl (Nat.le_of_ble_eq_true rfl) rfl ?_
          refine gg_iload dX5_readHut_83 rfl ?_
          refine gg_bipush (-9 : Int32) dX5_readHut_85 (by decide) ?_
          refine gg_icmp_ne 92 dX5_readHut_87 (by decide) (fun hc => ?_) (fun hc => ?_)
          · replace h := gg_el h hc
            refine gg_aload_n dX5_readHut_92 rfl ?_
            refine gg_iload_n dX5_readHut_93 rfl ?_
            refine gg_iload_n dX5_readHut_94 rfl ?_
            refine gg_iload dX5_readHut_95 rfl ?_
            refine gg_iload dX5_readHut_97 rfl ?_
            obtain ⟨v6_0, v6_1, v6_2, v6_3, v6_4, v6_5, hv6, h⟩ := gg_bd6 h
            refine gg_callV (gg_sg [100]) [2, 3, 4, 5, 6, 7] (wd_X5_readHut c_size c_place_81 c_signs v6_0 c_p1_food c_p1_due c_p1_backs v6_1 v6_2 v6_3 v6_4 v6_5) 0 (C_X2_settle v2 v3_0 v5_0 s0_81 c_p1_huts c_p1_food c_p1_due c_p1_backs c_p1_kind c_p1_home c_p1_strength c_p1_brown c_p1_brick hv6) nV_X2_settle ml_X5_82 rfl rfl rfl rfl rfl rfl rfl rfl rfl rfl [0, 1] 8 rfl rfl rfl rfl rfl ⟨Nat.le_of_ble_eq_true rfl, Nat.le_of_ble_eq_true rfl⟩ (Nat.le_of_ble_eq_true rfl) dX5_readHut_99 [] rfl ?_
            refine gg_iconst (1 : Int32) dX5_readHut_102 (by decide) ?_
            cases h
            exact gg_zret dX5_readHut_103 rfl rfl
          · replace h := gg_th h hc
            refine gg_iconst (0 : Int32) dX5_readHut_90 (by decide) ?_
            cases h
            exact gg_zret dX5_readHut_91 rfl rfl
        clear hke81
        refine gg_icmp_ne 77 dX5_readHut_69 (by decide) (fun hc => ?_) (fun hc => ?_)
        · replace h := gg_el h hc
          refine gg_aload_n dX5_readHut_77 rfl ?_
          obtain ⟨v7_0, v7_1, hv7, h⟩ := gg_bd2 h
          refine gg_callV (gg_sg [0]) [0, 1] (wd_X5_readHut c_size v7_1 c_signs c_p1_huts c_p1_food c_p1_due c_p1_backs c_p1_kind c_p1_home c_p1_strength c_p1_brown c_p1_brick) 0 (C_X5_readFigure c_size v5_1 c_signs hv7) nV_X5_readFigure ml_X5_58 rfl rfl rfl rfl rfl rfl rfl rfl rfl rfl [2, 3, 4, 5, 6, 7] 8 rfl rfl rfl rfl rfl ⟨Nat.le_of_ble_eq_true rfl, Nat.le_of_ble_eq_true rfl⟩ (Nat.le_of_ble_eq_true rfl) dX5_readHut_78 [.int v7_0] rfl ?_
          refine gg_fg [false, true, true, true, true, false] [none, some (.ref 100), some (.int v2), some (.int v3_0), some (.int v5_0), none] rfl ?_
          exact hk81 v7_0 v7_1 h
        · replace h := gg_th h hc
          refine gg_bipush (-9 : Int32) dX5_readHut_72 (by decide) ?_
          refine gg_goto 81 dX5_readHut_74 (by decide) ?_
          refine gg_fg [false, true, true, true, true, false] [none, some (.ref 100), some (.int v2), some (.int v3_0), some (.int v5_0), none] rfl ?_
          exact hk81 (-9 : Int32) v5_1 h
      · replace h := gg_el h hc
        refine gg_aload_n dX5_readHut_47 rfl ?_
        refine gg_dup dX5_readHut_48 rfl ?_
        refine gg_get 0 fl_X5_19 dX5_readHut_49 rfl rfl ?_
        refine gg_iconst (1 : Int32) dX5_readHut_52 (by decide) ?_
        refine gg_isub dX5_readHut_53 ?_
        refine gg_putf 0 (wd_X5_readHut c_size (v3_1 - (1 : Int32)) c_signs c_p1_huts c_p1_food c_p1_due c_p1_backs c_p1_kind c_p1_home c_p1_strength c_p1_brown c_p1_brick) fl_X5_19 dX5_readHut_54 rfl (Nat.le_of_ble_eq_true rfl) (fun _ => ⟨rfl, rfl⟩) rfl ?_
        refine gg_iconst (0 : Int32) dX5_readHut_57 (by decide) ?_
        cases h
        exact gg_zret dX5_readHut_58 rfl rfl
    · replace h := gg_th h hc
      refine gg_iconst (0 : Int32) dX5_readHut_37 (by decide) ?_
      cases h
      exact gg_zret dX5_readHut_38 rfl rfl
  · replace h := gg_th h hc
    refine gg_iconst (0 : Int32) dX5_readHut_14 (by decide) ?_
    cases h
    exact gg_zret dX5_readHut_15 rfl rfl
def wd_X5_readHuts (c_size : Int32) (c_place : Int32) (c_signs : Nat → Int32) (c_p1_huts : Int32) (c_p1_food : Int32) (c_p1_due : Int32) (c_p1_backs : Int32) (c_p1_kind : Nat → Int32) (c_p1_home : Nat → Int32) (c_p1_strength : Nat → Int32) (c_p1_brown : Nat → Int32) (c_p1_brick : Nat → Int32) : va_W := [(0, .inr (4, [.ref 1, .int c_size, .int c_place])), (1, .inl (0, 60, .inl c_signs)), (100, .inr (2, [.int c_p1_huts, .int c_p1_food, .int c_p1_due, .ref 101, .ref 102, .ref 103, .ref 104, .ref 105, .ref 106, .ref 107, .int c_p1_backs])), (102, .inl (0, 6, .inl c_p1_kind)), (103, .inl (0, 6, .inl c_p1_home)), (104, .inl (0, 6, .inl c_p1_strength)), (105, .inl (0, 6, .inl c_p1_brown)), (106, .inl (0, 6, .inl c_p1_brick))]
def MD_X5_readHuts : gg_M := (yX5_readHuts, cX5_readHuts, 3, some .boolean, 3, 66)
theorem nV_X5_readHuts : gg_nV MD_X5_readHuts 1 := ⟨⟨gg_mem (by decide +kernel) rfl, gg_mem cw_X5_readHuts rfl, by decide, by decide, by decide +kernel⟩, gg_mem (by decide +kernel) rfl, gg_mem (by decide +kernel) rfl⟩
def lp_X5_readHuts_6 {β : Type} (c_size : Int32) (c_signs : Nat → Int32) (k31 : (Int32) → (Int32) → (Nat → Int32) → (Nat → Int32) → (Nat → Int32) → (Nat → Int32) → (Nat → Int32) → Option β) (k43 : (Int32) → (Int32) → (Nat → Int32) → (Nat → Int32) → (Nat → Int32) → (Nat → Int32) → (Nat → Int32) → Option β) : Nat → (Int32) → (Int32) → (Int32) → (Nat → Int32) → (Nat → Int32) → (Nat → Int32) → (Nat → Int32) → (Nat → Int32) → Option β
  | 0, _, _, _, _, _, _, _, _ => none
  | n + 1, x2_6, c_place_6, c_p1_huts_6, c_p1_kind_6, c_p1_home_6, c_p1_strength_6, c_p1_brown_6, c_p1_brick_6 => (if (6 : Int32) ≤ x2_6 then (k43 c_place_6 c_p1_huts_6 c_p1_kind_6 c_p1_home_6 c_p1_strength_6 c_p1_brown_6 c_p1_brick_6) else (if c_size ≤ c_place_6 then (k43 c_place_6 c_p1_huts_6 c_p1_kind_6 c_p1_home_6 c_p1_strength_6 c_p1_brown_6 c_p1_brick_6) else gg_b8 (f_X5_readHut c_size c_place_6 c_signs c_p1_huts_6 c_p1_kind_6 c_p1_home_6 c_p1_strength_6 c_p1_brown_6 c_p1_brick_6) (fun v2_0 v2_1 v2_2 v2_3 v2_4 v2_5 v2_6 v2_7 => (if v2_0 = (0 : Int32) then (k31 v2_1 v2_2 v2_3 v2_4 v2_5 v2_6 v2_7) else (f_X5_skipBlanks c_size v2_1 c_signs).bind (fun v3 => (lp_X5_readHuts_6 c_size c_signs k31 k43 n (x2_6 + (1 : Int32)) v3 v2_2 v2_3 v2_4 v2_5 v2_6 v2_7))))))
def f_X5_readHuts  (c_size : Int32) (c_place : Int32) (c_signs : Nat → Int32) (c_p1_huts : Int32) (c_p1_kind : Nat → Int32) (c_p1_home : Nat → Int32) (c_p1_strength : Nat → Int32) (c_p1_brown : Nat → Int32) (c_p1_brick : Nat → Int32) : Option (Int32 × (Int32) × (Int32) × (Nat → Int32) × (Nat → Int32) × (Nat → Int32) × (Nat → Int32) × (Nat → Int32)) := (f_X5_skipBlanks c_size c_place c_signs).bind (fun v1 => (lp_X5_readHuts_6 c_size c_signs (fun (c_place_31 : Int32) (c_p1_huts_31 : Int32) (c_p1_kind_31 : Nat → Int32) (c_p1_home_31 : Nat → Int32) (c_p1_strength_31 : Nat → Int32) (c_p1_brown_31 : Nat → Int32) (c_p1_brick_31 : Nat → Int32) => (some ((0 : Int32), c_place_31, c_p1_huts_31, c_p1_kind_31, c_p1_home_31, c_p1_strength_31, c_p1_brown_31, c_p1_brick_31))) (fun (c_place_43 : Int32) (c_p1_huts_43 : Int32) (c_p1_kind_43 : Nat → Int32) (c_p1_home_43 : Nat → Int32) (c_p1_strength_43 : Nat → Int32) (c_p1_brown_43 : Nat → Int32) (c_p1_brick_43 : Nat → Int32) => gg_lt (fun (s0_66 : Int32) => gg_chk (gg_isb s0_66) (some (s0_66, c_place_43, c_p1_huts_43, c_p1_kind_43, c_p1_home_43, c_p1_strength_43, c_p1_brown_43, c_p1_brick_43))) (fun k66 => gg_lt ((k66 (0 : Int32))) (fun k65 => (if c_place_43 = c_size then (if c_p1_huts_43 ≤ (0 : Int32) then k65 else (k66 (1 : Int32))) else k65)))) gg_fuel (0 : Int32) v1 c_p1_huts c_p1_kind c_p1_home c_p1_strength c_p1_brown c_p1_brick))
set_option maxRecDepth 20000 in
set_option maxHeartbeats 4000000 in
theorem lq_X5_readHuts_6 {β : Type} {res : β} {rr : Option Value} {ww : va_W} (c_size : Int32) (c_signs : Nat → Int32) (c_p1_food : Int32) (c_p1_due : Int32) (c_p1_backs : Int32) (k31 : (Int32) → (Int32) → (Nat → Int32) → (Nat → Int32) → (Nat → Int32) → (Nat → Int32) → (Nat → Int32) → Option β) (k43 : (Int32) → (Int32) → (Nat → Int32) → (Nat → Int32) → (Nat → Int32) → (Nat → Int32) → (Nat → Int32) → Option β) (hk31 : ∀ (c_place_31 : Int32) (c_p1_huts_31 : Int32) (c_p1_kind_31 : Nat → Int32) (c_p1_home_31 : Nat → Int32) (c_p1_strength_31 : Nat → Int32) (c_p1_brown_31 : Nat → Int32) (c_p1_brick_31 : Nat → Int32), k31 c_place_31 c_p1_huts_31 c_p1_kind_31 c_p1_home_31 c_p1_strength_31 c_p1_brown_31 c_p1_brick_31 = some res → gg_G MD_X5_readHuts 31 [none, none, none] [] (wd_X5_readHuts c_size c_place_31 c_signs c_p1_huts_31 c_p1_food c_p1_due c_p1_backs c_p1_kind_31 c_p1_home_31 c_p1_strength_31 c_p1_brown_31 c_p1_brick_31) rr ww) (hk43 : ∀ (c_place_43 : Int32) (c_p1_huts_43 : Int32) (c_p1_kind_43 : Nat → Int32) (c_p1_home_43 : Nat → Int32) (c_p1_strength_43 : Nat → Int32) (c_p1_brown_43 : Nat → Int32) (c_p1_brick_43 : Nat → Int32), k43 c_place_43 c_p1_huts_43 c_p1_kind_43 c_p1_home_43 c_p1_strength_43 c_p1_brown_43 c_p1_brick_43 = some res → gg_G MD_X5_readHuts 43 [some (.ref 0), some (.ref 100), none] [] (wd_X5_readHuts c_size c_place_43 c_signs c_p1_huts_43 c_p1_food c_p1_due c_p1_backs c_p1_kind_43 c_p1_home_43 c_p1_strength_43 c_p1_brown_43 c_p1_brick_43) rr ww) : ∀ (n : Nat) (x2_6 : Int32) (c_place_6 : Int32) (c_p1_huts_6 : Int32) (c_p1_kind_6 : Nat → Int32) (c_p1_home_6 : Nat → Int32) (c_p1_strength_6 : Nat → Int32) (c_p1_brown_6 : Nat → Int32) (c_p1_brick_6 : Nat → Int32), lp_X5_readHuts_6 c_size c_signs k31 k43 n x2_6 c_place_6 c_p1_huts_6 c_p1_kind_6 c_p1_home_6 c_p1_strength_6 c_p1_brown_6 c_p1_brick_6 = some res → gg_G MD_X5_readHuts 6 [some (.ref 0), some (.ref 100), some (.int x2_6)] [] (wd_X5_readHuts c_size c_place_6 c_signs c_p1_huts_6 c_p1_food c_p1_due c_p1_backs c_p1_kind_6 c_p1_home_6 c_p1_strength_6 c_p1_brown_6 c_p1_brick_6) rr ww := by
  intro n
  induction n with
  | zero =>
    intro x2_6 c_place_6 c_p1_huts_6 c_p1_kind_6 c_p1_home_6 c_p1_strength_6 c_p1_brown_6 c_p1_brick_6 h
    exact nomatch (show (none : Option β) = some res from h)
  | succ n ih =>
    intro x2_6 c_place_6 c_p1_huts_6 c_p1_kind_6 c_p1_home_6 c_p1_strength_6 c_p1_brown_6 c_p1_brick_6 h
    rw [lp_X5_readHuts_6] at h
    refine gg_iload_n dX5_readHuts_6 rfl ?_
    refine gg_bipush (6 : Int32) dX5_readHuts_7 (by decide) ?_
    refine gg_icmp_ge 43 dX5_readHuts_9 (by decide) (fun hc => ?_) (fun hc => ?_)
    · replace h := gg_th h hc
      refine gg_fg [true, true, false] [some (.ref 0), some (.ref 100), none] rfl ?_
      exact hk43 c_place_6 c_p1_huts_6 c_p1_kind_6 c_p1_home_6 c_p1_strength_6 c_p1_brown_6 c_p1_brick_6 h
    · replace h := gg_el h hc
      refine gg_aload_n dX5_readHuts_12 rfl ?_
      refine gg_get 0 fl_X5_19 dX5_readHuts_13 rfl rfl ?_
      refine gg_aload_n dX5_readHuts_16 rfl ?_
      refine gg_get 0 fl_X5_15 dX5_readHuts_17 rfl rfl ?_
      refine gg_icmp_ge 43 dX5_readHuts_20 (by decide) (fun hc => ?_) (fun hc => ?_)
      · replace h := gg_th h hc
        refine gg_fg [true, true, false] [some (.ref 0), some (.ref 100), none] rfl ?_
        exact hk43 c_place_6 c_p1_huts_6 c_p1_kind_6 c_p1_home_6 c_p1_strength_6 c_p1_brown_6 c_p1_brick_6 h
      · replace h := gg_el h hc
        refine gg_aload_n dX5_readHuts_23 rfl ?_
        refine gg_aload_n dX5_readHuts_24 rfl ?_
        obtain ⟨v2_0, v2_1, v2_2, v2_3, v2_4, v2_5, v2_6, v2_7, hv2, h⟩ := gg_bd8 h
        refine gg_callV (gg_sg [0, 100]) [0, 1, 2, 3, 4, 5, 6, 7] (wd_X5_readHuts c_size v2_1 c_signs v2_2 c_p1_food c_p1_due c_p1_backs v2_3 v2_4 v2_5 v2_6 v2_7) 0 (C_X5_readHut c_size c_place_6 c_signs c_p1_huts_6 c_p1_food c_p1_due c_p1_backs c_p1_kind_6 c_p1_home_6 c_p1_strength_6 c_p1_brown_6 c_p1_brick_6 hv2) nV_X5_readHut ml_X5_67 rfl rfl rfl rfl rfl rfl rfl rfl rfl rfl [] 8 rfl rfl rfl rfl rfl ⟨Nat.le_of_ble_eq_true rfl, Nat.le_of_ble_eq_true rfl⟩ (Nat.le_of_ble_eq_true rfl) dX5_readHuts_25 [.int v2_0] rfl ?_
        refine gg_if_ne 33 dX5_readHuts_28 (by decide) (fun hc => ?_) (fun hc => ?_)
        · replace h := gg_el h hc
          refine gg_aload_n dX5_readHuts_33 rfl ?_
          obtain ⟨v3, hv3, h⟩ := gg_bd h
          refine gg_callV (gg_sg [0]) [0, 1] (wd_X5_readHuts c_size v3 c_signs v2_2 c_p1_food c_p1_due c_p1_backs v2_3 v2_4 v2_5 v2_6 v2_7) 0 (C_X5_skipBlanks c_size v2_1 c_signs hv3) nV_X5_skipBlanks ml_X5_48 rfl rfl rfl rfl rfl rfl rfl rfl rfl rfl [2, 3, 4, 5, 6, 7] 8 rfl rfl rfl rfl rfl ⟨Nat.le_of_ble_eq_true rfl, Nat.le_of_ble_eq_true rfl⟩ (Nat.le_of_ble_eq_true rfl) dX5_readHuts_34 [] rfl ?_
          refine gg_iinc (x2_6 + (1 : Int32)) [some (.ref 0), some (.ref 100), some (.int (x2_6 + (1 : Int32)))] dX5_readHuts_37 rfl rfl rfl (Nat.le_of_ble_eq_true rfl) rfl ?_
          refine gg_goto 6 dX5_readHuts_40 (by decide) ?_
          exact ih (x2_6 + (1 : Int32)) v3 v2_2 v2_3 v2_4 v2_5 v2_6 v2_7 h
        · replace h := gg_th h hc
          refine gg_fg [false, false, false] [none, none, none] rfl ?_
          exact hk31 v2_1 v2_2 v2_3 v2_4 v2_5 v2_6 v2_7 h
set_option maxRecDepth 20000 in
set_option maxHeartbeats 8000000 in
theorem C_X5_readHuts  (c_size : Int32) (c_place : Int32) (c_signs : Nat → Int32) (c_p1_huts : Int32) (c_p1_food : Int32) (c_p1_due : Int32) (c_p1_backs : Int32) (c_p1_kind : Nat → Int32) (c_p1_home : Nat → Int32) (c_p1_strength : Nat → Int32) (c_p1_brown : Nat → Int32) (c_p1_brick : Nat → Int32) {r0 : Int32} {r1 : (Int32)} {r2 : (Int32)} {r3 : (Nat → Int32)} {r4 : (Nat → Int32)} {r5 : (Nat → Int32)} {r6 : (Nat → Int32)} {r7 : (Nat → Int32)} (h : f_X5_readHuts c_size c_place c_signs c_p1_huts c_p1_kind c_p1_home c_p1_strength c_p1_brown c_p1_brick = some (r0, r1, r2, r3, r4, r5, r6, r7)) : gg_C MD_X5_readHuts [.ref 0, .ref 100] (wd_X5_readHuts c_size c_place c_signs c_p1_huts c_p1_food c_p1_due c_p1_backs c_p1_kind c_p1_home c_p1_strength c_p1_brown c_p1_brick) (some (.int r0)) (wd_X5_readHuts c_size r1 c_signs r2 c_p1_food c_p1_due c_p1_backs r3 r4 r5 r6 r7) := by
  refine gg_ofG [some (.ref 0), some (.ref 100), none] (plainFor_of_name (by decide)) (Nat.le_of_ble_eq_true rfl) rfl ?_
  unfold f_X5_readHuts at h
  refine gg_aload_n dX5_readHuts_0 rfl ?_
  obtain ⟨v1, hv1, h⟩ := gg_bd h
  refine gg_callV (gg_sg [0]) [0, 1] (wd_X5_readHuts c_size v1 c_signs c_p1_huts c_p1_food c_p1_due c_p1_backs c_p1_kind c_p1_home c_p1_strength c_p1_brown c_p1_brick) 0 (C_X5_skipBlanks c_size c_place c_signs hv1) nV_X5_skipBlanks ml_X5_48 rfl rfl rfl rfl rfl rfl rfl rfl rfl rfl [2, 3, 4, 5, 6, 7] 8 rfl rfl rfl rfl rfl ⟨Nat.le_of_ble_eq_true rfl, Nat.le_of_ble_eq_true rfl⟩ (Nat.le_of_ble_eq_true rfl) dX5_readHuts_1 [] rfl ?_
  refine gg_iconst (0 : Int32) dX5_readHuts_4 (by decide) ?_
  refine gg_istore_n [some (.ref 0), some (.ref 100), some (.int (0 : Int32))] dX5_readHuts_5 rfl (Nat.le_of_ble_eq_true rfl) rfl ?_
  refine lq_X5_readHuts_6 c_size c_signs c_p1_food c_p1_due c_p1_backs _ _ ?_ ?_ gg_fuel (0 : Int32) v1 c_p1_huts c_p1_kind c_p1_home c_p1_strength c_p1_brown c_p1_brick h
  · intro c_place_31 c_p1_huts_31 c_p1_kind_31 c_p1_home_31 c_p1_strength_31 c_p1_brown_31 c_p1_brick_31 h
    refine gg_iconst (0 : Int32) dX5_readHuts_31 (by decide) ?_
    cases h
    exact gg_zret dX5_readHuts_32 rfl rfl
  · intro c_place_43 c_p1_huts_43 c_p1_kind_43 c_p1_home_43 c_p1_strength_43 c_p1_brown_43 c_p1_brick_43 h
    refine gg_aload_n dX5_readHuts_43 rfl ?_
    refine gg_get 0 fl_X5_19 dX5_readHuts_44 rfl rfl ?_
    refine gg_aload_n dX5_readHuts_47 rfl ?_
    refine gg_get 0 fl_X5_15 dX5_readHuts_48 rfl rfl ?_
    obtain ⟨k66, hke66, h⟩ := gg_lte h
    have hk66 : ∀ (s0_66 : Int32), k66 s0_66 = some (r0, r1, r2, r3, r4, r5, r6, r7) → gg_G MD_X5_readHuts 66 [none, none, none] [.int s0_66] (wd_X5_readHuts c_size c_place_43 c_signs c_p1_huts_43 c_p1_food c_p1_due c_p1_backs c_p1_kind_43 c_p1_home_43 c_p1_strength_43 c_p1_brown_43 c_p1_brick_43) (some (.int r0)) (wd_X5_readHuts c_size r1 c_signs r2 c_p1_food c_p1_due c_p1_backs r3 r4 r5 r6 r7) := by
      intro s0_66 h
      subst hke66
      obtain ⟨hz, h⟩ := gg_ck h
      cases h
      exact gg_zret dX5_readHuts_66 rfl hz
    clear hke66
    obtain ⟨k65, hke65, h⟩ := gg_lte h
    have hk65 : k65 = some (r0, r1, r2, r3, r4, r5, r6, r7) → gg_G MD_X5_readHuts 65 [none, none, none] [] (wd_X5_readHuts c_size c_place_43 c_signs c_p1_huts_43 c_p1_food c_p1_due c_p1_backs c_p1_kind_43 c_p1_home_43 c_p1_strength_43 c_p1_brown_43 c_p1_brick_43) (some (.int r0)) (wd_X5_readHuts c_size r1 c_signs r2 c_p1_food c_p1_due c_p1_backs r3 r4 r5 r6 r7) := by
      intro  h
      subst hke65
      refine gg_iconst (0 : Int32) dX5_readHuts_65 (by decide) ?_
      exact hk66 (0 : Int32) h
    clear hke65
    refine gg_icmp_ne 65 dX5_readHuts_51 (by decide) (fun hc => ?_) (fun hc => ?_)
    · replace h := gg_el h hc
      refine gg_fg [false, false, false] [none, none, none] rfl ?_
      exact hk65 h
    · replace h := gg_th h hc
      refine gg_aload_n dX5_readHuts_54 rfl ?_
      refine gg_get 2 fl_X5_70 dX5_readHuts_55 rfl rfl ?_
      refine gg_if_le 65 dX5_readHuts_58 (by decide) (fun hc => ?_) (fun hc => ?_)
      · replace h := gg_th h hc
        refine gg_fg [false, false, false] [none, none, none] rfl ?_
        exact hk65 h
      · replace h := gg_el h hc
        refine gg_iconst (1 : Int32) dX5_readHuts_61 (by decide) ?_
        refine gg_goto 66 dX5_readHuts_62 (by decide) ?_
        refine gg_fg [false, false, false] [none, none, none] rfl ?_
        exact hk66 (1 : Int32) h
def wd_X5_read_s4 (c_size : Int32) (c_place : Int32) (c_signs : Nat → Int32) (c_p1_most : Int32) (c_p1_sizes : Nat → Int32) (c_p1_cells : Nat → Nat → Int32) (c_p2_huts : Int32) (c_p2_food : Int32) (c_p2_due : Int32) (c_p2_backs : Int32) (c_p2_winds : Nat → Int32) (c_p2_kind : Nat → Int32) (c_p2_home : Nat → Int32) (c_p2_strength : Nat → Int32) (c_p2_brown : Nat → Int32) (c_p2_brick : Nat → Int32) : va_W := [(0, .inr (4, [.ref 1, .int c_size, .int c_place])), (1, .inl (0, 60, .inl c_signs)), (100, .inr (5, [.int c_p1_most, .ref 101, .ref 102])), (101, .inl (4, 4, .inr (.inr (.inr (.inr (gg_rf 2 1)))))), (102, .inl (0, 4, .inl c_p1_sizes)), (103, .inl (0, 60, .inl (c_p1_cells 0))), (104, .inl (0, 60, .inl (c_p1_cells 1))), (105, .inl (0, 60, .inl (c_p1_cells 2))), (106, .inl (0, 60, .inl (c_p1_cells 3))), (200, .inr (2, [.int c_p2_huts, .int c_p2_food, .int c_p2_due, .ref 201, .ref 202, .ref 203, .ref 204, .ref 205, .ref 206, .ref 207, .int c_p2_backs])), (201, .inl (0, 4, .inl c_p2_winds)), (202, .inl (0, 6, .inl c_p2_kind)), (203, .inl (0, 6, .inl c_p2_home)), (204, .inl (0, 6, .inl c_p2_strength)), (205, .inl (0, 6, .inl c_p2_brown)), (206, .inl (0, 6, .inl c_p2_brick))]
def MD_X5_read_s4 : gg_M := (yX5_read, cX5_read, 5, some .int, 4, 88)
theorem nV_X5_read_s4 : gg_nV MD_X5_read_s4 3 := ⟨⟨gg_mem (by decide +kernel) rfl, gg_mem cw_X5_read rfl, by decide, by decide, by decide +kernel⟩, gg_mem (by decide +kernel) rfl, gg_mem (by decide +kernel) rfl⟩
def lp_X5_read_s4_22 {β : Type} (y2 : Int32) (c_size : Int32) (c_p1_sizes : Nat → Int32) (c_p1_cells : Nat → Nat → Int32) (k51 : (Nat → Int32) → Option β) : Nat → (Int32) → (Nat → Int32) → Option β
  | 0, _, _ => none
  | n + 1, x4_22, c_signs_22 => (if c_size ≤ x4_22 then (k51 c_signs_22) else (f_X6_get_s4 y2 x4_22 c_p1_sizes c_p1_cells).bind (fun v3 => gg_chk (gg_in x4_22 60) ((lp_X5_read_s4_22 y2 c_size c_p1_sizes c_p1_cells k51 n (x4_22 + (1 : Int32)) (upd c_signs_22 x4_22.toNatClampNeg v3)))))
def f_X5_read_s4 (a0 : Int32) (c_size : Int32) (c_place : Int32) (c_signs : Nat → Int32) (c_p1_sizes : Nat → Int32) (c_p1_cells : Nat → Nat → Int32) (c_p2_huts : Int32) (c_p2_food : Int32) (c_p2_due : Int32) (c_p2_backs : Int32) (c_p2_winds : Nat → Int32) (c_p2_kind : Nat → Int32) (c_p2_home : Nat → Int32) (c_p2_strength : Nat → Int32) (c_p2_brown : Nat → Int32) (c_p2_brick : Nat → Int32) : Option (Int32 × (Int32) × (Int32) × (Nat → Int32) × (Int32) × (Int32) × (Int32) × (Int32) × (Nat → Int32) × (Nat → Int32) × (Nat → Int32) × (Nat → Int32) × (Nat → Int32) × (Nat → Int32)) := (f_X6_size_s4 a0 c_p1_sizes).bind (fun v1 => (f_J9_min_7cf53 v1 (60 : Int32)).bind (fun v2 => (lp_X5_read_s4_22 a0 v2 c_p1_sizes c_p1_cells (fun (c_signs_51 : Nat → Int32) => gg_b4 (f_X2_clear c_p2_huts c_p2_food c_p2_due c_p2_backs) (fun v4_0 v4_1 v4_2 v4_3 => gg_b4 (f_X5_readHead v2 (0 : Int32) c_signs_51 v4_1 c_p2_winds) (fun v5_0 v5_1 v5_2 v5_3 => gg_lt (fun (s0_80 : Int32) (c_place_80 : Int32) (c_p2_huts_80 : Int32) (c_p2_kind_80 : Nat → Int32) (c_p2_home_80 : Nat → Int32) (c_p2_strength_80 : Nat → Int32) (c_p2_brown_80 : Nat → Int32) (c_p2_brick_80 : Nat → Int32) => (some (s0_80, v2, c_place_80, c_signs_51, c_p2_huts_80, v5_2, v4_2, v4_3, v5_3, c_p2_kind_80, c_p2_home_80, c_p2_strength_80, c_p2_brown_80, c_p2_brick_80))) (fun k80 => gg_lt (fun (c_place_76 : Int32) (c_p2_huts_76 : Int32) (c_p2_kind_76 : Nat → Int32) (c_p2_home_76 : Nat → Int32) (c_p2_strength_76 : Nat → Int32) (c_p2_brown_76 : Nat → Int32) (c_p2_brick_76 : Nat → Int32) => (k80 c_place_76 c_place_76 c_p2_huts_76 c_p2_kind_76 c_p2_home_76 c_p2_strength_76 c_p2_brown_76 c_p2_brick_76)) (fun k76 => (if v5_0 = (0 : Int32) then (k76 v5_1 v4_0 c_p2_kind c_p2_home c_p2_strength c_p2_brown c_p2_brick) else gg_b8 (f_X5_readHuts v2 v5_1 c_signs_51 v4_0 c_p2_kind c_p2_home c_p2_strength c_p2_brown c_p2_brick) (fun v6_0 v6_1 v6_2 v6_3 v6_4 v6_5 v6_6 v6_7 => (if v6_0 = (0 : Int32) then (k76 v6_1 v6_2 v6_3 v6_4 v6_5 v6_6 v6_7) else (k80 (-9 : Int32) v6_1 v6_2 v6_3 v6_4 v6_5 v6_6 v6_7))))))))) gg_fuel (0 : Int32) c_signs)))
set_option maxRecDepth 20000 in
set_option maxHeartbeats 4000000 in
theorem lq_X5_read_s4_22 {β : Type} {res : β} {rr : Option Value} {ww : va_W} (y2 : Int32) (c_size : Int32) (c_place : Int32) (c_p1_most : Int32) (c_p1_sizes : Nat → Int32) (c_p1_cells : Nat → Nat → Int32) (c_p2_huts : Int32) (c_p2_food : Int32) (c_p2_due : Int32) (c_p2_backs : Int32) (c_p2_winds : Nat → Int32) (c_p2_kind : Nat → Int32) (c_p2_home : Nat → Int32) (c_p2_strength : Nat → Int32) (c_p2_brown : Nat → Int32) (c_p2_brick : Nat → Int32) (k51 : (Nat → Int32) → Option β) (hk51 : ∀ (c_signs_51 : Nat → Int32), k51 c_signs_51 = some res → gg_G MD_X5_read_s4 51 [some (.ref 0), none, none, some (.ref 200), none] [] (wd_X5_read_s4 c_size c_place c_signs_51 c_p1_most c_p1_sizes c_p1_cells c_p2_huts c_p2_food c_p2_due c_p2_backs c_p2_winds c_p2_kind c_p2_home c_p2_strength c_p2_brown c_p2_brick) rr ww) : ∀ (n : Nat) (x4_22 : Int32) (c_signs_22 : Nat → Int32), lp_X5_read_s4_22 y2 c_size c_p1_sizes c_p1_cells k51 n x4_22 c_signs_22 = some res → gg_G MD_X5_read_s4 22 [some (.ref 0), some (.ref 100), some (.int y2), some (.ref 200), some (.int x4_22)] [] (wd_X5_read_s4 c_size c_place c_signs_22 c_p1_most c_p1_sizes c_p1_cells c_p2_huts c_p2_food c_p2_due c_p2_backs c_p2_winds c_p2_kind c_p2_home c_p2_strength c_p2_brown c_p2_brick) rr ww := by
  intro n
  induction n with
  | zero =>
    intro x4_22 c_signs_22 h
    exact nomatch (show (none : Option β) = some res from h)
  | succ n ih =>
    intro x4_22 c_signs_22 h
    rw [lp_X5_read_s4_22] at h
    refine gg_iload dX5_read_22 rfl ?_
    refine gg_aload_n dX5_read_24 rfl ?_
    refine gg_get 0 fl_X5_15 dX5_read_25 rfl rfl ?_
    refine gg_icmp_ge 51 dX5_read_28 (by decide) (fun hc => ?_) (fun hc => ?_)
    · replace h := gg_th h hc
      refine gg_fg [true, false, false, true, false] [some (.ref 0), none, none, some (.ref 200), none] rfl ?_
      exact hk51 c_signs_22 h
    · replace h := gg_el h hc
      refine gg_aload_n dX5_read_31 rfl ?_
      refine gg_get 0 fl_X5_9 dX5_read_32 rfl rfl ?_
      refine gg_iload dX5_read_35 rfl ?_
      refine gg_aload_n dX5_read_37 rfl ?_
      refine gg_iload_n dX5_read_38 rfl ?_
      refine gg_iload dX5_read_39 rfl ?_
      obtain ⟨v3, hv3, h⟩ := gg_bd h
      refine gg_callV (gg_sg [100]) [2, 3, 4, 5, 6, 7, 8] (wd_X5_read_s4 c_size c_place c_signs_22 c_p1_most c_p1_sizes c_p1_cells c_p2_huts c_p2_food c_p2_due c_p2_backs c_p2_winds c_p2_kind c_p2_home c_p2_strength c_p2_brown c_p2_brick) 0 (C_X6_get_s4 y2 x4_22 c_p1_most c_p1_sizes c_p1_cells hv3) nV_X6_get_s4 ml_X5_33 rfl rfl rfl rfl rfl rfl rfl rfl rfl rfl [0, 1, 9, 10, 11, 12, 13, 14, 15] 16 rfl rfl rfl rfl rfl ⟨Nat.le_of_ble_eq_true rfl, Nat.le_of_ble_eq_true rfl⟩ (Nat.le_of_ble_eq_true rfl) dX5_read_41 [.int v3, .int x4_22, .ref 1] rfl ?_
      obtain ⟨hb44, h⟩ := gg_ck h
      refine gg_iast 1 (wd_X5_read_s4 c_size c_place (upd c_signs_22 x4_22.toNatClampNeg v3) c_p1_most c_p1_sizes c_p1_cells c_p2_huts c_p2_food c_p2_due c_p2_backs c_p2_winds c_p2_kind c_p2_home c_p2_strength c_p2_brown c_p2_brick) dX5_read_44 rfl hb44 rfl ?_
      refine gg_iinc (x4_22 + (1 : Int32)) [some (.ref 0), some (.ref 100), some (.int y2), some (.ref 200), some (.int (x4_22 + (1 : Int32)))] dX5_read_45 rfl rfl rfl (Nat.le_of_ble_eq_true rfl) rfl ?_
      refine gg_goto 22 dX5_read_48 (by decide) ?_
      exact ih (x4_22 + (1 : Int32)) (upd c_signs_22 x4_22.toNatClampNeg v3) h
set_option maxRecDepth 20000 in
set_option maxHeartbeats 8000000 in
theorem C_X5_read_s4 (a0 : Int32) (c_size : Int32) (c_place : Int32) (c_signs : Nat → Int32) (c_p1_most : Int32) (c_p1_sizes : Nat → Int32) (c_p1_cells : Nat → Nat → Int32) (c_p2_huts : Int32) (c_p2_food : Int32) (c_p2_due : Int32) (c_p2_backs : Int32) (c_p2_winds : Nat → Int32) (c_p2_kind : Nat → Int32) (c_p2_home : Nat → Int32) (c_p2_strength : Nat → Int32) (c_p2_brown : Nat → Int32) (c_p2_brick : Nat → Int32) {r0 : Int32} {r1 : (Int32)} {r2 : (Int32)} {r3 : (Nat → Int32)} {r4 : (Int32)} {r5 : (Int32)} {r6 : (Int32)} {r7 : (Int32)} {r8 : (Nat → Int32)} {r9 : (Nat → Int32)} {r10 : (Nat → Int32)} {r11 : (Nat → Int32)} {r12 : (Nat → Int32)} {r13 : (Nat → Int32)} (h : f_X5_read_s4 a0 c_size c_place c_signs c_p1_sizes c_p1_cells c_p2_huts c_p2_food c_p2_due c_p2_backs c_p2_winds c_p2_kind c_p2_home c_p2_strength c_p2_brown c_p2_brick = some (r0, r1, r2, r3, r4, r5, r6, r7, r8, r9, r10, r11, r12, r13)) : gg_C MD_X5_read_s4 [.ref 0, .ref 100, .int a0, .ref 200] (wd_X5_read_s4 c_size c_place c_signs c_p1_most c_p1_sizes c_p1_cells c_p2_huts c_p2_food c_p2_due c_p2_backs c_p2_winds c_p2_kind c_p2_home c_p2_strength c_p2_brown c_p2_brick) (some (.int r0)) (wd_X5_read_s4 r1 r2 r3 c_p1_most c_p1_sizes c_p1_cells r4 r5 r6 r7 r8 r9 r10 r11 r12 r13) := by
  refine gg_ofG [some (.ref 0), some (.ref 100), some (.int a0), some (.ref 200), none] (plainFor_of_name (by decide)) (Nat.le_of_ble_eq_true rfl) rfl ?_
  unfold f_X5_read_s4 at h
  refine gg_aload_n dX5_read_0 rfl ?_
  refine gg_iconst (0 : Int32) dX5_read_1 (by decide) ?_
  refine gg_putf 0 (wd_X5_read_s4 c_size (0 : Int32) c_signs c_p1_most c_p1_sizes c_p1_cells c_p2_huts c_p2_food c_p2_due c_p2_backs c_p2_winds c_p2_kind c_p2_home c_p2_strength c_p2_brown c_p2_brick) fl_X5_19 dX5_read_2 rfl (Nat.le_of_ble_eq_true rfl) (fun _ => ⟨rfl, rfl⟩) rfl ?_
  refine gg_aload_n dX5_read_5 rfl ?_
  refine gg_aload_n dX5_read_6 rfl ?_
  refine gg_iload_n dX5_read_7 rfl ?_
  obtain ⟨v1, hv1, h⟩ := gg_bd h
  refine gg_callV (gg_sg [100]) [2, 4] (wd_X5_read_s4 c_size (0 : Int32) c_signs c_p1_most c_p1_sizes c_p1_cells c_p2_huts c_p2_food c_p2_due c_p2_backs c_p2_winds c_p2_kind c_p2_home c_p2_strength c_p2_brown c_p2_brick) 0 (C_X6_size_s4 a0 c_p1_most c_p1_sizes hv1) nV_X6_size_s4 ml_X5_22 rfl rfl rfl rfl rfl rfl rfl rfl rfl rfl [0, 1, 3, 5, 6, 7, 8, 9, 10, 11, 12, 13, 14, 15] 16 rfl rfl rfl rfl rfl ⟨Nat.le_of_ble_eq_true rfl, Nat.le_of_ble_eq_true rfl⟩ (Nat.le_of_ble_eq_true rfl) dX5_read_8 [.int v1, .ref 0] rfl ?_
  refine gg_bipush (60 : Int32) dX5_read_11 (by decide) ?_
  obtain ⟨v2, hv2, h⟩ := gg_bd h
  refine gg_callS (gg_sg []) [] (wd_X5_read_s4 c_size (0 : Int32) c_signs c_p1_most c_p1_sizes c_p1_cells c_p2_huts c_p2_food c_p2_due c_p2_backs c_p2_winds c_p2_kind c_p2_home c_p2_strength c_p2_brown c_p2_brick) (C_J9_min_7cf53 v1 (60 : Int32) hv2) nS_J9_min_7cf53 ml_X5_27 rfl rfl rfl rfl rfl rfl rfl [0, 1, 2, 3, 4, 5, 6, 7, 8, 9, 10, 11, 12, 13, 14, 15] 16 rfl rfl rfl rfl rfl ⟨Nat.le_of_ble_eq_true rfl, Nat.le_of_ble_eq_true rfl⟩ (Nat.le_of_ble_eq_true rfl) dX5_read_13 [.int v2, .ref 0] rfl ?_
  refine gg_putf 0 (wd_X5_read_s4 v2 (0 : Int32) c_signs c_p1_most c_p1_sizes c_p1_cells c_p2_huts c_p2_food c_p2_due c_p2_backs c_p2_winds c_p2_kind c_p2_home c_p2_strength c_p2_brown c_p2_brick) fl_X5_15 dX5_read_16 rfl (Nat.le_of_ble_eq_true rfl) (fun _ => ⟨rfl, rfl⟩) rfl ?_
  refine gg_iconst (0 : Int32) dX5_read_19 (by decide) ?_
  refine gg_istore [some (.ref 0), some (.ref 100), some (.int a0), some (.ref 200), some (.int (0 : Int32))] dX5_read_20 rfl (Nat.le_of_ble_eq_true rfl) rfl ?_
  refine lq_X5_read_s4_22 a0 v2 (0 : Int32) c_p1_most c_p1_sizes c_p1_cells c_p2_huts c_p2_food c_p2_due c_p2_backs c_p2_winds c_p2_kind c_p2_home c_p2_strength c_p2_brown c_p2_brick _ ?_ gg_fuel (0 : Int32) c_signs h
  intro c_signs_51 h
  refine gg_aload_n dX5_read_51 rfl ?_
  obtain ⟨v4_0, v4_1, v4_2, v4_3, hv4, h⟩ := gg_bd4 h
  refine gg_callV (gg_sg [200]) [9] (wd_X5_read_s4 v2 (0 : Int32) c_signs_51 c_p1_most c_p1_sizes c_p1_cells v4_0 v4_1 v4_2 v4_3 c_p2_winds c_p2_kind c_p2_home c_p2_strength c_p2_brown c_p2_brick) 0 (C_X2_clear c_p2_huts c_p2_food c_p2_due c_p2_backs hv4) nV_X2_clear ml_X5_36 rfl rfl rfl rfl rfl rfl rfl rfl rfl rfl [0, 1, 2, 3, 4, 5, 6, 7, 8, 10, 11, 12, 13, 14, 15] 16 rfl rfl rfl rfl rfl ⟨Nat.le_of_ble_eq_true rfl, Nat.le_of_ble_eq_true rfl⟩ (Nat.le_of_ble_eq_true rfl) dX5_read_52 [] rfl ?_
  refine gg_aload_n dX5_read_55 rfl ?_
  refine gg_aload_n dX5_read_56 rfl ?_
  obtain ⟨v5_0, v5_1, v5_2, v5_3, hv5, h⟩ := gg_bd4 h
  refine gg_callV (gg_sg [0, 200]) [0, 1, 9, 10] (wd_X5_read_s4 v2 v5_1 c_signs_51 c_p1_most c_p1_sizes c_p1_cells v4_0 v5_2 v4_2 v4_3 v5_3 c_p2_kind c_p2_home c_p2_strength c_p2_brown c_p2_brick) 0 (C_X5_readHead v2 (0 : Int32) c_signs_51 v4_0 v4_1 v4_2 v4_3 c_p2_winds hv5) nV_X5_readHead ml_X5_41 rfl rfl rfl rfl rfl rfl rfl rfl rfl rfl [2, 3, 4, 5, 6, 7, 8, 11, 12, 13, 14, 15] 16 rfl rfl rfl rfl rfl ⟨Nat.le_of_ble_eq_true rfl, Nat.le_of_ble_eq_true rfl⟩ (Nat.le_of_ble_eq_true rfl) dX5_read_57 [.int v5_0] rfl ?_
  obtain ⟨k80, hke80, h⟩ := gg_lte h
  have hk80 : ∀ (s0_80 : Int32) (c_place_80 : Int32) (c_p2_huts_80 : Int32) (c_p2_kind_80 : Nat → Int32) (c_p2_home_80 : Nat → Int32) (c_p2_strength_80 : Nat → Int32) (c_p2_brown_80 : Nat → Int32) (c_p2_brick_80 : Nat → Int32), k80 s0_80 c_place_80 c_p2_huts_80 c_p2_kind_80 c_p2_home_80 c_p2_strength_80 c_p2_brown_80 c_p2_brick_80 = some (r0, r1, r2, r3, r4, r5, r6, r7, r8, r9, r10, r11, r12, r13) → gg_G MD_X5_read_s4 80 [none, none, none, none, none] [.int s0_80] (wd_X5_read_s4 v2 c_place_80 c_signs_51 c_p1_most c_p1_sizes c_p1_cells c_p2_huts_80 v5_2 v4_2 v4_3 v5_3 c_p2_kind_80 c_p2_home_80 c_p2_strength_80 c_p2_brown_80 c_p2_brick_80) (some (.int r0)) (wd_X5_read_s4 r1 r2 r3 c_p1_most c_p1_sizes c_p1_cells r4 r5 r6 r7 r8 r9 r10 r11 r12 r13) := by
    intro s0_80 c_place_80 c_p2_huts_80 c_p2_kind_80 c_p2_home_80 c_p2_strength_80 c_p2_brown_80 c_p2_brick_80 h
    subst hke80
    cases h
    exact gg_iret dX5_read_80 rfl
  clear hke80
  obtain ⟨k76, hke76, h⟩ := gg_lte h
  have hk76 : ∀ (c_place_76 : Int32) (c_p2_huts_76 : Int32) (c_p2_kind_76 : Nat → Int32) (c_p2_home_76 : Nat → Int32) (c_p2_strength_76 : Nat → Int32) (c_p2_brown_76 : Nat → Int32) (c_p2_brick_76 : Nat → Int32), k76 c_place_76 c_p2_huts_76 c_p2_kind_76 c_p2_home_76 c_p2_strength_76 c_p2_brown_76 c_p2_brick_76 = some (r0, r1, r2, r3, r4, r5, r6, r7, r8, r9, r10, r11, r12, r13) → gg_G MD_X5_read_s4 76 [some (.ref 0), none, none, none, none] [] (wd_X5_read_s4 v2 c_place_76 c_signs_51 c_p1_most c_p1_sizes c_p1_cells c_p2_huts_76 v5_2 v4_2 v4_3 v5_3 c_p2_kind_76 c_p2_home_76 c_p2_strength_76 c_p2_brown_76 c_p2_brick_76) (some (.int r0)) (wd_X5_read_s4 r1 r2 r3 c_p1_most c_p1_sizes c_p1_cells r4 r5 r6 r7 r8 r9 r10 r11 r12 r13) := by
    intro c_place_76 c_p2_huts_76 c_p2_kind_76 c_p2_home_76 c_p2_strength_76 c_p2_brown_76 c_p2_brick_76 h
    subst hke76
    refine gg_aload_n dX5_read_76 rfl ?_
    refine gg_get 0 fl_X5_19 dX5_read_77 rfl rfl ?_
    refine gg_fg [false, false, false, false, false] [none, none, none, none, none] rfl ?_
    exact hk80 c_place_76 c_place_76 c_p2_huts_76 c_p2_kind_76 c_p2_home_76 c_p2_strength_76 c_p2_brown_76 c_p2_brick_76 h
  clear hke76
  refine gg_if_eq 76 dX5_read_60 (by decide) (fun hc => ?_) (fun hc => ?_)
  · replace h := gg_th h hc
    refine gg_fg [true, false, false, false, false] [some (.ref 0), none, none, none, none] rfl ?_
    exact hk76 v5_1 v4_0 c_p2_kind c_p2_home c_p2_strength c_p2_brown c_p2_brick h
  · replace h := gg_el h hc
    refine gg_aload_n dX5_read_63 rfl ?_
    refine gg_aload_n dX5_read_64 rfl ?_
    obtain ⟨v6_0, v6_1, v6_2, v6_3, v6_4, v6_5, v6_6, v6_7, hv6, h⟩ := gg_bd8 h
    refine gg_callV (gg_sg [0, 200]) [0, 1, 9, 11, 12, 13, 14, 15] (wd_X5_read_s4 v2 v6_1 c_signs_51 c_p1_most c_p1_sizes c_p1_cells v6_2 v5_2 v4_2 v4_3 v5_3 v6_3 v6_4 v6_5 v6_6 v6_7) 0 (C_X5_readHuts v2 v5_1 c_signs_51 v4_0 v5_2 v4_2 v4_3 c_p2_kind c_p2_home c_p2_strength c_p2_brown c_p2_brick hv6) nV_X5_readHuts ml_X5_45 rfl rfl rfl rfl rfl rfl rfl rfl rfl rfl [2, 3, 4, 5, 6, 7, 8, 10] 16 rfl rfl rfl rfl rfl ⟨Nat.le_of_ble_eq_true rfl, Nat.le_of_ble_eq_true rfl⟩ (Nat.le_of_ble_eq_true rfl) dX5_read_65 [.int v6_0] rfl ?_
    refine gg_if_eq 76 dX5_read_68 (by decide) (fun hc => ?_) (fun hc => ?_)
    · replace h := gg_th h hc
      refine gg_fg [true, false, false, false, false] [some (.ref 0), none, none, none, none] rfl ?_
      exact hk76 v6_1 v6_2 v6_3 v6_4 v6_5 v6_6 v6_7 h
    · replace h := gg_el h hc
      refine gg_bipush (-9 : Int32) dX5_read_71 (by decide) ?_
      refine gg_goto 80 dX5_read_73 (by decide) ?_
      refine gg_fg [false, false, false, false, false] [none, none, none, none, none] rfl ?_
      exact hk80 (-9 : Int32) v6_1 v6_2 v6_3 v6_4 v6_5 v6_6 v6_7 h
