def wd_X8_text (c_latestFinding : Int32) (c_told : Int32) (c_above : Int64) (c_below : Int64) (c_texts_most : Int32) (c_texts_sizes : Nat → Int32) (c_texts_cells : Nat → Nat → Int32) (c_found : Nat → Int32) : va_W := [(0, .inr (7, [.ref 1, .ref 10, .ref 17, .ref 19, .ref 27, .ref 35, .ref 43, .ref 45, .ref 52, .ref 56, .ref 60, .ref 67, .int c_latestFinding, .int c_told, .long c_above, .long c_below])), (10, .inr (5, [.int c_texts_most, .ref 11, .ref 12])), (11, .inl (4, 4, .inr (.inr (.inr (.inr (gg_rf 2 1)))))), (12, .inl (0, 4, .inl c_texts_sizes)), (13, .inl (0, 60, .inl (c_texts_cells 0))), (14, .inl (0, 60, .inl (c_texts_cells 1))), (15, .inl (0, 60, .inl (c_texts_cells 2))), (16, .inl (0, 60, .inl (c_texts_cells 3))), (67, .inl (0, 6, .inl c_found))]
def MD_X8_text : gg_M := (yX8_text, cX8_text, 5, some .int, 3, 67)
theorem nV_X8_text : gg_nV MD_X8_text 2 := ⟨⟨gg_mem (by decide +kernel) rfl, gg_mem cw_X8_text rfl, by decide, by decide, by decide +kernel⟩, gg_mem (by decide +kernel) rfl, gg_mem (by decide +kernel) rfl⟩
def lp_X8_text_14 {β : Type} (y1 : Int32) (y3 : Int32) (c_texts_sizes : Nat → Int32) (k38 : (Nat → Nat → Int32) → Option β) : Nat → (Int32) → (Nat → Nat → Int32) → Option β
  | 0, _, _ => none
  | n + 1, x4_14, c_texts_cells_14 => (if y3 ≤ x4_14 then (k38 c_texts_cells_14) else (f_X6_set_s4 y1 x4_14 (32 : Int32) c_texts_sizes c_texts_cells_14).bind (fun v2 => (lp_X8_text_14 y1 y3 c_texts_sizes k38 n (x4_14 + (1 : Int32)) v2)))
def f_X8_text (a0 : Int32) (a1 : Int32) (c_latestFinding : Int32) (c_texts_most : Int32) (c_texts_sizes : Nat → Int32) (c_texts_cells : Nat → Nat → Int32) (c_found : Nat → Int32) : Option (Int32 × (Int32) × (Nat → Int32) × (Nat → Nat → Int32) × (Nat → Int32)) := (f_X8_makeOn_s4 a0 a1 c_latestFinding c_found c_texts_most c_texts_sizes c_texts_cells).bind (fun v1 => (lp_X8_text_14 a0 v1.1 v1.2.2.2.1 (fun (c_texts_cells_38 : Nat → Nat → Int32) => (some (v1.1, v1.2.1, v1.2.2.2.1, c_texts_cells_38, v1.2.2.1))) gg_fuel (0 : Int32) v1.2.2.2.2))
set_option maxRecDepth 20000 in
set_option maxHeartbeats 4000000 in
theorem lq_X8_text_14 {β : Type} {res : β} {rr : Option Value} {ww : va_W} (y1 : Int32) (y3 : Int32) (c_latestFinding : Int32) (c_told : Int32) (c_above : Int64) (c_below : Int64) (c_texts_most : Int32) (c_texts_sizes : Nat → Int32) (c_found : Nat → Int32) (k38 : (Nat → Nat → Int32) → Option β) (hk38 : ∀ (c_texts_cells_38 : Nat → Nat → Int32), k38 c_texts_cells_38 = some res → gg_G MD_X8_text 38 [none, none, none, some (.int y3), none] [] (wd_X8_text c_latestFinding c_told c_above c_below c_texts_most c_texts_sizes c_texts_cells_38 c_found) rr ww) : ∀ (n : Nat) (x4_14 : Int32) (c_texts_cells_14 : Nat → Nat → Int32), lp_X8_text_14 y1 y3 c_texts_sizes k38 n x4_14 c_texts_cells_14 = some res → gg_G MD_X8_text 14 [some (.ref 0), some (.int y1), none, some (.int y3), some (.int x4_14)] [] (wd_X8_text c_latestFinding c_told c_above c_below c_texts_most c_texts_sizes c_texts_cells_14 c_found) rr ww := by
  intro n
  induction n with
  | zero =>
    intro x4_14 c_texts_cells_14 h
    exact nomatch (show (none : Option β) = some res from h)
  | succ n ih =>
    intro x4_14 c_texts_cells_14 h
    rw [lp_X8_text_14] at h
    refine gg_iload dX8_text_14 rfl ?_
    refine gg_iload_n dX8_text_16 rfl ?_
    refine gg_icmp_ge 38 dX8_text_17 (by decide) (fun hc => ?_) (fun hc => ?_)
    · replace h := gg_th h hc
      refine gg_fg [false, false, false, true, false] [none, none, none, some (.int y3), none] rfl ?_
      exact hk38 c_texts_cells_14 h
    · replace h := gg_el h hc
      refine gg_aload_n dX8_text_20 rfl ?_
      refine gg_get 0 fl_X8_18 dX8_text_21 rfl rfl ?_
      refine gg_iload_n dX8_text_24 rfl ?_
      refine gg_iload dX8_text_25 rfl ?_
      refine gg_bipush (32 : Int32) dX8_text_27 (by decide) ?_
      obtain ⟨v2, hv2, h⟩ := gg_bd h
      refine gg_callV (gg_sg [10]) [1, 2, 3, 4, 5, 6, 7] (wd_X8_text c_latestFinding c_told c_above c_below c_texts_most c_texts_sizes v2 c_found) 0 (C_X6_set_s4 y1 x4_14 (32 : Int32) c_texts_most c_texts_sizes c_texts_cells_14 hv2) nV_X6_set_s4 ml_X8_104 rfl rfl rfl rfl rfl rfl rfl rfl rfl rfl rfl ⟨Nat.le_of_ble_eq_true rfl, Nat.le_of_ble_eq_true rfl⟩ (Nat.le_of_ble_eq_true rfl) dX8_text_29 [] rfl rfl ?_
      refine gg_iinc (x4_14 + (1 : Int32)) [some (.ref 0), some (.int y1), none, some (.int y3), some (.int (x4_14 + (1 : Int32)))] dX8_text_32 rfl rfl rfl (Nat.le_of_ble_eq_true rfl) rfl ?_
      refine gg_goto 14 dX8_text_35 (by decide) ?_
      exact ih (x4_14 + (1 : Int32)) v2 h
set_option maxRecDepth 20000 in
set_option maxHeartbeats 4000000 in
theorem C_X8_text (a0 : Int32) (a1 : Int32) (c_latestFinding : Int32) (c_told : Int32) (c_above : Int64) (c_below : Int64) (c_texts_most : Int32) (c_texts_sizes : Nat → Int32) (c_texts_cells : Nat → Nat → Int32) (c_found : Nat → Int32) {res : Int32 × (Int32) × (Nat → Int32) × (Nat → Nat → Int32) × (Nat → Int32)} (h : f_X8_text a0 a1 c_latestFinding c_texts_most c_texts_sizes c_texts_cells c_found = some res) : gg_C MD_X8_text [.ref 0, .int a0, .int a1] (wd_X8_text c_latestFinding c_told c_above c_below c_texts_most c_texts_sizes c_texts_cells c_found) (some (.int res.1)) (wd_X8_text res.2.1 c_told c_above c_below c_texts_most res.2.2.1 res.2.2.2.1 res.2.2.2.2) := by
  refine gg_ofG [some (.ref 0), some (.int a0), some (.int a1), none, none] (by decide) (Nat.le_of_ble_eq_true rfl) rfl ?_
  unfold f_X8_text at h
  refine gg_aload_n dX8_text_0 rfl ?_
  refine gg_aload_n dX8_text_1 rfl ?_
  refine gg_get 0 fl_X8_18 dX8_text_2 rfl rfl ?_
  refine gg_iload_n dX8_text_5 rfl ?_
  refine gg_iload_n dX8_text_6 rfl ?_
  obtain ⟨v1, hv1, h⟩ := gg_bd h
  refine gg_callV (gg_sg [0, 10]) [0, 8, 1, 2, 3, 4, 5, 6, 7] (wd_X8_text v1.2.1 c_told c_above c_below c_texts_most v1.2.2.2.1 v1.2.2.2.2 v1.2.2.1) 0 (C_X8_makeOn_s4 a0 a1 c_latestFinding c_told c_above c_below c_found c_texts_most c_texts_sizes c_texts_cells hv1) nV_X8_makeOn_s4 ml_X8_93 rfl rfl rfl rfl rfl rfl rfl rfl rfl rfl rfl ⟨Nat.le_of_ble_eq_true rfl, Nat.le_of_ble_eq_true rfl⟩ (Nat.le_of_ble_eq_true rfl) dX8_text_7 [.int v1.1] rfl rfl ?_
  refine gg_istore_n [some (.ref 0), some (.int a0), some (.int a1), some (.int v1.1), none] dX8_text_10 rfl (Nat.le_of_ble_eq_true rfl) rfl ?_
  refine gg_iconst (0 : Int32) dX8_text_11 (by decide) ?_
  refine gg_istore [some (.ref 0), some (.int a0), some (.int a1), some (.int v1.1), some (.int (0 : Int32))] dX8_text_12 rfl (Nat.le_of_ble_eq_true rfl) rfl ?_
  refine gg_fg [true, true, false, true, true] [some (.ref 0), some (.int a0), none, some (.int v1.1), some (.int (0 : Int32))] rfl ?_
  refine lq_X8_text_14 a0 v1.1 v1.2.1 c_told c_above c_below c_texts_most v1.2.2.2.1 v1.2.2.1 _ ?_ gg_fuel (0 : Int32) v1.2.2.2.2 h
  intro c_texts_cells_38 h
  refine gg_iload_n dX8_text_38 rfl ?_
  cases h
  exact gg_iret dX8_text_39 rfl
def wd_X6_has_s4 (c_most : Int32) (c_sizes : Nat → Int32) : va_W := [(0, .inr (5, [.int c_most, .ref 1, .ref 2])), (2, .inl (0, 4, .inl c_sizes))]
def MD_X6_has_s4 : gg_M := (yX6_has, cX6_has, 2, some .boolean, 1, 21)
theorem nV_X6_has_s4 : gg_nV MD_X6_has_s4 1 := ⟨⟨gg_mem (by decide +kernel) rfl, gg_mem cw_X6_has rfl, by decide, by decide, by decide +kernel⟩, gg_mem (by decide +kernel) rfl, gg_mem (by decide +kernel) rfl⟩
def f_X6_has_s4 (a0 : Int32) (c_sizes : Nat → Int32) : Option (Int32) := (f_X6_knows_s4 a0).bind (fun v1 => gg_lt (fun (s0_23 : Int32) => gg_chk (gg_isb s0_23) (some s0_23)) (fun k23 => gg_lt ((k23 (0 : Int32))) (fun k22 => (if v1 = (0 : Int32) then k22 else gg_chk (gg_in a0 4) ((if (c_sizes a0.toNatClampNeg) = (-1 : Int32) then k22 else (k23 (1 : Int32))))))))
set_option maxRecDepth 20000 in
set_option maxHeartbeats 4000000 in
theorem C_X6_has_s4 (a0 : Int32) (c_most : Int32) (c_sizes : Nat → Int32) {res : Int32} (h : f_X6_has_s4 a0 c_sizes = some res) : gg_C MD_X6_has_s4 [.ref 0, .int a0] (wd_X6_has_s4 c_most c_sizes) (some (.int res)) (wd_X6_has_s4 c_most c_sizes) := by
  refine gg_ofG [some (.ref 0), some (.int a0)] (by decide) (Nat.le_of_ble_eq_true rfl) rfl ?_
  unfold f_X6_has_s4 at h
  refine gg_aload_n dX6_has_0 rfl ?_
  refine gg_iload_n dX6_has_1 rfl ?_
  obtain ⟨v1, hv1, h⟩ := gg_bd h
  refine gg_callV (gg_sg [0]) [0, 1] (wd_X6_has_s4 c_most c_sizes) 0 (C_X6_knows_s4 a0 c_most c_sizes hv1) nV_X6_knows_s4 ml_X6_22 rfl rfl rfl rfl rfl rfl rfl rfl rfl rfl rfl ⟨Nat.le_of_ble_eq_true rfl, Nat.le_of_ble_eq_true rfl⟩ (Nat.le_of_ble_eq_true rfl) dX6_has_2 [.int v1] rfl rfl ?_
  obtain ⟨k23, hke23, h⟩ := gg_lte h
  have hk23 : ∀ (s0_23 : Int32), k23 s0_23 = some res → gg_G MD_X6_has_s4 23 [none, none] [.int s0_23] (wd_X6_has_s4 c_most c_sizes) (some (.int res)) (wd_X6_has_s4 c_most c_sizes) := by
    intro s0_23 h
    subst hke23
    obtain ⟨hz, h⟩ := gg_ck h
    cases h
    exact gg_zret dX6_has_23 rfl hz
  clear hke23
  obtain ⟨k22, hke22, h⟩ := gg_lte h
  have hk22 : k22 = some res → gg_G MD_X6_has_s4 22 [none, none] [] (wd_X6_has_s4 c_most c_sizes) (some (.int res)) (wd_X6_has_s4 c_most c_sizes) := by
    intro  h
    subst hke22
    refine gg_iconst (0 : Int32) dX6_has_22 (by decide) ?_
    exact hk23 (0 : Int32) h
  clear hke22
  refine gg_if_eq 22 dX6_has_5 (by decide) (fun hc => ?_) (fun hc => ?_)
  · replace h := gg_th h hc
    refine gg_fg [false, false] [none, none] rfl ?_
    exact hk22 h
  · replace h := gg_el h hc
    refine gg_aload_n dX6_has_8 rfl ?_
    refine gg_get 0 fl_X6_18 dX6_has_9 rfl rfl ?_
    refine gg_iload_n dX6_has_12 rfl ?_
    obtain ⟨hb13, h⟩ := gg_ck h
    refine gg_iald 1 dX6_has_13 rfl hb13 ?_
    refine gg_iconst (-1 : Int32) dX6_has_14 (by decide) ?_
    refine gg_icmp_eq 22 dX6_has_15 (by decide) (fun hc => ?_) (fun hc => ?_)
    · replace h := gg_th h hc
      refine gg_fg [false, false] [none, none] rfl ?_
      exact hk22 h
    · replace h := gg_el h hc
      refine gg_iconst (1 : Int32) dX6_has_18 (by decide) ?_
      refine gg_goto 23 dX6_has_19 (by decide) ?_
      refine gg_fg [false, false] [none, none] rfl ?_
      exact hk23 (1 : Int32) h
def wd_X8_refusedMissing_s4 (c_latestFinding : Int32) (c_told : Int32) (c_above : Int64) (c_below : Int64) (c_found : Nat → Int32) (c_p1_most : Int32) (c_p1_sizes : Nat → Int32) : va_W := [(0, .inr (7, [.ref 1, .ref 10, .ref 17, .ref 19, .ref 27, .ref 35, .ref 43, .ref 45, .ref 52, .ref 56, .ref 60, .ref 67, .int c_latestFinding, .int c_told, .long c_above, .long c_below])), (67, .inl (0, 6, .inl c_found)), (100, .inr (5, [.int c_p1_most, .ref 101, .ref 102])), (102, .inl (0, 4, .inl c_p1_sizes))]
def MD_X8_refusedMissing_s4 : gg_M := (yX8_refusedMissing, cX8_refusedMissing, 3, some .int, 2, 42)
theorem nV_X8_refusedMissing_s4 : gg_nV MD_X8_refusedMissing_s4 2 := ⟨⟨gg_mem (by decide +kernel) rfl, gg_mem cw_X8_refusedMissing rfl, by decide, by decide, by decide +kernel⟩, gg_mem (by decide +kernel) rfl, gg_mem (by decide +kernel) rfl⟩
def f_X8_refusedMissing_s4 (a0 : Int32) (c_latestFinding : Int32) (c_found : Nat → Int32) (c_p1_sizes : Nat → Int32) : Option (Int32 × (Int32) × (Nat → Int32)) := (f_X6_knows_s4 a0).bind (fun v1 => (if v1 = (0 : Int32) then (some ((-1 : Int32), c_latestFinding, c_found)) else (f_X6_has_s4 a0 c_p1_sizes).bind (fun v2 => gg_lt (fun (s0_27 : Int32) (c_latestFinding_27 : Int32) (c_found_27 : Nat → Int32) => (some (s0_27, c_latestFinding_27, c_found_27))) (fun k27 => (if v2 = (0 : Int32) then (f_X8_find (1 : Int32) c_latestFinding c_found).bind (fun v3 => (k27 v3.1 v3.2.1 v3.2.2)) else (k27 (0 : Int32) c_latestFinding c_found))))))
set_option maxRecDepth 20000 in
set_option maxHeartbeats 4000000 in
theorem C_X8_refusedMissing_s4 (a0 : Int32) (c_latestFinding : Int32) (c_told : Int32) (c_above : Int64) (c_below : Int64) (c_found : Nat → Int32) (c_p1_most : Int32) (c_p1_sizes : Nat → Int32) {res : Int32 × (Int32) × (Nat → Int32)} (h : f_X8_refusedMissing_s4 a0 c_latestFinding c_found c_p1_sizes = some res) : gg_C MD_X8_refusedMissing_s4 [.ref 0, .ref 100, .int a0] (wd_X8_refusedMissing_s4 c_latestFinding c_told c_above c_below c_found c_p1_most c_p1_sizes) (some (.int res.1)) (wd_X8_refusedMissing_s4 res.2.1 c_told c_above c_below res.2.2 c_p1_most c_p1_sizes) := by
  refine gg_ofG [some (.ref 0), some (.ref 100), some (.int a0)] (by decide) (Nat.le_of_ble_eq_true rfl) rfl ?_
  unfold f_X8_refusedMissing_s4 at h
  refine gg_aload_n dX8_refusedMissing_0 rfl ?_
  refine gg_iload_n dX8_refusedMissing_1 rfl ?_
  obtain ⟨v1, hv1, h⟩ := gg_bd h
  refine gg_callV (gg_sg [100]) [2, 3] (wd_X8_refusedMissing_s4 c_latestFinding c_told c_above c_below c_found c_p1_most c_p1_sizes) 0 (C_X6_knows_s4 a0 c_p1_most c_p1_sizes hv1) nV_X6_knows_s4 ml_X8_115 rfl rfl rfl rfl rfl rfl rfl rfl rfl rfl rfl ⟨Nat.le_of_ble_eq_true rfl, Nat.le_of_ble_eq_true rfl⟩ (Nat.le_of_ble_eq_true rfl) dX8_refusedMissing_2 [.int v1] rfl rfl ?_
  refine gg_if_ne 10 dX8_refusedMissing_5 (by decide) (fun hc => ?_) (fun hc => ?_)
  · replace h := gg_el h hc
    refine gg_aload_n dX8_refusedMissing_10 rfl ?_
    refine gg_iload_n dX8_refusedMissing_11 rfl ?_
    obtain ⟨v2, hv2, h⟩ := gg_bd h
    refine gg_callV (gg_sg [100]) [2, 3] (wd_X8_refusedMissing_s4 c_latestFinding c_told c_above c_below c_found c_p1_most c_p1_sizes) 0 (C_X6_has_s4 a0 c_p1_most c_p1_sizes hv2) nV_X6_has_s4 ml_X8_123 rfl rfl rfl rfl rfl rfl rfl rfl rfl rfl rfl ⟨Nat.le_of_ble_eq_true rfl, Nat.le_of_ble_eq_true rfl⟩ (Nat.le_of_ble_eq_true rfl) dX8_refusedMissing_12 [.int v2] rfl rfl ?_
    obtain ⟨k27, hke27, h⟩ := gg_lte h
    have hk27 : ∀ (s0_27 : Int32) (c_latestFinding_27 : Int32) (c_found_27 : Nat → Int32), k27 s0_27 c_latestFinding_27 c_found_27 = some res → gg_G MD_X8_refusedMissing_s4 27 [none, none, none] [.int s0_27] (wd_X8_refusedMissing_s4 c_latestFinding_27 c_told c_above c_below c_found_27 c_p1_most c_p1_sizes) (some (.int res.1)) (wd_X8_refusedMissing_s4 res.2.1 c_told c_above c_below res.2.2 c_p1_most c_p1_sizes) := by
      intro s0_27 c_latestFinding_27 c_found_27 h
      subst hke27
      cases h
      exact gg_iret dX8_refusedMissing_27 rfl
    clear hke27
    refine gg_if_eq 22 dX8_refusedMissing_15 (by decide) (fun hc => ?_) (fun hc => ?_)
    · replace h := gg_th h hc
      refine gg_aload_n dX8_refusedMissing_22 rfl ?_
      refine gg_iconst (1 : Int32) dX8_refusedMissing_23 (by decide) ?_
      obtain ⟨v3, hv3, h⟩ := gg_bd h
      refine gg_callV (gg_sg [0]) [0, 1] (wd_X8_refusedMissing_s4 v3.2.1 c_told c_above c_below v3.2.2 c_p1_most c_p1_sizes) 0 (C_X8_find (1 : Int32) c_latestFinding c_told c_above c_below c_found hv3) nV_X8_find ml_X8_119 rfl rfl rfl rfl rfl rfl rfl rfl rfl rfl rfl ⟨Nat.le_of_ble_eq_true rfl, Nat.le_of_ble_eq_true rfl⟩ (Nat.le_of_ble_eq_true rfl) dX8_refusedMissing_24 [.int v3.1] rfl rfl ?_
      refine gg_fg [false, false, false] [none, none, none] rfl ?_
      exact hk27 v3.1 v3.2.1 v3.2.2 h
    · replace h := gg_el h hc
      refine gg_iconst (0 : Int32) dX8_refusedMissing_18 (by decide) ?_
      refine gg_goto 27 dX8_refusedMissing_19 (by decide) ?_
      refine gg_fg [false, false, false] [none, none, none] rfl ?_
      exact hk27 (0 : Int32) c_latestFinding c_found h
  · replace h := gg_th h hc
    refine gg_iconst (-1 : Int32) dX8_refusedMissing_8 (by decide) ?_
    cases h
    exact gg_iret dX8_refusedMissing_9 rfl
def wd_X8_refusedPlace_s4 (c_latestFinding : Int32) (c_told : Int32) (c_above : Int64) (c_below : Int64) (c_found : Nat → Int32) (c_p1_most : Int32) (c_p1_sizes : Nat → Int32) : va_W := [(0, .inr (7, [.ref 1, .ref 10, .ref 17, .ref 19, .ref 27, .ref 35, .ref 43, .ref 45, .ref 52, .ref 56, .ref 60, .ref 67, .int c_latestFinding, .int c_told, .long c_above, .long c_below])), (67, .inl (0, 6, .inl c_found)), (100, .inr (5, [.int c_p1_most, .ref 101, .ref 102])), (102, .inl (0, 4, .inl c_p1_sizes))]
def MD_X8_refusedPlace_s4 : gg_M := (yX8_refusedPlace, cX8_refusedPlace, 5, some .int, 3, 64)
theorem nV_X8_refusedPlace_s4 : gg_nV MD_X8_refusedPlace_s4 3 := ⟨⟨gg_mem (by decide +kernel) rfl, gg_mem cw_X8_refusedPlace rfl, by decide, by decide, by decide +kernel⟩, gg_mem (by decide +kernel) rfl, gg_mem (by decide +kernel) rfl⟩
def f_X8_refusedPlace_s4 (a0 : Int32) (a1 : Int32) (c_latestFinding : Int32) (c_found : Nat → Int32) (c_p1_sizes : Nat → Int32) : Option (Int32 × (Int32) × (Nat → Int32)) := (f_X8_refusedMissing_s4 a0 c_latestFinding c_found c_p1_sizes).bind (fun v1 => (if v1.1 = (0 : Int32) then (f_X6_holds_s4 a0 a1 c_p1_sizes).bind (fun v2 => gg_lt (fun (s0_34 : Int32) (c_latestFinding_34 : Int32) (c_found_34 : Nat → Int32) => (some (s0_34, c_latestFinding_34, c_found_34))) (fun k34 => (if v2 = (0 : Int32) then (f_X8_find (2 : Int32) v1.2.1 v1.2.2).bind (fun v3 => (k34 v3.1 v3.2.1 v3.2.2)) else (k34 (0 : Int32) v1.2.1 v1.2.2)))) else (some (v1.1, v1.2.1, v1.2.2))))
set_option maxRecDepth 20000 in
set_option maxHeartbeats 4000000 in
theorem C_X8_refusedPlace_s4 (a0 : Int32) (a1 : Int32) (c_latestFinding : Int32) (c_told : Int32) (c_above : Int64) (c_below : Int64) (c_found : Nat → Int32) (c_p1_most : Int32) (c_p1_sizes : Nat → Int32) {res : Int32 × (Int32) × (Nat → Int32)} (h : f_X8_refusedPlace_s4 a0 a1 c_latestFinding c_found c_p1_sizes = some res) : gg_C MD_X8_refusedPlace_s4 [.ref 0, .ref 100, .int a0, .int a1] (wd_X8_refusedPlace_s4 c_latestFinding c_told c_above c_below c_found c_p1_most c_p1_sizes) (some (.int res.1)) (wd_X8_refusedPlace_s4 res.2.1 c_told c_above c_below res.2.2 c_p1_most c_p1_sizes) := by
  refine gg_ofG [some (.ref 0), some (.ref 100), some (.int a0), some (.int a1), none] (by decide) (Nat.le_of_ble_eq_true rfl) rfl ?_
  unfold f_X8_refusedPlace_s4 at h
  refine gg_aload_n dX8_refusedPlace_0 rfl ?_
  refine gg_aload_n dX8_refusedPlace_1 rfl ?_
  refine gg_iload_n dX8_refusedPlace_2 rfl ?_
  obtain ⟨v1, hv1, h⟩ := gg_bd h
  refine gg_callV (gg_sg [0, 100]) [0, 1, 2, 3] (wd_X8_refusedPlace_s4 v1.2.1 c_told c_above c_below v1.2.2 c_p1_most c_p1_sizes) 0 (C_X8_refusedMissing_s4 a0 c_latestFinding c_told c_above c_below c_found c_p1_most c_p1_sizes hv1) nV_X8_refusedMissing_s4 ml_X8_108 rfl rfl rfl rfl rfl rfl rfl rfl rfl rfl rfl ⟨Nat.le_of_ble_eq_true rfl, Nat.le_of_ble_eq_true rfl⟩ (Nat.le_of_ble_eq_true rfl) dX8_refusedPlace_3 [.int v1.1] rfl rfl ?_
  refine gg_istore [some (.ref 0), some (.ref 100), some (.int a0), some (.int a1), some (.int v1.1)] dX8_refusedPlace_6 rfl (Nat.le_of_ble_eq_true rfl) rfl ?_
  refine gg_iload dX8_refusedPlace_8 rfl ?_
  refine gg_if_eq 16 dX8_refusedPlace_10 (by decide) (fun hc => ?_) (fun hc => ?_)
  · replace h := gg_th h hc
    refine gg_aload_n dX8_refusedPlace_16 rfl ?_
    refine gg_iload_n dX8_refusedPlace_17 rfl ?_
    refine gg_iload_n dX8_refusedPlace_18 rfl ?_
    obtain ⟨v2, hv2, h⟩ := gg_bd h
    refine gg_callV (gg_sg [100]) [2, 3] (wd_X8_refusedPlace_s4 v1.2.1 c_told c_above c_below v1.2.2 c_p1_most c_p1_sizes) 0 (C_X6_holds_s4 a0 a1 c_p1_most c_p1_sizes hv2) nV_X6_holds_s4 ml_X8_333 rfl rfl rfl rfl rfl rfl rfl rfl rfl rfl rfl ⟨Nat.le_of_ble_eq_true rfl, Nat.le_of_ble_eq_true rfl⟩ (Nat.le_of_ble_eq_true rfl) dX8_refusedPlace_19 [.int v2] rfl rfl ?_
    obtain ⟨k34, hke34, h⟩ := gg_lte h
    have hk34 : ∀ (s0_34 : Int32) (c_latestFinding_34 : Int32) (c_found_34 : Nat → Int32), k34 s0_34 c_latestFinding_34 c_found_34 = some res → gg_G MD_X8_refusedPlace_s4 34 [none, none, none, none, none] [.int s0_34] (wd_X8_refusedPlace_s4 c_latestFinding_34 c_told c_above c_below c_found_34 c_p1_most c_p1_sizes) (some (.int res.1)) (wd_X8_refusedPlace_s4 res.2.1 c_told c_above c_below res.2.2 c_p1_most c_p1_sizes) := by
      intro s0_34 c_latestFinding_34 c_found_34 h
      subst hke34
      cases h
      exact gg_iret dX8_refusedPlace_34 rfl
    clear hke34
    refine gg_if_eq 29 dX8_refusedPlace_22 (by decide) (fun hc => ?_) (fun hc => ?_)
    · replace h := gg_th h hc
      refine gg_aload_n dX8_refusedPlace_29 rfl ?_
      refine gg_iconst (2 : Int32) dX8_refusedPlace_30 (by decide) ?_
      obtain ⟨v3, hv3, h⟩ := gg_bd h
      refine gg_callV (gg_sg [0]) [0, 1] (wd_X8_refusedPlace_s4 v3.2.1 c_told c_above c_below v3.2.2 c_p1_most c_p1_sizes) 0 (C_X8_find (2 : Int32) v1.2.1 c_told c_above c_below v1.2.2 hv3) nV_X8_find ml_X8_119 rfl rfl rfl rfl rfl rfl rfl rfl rfl rfl rfl ⟨Nat.le_of_ble_eq_true rfl, Nat.le_of_ble_eq_true rfl⟩ (Nat.le_of_ble_eq_true rfl) dX8_refusedPlace_31 [.int v3.1] rfl rfl ?_
      refine gg_fg [false, false, false, false, false] [none, none, none, none, none] rfl ?_
      exact hk34 v3.1 v3.2.1 v3.2.2 h
    · replace h := gg_el h hc
      refine gg_iconst (0 : Int32) dX8_refusedPlace_25 (by decide) ?_
      refine gg_goto 34 dX8_refusedPlace_26 (by decide) ?_
      refine gg_fg [false, false, false, false, false] [none, none, none, none, none] rfl ?_
      exact hk34 (0 : Int32) v1.2.1 v1.2.2 h
  · replace h := gg_el h hc
    refine gg_iload dX8_refusedPlace_13 rfl ?_
    cases h
    exact gg_iret dX8_refusedPlace_15 rfl
def wd_X6_get_s4 (c_most : Int32) (c_sizes : Nat → Int32) (c_cells : Nat → Nat → Int32) : va_W := [(0, .inr (5, [.int c_most, .ref 1, .ref 2])), (1, .inl (4, 4, .inr (.inr (.inr (.inr (gg_rf 2 1)))))), (2, .inl (0, 4, .inl c_sizes)), (3, .inl (0, 60, .inl (c_cells 0))), (4, .inl (0, 60, .inl (c_cells 1))), (5, .inl (0, 60, .inl (c_cells 2))), (6, .inl (0, 60, .inl (c_cells 3)))]
def MD_X6_get_s4 : gg_M := (yX6_get, cX6_get, 3, some .int, 2, 43)
theorem nV_X6_get_s4 : gg_nV MD_X6_get_s4 2 := ⟨⟨gg_mem (by decide +kernel) rfl, gg_mem cw_X6_get rfl, by decide, by decide, by decide +kernel⟩, gg_mem (by decide +kernel) rfl, gg_mem (by decide +kernel) rfl⟩
def f_X6_get_s4 (a0 : Int32) (a1 : Int32) (c_sizes : Nat → Int32) (c_cells : Nat → Nat → Int32) : Option (Int32) := (f_X6_holds_s4 a0 a1 c_sizes).bind (fun v1 => gg_lt (fun (s0_21 : Int32) => (some s0_21)) (fun k21 => (if v1 = (0 : Int32) then (k21 (0 : Int32)) else gg_chk (gg_in a0 4) (gg_chk (gg_in a1 60) ((k21 (c_cells a0.toNatClampNeg a1.toNatClampNeg)))))))
set_option maxRecDepth 20000 in
set_option maxHeartbeats 4000000 in
theorem C_X6_get_s4 (a0 : Int32) (a1 : Int32) (c_most : Int32) (c_sizes : Nat → Int32) (c_cells : Nat → Nat → Int32) {res : Int32} (h : f_X6_get_s4 a0 a1 c_sizes c_cells = some res) : gg_C MD_X6_get_s4 [.ref 0, .int a0, .int a1] (wd_X6_get_s4 c_most c_sizes c_cells) (some (.int res)) (wd_X6_get_s4 c_most c_sizes c_cells) := by
  refine gg_ofG [some (.ref 0), some (.int a0), some (.int a1)] (by decide) (Nat.le_of_ble_eq_true rfl) rfl ?_
  unfold f_X6_get_s4 at h
  refine gg_aload_n dX6_get_0 rfl ?_
  refine gg_iload_n dX6_get_1 rfl ?_
  refine gg_iload_n dX6_get_2 rfl ?_
  obtain ⟨v1, hv1, h⟩ := gg_bd h
  refine gg_callV (gg_sg [0]) [0, 2] (wd_X6_get_s4 c_most c_sizes c_cells) 0 (C_X6_holds_s4 a0 a1 c_most c_sizes hv1) nV_X6_holds_s4 ml_X6_29 rfl rfl rfl rfl rfl rfl rfl rfl rfl rfl rfl ⟨Nat.le_of_ble_eq_true rfl, Nat.le_of_ble_eq_true rfl⟩ (Nat.le_of_ble_eq_true rfl) dX6_get_3 [.int v1] rfl rfl ?_
  obtain ⟨k21, hke21, h⟩ := gg_lte h
  have hk21 : ∀ (s0_21 : Int32), k21 s0_21 = some res → gg_G MD_X6_get_s4 21 [none, none, none] [.int s0_21] (wd_X6_get_s4 c_most c_sizes c_cells) (some (.int res)) (wd_X6_get_s4 c_most c_sizes c_cells) := by
    intro s0_21 h
    subst hke21
    cases h
    exact gg_iret dX6_get_21 rfl
  clear hke21
  refine gg_if_eq 20 dX6_get_6 (by decide) (fun hc => ?_) (fun hc => ?_)
  · replace h := gg_th h hc
    refine gg_iconst (0 : Int32) dX6_get_20 (by decide) ?_
    refine gg_fg [false, false, false] [none, none, none] rfl ?_
    exact hk21 (0 : Int32) h
  · replace h := gg_el h hc
    refine gg_aload_n dX6_get_9 rfl ?_
    refine gg_get 0 fl_X6_15 dX6_get_10 rfl rfl ?_
    refine gg_iload_n dX6_get_13 rfl ?_
    obtain ⟨hr14, h⟩ := gg_ck h
    refine gg_aldA 1 (3 + a0.toNatClampNeg) dX6_get_14 rfl hr14 rfl (gg_ad 1 2 _) ?_
    refine gg_iload_n dX6_get_15 rfl ?_
    obtain ⟨hb16, h⟩ := gg_ck h
    refine gg_iald (3 + a0.toNatClampNeg) dX6_get_16 (gg_rows4 rfl rfl rfl rfl (gg_in_lt hr14)) hb16 ?_
    refine gg_goto 21 dX6_get_17 (by decide) ?_
    refine gg_fg [false, false, false] [none, none, none] rfl ?_
    exact hk21 (c_cells a0.toNatClampNeg a1.toNatClampNeg) h
def wd_X8_put (c_latestFinding : Int32) (c_told : Int32) (c_above : Int64) (c_below : Int64) (c_texts_most : Int32) (c_texts_sizes : Nat → Int32) (c_texts_cells : Nat → Nat → Int32) (c_found : Nat → Int32) : va_W := [(0, .inr (7, [.ref 1, .ref 10, .ref 17, .ref 19, .ref 27, .ref 35, .ref 43, .ref 45, .ref 52, .ref 56, .ref 60, .ref 67, .int c_latestFinding, .int c_told, .long c_above, .long c_below])), (10, .inr (5, [.int c_texts_most, .ref 11, .ref 12])), (11, .inl (4, 4, .inr (.inr (.inr (.inr (gg_rf 2 1)))))), (12, .inl (0, 4, .inl c_texts_sizes)), (13, .inl (0, 60, .inl (c_texts_cells 0))), (14, .inl (0, 60, .inl (c_texts_cells 1))), (15, .inl (0, 60, .inl (c_texts_cells 2))), (16, .inl (0, 60, .inl (c_texts_cells 3))), (67, .inl (0, 6, .inl c_found))]
def MD_X8_put : gg_M := (yX8_put, cX8_put, 6, some .int, 4, 88)
theorem nV_X8_put : gg_nV MD_X8_put 3 := ⟨⟨gg_mem (by decide +kernel) rfl, gg_mem cw_X8_put rfl, by decide, by decide, by decide +kernel⟩, gg_mem (by decide +kernel) rfl, gg_mem (by decide +kernel) rfl⟩
def f_X8_put (a0 : Int32) (a1 : Int32) (a2 : Int32) (c_latestFinding : Int32) (c_texts_sizes : Nat → Int32) (c_texts_cells : Nat → Nat → Int32) (c_found : Nat → Int32) : Option (Int32 × (Int32) × (Nat → Nat → Int32) × (Nat → Int32)) := (f_X8_refusedPlace_s4 a0 a1 c_latestFinding c_found c_texts_sizes).bind (fun v1 => (if v1.1 = (0 : Int32) then (f_X6_get_s4 a0 a1 c_texts_sizes c_texts_cells).bind (fun v2 => (f_X6_set_s4 a0 a1 (a2.toInt8.toInt32) c_texts_sizes c_texts_cells).bind (fun v3 => (some ((v2 + (1000 : Int32)), v1.2.1, v3, v1.2.2)))) else (some (v1.1, v1.2.1, c_texts_cells, v1.2.2))))
set_option maxRecDepth 20000 in
set_option maxHeartbeats 4000000 in
theorem C_X8_put (a0 : Int32) (a1 : Int32) (a2 : Int32) (c_latestFinding : Int32) (c_told : Int32) (c_above : Int64) (c_below : Int64) (c_texts_most : Int32) (c_texts_sizes : Nat → Int32) (c_texts_cells : Nat → Nat → Int32) (c_found : Nat → Int32) {res : Int32 × (Int32) × (Nat → Nat → Int32) × (Nat → Int32)} (h : f_X8_put a0 a1 a2 c_latestFinding c_texts_sizes c_texts_cells c_found = some res) : gg_C MD_X8_put [.ref 0, .int a0, .int a1, .int a2] (wd_X8_put c_latestFinding c_told c_above c_below c_texts_most c_texts_sizes c_texts_cells c_found) (some (.int res.1)) (wd_X8_put res.2.1 c_told c_above c_below c_texts_most c_texts_sizes res.2.2.1 res.2.2.2) := by
  refine gg_ofG [some (.ref 0), some (.int a0), some (.int a1), some (.int a2), none, none] (by decide) (Nat.le_of_ble_eq_true rfl) rfl ?_
  unfold f_X8_put at h
  refine gg_aload_n dX8_put_0 rfl ?_
  refine gg_aload_n dX8_put_1 rfl ?_
  refine gg_get 0 fl_X8_18 dX8_put_2 rfl rfl ?_
  refine gg_iload_n dX8_put_5 rfl ?_
  refine gg_iload_n dX8_put_6 rfl ?_
  obtain ⟨v1, hv1, h⟩ := gg_bd h
  refine gg_callV (gg_sg [0, 10]) [0, 8, 1, 3] (wd_X8_put v1.2.1 c_told c_above c_below c_texts_most c_texts_sizes c_texts_cells v1.2.2) 0 (C_X8_refusedPlace_s4 a0 a1 c_latestFinding c_told c_above c_below c_found c_texts_most c_texts_sizes hv1) nV_X8_refusedPlace_s4 ml_X8_97 rfl rfl rfl rfl rfl rfl rfl rfl rfl rfl rfl ⟨Nat.le_of_ble_eq_true rfl, Nat.le_of_ble_eq_true rfl⟩ (Nat.le_of_ble_eq_true rfl) dX8_put_7 [.int v1.1] rfl rfl ?_
  refine gg_istore [some (.ref 0), some (.int a0), some (.int a1), some (.int a2), some (.int v1.1), none] dX8_put_10 rfl (Nat.le_of_ble_eq_true rfl) rfl ?_
  refine gg_iload dX8_put_12 rfl ?_
  refine gg_if_eq 20 dX8_put_14 (by decide) (fun hc => ?_) (fun hc => ?_)
  · replace h := gg_th h hc
    refine gg_aload_n dX8_put_20 rfl ?_
    refine gg_get 0 fl_X8_18 dX8_put_21 rfl rfl ?_
    refine gg_iload_n dX8_put_24 rfl ?_
    refine gg_iload_n dX8_put_25 rfl ?_
    obtain ⟨v2, hv2, h⟩ := gg_bd h
    refine gg_callV (gg_sg [10]) [1, 2, 3, 4, 5, 6, 7] (wd_X8_put v1.2.1 c_told c_above c_below c_texts_most c_texts_sizes c_texts_cells v1.2.2) 0 (C_X6_get_s4 a0 a1 c_texts_most c_texts_sizes c_texts_cells hv2) nV_X6_get_s4 ml_X8_100 rfl rfl rfl rfl rfl rfl rfl rfl rfl rfl rfl ⟨Nat.le_of_ble_eq_true rfl, Nat.le_of_ble_eq_true rfl⟩ (Nat.le_of_ble_eq_true rfl) dX8_put_26 [.int v2] rfl rfl ?_
    refine gg_istore [some (.ref 0), some (.int a0), some (.int a1), some (.int a2), some (.int v1.1), some (.int v2)] dX8_put_29 rfl (Nat.le_of_ble_eq_true rfl) rfl ?_
    refine gg_aload_n dX8_put_31 rfl ?_
    refine gg_get 0 fl_X8_18 dX8_put_32 rfl rfl ?_
    refine gg_iload_n dX8_put_35 rfl ?_
    refine gg_iload_n dX8_put_36 rfl ?_
    refine gg_iload_n dX8_put_37 rfl ?_
    refine gg_i2b dX8_put_38 ?_
    obtain ⟨v3, hv3, h⟩ := gg_bd h
    refine gg_callV (gg_sg [10]) [1, 2, 3, 4, 5, 6, 7] (wd_X8_put v1.2.1 c_told c_above c_below c_texts_most c_texts_sizes v3 v1.2.2) 0 (C_X6_set_s4 a0 a1 (a2.toInt8.toInt32) c_texts_most c_texts_sizes c_texts_cells hv3) nV_X6_set_s4 ml_X8_104 rfl rfl rfl rfl rfl rfl rfl rfl rfl rfl rfl ⟨Nat.le_of_ble_eq_true rfl, Nat.le_of_ble_eq_true rfl⟩ (Nat.le_of_ble_eq_true rfl) dX8_put_39 [] rfl rfl ?_
    refine gg_iload dX8_put_42 rfl ?_
    refine gg_sipush (1000 : Int32) dX8_put_44 (by decide) ?_
    refine gg_iadd dX8_put_47 ?_
    cases h
    exact gg_iret dX8_put_48 rfl
  · replace h := gg_el h hc
    refine gg_iload dX8_put_17 rfl ?_
    cases h
    exact gg_iret dX8_put_19 rfl
def wd_X6_size_s4 (c_most : Int32) (c_sizes : Nat → Int32) : va_W := [(0, .inr (5, [.int c_most, .ref 1, .ref 2])), (2, .inl (0, 4, .inl c_sizes))]
def MD_X6_size_s4 : gg_M := (yX6_size, cX6_size, 2, some .int, 1, 21)
theorem nV_X6_size_s4 : gg_nV MD_X6_size_s4 1 := ⟨⟨gg_mem (by decide +kernel) rfl, gg_mem cw_X6_size rfl, by decide, by decide, by decide +kernel⟩, gg_mem (by decide +kernel) rfl, gg_mem (by decide +kernel) rfl⟩
def f_X6_size_s4 (a0 : Int32) (c_sizes : Nat → Int32) : Option (Int32) := (f_X6_knows_s4 a0).bind (fun v1 => gg_lt (fun (s0_18 : Int32) => (some s0_18)) (fun k18 => (if v1 = (0 : Int32) then (k18 (-1 : Int32)) else gg_chk (gg_in a0 4) ((k18 (c_sizes a0.toNatClampNeg))))))
set_option maxRecDepth 20000 in
set_option maxHeartbeats 4000000 in
theorem C_X6_size_s4 (a0 : Int32) (c_most : Int32) (c_sizes : Nat → Int32) {res : Int32} (h : f_X6_size_s4 a0 c_sizes = some res) : gg_C MD_X6_size_s4 [.ref 0, .int a0] (wd_X6_size_s4 c_most c_sizes) (some (.int res)) (wd_X6_size_s4 c_most c_sizes) := by
  refine gg_ofG [some (.ref 0), some (.int a0)] (by decide) (Nat.le_of_ble_eq_true rfl) rfl ?_
  unfold f_X6_size_s4 at h
  refine gg_aload_n dX6_size_0 rfl ?_
  refine gg_iload_n dX6_size_1 rfl ?_
  obtain ⟨v1, hv1, h⟩ := gg_bd h
  refine gg_callV (gg_sg [0]) [0, 1] (wd_X6_size_s4 c_most c_sizes) 0 (C_X6_knows_s4 a0 c_most c_sizes hv1) nV_X6_knows_s4 ml_X6_22 rfl rfl rfl rfl rfl rfl rfl rfl rfl rfl rfl ⟨Nat.le_of_ble_eq_true rfl, Nat.le_of_ble_eq_true rfl⟩ (Nat.le_of_ble_eq_true rfl) dX6_size_2 [.int v1] rfl rfl ?_
  obtain ⟨k18, hke18, h⟩ := gg_lte h
  have hk18 : ∀ (s0_18 : Int32), k18 s0_18 = some res → gg_G MD_X6_size_s4 18 [none, none] [.int s0_18] (wd_X6_size_s4 c_most c_sizes) (some (.int res)) (wd_X6_size_s4 c_most c_sizes) := by
    intro s0_18 h
    subst hke18
    cases h
    exact gg_iret dX6_size_18 rfl
  clear hke18
  refine gg_if_eq 17 dX6_size_5 (by decide) (fun hc => ?_) (fun hc => ?_)
  · replace h := gg_th h hc
    refine gg_iconst (-1 : Int32) dX6_size_17 (by decide) ?_
    refine gg_fg [false, false] [none, none] rfl ?_
    exact hk18 (-1 : Int32) h
  · replace h := gg_el h hc
    refine gg_aload_n dX6_size_8 rfl ?_
    refine gg_get 0 fl_X6_18 dX6_size_9 rfl rfl ?_
    refine gg_iload_n dX6_size_12 rfl ?_
    obtain ⟨hb13, h⟩ := gg_ck h
    refine gg_iald 1 dX6_size_13 rfl hb13 ?_
    refine gg_goto 18 dX6_size_14 (by decide) ?_
    refine gg_fg [false, false] [none, none] rfl ?_
    exact hk18 (c_sizes a0.toNatClampNeg) h
def wd_J9_min_7cf53  : va_W := []
def MD_J9_min_7cf53 : gg_M := (yJ9_min_7cf53, cJ9_min_7cf53, 2, some .int, 0, 0)
theorem nS_J9_min_7cf53 : gg_nS MD_J9_min_7cf53 2 := ⟨⟨gg_mem (by decide +kernel) rfl, gg_mem cw_J9_min_7cf53 rfl, by decide, by decide, by decide +kernel⟩, gg_mem (by decide +kernel) rfl⟩
def f_J9_min_7cf53 (a0 : Int32) (a1 : Int32)  : Option (Int32) := gg_lt (fun (s0_10 : Int32) => (some s0_10)) (fun k10 => (if a1 < a0 then (k10 a1) else (k10 a0)))
set_option maxRecDepth 20000 in
set_option maxHeartbeats 4000000 in
theorem C_J9_min_7cf53 (a0 : Int32) (a1 : Int32)  {res : Int32} (h : f_J9_min_7cf53 a0 a1 = some res) : gg_C MD_J9_min_7cf53 [.int a0, .int a1] (wd_J9_min_7cf53) (some (.int res)) (wd_J9_min_7cf53) := by
  refine gg_ofG [some (.int a0), some (.int a1)] (by decide) (Nat.le_of_ble_eq_true rfl) rfl ?_
  unfold f_J9_min_7cf53 at h
  refine gg_iload_n dJ9_min_7cf53_0 rfl ?_
  refine gg_iload_n dJ9_min_7cf53_1 rfl ?_
  obtain ⟨k10, hke10, h⟩ := gg_lte h
  have hk10 : ∀ (s0_10 : Int32), k10 s0_10 = some res → gg_G MD_J9_min_7cf53 10 [none, none] [.int s0_10] (wd_J9_min_7cf53) (some (.int res)) (wd_J9_min_7cf53) := by
    intro s0_10 h
    subst hke10
    cases h
    exact gg_iret dJ9_min_7cf53_10 rfl
  clear hke10
  refine gg_icmp_gt 9 dJ9_min_7cf53_2 (by decide) (fun hc => ?_) (fun hc => ?_)
  · replace h := gg_th h hc
    refine gg_iload_n dJ9_min_7cf53_9 rfl ?_
    refine gg_fg [false, false] [none, none] rfl ?_
    exact hk10 a1 h
  · replace h := gg_el h hc
    refine gg_iload_n dJ9_min_7cf53_5 rfl ?_
    refine gg_goto 10 dJ9_min_7cf53_6 (by decide) ?_
    refine gg_fg [false, false] [none, none] rfl ?_
    exact hk10 a0 h
def wd_X2_clear (c_huts : Int32) (c_food : Int32) (c_due : Int32) (c_backs : Int32) : va_W := [(0, .inr (2, [.int c_huts, .int c_food, .int c_due, .ref 1, .ref 2, .ref 3, .ref 4, .ref 5, .ref 6, .ref 7, .int c_backs]))]
def MD_X2_clear : gg_M := (yX2_clear, cX2_clear, 1, none, 0, 0)
theorem nV_X2_clear : gg_nV MD_X2_clear 0 := ⟨⟨gg_mem (by decide +kernel) rfl, gg_mem cw_X2_clear rfl, by decide, by decide, by decide +kernel⟩, gg_mem (by decide +kernel) rfl, gg_mem (by decide +kernel) rfl⟩
def f_X2_clear  (c_huts : Int32) (c_food : Int32) (c_due : Int32) (c_backs : Int32) : Option ((Int32) × (Int32) × (Int32) × (Int32)) := (some ((0 : Int32), (0 : Int32), (0 : Int32), (0 : Int32)))
set_option maxRecDepth 20000 in
set_option maxHeartbeats 4000000 in
theorem C_X2_clear  (c_huts : Int32) (c_food : Int32) (c_due : Int32) (c_backs : Int32) {res : (Int32) × (Int32) × (Int32) × (Int32)} (h : f_X2_clear c_huts c_food c_due c_backs = some res) : gg_C MD_X2_clear [.ref 0] (wd_X2_clear c_huts c_food c_due c_backs) (none) (wd_X2_clear res.1 res.2.1 res.2.2.1 res.2.2.2) := by
  refine gg_ofG [some (.ref 0)] (by decide) (Nat.le_of_ble_eq_true rfl) rfl ?_
  unfold f_X2_clear at h
  refine gg_aload_n dX2_clear_0 rfl ?_
  refine gg_iconst (0 : Int32) dX2_clear_1 (by decide) ?_
  refine gg_putf 0 (wd_X2_clear (0 : Int32) c_food c_due c_backs) fl_X2_9 dX2_clear_2 rfl (Nat.le_of_ble_eq_true rfl) (fun _ => ⟨rfl, rfl⟩) rfl ?_
  refine gg_aload_n dX2_clear_5 rfl ?_
  refine gg_iconst (0 : Int32) dX2_clear_6 (by decide) ?_
  refine gg_putf 0 (wd_X2_clear (0 : Int32) (0 : Int32) c_due c_backs) fl_X2_15 dX2_clear_7 rfl (Nat.le_of_ble_eq_true rfl) (fun _ => ⟨rfl, rfl⟩) rfl ?_
  refine gg_aload_n dX2_clear_10 rfl ?_
  refine gg_iconst (0 : Int32) dX2_clear_11 (by decide) ?_
  refine gg_putf 0 (wd_X2_clear (0 : Int32) (0 : Int32) (0 : Int32) c_backs) fl_X2_18 dX2_clear_12 rfl (Nat.le_of_ble_eq_true rfl) (fun _ => ⟨rfl, rfl⟩) rfl ?_
  refine gg_aload_n dX2_clear_15 rfl ?_
  refine gg_iconst (0 : Int32) dX2_clear_16 (by decide) ?_
  refine gg_putf 0 (wd_X2_clear (0 : Int32) (0 : Int32) (0 : Int32) (0 : Int32)) fl_X2_43 dX2_clear_17 rfl (Nat.le_of_ble_eq_true rfl) (fun _ => ⟨rfl, rfl⟩) rfl ?_
  cases h
  exact gg_vret dX2_clear_20 rfl
def wd_X5_skipBlanks (c_size : Int32) (c_place : Int32) (c_signs : Nat → Int32) : va_W := [(0, .inr (4, [.ref 1, .int c_size, .int c_place])), (1, .inl (0, 60, .inl c_signs))]
def MD_X5_skipBlanks : gg_M := (yX5_skipBlanks, cX5_skipBlanks, 1, none, 0, 0)
theorem nV_X5_skipBlanks : gg_nV MD_X5_skipBlanks 0 := ⟨⟨gg_mem (by decide +kernel) rfl, gg_mem cw_X5_skipBlanks rfl, by decide, by decide, by decide +kernel⟩, gg_mem (by decide +kernel) rfl, gg_mem (by decide +kernel) rfl⟩
def lp_X5_skipBlanks_0 {β : Type} (c_size : Int32) (c_signs : Nat → Int32) (k38 : (Int32) → Option β) : Nat → (Int32) → Option β
  | 0, _ => none
  | n + 1, c_place_0 => (if c_size ≤ c_place_0 then (k38 c_place_0) else gg_chk (gg_in c_place_0 60) ((if (c_signs c_place_0.toNatClampNeg) = (32 : Int32) then (lp_X5_skipBlanks_0 c_size c_signs k38 n (c_place_0 + (1 : Int32))) else (k38 c_place_0))))
def f_X5_skipBlanks  (c_size : Int32) (c_place : Int32) (c_signs : Nat → Int32) : Option ((Int32)) := (lp_X5_skipBlanks_0 c_size c_signs (fun (c_place_38 : Int32) => (some c_place_38)) gg_fuel c_place)
set_option maxRecDepth 20000 in
set_option maxHeartbeats 4000000 in
theorem lq_X5_skipBlanks_0 {β : Type} {res : β} {rr : Option Value} {ww : va_W} (c_size : Int32) (c_signs : Nat → Int32) (k38 : (Int32) → Option β) (hk38 : ∀ (c_place_38 : Int32), k38 c_place_38 = some res → gg_G MD_X5_skipBlanks 38 [none] [] (wd_X5_skipBlanks c_size c_place_38 c_signs) rr ww) : ∀ (n : Nat) (c_place_0 : Int32), lp_X5_skipBlanks_0 c_size c_signs k38 n c_place_0 = some res → gg_G MD_X5_skipBlanks 0 [some (.ref 0)] [] (wd_X5_skipBlanks c_size c_place_0 c_signs) rr ww := by
  intro n
  induction n with
  | zero =>
    intro c_place_0 h
    exact nomatch (show (none : Option β) = some res from h)
  | succ n ih =>
    intro c_place_0 h
    rw [lp_X5_skipBlanks_0] at h
    refine gg_aload_n dX5_skipBlanks_0 rfl ?_
    refine gg_get 0 fl_X5_19 dX5_skipBlanks_1 rfl rfl ?_
    refine gg_aload_n dX5_skipBlanks_4 rfl ?_
    refine gg_get 0 fl_X5_15 dX5_skipBlanks_5 rfl rfl ?_
    refine gg_icmp_ge 38 dX5_skipBlanks_8 (by decide) (fun hc => ?_) (fun hc => ?_)
    · replace h := gg_th h hc
      refine gg_fg [false] [none] rfl ?_
      exact hk38 c_place_0 h
    · replace h := gg_el h hc
      refine gg_aload_n dX5_skipBlanks_11 rfl ?_
      refine gg_get 0 fl_X5_9 dX5_skipBlanks_12 rfl rfl ?_
      refine gg_aload_n dX5_skipBlanks_15 rfl ?_
      refine gg_get 0 fl_X5_19 dX5_skipBlanks_16 rfl rfl ?_
      obtain ⟨hb19, h⟩ := gg_ck h
      refine gg_iald 1 dX5_skipBlanks_19 rfl hb19 ?_
      refine gg_bipush (32 : Int32) dX5_skipBlanks_20 (by decide) ?_
      refine gg_icmp_ne 38 dX5_skipBlanks_22 (by decide) (fun hc => ?_) (fun hc => ?_)
      · replace h := gg_el h hc
        refine gg_fg [false] [none] rfl ?_
        exact hk38 c_place_0 h
      · replace h := gg_th h hc
        refine gg_aload_n dX5_skipBlanks_25 rfl ?_
        refine gg_dup dX5_skipBlanks_26 rfl ?_
        refine gg_get 0 fl_X5_19 dX5_skipBlanks_27 rfl rfl ?_
        refine gg_iconst (1 : Int32) dX5_skipBlanks_30 (by decide) ?_
        refine gg_iadd dX5_skipBlanks_31 ?_
        refine gg_putf 0 (wd_X5_skipBlanks c_size (c_place_0 + (1 : Int32)) c_signs) fl_X5_19 dX5_skipBlanks_32 rfl (Nat.le_of_ble_eq_true rfl) (fun _ => ⟨rfl, rfl⟩) rfl ?_
        refine gg_goto 0 dX5_skipBlanks_35 (by decide) ?_
        exact ih (c_place_0 + (1 : Int32)) h
set_option maxRecDepth 20000 in
set_option maxHeartbeats 4000000 in
theorem C_X5_skipBlanks  (c_size : Int32) (c_place : Int32) (c_signs : Nat → Int32) {res : (Int32)} (h : f_X5_skipBlanks c_size c_place c_signs = some res) : gg_C MD_X5_skipBlanks [.ref 0] (wd_X5_skipBlanks c_size c_place c_signs) (none) (wd_X5_skipBlanks c_size res c_signs) := by
  refine gg_ofG [some (.ref 0)] (by decide) (Nat.le_of_ble_eq_true rfl) rfl ?_
  unfold f_X5_skipBlanks at h
  refine lq_X5_skipBlanks_0 c_size c_signs _ ?_ gg_fuel c_place h
  intro c_place_38 h
  cases h
  exact gg_vret dX5_skipBlanks_38 rfl
def wd_X5_sign (c_size : Int32) (c_place : Int32) (c_signs : Nat → Int32) : va_W := [(0, .inr (4, [.ref 1, .int c_size, .int c_place])), (1, .inl (0, 60, .inl c_signs))]
def MD_X5_sign : gg_M := (yX5_sign, cX5_sign, 1, some .int, 0, 0)
theorem nV_X5_sign : gg_nV MD_X5_sign 0 := ⟨⟨gg_mem (by decide +kernel) rfl, gg_mem cw_X5_sign rfl, by decide, by decide, by decide +kernel⟩, gg_mem (by decide +kernel) rfl, gg_mem (by decide +kernel) rfl⟩
def f_X5_sign  (c_size : Int32) (c_place : Int32) (c_signs : Nat → Int32) : Option (Int32) := gg_lt (fun (s0_25 : Int32) => (some s0_25)) (fun k25 => (if c_size ≤ c_place then (k25 (-9 : Int32)) else gg_chk (gg_in c_place 60) ((k25 (c_signs c_place.toNatClampNeg)))))
set_option maxRecDepth 20000 in
set_option maxHeartbeats 4000000 in
theorem C_X5_sign  (c_size : Int32) (c_place : Int32) (c_signs : Nat → Int32) {res : Int32} (h : f_X5_sign c_size c_place c_signs = some res) : gg_C MD_X5_sign [.ref 0] (wd_X5_sign c_size c_place c_signs) (some (.int res)) (wd_X5_sign c_size c_place c_signs) := by
  refine gg_ofG [some (.ref 0)] (by decide) (Nat.le_of_ble_eq_true rfl) rfl ?_
  unfold f_X5_sign at h
  refine gg_aload_n dX5_sign_0 rfl ?_
  refine gg_get 0 fl_X5_19 dX5_sign_1 rfl rfl ?_
  refine gg_aload_n dX5_sign_4 rfl ?_
  refine gg_get 0 fl_X5_15 dX5_sign_5 rfl rfl ?_
  obtain ⟨k25, hke25, h⟩ := gg_lte h
  have hk25 : ∀ (s0_25 : Int32), k25 s0_25 = some res → gg_G MD_X5_sign 25 [none] [.int s0_25] (wd_X5_sign c_size c_place c_signs) (some (.int res)) (wd_X5_sign c_size c_place c_signs) := by
    intro s0_25 h
    subst hke25
    cases h
    exact gg_iret dX5_sign_25 rfl
  clear hke25
  refine gg_icmp_ge 23 dX5_sign_8 (by decide) (fun hc => ?_) (fun hc => ?_)
  · replace h := gg_th h hc
    refine gg_bipush (-9 : Int32) dX5_sign_23 (by decide) ?_
    refine gg_fg [false] [none] rfl ?_
    exact hk25 (-9 : Int32) h
  · replace h := gg_el h hc
    refine gg_aload_n dX5_sign_11 rfl ?_
    refine gg_get 0 fl_X5_9 dX5_sign_12 rfl rfl ?_
    refine gg_aload_n dX5_sign_15 rfl ?_
    refine gg_get 0 fl_X5_19 dX5_sign_16 rfl rfl ?_
    obtain ⟨hb19, h⟩ := gg_ck h
    refine gg_iald 1 dX5_sign_19 rfl hb19 ?_
    refine gg_goto 25 dX5_sign_20 (by decide) ?_
    refine gg_fg [false] [none] rfl ?_
    exact hk25 (c_signs c_place.toNatClampNeg) h
def wd_X5_readFigure (c_size : Int32) (c_place : Int32) (c_signs : Nat → Int32) : va_W := [(0, .inr (4, [.ref 1, .int c_size, .int c_place])), (1, .inl (0, 60, .inl c_signs))]
def MD_X5_readFigure : gg_M := (yX5_readFigure, cX5_readFigure, 2, some .int, 1, 20)
theorem nV_X5_readFigure : gg_nV MD_X5_readFigure 0 := ⟨⟨gg_mem (by decide +kernel) rfl, gg_mem cw_X5_readFigure rfl, by decide, by decide, by decide +kernel⟩, gg_mem (by decide +kernel) rfl, gg_mem (by decide +kernel) rfl⟩
def f_X5_readFigure  (c_size : Int32) (c_place : Int32) (c_signs : Nat → Int32) : Option (Int32 × (Int32)) := (f_X5_sign c_size c_place c_signs).bind (fun v1 => gg_lt ((some ((-9 : Int32), c_place))) (fun k18 => (if (v1 - (48 : Int32)) < (0 : Int32) then k18 else (if (v1 - (48 : Int32)) ≤ (9 : Int32) then (some ((v1 - (48 : Int32)), (c_place + (1 : Int32)))) else k18))))
set_option maxRecDepth 20000 in
set_option maxHeartbeats 4000000 in
theorem C_X5_readFigure  (c_size : Int32) (c_place : Int32) (c_signs : Nat → Int32) {res : Int32 × (Int32)} (h : f_X5_readFigure c_size c_place c_signs = some res) : gg_C MD_X5_readFigure [.ref 0] (wd_X5_readFigure c_size c_place c_signs) (some (.int res.1)) (wd_X5_readFigure c_size res.2 c_signs) := by
  refine gg_ofG [some (.ref 0), none] (by decide) (Nat.le_of_ble_eq_true rfl) rfl ?_
  unfold f_X5_readFigure at h
  refine gg_aload_n dX5_readFigure_0 rfl ?_
  obtain ⟨v1, hv1, h⟩ := gg_bd h
  refine gg_callV (gg_sg [0]) [0, 1] (wd_X5_readFigure c_size c_place c_signs) 0 (C_X5_sign c_size c_place c_signs hv1) nV_X5_sign ml_X5_51 rfl rfl rfl rfl rfl rfl rfl rfl rfl rfl rfl ⟨Nat.le_of_ble_eq_true rfl, Nat.le_of_ble_eq_true rfl⟩ (Nat.le_of_ble_eq_true rfl) dX5_readFigure_1 [.int v1] rfl rfl ?_
  refine gg_bipush (48 : Int32) dX5_readFigure_4 (by decide) ?_
  refine gg_isub dX5_readFigure_6 ?_
  refine gg_istore_n [some (.ref 0), some (.int (v1 - (48 : Int32)))] dX5_readFigure_7 rfl (Nat.le_of_ble_eq_true rfl) rfl ?_
  refine gg_iload_n dX5_readFigure_8 rfl ?_
  obtain ⟨k18, hke18, h⟩ := gg_lte h
  have hk18 : k18 = some res → gg_G MD_X5_readFigure 18 [none, none] [] (wd_X5_readFigure c_size c_place c_signs) (some (.int res.1)) (wd_X5_readFigure c_size res.2 c_signs) := by
    intro  h
    subst hke18
    refine gg_bipush (-9 : Int32) dX5_readFigure_18 (by decide) ?_
    cases h
    exact gg_iret dX5_readFigure_20 rfl
  clear hke18
  refine gg_if_lt 18 dX5_readFigure_9 (by decide) (fun hc => ?_) (fun hc => ?_)
  · replace h := gg_th h hc
    refine gg_fg [false, false] [none, none] rfl ?_
    exact hk18 h
  · replace h := gg_el h hc
    refine gg_iload_n dX5_readFigure_12 rfl ?_
    refine gg_bipush (9 : Int32) dX5_readFigure_13 (by decide) ?_
    refine gg_icmp_le 21 dX5_readFigure_15 (by decide) (fun hc => ?_) (fun hc => ?_)
    · replace h := gg_th h hc
      refine gg_aload_n dX5_readFigure_21 rfl ?_
      refine gg_dup dX5_readFigure_22 rfl ?_
      refine gg_get 0 fl_X5_19 dX5_readFigure_23 rfl rfl ?_
      refine gg_iconst (1 : Int32) dX5_readFigure_26 (by decide) ?_
      refine gg_iadd dX5_readFigure_27 ?_
      refine gg_putf 0 (wd_X5_readFigure c_size (c_place + (1 : Int32)) c_signs) fl_X5_19 dX5_readFigure_28 rfl (Nat.le_of_ble_eq_true rfl) (fun _ => ⟨rfl, rfl⟩) rfl ?_
      refine gg_iload_n dX5_readFigure_31 rfl ?_
      cases h
      exact gg_iret dX5_readFigure_32 rfl
    · replace h := gg_el h hc
      refine gg_fg [false, false] [none, none] rfl ?_
      exact hk18 h
def wd_X5_readFood (c_size : Int32) (c_place : Int32) (c_signs : Nat → Int32) (c_p1_huts : Int32) (c_p1_food : Int32) (c_p1_due : Int32) (c_p1_backs : Int32) : va_W := [(0, .inr (4, [.ref 1, .int c_size, .int c_place])), (1, .inl (0, 60, .inl c_signs)), (100, .inr (2, [.int c_p1_huts, .int c_p1_food, .int c_p1_due, .ref 101, .ref 102, .ref 103, .ref 104, .ref 105, .ref 106, .ref 107, .int c_p1_backs]))]
def MD_X5_readFood : gg_M := (yX5_readFood, cX5_readFood, 4, some .boolean, 2, 41)
theorem nV_X5_readFood : gg_nV MD_X5_readFood 1 := ⟨⟨gg_mem (by decide +kernel) rfl, gg_mem cw_X5_readFood rfl, by decide, by decide, by decide +kernel⟩, gg_mem (by decide +kernel) rfl, gg_mem (by decide +kernel) rfl⟩
def f_X5_readFood  (c_size : Int32) (c_place : Int32) (c_signs : Nat → Int32) (c_p1_food : Int32) : Option (Int32 × (Int32) × (Int32)) := (f_X5_readFigure c_size c_place c_signs).bind (fun v1 => gg_lt (fun (s0_20 : Int32) (c_place_20 : Int32) => (if s0_20 = (-9 : Int32) then (some ((0 : Int32), c_place_20, c_p1_food)) else (if (((10 : Int32) * v1.1) + s0_20) ≤ (40 : Int32) then (some ((1 : Int32), c_place_20, (((10 : Int32) * v1.1) + s0_20))) else (some ((0 : Int32), (c_place_20 - (2 : Int32)), (((10 : Int32) * v1.1) + s0_20)))))) (fun k20 => (if v1.1 = (-9 : Int32) then (k20 (-9 : Int32) v1.2) else (f_X5_readFigure c_size v1.2 c_signs).bind (fun v2 => (k20 v2.1 v2.2)))))
set_option maxRecDepth 20000 in
set_option maxHeartbeats 4000000 in
theorem C_X5_readFood  (c_size : Int32) (c_place : Int32) (c_signs : Nat → Int32) (c_p1_huts : Int32) (c_p1_food : Int32) (c_p1_due : Int32) (c_p1_backs : Int32) {res : Int32 × (Int32) × (Int32)} (h : f_X5_readFood c_size c_place c_signs c_p1_food = some res) : gg_C MD_X5_readFood [.ref 0, .ref 100] (wd_X5_readFood c_size c_place c_signs c_p1_huts c_p1_food c_p1_due c_p1_backs) (some (.int res.1)) (wd_X5_readFood c_size res.2.1 c_signs c_p1_huts res.2.2 c_p1_due c_p1_backs) := by
  refine gg_ofG [some (.ref 0), some (.ref 100), none, none] (by decide) (Nat.le_of_ble_eq_true rfl) rfl ?_
  unfold f_X5_readFood at h
  refine gg_aload_n dX5_readFood_0 rfl ?_
  obtain ⟨v1, hv1, h⟩ := gg_bd h
  refine gg_callV (gg_sg [0]) [0, 1] (wd_X5_readFood c_size v1.2 c_signs c_p1_huts c_p1_food c_p1_due c_p1_backs) 0 (C_X5_readFigure c_size c_place c_signs hv1) nV_X5_readFigure ml_X5_58 rfl rfl rfl rfl rfl rfl rfl rfl rfl rfl rfl ⟨Nat.le_of_ble_eq_true rfl, Nat.le_of_ble_eq_true rfl⟩ (Nat.le_of_ble_eq_true rfl) dX5_readFood_1 [.int v1.1] rfl rfl ?_
  refine gg_istore_n [some (.ref 0), some (.ref 100), some (.int v1.1), none] dX5_readFood_4 rfl (Nat.le_of_ble_eq_true rfl) rfl ?_
  refine gg_iload_n dX5_readFood_5 rfl ?_
  refine gg_bipush (-9 : Int32) dX5_readFood_6 (by decide) ?_
  obtain ⟨k20, hke20, h⟩ := gg_lte h
  have hk20 : ∀ (s0_20 : Int32) (c_place_20 : Int32), k20 s0_20 c_place_20 = some res → gg_G MD_X5_readFood 20 [some (.ref 0), some (.ref 100), some (.int v1.1), none] [.int s0_20] (wd_X5_readFood c_size c_place_20 c_signs c_p1_huts c_p1_food c_p1_due c_p1_backs) (some (.int res.1)) (wd_X5_readFood c_size res.2.1 c_signs c_p1_huts res.2.2 c_p1_due c_p1_backs) := by
    intro s0_20 c_place_20 h
    subst hke20
    refine gg_istore_n [some (.ref 0), some (.ref 100), some (.int v1.1), some (.int s0_20)] dX5_readFood_20 rfl (Nat.le_of_ble_eq_true rfl) rfl ?_
    refine gg_iload_n dX5_readFood_21 rfl ?_
    refine gg_bipush (-9 : Int32) dX5_readFood_22 (by decide) ?_
    refine gg_icmp_ne 29 dX5_readFood_24 (by decide) (fun hc => ?_) (fun hc => ?_)
    · replace h := gg_el h hc
      refine gg_aload_n dX5_readFood_29 rfl ?_
      refine gg_bipush (10 : Int32) dX5_readFood_30 (by decide) ?_
      refine gg_iload_n dX5_readFood_32 rfl ?_
      refine gg_imul dX5_readFood_33 ?_
      refine gg_iload_n dX5_readFood_34 rfl ?_
      refine gg_iadd dX5_readFood_35 ?_
      refine gg_putf 2 (wd_X5_readFood c_size c_place_20 c_signs c_p1_huts (((10 : Int32) * v1.1) + s0_20) c_p1_due c_p1_backs) fl_X5_64 dX5_readFood_36 rfl (Nat.le_of_ble_eq_true rfl) (fun _ => ⟨rfl, rfl⟩) rfl ?_
      refine gg_aload_n dX5_readFood_39 rfl ?_
      refine gg_get 2 fl_X5_64 dX5_readFood_40 rfl rfl ?_
      refine gg_bipush (40 : Int32) dX5_readFood_43 (by decide) ?_
      refine gg_icmp_le 60 dX5_readFood_45 (by decide) (fun hc => ?_) (fun hc => ?_)
      · replace h := gg_th h hc
        refine gg_iconst (1 : Int32) dX5_readFood_60 (by decide) ?_
        cases h
        exact gg_zret dX5_readFood_61 rfl rfl
      · replace h := gg_el h hc
        refine gg_aload_n dX5_readFood_48 rfl ?_
        refine gg_dup dX5_readFood_49 rfl ?_
        refine gg_get 0 fl_X5_19 dX5_readFood_50 rfl rfl ?_
        refine gg_iconst (2 : Int32) dX5_readFood_53 (by decide) ?_
        refine gg_isub dX5_readFood_54 ?_
        refine gg_putf 0 (wd_X5_readFood c_size (c_place_20 - (2 : Int32)) c_signs c_p1_huts (((10 : Int32) * v1.1) + s0_20) c_p1_due c_p1_backs) fl_X5_19 dX5_readFood_55 rfl (Nat.le_of_ble_eq_true rfl) (fun _ => ⟨rfl, rfl⟩) rfl ?_
        refine gg_iconst (0 : Int32) dX5_readFood_58 (by decide) ?_
        cases h
        exact gg_zret dX5_readFood_59 rfl rfl
    · replace h := gg_th h hc
      refine gg_iconst (0 : Int32) dX5_readFood_27 (by decide) ?_
      cases h
      exact gg_zret dX5_readFood_28 rfl rfl
  clear hke20
  refine gg_icmp_ne 16 dX5_readFood_8 (by decide) (fun hc => ?_) (fun hc => ?_)
  · replace h := gg_el h hc
    refine gg_aload_n dX5_readFood_16 rfl ?_
    obtain ⟨v2, hv2, h⟩ := gg_bd h
    refine gg_callV (gg_sg [0]) [0, 1] (wd_X5_readFood c_size v2.2 c_signs c_p1_huts c_p1_food c_p1_due c_p1_backs) 0 (C_X5_readFigure c_size v1.2 c_signs hv2) nV_X5_readFigure ml_X5_58 rfl rfl rfl rfl rfl rfl rfl rfl rfl rfl rfl ⟨Nat.le_of_ble_eq_true rfl, Nat.le_of_ble_eq_true rfl⟩ (Nat.le_of_ble_eq_true rfl) dX5_readFood_17 [.int v2.1] rfl rfl ?_
    exact hk20 v2.1 v2.2 h
  · replace h := gg_th h hc
    refine gg_bipush (-9 : Int32) dX5_readFood_11 (by decide) ?_
    refine gg_goto 20 dX5_readFood_13 (by decide) ?_
    exact hk20 (-9 : Int32) v1.2 h
def wd_X5_readHead (c_size : Int32) (c_place : Int32) (c_signs : Nat → Int32) (c_p1_huts : Int32) (c_p1_food : Int32) (c_p1_due : Int32) (c_p1_backs : Int32) (c_p1_winds : Nat → Int32) : va_W := [(0, .inr (4, [.ref 1, .int c_size, .int c_place])), (1, .inl (0, 60, .inl c_signs)), (100, .inr (2, [.int c_p1_huts, .int c_p1_food, .int c_p1_due, .ref 101, .ref 102, .ref 103, .ref 104, .ref 105, .ref 106, .ref 107, .int c_p1_backs])), (101, .inl (0, 4, .inl c_p1_winds))]
def MD_X5_readHead : gg_M := (yX5_readHead, cX5_readHead, 4, some .boolean, 3, 64)
theorem nV_X5_readHead : gg_nV MD_X5_readHead 1 := ⟨⟨gg_mem (by decide +kernel) rfl, gg_mem cw_X5_readHead rfl, by decide, by decide, by decide +kernel⟩, gg_mem (by decide +kernel) rfl, gg_mem (by decide +kernel) rfl⟩
def lp_X5_readHead_27 {β : Type} (c_size : Int32) (c_signs : Nat → Int32) (k47 : (Int32) → (Nat → Int32) → Option β) (k62 : (Int32) → (Nat → Int32) → Option β) : Nat → (Int32) → (Int32) → (Nat → Int32) → Option β
  | 0, _, _, _ => none
  | n + 1, x2_27, c_place_27, c_p1_winds_27 => (if (4 : Int32) ≤ x2_27 then (k62 c_place_27 c_p1_winds_27) else (f_X5_readFigure c_size c_place_27 c_signs).bind (fun v3 => (if v3.1 = (-9 : Int32) then (k47 v3.2 c_p1_winds_27) else gg_chk (gg_in x2_27 4) ((lp_X5_readHead_27 c_size c_signs k47 k62 n (x2_27 + (1 : Int32)) v3.2 (upd c_p1_winds_27 x2_27.toNatClampNeg v3.1))))))
def f_X5_readHead  (c_size : Int32) (c_place : Int32) (c_signs : Nat → Int32) (c_p1_food : Int32) (c_p1_winds : Nat → Int32) : Option (Int32 × (Int32) × (Int32) × (Nat → Int32)) := (f_X5_skipBlanks c_size c_place c_signs).bind (fun v1 => (f_X5_sign c_size v1 c_signs).bind (fun v2 => (if v2 = (102 : Int32) then (lp_X5_readHead_27 c_size c_signs (fun (c_place_47 : Int32) (c_p1_winds_47 : Nat → Int32) => (some ((0 : Int32), c_place_47, c_p1_food, c_p1_winds_47))) (fun (c_place_62 : Int32) (c_p1_winds_62 : Nat → Int32) => (f_X5_readFood c_size c_place_62 c_signs c_p1_food).bind (fun v4 => gg_chk (gg_isb v4.1) (some (v4.1, v4.2.1, v4.2.2, c_p1_winds_62)))) gg_fuel (0 : Int32) (v1 + (1 : Int32)) c_p1_winds) else (some ((0 : Int32), v1, c_p1_food, c_p1_winds)))))
set_option maxRecDepth 20000 in
set_option maxHeartbeats 4000000 in
theorem lq_X5_readHead_27 {β : Type} {res : β} {rr : Option Value} {ww : va_W} (c_size : Int32) (c_signs : Nat → Int32) (c_p1_huts : Int32) (c_p1_food : Int32) (c_p1_due : Int32) (c_p1_backs : Int32) (k47 : (Int32) → (Nat → Int32) → Option β) (k62 : (Int32) → (Nat → Int32) → Option β) (hk47 : ∀ (c_place_47 : Int32) (c_p1_winds_47 : Nat → Int32), k47 c_place_47 c_p1_winds_47 = some res → gg_G MD_X5_readHead 47 [none, none, none, none] [] (wd_X5_readHead c_size c_place_47 c_signs c_p1_huts c_p1_food c_p1_due c_p1_backs c_p1_winds_47) rr ww) (hk62 : ∀ (c_place_62 : Int32) (c_p1_winds_62 : Nat → Int32), k62 c_place_62 c_p1_winds_62 = some res → gg_G MD_X5_readHead 62 [some (.ref 0), some (.ref 100), none, none] [] (wd_X5_readHead c_size c_place_62 c_signs c_p1_huts c_p1_food c_p1_due c_p1_backs c_p1_winds_62) rr ww) : ∀ (n : Nat) (x2_27 : Int32) (c_place_27 : Int32) (c_p1_winds_27 : Nat → Int32), lp_X5_readHead_27 c_size c_signs k47 k62 n x2_27 c_place_27 c_p1_winds_27 = some res → gg_G MD_X5_readHead 27 [some (.ref 0), some (.ref 100), some (.int x2_27), none] [] (wd_X5_readHead c_size c_place_27 c_signs c_p1_huts c_p1_food c_p1_due c_p1_backs c_p1_winds_27) rr ww := by
  intro n
  induction n with
  | zero =>
    intro x2_27 c_place_27 c_p1_winds_27 h
    exact nomatch (show (none : Option β) = some res from h)
  | succ n ih =>
    intro x2_27 c_place_27 c_p1_winds_27 h
    rw [lp_X5_readHead_27] at h
    refine gg_iload_n dX5_readHead_27 rfl ?_
    refine gg_aload_n dX5_readHead_28 rfl ?_
    refine gg_get 2 fl_X5_55 dX5_readHead_29 rfl rfl ?_
    refine gg_alen (4 : Int32) 3 dX5_readHead_32 rfl (by decide) rfl ?_
    refine gg_icmp_ge 62 dX5_readHead_33 (by decide) (fun hc => ?_) (fun hc => ?_)
    · replace h := gg_th h hc
      refine gg_fg [true, true, false, false] [some (.ref 0), some (.ref 100), none, none] rfl ?_
      exact hk62 c_place_27 c_p1_winds_27 h
    · replace h := gg_el h hc
      refine gg_aload_n dX5_readHead_36 rfl ?_
      obtain ⟨v3, hv3, h⟩ := gg_bd h
      refine gg_callV (gg_sg [0]) [0, 1] (wd_X5_readHead c_size v3.2 c_signs c_p1_huts c_p1_food c_p1_due c_p1_backs c_p1_winds_27) 0 (C_X5_readFigure c_size c_place_27 c_signs hv3) nV_X5_readFigure ml_X5_58 rfl rfl rfl rfl rfl rfl rfl rfl rfl rfl rfl ⟨Nat.le_of_ble_eq_true rfl, Nat.le_of_ble_eq_true rfl⟩ (Nat.le_of_ble_eq_true rfl) dX5_readHead_37 [.int v3.1] rfl rfl ?_
      refine gg_istore_n [some (.ref 0), some (.ref 100), some (.int x2_27), some (.int v3.1)] dX5_readHead_40 rfl (Nat.le_of_ble_eq_true rfl) rfl ?_
      refine gg_iload_n dX5_readHead_41 rfl ?_
      refine gg_bipush (-9 : Int32) dX5_readHead_42 (by decide) ?_
      refine gg_icmp_ne 49 dX5_readHead_44 (by decide) (fun hc => ?_) (fun hc => ?_)
      · replace h := gg_el h hc
        refine gg_aload_n dX5_readHead_49 rfl ?_
        refine gg_get 2 fl_X5_55 dX5_readHead_50 rfl rfl ?_
        refine gg_iload_n dX5_readHead_53 rfl ?_
        refine gg_iload_n dX5_readHead_54 rfl ?_
        obtain ⟨hb55, h⟩ := gg_ck h
        refine gg_iast 3 (wd_X5_readHead c_size v3.2 c_signs c_p1_huts c_p1_food c_p1_due c_p1_backs (upd c_p1_winds_27 x2_27.toNatClampNeg v3.1)) dX5_readHead_55 rfl hb55 rfl ?_
        refine gg_iinc (x2_27 + (1 : Int32)) [some (.ref 0), some (.ref 100), some (.int (x2_27 + (1 : Int32))), some (.int v3.1)] dX5_readHead_56 rfl rfl rfl (Nat.le_of_ble_eq_true rfl) rfl ?_
        refine gg_goto 27 dX5_readHead_59 (by decide) ?_
        refine gg_fg [true, true, true, false] [some (.ref 0), some (.ref 100), some (.int (x2_27 + (1 : Int32))), none] rfl ?_
        exact ih (x2_27 + (1 : Int32)) v3.2 (upd c_p1_winds_27 x2_27.toNatClampNeg v3.1) h
      · replace h := gg_th h hc
        refine gg_fg [false, false, false, false] [none, none, none, none] rfl ?_
        exact hk47 v3.2 c_p1_winds_27 h
set_option maxRecDepth 20000 in
set_option maxHeartbeats 4000000 in
theorem C_X5_readHead  (c_size : Int32) (c_place : Int32) (c_signs : Nat → Int32) (c_p1_huts : Int32) (c_p1_food : Int32) (c_p1_due : Int32) (c_p1_backs : Int32) (c_p1_winds : Nat → Int32) {res : Int32 × (Int32) × (Int32) × (Nat → Int32)} (h : f_X5_readHead c_size c_place c_signs c_p1_food c_p1_winds = some res) : gg_C MD_X5_readHead [.ref 0, .ref 100] (wd_X5_readHead c_size c_place c_signs c_p1_huts c_p1_food c_p1_due c_p1_backs c_p1_winds) (some (.int res.1)) (wd_X5_readHead c_size res.2.1 c_signs c_p1_huts res.2.2.1 c_p1_due c_p1_backs res.2.2.2) := by
  refine gg_ofG [some (.ref 0), some (.ref 100), none, none] (by decide) (Nat.le_of_ble_eq_true rfl) rfl ?_
  unfold f_X5_readHead at h
  refine gg_aload_n dX5_readHead_0 rfl ?_
  obtain ⟨v1, hv1, h⟩ := gg_bd h
  refine gg_callV (gg_sg [0]) [0, 1] (wd_X5_readHead c_size v1 c_signs c_p1_huts c_p1_food c_p1_due c_p1_backs c_p1_winds) 0 (C_X5_skipBlanks c_size c_place c_signs hv1) nV_X5_skipBlanks ml_X5_48 rfl rfl rfl rfl rfl rfl rfl rfl rfl rfl rfl ⟨Nat.le_of_ble_eq_true rfl, Nat.le_of_ble_eq_true rfl⟩ (Nat.le_of_ble_eq_true rfl) dX5_readHead_1 [] rfl rfl ?_
  refine gg_aload_n dX5_readHead_4 rfl ?_
  obtain ⟨v2, hv2, h⟩ := gg_bd h
  refine gg_callV (gg_sg [0]) [0, 1] (wd_X5_readHead c_size v1 c_signs c_p1_huts c_p1_food c_p1_due c_p1_backs c_p1_winds) 0 (C_X5_sign c_size v1 c_signs hv2) nV_X5_sign ml_X5_51 rfl rfl rfl rfl rfl rfl rfl rfl rfl rfl rfl ⟨Nat.le_of_ble_eq_true rfl, Nat.le_of_ble_eq_true rfl⟩ (Nat.le_of_ble_eq_true rfl) dX5_readHead_5 [.int v2] rfl rfl ?_
  refine gg_bipush (102 : Int32) dX5_readHead_8 (by decide) ?_
  refine gg_icmp_eq 15 dX5_readHead_10 (by decide) (fun hc => ?_) (fun hc => ?_)
  · replace h := gg_th h hc
    refine gg_aload_n dX5_readHead_15 rfl ?_
    refine gg_dup dX5_readHead_16 rfl ?_
    refine gg_get 0 fl_X5_19 dX5_readHead_17 rfl rfl ?_
    refine gg_iconst (1 : Int32) dX5_readHead_20 (by decide) ?_
    refine gg_iadd dX5_readHead_21 ?_
    refine gg_putf 0 (wd_X5_readHead c_size (v1 + (1 : Int32)) c_signs c_p1_huts c_p1_food c_p1_due c_p1_backs c_p1_winds) fl_X5_19 dX5_readHead_22 rfl (Nat.le_of_ble_eq_true rfl) (fun _ => ⟨rfl, rfl⟩) rfl ?_
    refine gg_iconst (0 : Int32) dX5_readHead_25 (by decide) ?_
    refine gg_istore_n [some (.ref 0), some (.ref 100), some (.int (0 : Int32)), none] dX5_readHead_26 rfl (Nat.le_of_ble_eq_true rfl) rfl ?_
    refine lq_X5_readHead_27 c_size c_signs c_p1_huts c_p1_food c_p1_due c_p1_backs _ _ ?_ ?_ gg_fuel (0 : Int32) (v1 + (1 : Int32)) c_p1_winds h
    · intro c_place_47 c_p1_winds_47 h
      refine gg_iconst (0 : Int32) dX5_readHead_47 (by decide) ?_
      cases h
      exact gg_zret dX5_readHead_48 rfl rfl
    · intro c_place_62 c_p1_winds_62 h
      refine gg_aload_n dX5_readHead_62 rfl ?_
      refine gg_aload_n dX5_readHead_63 rfl ?_
      obtain ⟨v4, hv4, h⟩ := gg_bd h
      refine gg_callV (gg_sg [0, 100]) [0, 1, 2] (wd_X5_readHead c_size v4.2.1 c_signs c_p1_huts v4.2.2 c_p1_due c_p1_backs c_p1_winds_62) 0 (C_X5_readFood c_size c_place_62 c_signs c_p1_huts c_p1_food c_p1_due c_p1_backs hv4) nV_X5_readFood ml_X5_61 rfl rfl rfl rfl rfl rfl rfl rfl rfl rfl rfl ⟨Nat.le_of_ble_eq_true rfl, Nat.le_of_ble_eq_true rfl⟩ (Nat.le_of_ble_eq_true rfl) dX5_readHead_64 [.int v4.1] rfl rfl ?_
      obtain ⟨hz, h⟩ := gg_ck h
      cases h
      exact gg_zret dX5_readHead_67 rfl hz
  · replace h := gg_el h hc
    refine gg_iconst (0 : Int32) dX5_readHead_13 (by decide) ?_
    cases h
    exact gg_zret dX5_readHead_14 rfl rfl
