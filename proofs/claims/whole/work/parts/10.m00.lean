def wd_X6_knows_s6 (c_most : Int32) (c_sizes : Nat → Int32) : va_W := [(0, .inr (5, [.int c_most, .ref 1, .ref 2])), (2, .inl (0, 6, .inl c_sizes))]
def MD_X6_knows_s6 : gg_M := (yX6_knows, cX6_knows, 2, some .boolean, 0, 0)
theorem nV_X6_knows_s6 : gg_nV MD_X6_knows_s6 1 := ⟨⟨gg_mem (by decide +kernel) rfl, gg_mem cw_X6_knows rfl, by decide, by decide, by decide +kernel⟩, gg_mem (by decide +kernel) rfl, gg_mem (by decide +kernel) rfl⟩
def f_X6_knows_s6 (a0 : Int32)  : Option (Int32) := gg_lt (fun (s0_19 : Int32) => gg_chk (gg_isb s0_19) (some s0_19)) (fun k19 => gg_lt ((k19 (0 : Int32))) (fun k18 => (if a0 < (0 : Int32) then k18 else (if (6 : Int32) ≤ a0 then k18 else (k19 (1 : Int32))))))
set_option maxRecDepth 20000 in
set_option maxHeartbeats 8000000 in
theorem C_X6_knows_s6 (a0 : Int32) (c_most : Int32) (c_sizes : Nat → Int32) {res : Int32} (h : f_X6_knows_s6 a0 = some res) : gg_C MD_X6_knows_s6 [.ref 0, .int a0] (wd_X6_knows_s6 c_most c_sizes) (some (.int res)) (wd_X6_knows_s6 c_most c_sizes) := by
  refine gg_ofG [some (.ref 0), some (.int a0)] (plainFor_of_name (by decide)) (Nat.le_of_ble_eq_true rfl) rfl ?_
  unfold f_X6_knows_s6 at h
  refine gg_iconst (0 : Int32) dX6_knows_0 (by decide) ?_
  refine gg_iload_n dX6_knows_1 rfl ?_
  obtain ⟨k19, hke19, h⟩ := gg_lte h
  have hk19 : ∀ (s0_19 : Int32), k19 s0_19 = some res → gg_G MD_X6_knows_s6 19 [none, none] [.int s0_19] (wd_X6_knows_s6 c_most c_sizes) (some (.int res)) (wd_X6_knows_s6 c_most c_sizes) := by
    intro s0_19 h
    subst hke19
    obtain ⟨hz, h⟩ := gg_ck h
    cases h
    exact gg_zret dX6_knows_19 rfl hz
  clear hke19
  obtain ⟨k18, hke18, h⟩ := gg_lte h
  have hk18 : k18 = some res → gg_G MD_X6_knows_s6 18 [none, none] [] (wd_X6_knows_s6 c_most c_sizes) (some (.int res)) (wd_X6_knows_s6 c_most c_sizes) := by
    intro  h
    subst hke18
    refine gg_iconst (0 : Int32) dX6_knows_18 (by decide) ?_
    exact hk19 (0 : Int32) h
  clear hke18
  refine gg_icmp_gt 18 dX6_knows_2 (by decide) (fun hc => ?_) (fun hc => ?_)
  · replace h := gg_th h hc
    refine gg_fg [false, false] [none, none] rfl ?_
    exact hk18 h
  · replace h := gg_el h hc
    refine gg_iload_n dX6_knows_5 rfl ?_
    refine gg_aload_n dX6_knows_6 rfl ?_
    refine gg_get 0 fl_X6_18 dX6_knows_7 rfl rfl ?_
    refine gg_alen (6 : Int32) 1 dX6_knows_10 rfl (by decide) rfl ?_
    refine gg_icmp_ge 18 dX6_knows_11 (by decide) (fun hc => ?_) (fun hc => ?_)
    · replace h := gg_th h hc
      refine gg_fg [false, false] [none, none] rfl ?_
      exact hk18 h
    · replace h := gg_el h hc
      refine gg_iconst (1 : Int32) dX6_knows_14 (by decide) ?_
      refine gg_goto 19 dX6_knows_15 (by decide) ?_
      refine gg_fg [false, false] [none, none] rfl ?_
      exact hk19 (1 : Int32) h
def wd_X8_find (c_latestFinding : Int32) (c_told : Int32) (c_above : Int64) (c_below : Int64) (c_found : Nat → Int32) : va_W := [(0, .inr (7, [.ref 1, .ref 10, .ref 17, .ref 19, .ref 27, .ref 35, .ref 43, .ref 45, .ref 52, .ref 56, .ref 60, .ref 67, .int c_latestFinding, .int c_told, .long c_above, .long c_below])), (67, .inl (0, 6, .inl c_found))]
def MD_X8_find : gg_M := (yX8_find, cX8_find, 2, some .int, 0, 0)
theorem nV_X8_find : gg_nV MD_X8_find 1 := ⟨⟨gg_mem (by decide +kernel) rfl, gg_mem cw_X8_find rfl, by decide, by decide, by decide +kernel⟩, gg_mem (by decide +kernel) rfl, gg_mem (by decide +kernel) rfl⟩
def f_X8_find (a0 : Int32) (c_latestFinding : Int32) (c_found : Nat → Int32) : Option (Int32 × (Int32) × (Nat → Int32)) := gg_chk (gg_in a0 6) (gg_chk (gg_in a0 6) ((some ((-3 : Int32), a0, (upd c_found a0.toNatClampNeg ((c_found a0.toNatClampNeg) + (1 : Int32)))))))
set_option maxRecDepth 20000 in
set_option maxHeartbeats 8000000 in
theorem C_X8_find (a0 : Int32) (c_latestFinding : Int32) (c_told : Int32) (c_above : Int64) (c_below : Int64) (c_found : Nat → Int32) {r0 : Int32} {r1 : (Int32)} {r2 : (Nat → Int32)} (h : f_X8_find a0 c_latestFinding c_found = some (r0, r1, r2)) : gg_C MD_X8_find [.ref 0, .int a0] (wd_X8_find c_latestFinding c_told c_above c_below c_found) (some (.int r0)) (wd_X8_find r1 c_told c_above c_below r2) := by
  refine gg_ofG [some (.ref 0), some (.int a0)] (plainFor_of_name (by decide)) (Nat.le_of_ble_eq_true rfl) rfl ?_
  unfold f_X8_find at h
  refine gg_aload_n dX8_find_0 rfl ?_
  refine gg_iload_n dX8_find_1 rfl ?_
  refine gg_putf 0 (wd_X8_find a0 c_told c_above c_below c_found) fl_X8_79 dX8_find_2 rfl (Nat.le_of_ble_eq_true rfl) (fun _ => ⟨rfl, rfl⟩) rfl ?_
  refine gg_aload_n dX8_find_5 rfl ?_
  refine gg_get 0 fl_X8_75 dX8_find_6 rfl rfl ?_
  refine gg_iload_n dX8_find_9 rfl ?_
  refine gg_dup2 dX8_find_10 rfl rfl ?_
  obtain ⟨hb11, h⟩ := gg_ck h
  refine gg_iald 1 dX8_find_11 rfl hb11 ?_
  refine gg_iconst (1 : Int32) dX8_find_12 (by decide) ?_
  refine gg_iadd dX8_find_13 ?_
  obtain ⟨hb14, h⟩ := gg_ck h
  refine gg_iast 1 (wd_X8_find a0 c_told c_above c_below (upd c_found a0.toNatClampNeg ((c_found a0.toNatClampNeg) + (1 : Int32)))) dX8_find_14 rfl hb14 rfl ?_
  refine gg_bipush (-3 : Int32) dX8_find_15 (by decide) ?_
  cases h
  exact gg_iret dX8_find_17 rfl
def wd_X6_make_s6 (c_most : Int32) (c_sizes : Nat → Int32) (c_cells : Nat → Nat → Int32) : va_W := [(0, .inr (5, [.int c_most, .ref 1, .ref 2])), (1, .inl (4, 6, .inr (.inr (.inr (.inr (gg_rf 2 1)))))), (2, .inl (0, 6, .inl c_sizes)), (3, .inl (0, 40, .inl (c_cells 0))), (4, .inl (0, 40, .inl (c_cells 1))), (5, .inl (0, 40, .inl (c_cells 2))), (6, .inl (0, 40, .inl (c_cells 3))), (7, .inl (0, 40, .inl (c_cells 4))), (8, .inl (0, 40, .inl (c_cells 5)))]
def MD_X6_make_s6 : gg_M := (yX6_make, cX6_make, 4, none, 1, 21)
theorem nV_X6_make_s6 : gg_nV MD_X6_make_s6 2 := ⟨⟨gg_mem (by decide +kernel) rfl, gg_mem cw_X6_make rfl, by decide, by decide, by decide +kernel⟩, gg_mem (by decide +kernel) rfl, gg_mem (by decide +kernel) rfl⟩
def lp_X6_make_s6_30 {β : Type} (y1 : Int32) (y2 : Int32) (k50 : (Nat → Nat → Int32) → Option β) : Nat → (Int32) → (Nat → Nat → Int32) → Option β
  | 0, _, _ => none
  | n + 1, x3_30, c_cells_30 => (if y2 ≤ x3_30 then (k50 c_cells_30) else gg_chk (gg_in y1 6) (gg_chk (gg_in x3_30 40) ((lp_X6_make_s6_30 y1 y2 k50 n (x3_30 + (1 : Int32)) (gg_up c_cells_30 y1.toNatClampNeg (upd (c_cells_30 y1.toNatClampNeg) x3_30.toNatClampNeg (0 : Int32)))))))
def f_X6_make_s6 (a0 : Int32) (a1 : Int32) (c_most : Int32) (c_sizes : Nat → Int32) (c_cells : Nat → Nat → Int32) : Option ((Nat → Int32) × (Nat → Nat → Int32)) := (f_X6_knows_s6 a0).bind (fun v1 => gg_lt ((some (c_sizes, c_cells))) (fun k20 => (if v1 = (0 : Int32) then k20 else (if a1 < (0 : Int32) then k20 else (if a1 ≤ c_most then gg_chk (gg_in a0 6) ((lp_X6_make_s6_30 a0 a1 (fun (c_cells_50 : Nat → Nat → Int32) => (some ((upd c_sizes a0.toNatClampNeg a1), c_cells_50))) gg_fuel (0 : Int32) c_cells)) else k20)))))
set_option maxRecDepth 20000 in
set_option maxHeartbeats 4000000 in
theorem lq_X6_make_s6_30 {β : Type} {res : β} {rr : Option Value} {ww : va_W} (y1 : Int32) (y2 : Int32) (c_most : Int32) (c_sizes : Nat → Int32) (k50 : (Nat → Nat → Int32) → Option β) (hk50 : ∀ (c_cells_50 : Nat → Nat → Int32), k50 c_cells_50 = some res → gg_G MD_X6_make_s6 50 [none, none, none, none] [] (wd_X6_make_s6 c_most c_sizes c_cells_50) rr ww) : ∀ (n : Nat) (x3_30 : Int32) (c_cells_30 : Nat → Nat → Int32), lp_X6_make_s6_30 y1 y2 k50 n x3_30 c_cells_30 = some res → gg_G MD_X6_make_s6 30 [some (.ref 0), some (.int y1), some (.int y2), some (.int x3_30)] [] (wd_X6_make_s6 c_most c_sizes c_cells_30) rr ww := by
  intro n
  induction n with
  | zero =>
    intro x3_30 c_cells_30 h
    exact nomatch (show (none : Option β) = some res from h)
  | succ n ih =>
    intro x3_30 c_cells_30 h
    rw [lp_X6_make_s6_30] at h
    refine gg_iload_n dX6_make_30 rfl ?_
    refine gg_iload_n dX6_make_31 rfl ?_
    refine gg_icmp_ge 50 dX6_make_32 (by decide) (fun hc => ?_) (fun hc => ?_)
    · replace h := gg_th h hc
      refine gg_fg [false, false, false, false] [none, none, none, none] rfl ?_
      exact hk50 c_cells_30 h
    · replace h := gg_el h hc
      refine gg_aload_n dX6_make_35 rfl ?_
      refine gg_get 0 fl_X6_15 dX6_make_36 rfl rfl ?_
      refine gg_iload_n dX6_make_39 rfl ?_
      obtain ⟨hr40, h⟩ := gg_ck h
      refine gg_aldA 1 (3 + y1.toNatClampNeg) dX6_make_40 rfl hr40 rfl (gg_ad 1 2 _) ?_
      refine gg_iload_n dX6_make_41 rfl ?_
      refine gg_iconst (0 : Int32) dX6_make_42 (by decide) ?_
      obtain ⟨hb43, h⟩ := gg_ck h
      refine gg_iast (3 + y1.toNatClampNeg) (wd_X6_make_s6 c_most c_sizes (gg_up c_cells_30 y1.toNatClampNeg (upd (c_cells_30 y1.toNatClampNeg) x3_30.toNatClampNeg (0 : Int32)))) dX6_make_43 (gg_rows6 rfl rfl rfl rfl rfl rfl (gg_in_lt hr40)) hb43 (gg_pick6 (P := fun t => List.set (wd_X6_make_s6 c_most c_sizes c_cells_30) (3 + t) (3 + t, .inl (0, 40, .inl (upd (c_cells_30 t) x3_30.toNatClampNeg (0 : Int32)))) = (wd_X6_make_s6 c_most c_sizes (gg_up c_cells_30 t (upd (c_cells_30 t) x3_30.toNatClampNeg (0 : Int32))))) rfl rfl rfl rfl rfl rfl (gg_in_lt hr40)) ?_
      refine gg_iinc (x3_30 + (1 : Int32)) [some (.ref 0), some (.int y1), some (.int y2), some (.int (x3_30 + (1 : Int32)))] dX6_make_44 rfl rfl rfl (Nat.le_of_ble_eq_true rfl) rfl ?_
      refine gg_goto 30 dX6_make_47 (by decide) ?_
      exact ih (x3_30 + (1 : Int32)) (gg_up c_cells_30 y1.toNatClampNeg (upd (c_cells_30 y1.toNatClampNeg) x3_30.toNatClampNeg (0 : Int32))) h
set_option maxRecDepth 20000 in
set_option maxHeartbeats 8000000 in
theorem C_X6_make_s6 (a0 : Int32) (a1 : Int32) (c_most : Int32) (c_sizes : Nat → Int32) (c_cells : Nat → Nat → Int32) {r0 : (Nat → Int32)} {r1 : (Nat → Nat → Int32)} (h : f_X6_make_s6 a0 a1 c_most c_sizes c_cells = some (r0, r1)) : gg_C MD_X6_make_s6 [.ref 0, .int a0, .int a1] (wd_X6_make_s6 c_most c_sizes c_cells) (none) (wd_X6_make_s6 c_most r0 r1) := by
  refine gg_ofG [some (.ref 0), some (.int a0), some (.int a1), none] (plainFor_of_name (by decide)) (Nat.le_of_ble_eq_true rfl) rfl ?_
  unfold f_X6_make_s6 at h
  refine gg_aload_n dX6_make_0 rfl ?_
  refine gg_iload_n dX6_make_1 rfl ?_
  obtain ⟨v1, hv1, h⟩ := gg_bd h
  refine gg_callV (gg_sg [0]) [0, 2] (wd_X6_make_s6 c_most c_sizes c_cells) 0 (C_X6_knows_s6 a0 c_most c_sizes hv1) nV_X6_knows_s6 ml_X6_22 rfl rfl rfl rfl rfl rfl rfl rfl rfl rfl [1, 3, 4, 5, 6, 7, 8] 9 rfl rfl rfl rfl rfl ⟨Nat.le_of_ble_eq_true rfl, Nat.le_of_ble_eq_true rfl⟩ (Nat.le_of_ble_eq_true rfl) dX6_make_2 [.int v1] rfl ?_
  obtain ⟨k20, hke20, h⟩ := gg_lte h
  have hk20 : k20 = some (r0, r1) → gg_G MD_X6_make_s6 20 [none, none, none, none] [] (wd_X6_make_s6 c_most c_sizes c_cells) (none) (wd_X6_make_s6 c_most r0 r1) := by
    intro  h
    subst hke20
    cases h
    exact gg_vret dX6_make_20 rfl
  clear hke20
  refine gg_if_eq 20 dX6_make_5 (by decide) (fun hc => ?_) (fun hc => ?_)
  · replace h := gg_th h hc
    refine gg_fg [false, false, false, false] [none, none, none, none] rfl ?_
    exact hk20 h
  · replace h := gg_el h hc
    refine gg_iload_n dX6_make_8 rfl ?_
    refine gg_if_lt 20 dX6_make_9 (by decide) (fun hc => ?_) (fun hc => ?_)
    · replace h := gg_th h hc
      refine gg_fg [false, false, false, false] [none, none, none, none] rfl ?_
      exact hk20 h
    · replace h := gg_el h hc
      refine gg_iload_n dX6_make_12 rfl ?_
      refine gg_aload_n dX6_make_13 rfl ?_
      refine gg_get 0 fl_X6_7 dX6_make_14 rfl rfl ?_
      refine gg_icmp_le 21 dX6_make_17 (by decide) (fun hc => ?_) (fun hc => ?_)
      · replace h := gg_th h hc
        refine gg_aload_n dX6_make_21 rfl ?_
        refine gg_get 0 fl_X6_18 dX6_make_22 rfl rfl ?_
        refine gg_iload_n dX6_make_25 rfl ?_
        refine gg_iload_n dX6_make_26 rfl ?_
        obtain ⟨hb27, h⟩ := gg_ck h
        refine gg_iast 2 (wd_X6_make_s6 c_most (upd c_sizes a0.toNatClampNeg a1) c_cells) dX6_make_27 rfl hb27 rfl ?_
        refine gg_iconst (0 : Int32) dX6_make_28 (by decide) ?_
        refine gg_istore_n [some (.ref 0), some (.int a0), some (.int a1), some (.int (0 : Int32))] dX6_make_29 rfl (Nat.le_of_ble_eq_true rfl) rfl ?_
        refine lq_X6_make_s6_30 a0 a1 c_most (upd c_sizes a0.toNatClampNeg a1) _ ?_ gg_fuel (0 : Int32) c_cells h
        intro c_cells_50 h
        cases h
        exact gg_vret dX6_make_50 rfl
      · replace h := gg_el h hc
        refine gg_fg [false, false, false, false] [none, none, none, none] rfl ?_
        exact hk20 h
def wd_X8_makeOn_s6 (c_latestFinding : Int32) (c_told : Int32) (c_above : Int64) (c_below : Int64) (c_found : Nat → Int32) (c_p1_most : Int32) (c_p1_sizes : Nat → Int32) (c_p1_cells : Nat → Nat → Int32) : va_W := [(0, .inr (7, [.ref 1, .ref 10, .ref 17, .ref 19, .ref 27, .ref 35, .ref 43, .ref 45, .ref 52, .ref 56, .ref 60, .ref 67, .int c_latestFinding, .int c_told, .long c_above, .long c_below])), (67, .inl (0, 6, .inl c_found)), (100, .inr (5, [.int c_p1_most, .ref 101, .ref 102])), (101, .inl (4, 6, .inr (.inr (.inr (.inr (gg_rf 2 1)))))), (102, .inl (0, 6, .inl c_p1_sizes)), (103, .inl (0, 40, .inl (c_p1_cells 0))), (104, .inl (0, 40, .inl (c_p1_cells 1))), (105, .inl (0, 40, .inl (c_p1_cells 2))), (106, .inl (0, 40, .inl (c_p1_cells 3))), (107, .inl (0, 40, .inl (c_p1_cells 4))), (108, .inl (0, 40, .inl (c_p1_cells 5)))]
def MD_X8_makeOn_s6 : gg_M := (yX8_makeOn, cX8_makeOn, 4, some .int, 2, 44)
theorem nV_X8_makeOn_s6 : gg_nV MD_X8_makeOn_s6 3 := ⟨⟨gg_mem (by decide +kernel) rfl, gg_mem cw_X8_makeOn rfl, by decide, by decide, by decide +kernel⟩, gg_mem (by decide +kernel) rfl, gg_mem (by decide +kernel) rfl⟩
def f_X8_makeOn_s6 (a0 : Int32) (a1 : Int32) (c_latestFinding : Int32) (c_found : Nat → Int32) (c_p1_most : Int32) (c_p1_sizes : Nat → Int32) (c_p1_cells : Nat → Nat → Int32) : Option (Int32 × (Int32) × (Nat → Int32) × (Nat → Int32) × (Nat → Nat → Int32)) := (f_X6_knows_s6 a0).bind (fun v1 => gg_lt ((some ((-1 : Int32), c_latestFinding, c_found, c_p1_sizes, c_p1_cells))) (fun k16 => (if v1 = (0 : Int32) then k16 else (if a1 ≤ c_p1_most then (if (0 : Int32) ≤ a1 then gg_b2 (f_X6_make_s6 a0 a1 c_p1_most c_p1_sizes c_p1_cells) (fun v2_0 v2_1 => (some (a1, c_latestFinding, c_found, v2_0, v2_1))) else gg_b3 (f_X8_find (5 : Int32) c_latestFinding c_found) (fun v3_0 v3_1 v3_2 => (some (v3_0, v3_1, v3_2, c_p1_sizes, c_p1_cells)))) else k16))))
set_option maxRecDepth 20000 in
set_option maxHeartbeats 8000000 in
theorem C_X8_makeOn_s6 (a0 : Int32) (a1 : Int32) (c_latestFinding : Int32) (c_told : Int32) (c_above : Int64) (c_below : Int64) (c_found : Nat → Int32) (c_p1_most : Int32) (c_p1_sizes : Nat → Int32) (c_p1_cells : Nat → Nat → Int32) {r0 : Int32} {r1 : (Int32)} {r2 : (Nat → Int32)} {r3 : (Nat → Int32)} {r4 : (Nat → Nat → Int32)} (h : f_X8_makeOn_s6 a0 a1 c_latestFinding c_found c_p1_most c_p1_sizes c_p1_cells = some (r0, r1, r2, r3, r4)) : gg_C MD_X8_makeOn_s6 [.ref 0, .ref 100, .int a0, .int a1] (wd_X8_makeOn_s6 c_latestFinding c_told c_above c_below c_found c_p1_most c_p1_sizes c_p1_cells) (some (.int r0)) (wd_X8_makeOn_s6 r1 c_told c_above c_below r2 c_p1_most r3 r4) := by
  refine gg_ofG [some (.ref 0), some (.ref 100), some (.int a0), some (.int a1)] (plainFor_of_name (by decide)) (Nat.le_of_ble_eq_true rfl) rfl ?_
  unfold f_X8_makeOn_s6 at h
  refine gg_aload_n dX8_makeOn_0 rfl ?_
  refine gg_iload_n dX8_makeOn_1 rfl ?_
  obtain ⟨v1, hv1, h⟩ := gg_bd h
  refine gg_callV (gg_sg [100]) [2, 4] (wd_X8_makeOn_s6 c_latestFinding c_told c_above c_below c_found c_p1_most c_p1_sizes c_p1_cells) 0 (C_X6_knows_s6 a0 c_p1_most c_p1_sizes hv1) nV_X6_knows_s6 ml_X8_115 rfl rfl rfl rfl rfl rfl rfl rfl rfl rfl [0, 1, 3, 5, 6, 7, 8, 9, 10] 11 rfl rfl rfl rfl rfl ⟨Nat.le_of_ble_eq_true rfl, Nat.le_of_ble_eq_true rfl⟩ (Nat.le_of_ble_eq_true rfl) dX8_makeOn_2 [.int v1] rfl ?_
  obtain ⟨k16, hke16, h⟩ := gg_lte h
  have hk16 : k16 = some (r0, r1, r2, r3, r4) → gg_G MD_X8_makeOn_s6 16 [none, none, none, none] [] (wd_X8_makeOn_s6 c_latestFinding c_told c_above c_below c_found c_p1_most c_p1_sizes c_p1_cells) (some (.int r0)) (wd_X8_makeOn_s6 r1 c_told c_above c_below r2 c_p1_most r3 r4) := by
    intro  h
    subst hke16
    refine gg_iconst (-1 : Int32) dX8_makeOn_16 (by decide) ?_
    cases h
    exact gg_iret dX8_makeOn_17 rfl
  clear hke16
  refine gg_if_eq 16 dX8_makeOn_5 (by decide) (fun hc => ?_) (fun hc => ?_)
  · replace h := gg_th h hc
    refine gg_fg [false, false, false, false] [none, none, none, none] rfl ?_
    exact hk16 h
  · replace h := gg_el h hc
    refine gg_iload_n dX8_makeOn_8 rfl ?_
    refine gg_aload_n dX8_makeOn_9 rfl ?_
    refine gg_get 2 fl_X8_336 dX8_makeOn_10 rfl rfl ?_
    refine gg_icmp_le 18 dX8_makeOn_13 (by decide) (fun hc => ?_) (fun hc => ?_)
    · replace h := gg_th h hc
      refine gg_iload_n dX8_makeOn_18 rfl ?_
      refine gg_if_ge 28 dX8_makeOn_19 (by decide) (fun hc => ?_) (fun hc => ?_)
      · replace h := gg_th h hc
        refine gg_aload_n dX8_makeOn_28 rfl ?_
        refine gg_iload_n dX8_makeOn_29 rfl ?_
        refine gg_iload_n dX8_makeOn_30 rfl ?_
        obtain ⟨v2_0, v2_1, hv2, h⟩ := gg_bd2 h
        refine gg_callV (gg_sg [100]) [2, 3, 4, 5, 6, 7, 8, 9, 10] (wd_X8_makeOn_s6 c_latestFinding c_told c_above c_below c_found c_p1_most v2_0 v2_1) 0 (C_X6_make_s6 a0 a1 c_p1_most c_p1_sizes c_p1_cells hv2) nV_X6_make_s6 ml_X8_339 rfl rfl rfl rfl rfl rfl rfl rfl rfl rfl [0, 1] 11 rfl rfl rfl rfl rfl ⟨Nat.le_of_ble_eq_true rfl, Nat.le_of_ble_eq_true rfl⟩ (Nat.le_of_ble_eq_true rfl) dX8_makeOn_31 [] rfl ?_
        refine gg_iload_n dX8_makeOn_34 rfl ?_
        cases h
        exact gg_iret dX8_makeOn_35 rfl
      · replace h := gg_el h hc
        refine gg_aload_n dX8_makeOn_22 rfl ?_
        refine gg_iconst (5 : Int32) dX8_makeOn_23 (by decide) ?_
        obtain ⟨v3_0, v3_1, v3_2, hv3, h⟩ := gg_bd3 h
        refine gg_callV (gg_sg [0]) [0, 1] (wd_X8_makeOn_s6 v3_1 c_told c_above c_below v3_2 c_p1_most c_p1_sizes c_p1_cells) 0 (C_X8_find (5 : Int32) c_latestFinding c_told c_above c_below c_found hv3) nV_X8_find ml_X8_119 rfl rfl rfl rfl rfl rfl rfl rfl rfl rfl [2, 3, 4, 5, 6, 7, 8, 9, 10] 11 rfl rfl rfl rfl rfl ⟨Nat.le_of_ble_eq_true rfl, Nat.le_of_ble_eq_true rfl⟩ (Nat.le_of_ble_eq_true rfl) dX8_makeOn_24 [.int v3_0] rfl ?_
        cases h
        exact gg_iret dX8_makeOn_27 rfl
    · replace h := gg_el h hc
      refine gg_fg [false, false, false, false] [none, none, none, none] rfl ?_
      exact hk16 h
def wd_X8_row (c_latestFinding : Int32) (c_told : Int32) (c_above : Int64) (c_below : Int64) (c_rows_most : Int32) (c_rows_sizes : Nat → Int32) (c_rows_cells : Nat → Nat → Int32) (c_found : Nat → Int32) : va_W := [(0, .inr (7, [.ref 1, .ref 10, .ref 17, .ref 19, .ref 27, .ref 35, .ref 43, .ref 45, .ref 52, .ref 56, .ref 60, .ref 67, .int c_latestFinding, .int c_told, .long c_above, .long c_below])), (1, .inr (5, [.int c_rows_most, .ref 2, .ref 3])), (2, .inl (4, 6, .inr (.inr (.inr (.inr (gg_rf 2 1)))))), (3, .inl (0, 6, .inl c_rows_sizes)), (4, .inl (0, 40, .inl (c_rows_cells 0))), (5, .inl (0, 40, .inl (c_rows_cells 1))), (6, .inl (0, 40, .inl (c_rows_cells 2))), (7, .inl (0, 40, .inl (c_rows_cells 3))), (8, .inl (0, 40, .inl (c_rows_cells 4))), (9, .inl (0, 40, .inl (c_rows_cells 5))), (67, .inl (0, 6, .inl c_found))]
def MD_X8_row : gg_M := (yX8_row, cX8_row, 3, some .int, 3, 67)
theorem nV_X8_row : gg_nV MD_X8_row 2 := ⟨⟨gg_mem (by decide +kernel) rfl, gg_mem cw_X8_row rfl, by decide, by decide, by decide +kernel⟩, gg_mem (by decide +kernel) rfl, gg_mem (by decide +kernel) rfl⟩
def f_X8_row (a0 : Int32) (a1 : Int32) (c_latestFinding : Int32) (c_rows_most : Int32) (c_rows_sizes : Nat → Int32) (c_rows_cells : Nat → Nat → Int32) (c_found : Nat → Int32) : Option (Int32 × (Int32) × (Nat → Int32) × (Nat → Nat → Int32) × (Nat → Int32)) := gg_b5 (f_X8_makeOn_s6 a0 a1 c_latestFinding c_found c_rows_most c_rows_sizes c_rows_cells) (fun v1_0 v1_1 v1_2 v1_3 v1_4 => (some (v1_0, v1_1, v1_3, v1_4, v1_2)))
set_option maxRecDepth 20000 in
set_option maxHeartbeats 8000000 in
theorem C_X8_row (a0 : Int32) (a1 : Int32) (c_latestFinding : Int32) (c_told : Int32) (c_above : Int64) (c_below : Int64) (c_rows_most : Int32) (c_rows_sizes : Nat → Int32) (c_rows_cells : Nat → Nat → Int32) (c_found : Nat → Int32) {r0 : Int32} {r1 : (Int32)} {r2 : (Nat → Int32)} {r3 : (Nat → Nat → Int32)} {r4 : (Nat → Int32)} (h : f_X8_row a0 a1 c_latestFinding c_rows_most c_rows_sizes c_rows_cells c_found = some (r0, r1, r2, r3, r4)) : gg_C MD_X8_row [.ref 0, .int a0, .int a1] (wd_X8_row c_latestFinding c_told c_above c_below c_rows_most c_rows_sizes c_rows_cells c_found) (some (.int r0)) (wd_X8_row r1 c_told c_above c_below c_rows_most r2 r3 r4) := by
  refine gg_ofG [some (.ref 0), some (.int a0), some (.int a1)] (plainFor_of_name (by decide)) (Nat.le_of_ble_eq_true rfl) rfl ?_
  unfold f_X8_row at h
  refine gg_aload_n dX8_row_0 rfl ?_
  refine gg_aload_n dX8_row_1 rfl ?_
  refine gg_get 0 fl_X8_14 dX8_row_2 rfl rfl ?_
  refine gg_iload_n dX8_row_5 rfl ?_
  refine gg_iload_n dX8_row_6 rfl ?_
  obtain ⟨v1_0, v1_1, v1_2, v1_3, v1_4, hv1, h⟩ := gg_bd5 h
  refine gg_callV (gg_sg [0, 1]) [0, 10, 1, 2, 3, 4, 5, 6, 7, 8, 9] (wd_X8_row v1_1 c_told c_above c_below c_rows_most v1_3 v1_4 v1_2) 0 (C_X8_makeOn_s6 a0 a1 c_latestFinding c_told c_above c_below c_found c_rows_most c_rows_sizes c_rows_cells hv1) nV_X8_makeOn_s6 ml_X8_93 rfl rfl rfl rfl rfl rfl rfl rfl rfl rfl [] 11 rfl rfl rfl rfl rfl ⟨Nat.le_of_ble_eq_true rfl, Nat.le_of_ble_eq_true rfl⟩ (Nat.le_of_ble_eq_true rfl) dX8_row_7 [.int v1_0] rfl ?_
  cases h
  exact gg_iret dX8_row_10 rfl
def wd_X6_has_s6 (c_most : Int32) (c_sizes : Nat → Int32) : va_W := [(0, .inr (5, [.int c_most, .ref 1, .ref 2])), (2, .inl (0, 6, .inl c_sizes))]
def MD_X6_has_s6 : gg_M := (yX6_has, cX6_has, 2, some .boolean, 1, 21)
theorem nV_X6_has_s6 : gg_nV MD_X6_has_s6 1 := ⟨⟨gg_mem (by decide +kernel) rfl, gg_mem cw_X6_has rfl, by decide, by decide, by decide +kernel⟩, gg_mem (by decide +kernel) rfl, gg_mem (by decide +kernel) rfl⟩
def f_X6_has_s6 (a0 : Int32) (c_sizes : Nat → Int32) : Option (Int32) := (f_X6_knows_s6 a0).bind (fun v1 => gg_lt (fun (s0_23 : Int32) => gg_chk (gg_isb s0_23) (some s0_23)) (fun k23 => gg_lt ((k23 (0 : Int32))) (fun k22 => (if v1 = (0 : Int32) then k22 else gg_chk (gg_in a0 6) ((if (c_sizes a0.toNatClampNeg) = (-1 : Int32) then k22 else (k23 (1 : Int32))))))))
set_option maxRecDepth 20000 in
set_option maxHeartbeats 8000000 in
theorem C_X6_has_s6 (a0 : Int32) (c_most : Int32) (c_sizes : Nat → Int32) {res : Int32} (h : f_X6_has_s6 a0 c_sizes = some res) : gg_C MD_X6_has_s6 [.ref 0, .int a0] (wd_X6_has_s6 c_most c_sizes) (some (.int res)) (wd_X6_has_s6 c_most c_sizes) := by
  refine gg_ofG [some (.ref 0), some (.int a0)] (plainFor_of_name (by decide)) (Nat.le_of_ble_eq_true rfl) rfl ?_
  unfold f_X6_has_s6 at h
  refine gg_aload_n dX6_has_0 rfl ?_
  refine gg_iload_n dX6_has_1 rfl ?_
  obtain ⟨v1, hv1, h⟩ := gg_bd h
  refine gg_callV (gg_sg [0]) [0, 1] (wd_X6_has_s6 c_most c_sizes) 0 (C_X6_knows_s6 a0 c_most c_sizes hv1) nV_X6_knows_s6 ml_X6_22 rfl rfl rfl rfl rfl rfl rfl rfl rfl rfl [] 2 rfl rfl rfl rfl rfl ⟨Nat.le_of_ble_eq_true rfl, Nat.le_of_ble_eq_true rfl⟩ (Nat.le_of_ble_eq_true rfl) dX6_has_2 [.int v1] rfl ?_
  obtain ⟨k23, hke23, h⟩ := gg_lte h
  have hk23 : ∀ (s0_23 : Int32), k23 s0_23 = some res → gg_G MD_X6_has_s6 23 [none, none] [.int s0_23] (wd_X6_has_s6 c_most c_sizes) (some (.int res)) (wd_X6_has_s6 c_most c_sizes) := by
    intro s0_23 h
    subst hke23
    obtain ⟨hz, h⟩ := gg_ck h
    cases h
    exact gg_zret dX6_has_23 rfl hz
  clear hke23
  obtain ⟨k22, hke22, h⟩ := gg_lte h
  have hk22 : k22 = some res → gg_G MD_X6_has_s6 22 [none, none] [] (wd_X6_has_s6 c_most c_sizes) (some (.int res)) (wd_X6_has_s6 c_most c_sizes) := by
    intro  h
    subst hke22
    refine gg_iconst (0 : Int32) dX6_has_22 (by decide) ?_
    exact hk23 (0 : Int32) h
  clear hke22
  refine gg_if_eq 22 dX6_has_5 (by decide) (fun hc => ?_) (fun hc => ?_)
  · replace h := gg_th h hc
    refine gg_fg [false, false] [none, none] rfl ?_
    exact hk22 h
  · replace h := gg_el h hc
    refine gg_aload_n dX6_has_8 rfl ?_
    refine gg_get 0 fl_X6_18 dX6_has_9 rfl rfl ?_
    refine gg_iload_n dX6_has_12 rfl ?_
    obtain ⟨hb13, h⟩ := gg_ck h
    refine gg_iald 1 dX6_has_13 rfl hb13 ?_
    refine gg_iconst (-1 : Int32) dX6_has_14 (by decide) ?_
    refine gg_icmp_eq 22 dX6_has_15 (by decide) (fun hc => ?_) (fun hc => ?_)
    · replace h := gg_th h hc
      refine gg_fg [false, false] [none, none] rfl ?_
      exact hk22 h
    · replace h := gg_el h hc
      refine gg_iconst (1 : Int32) dX6_has_18 (by decide) ?_
      refine gg_goto 23 dX6_has_19 (by decide) ?_
      refine gg_fg [false, false] [none, none] rfl ?_
      exact hk23 (1 : Int32) h
def wd_X8_refusedMissing_s6 (c_latestFinding : Int32) (c_told : Int32) (c_above : Int64) (c_below : Int64) (c_found : Nat → Int32) (c_p1_most : Int32) (c_p1_sizes : Nat → Int32) : va_W := [(0, .inr (7, [.ref 1, .ref 10, .ref 17, .ref 19, .ref 27, .ref 35, .ref 43, .ref 45, .ref 52, .ref 56, .ref 60, .ref 67, .int c_latestFinding, .int c_told, .long c_above, .long c_below])), (67, .inl (0, 6, .inl c_found)), (100, .inr (5, [.int c_p1_most, .ref 101, .ref 102])), (102, .inl (0, 6, .inl c_p1_sizes))]
def MD_X8_refusedMissing_s6 : gg_M := (yX8_refusedMissing, cX8_refusedMissing, 3, some .int, 2, 42)
theorem nV_X8_refusedMissing_s6 : gg_nV MD_X8_refusedMissing_s6 2 := ⟨⟨gg_mem (by decide +kernel) rfl, gg_mem cw_X8_refusedMissing rfl, by decide, by decide, by decide +kernel⟩, gg_mem (by decide +kernel) rfl, gg_mem (by decide +kernel) rfl⟩
def f_X8_refusedMissing_s6 (a0 : Int32) (c_latestFinding : Int32) (c_found : Nat → Int32) (c_p1_sizes : Nat → Int32) : Option (Int32 × (Int32) × (Nat → Int32)) := (f_X6_knows_s6 a0).bind (fun v1 => (if v1 = (0 : Int32) then (some ((-1 : Int32), c_latestFinding, c_found)) else (f_X6_has_s6 a0 c_p1_sizes).bind (fun v2 => gg_lt (fun (s0_27 : Int32) (c_latestFinding_27 : Int32) (c_found_27 : Nat → Int32) => (some (s0_27, c_latestFinding_27, c_found_27))) (fun k27 => (if v2 = (0 : Int32) then gg_b3 (f_X8_find (1 : Int32) c_latestFinding c_found) (fun v3_0 v3_1 v3_2 => (k27 v3_0 v3_1 v3_2)) else (k27 (0 : Int32) c_latestFinding c_found))))))
set_option maxRecDepth 20000 in
set_option maxHeartbeats 8000000 in
theorem C_X8_refusedMissing_s6 (a0 : Int32) (c_latestFinding : Int32) (c_told : Int32) (c_above : Int64) (c_below : Int64) (c_found : Nat → Int32) (c_p1_most : Int32) (c_p1_sizes : Nat → Int32) {r0 : Int32} {r1 : (Int32)} {r2 : (Nat → Int32)} (h : f_X8_refusedMissing_s6 a0 c_latestFinding c_found c_p1_sizes = some (r0, r1, r2)) : gg_C MD_X8_refusedMissing_s6 [.ref 0, .ref 100, .int a0] (wd_X8_refusedMissing_s6 c_latestFinding c_told c_above c_below c_found c_p1_most c_p1_sizes) (some (.int r0)) (wd_X8_refusedMissing_s6 r1 c_told c_above c_below r2 c_p1_most c_p1_sizes) := by
  refine gg_ofG [some (.ref 0), some (.ref 100), some (.int a0)] (plainFor_of_name (by decide)) (Nat.le_of_ble_eq_true rfl) rfl ?_
  unfold f_X8_refusedMissing_s6 at h
  refine gg_aload_n dX8_refusedMissing_0 rfl ?_
  refine gg_iload_n dX8_refusedMissing_1 rfl ?_
  obtain ⟨v1, hv1, h⟩ := gg_bd h
  refine gg_callV (gg_sg [100]) [2, 3] (wd_X8_refusedMissing_s6 c_latestFinding c_told c_above c_below c_found c_p1_most c_p1_sizes) 0 (C_X6_knows_s6 a0 c_p1_most c_p1_sizes hv1) nV_X6_knows_s6 ml_X8_115 rfl rfl rfl rfl rfl rfl rfl rfl rfl rfl [0, 1] 4 rfl rfl rfl rfl rfl ⟨Nat.le_of_ble_eq_true rfl, Nat.le_of_ble_eq_true rfl⟩ (Nat.le_of_ble_eq_true rfl) dX8_refusedMissing_2 [.int v1] rfl ?_
  refine gg_if_ne 10 dX8_refusedMissing_5 (by decide) (fun hc => ?_) (fun hc => ?_)
  · replace h := gg_el h hc
    refine gg_aload_n dX8_refusedMissing_10 rfl ?_
    refine gg_iload_n dX8_refusedMissing_11 rfl ?_
    obtain ⟨v2, hv2, h⟩ := gg_bd h
    refine gg_callV (gg_sg [100]) [2, 3] (wd_X8_refusedMissing_s6 c_latestFinding c_told c_above c_below c_found c_p1_most c_p1_sizes) 0 (C_X6_has_s6 a0 c_p1_most c_p1_sizes hv2) nV_X6_has_s6 ml_X8_123 rfl rfl rfl rfl rfl rfl rfl rfl rfl rfl [0, 1] 4 rfl rfl rfl rfl rfl ⟨Nat.le_of_ble_eq_true rfl, Nat.le_of_ble_eq_true rfl⟩ (Nat.le_of_ble_eq_true rfl) dX8_refusedMissing_12 [.int v2] rfl ?_
    obtain ⟨k27, hke27, h⟩ := gg_lte h
    have hk27 : ∀ (s0_27 : Int32) (c_latestFinding_27 : Int32) (c_found_27 : Nat → Int32), k27 s0_27 c_latestFinding_27 c_found_27 = some (r0, r1, r2) → gg_G MD_X8_refusedMissing_s6 27 [none, none, none] [.int s0_27] (wd_X8_refusedMissing_s6 c_latestFinding_27 c_told c_above c_below c_found_27 c_p1_most c_p1_sizes) (some (.int r0)) (wd_X8_refusedMissing_s6 r1 c_told c_above c_below r2 c_p1_most c_p1_sizes) := by
      intro s0_27 c_latestFinding_27 c_found_27 h
      subst hke27
      cases h
      exact gg_iret dX8_refusedMissing_27 rfl
    clear hke27
    refine gg_if_eq 22 dX8_refusedMissing_15 (by decide) (fun hc => ?_) (fun hc => ?_)
    · replace h := gg_th h hc
      refine gg_aload_n dX8_refusedMissing_22 rfl ?_
      refine gg_iconst (1 : Int32) dX8_refusedMissing_23 (by decide) ?_
      obtain ⟨v3_0, v3_1, v3_2, hv3, h⟩ := gg_bd3 h
      refine gg_callV (gg_sg [0]) [0, 1] (wd_X8_refusedMissing_s6 v3_1 c_told c_above c_below v3_2 c_p1_most c_p1_sizes) 0 (C_X8_find (1 : Int32) c_latestFinding c_told c_above c_below c_found hv3) nV_X8_find ml_X8_119 rfl rfl rfl rfl rfl rfl rfl rfl rfl rfl [2, 3] 4 rfl rfl rfl rfl rfl ⟨Nat.le_of_ble_eq_true rfl, Nat.le_of_ble_eq_true rfl⟩ (Nat.le_of_ble_eq_true rfl) dX8_refusedMissing_24 [.int v3_0] rfl ?_
      refine gg_fg [false, false, false] [none, none, none] rfl ?_
      exact hk27 v3_0 v3_1 v3_2 h
    · replace h := gg_el h hc
      refine gg_iconst (0 : Int32) dX8_refusedMissing_18 (by decide) ?_
      refine gg_goto 27 dX8_refusedMissing_19 (by decide) ?_
      refine gg_fg [false, false, false] [none, none, none] rfl ?_
      exact hk27 (0 : Int32) c_latestFinding c_found h
  · replace h := gg_th h hc
    refine gg_iconst (-1 : Int32) dX8_refusedMissing_8 (by decide) ?_
    cases h
    exact gg_iret dX8_refusedMissing_9 rfl
def wd_X6_holds_s6 (c_most : Int32) (c_sizes : Nat → Int32) : va_W := [(0, .inr (5, [.int c_most, .ref 1, .ref 2])), (2, .inl (0, 6, .inl c_sizes))]
def MD_X6_holds_s6 : gg_M := (yX6_holds, cX6_holds, 3, some .boolean, 1, 21)
theorem nV_X6_holds_s6 : gg_nV MD_X6_holds_s6 2 := ⟨⟨gg_mem (by decide +kernel) rfl, gg_mem cw_X6_holds rfl, by decide, by decide, by decide +kernel⟩, gg_mem (by decide +kernel) rfl, gg_mem (by decide +kernel) rfl⟩
def f_X6_holds_s6 (a0 : Int32) (a1 : Int32) (c_sizes : Nat → Int32) : Option (Int32) := (f_X6_knows_s6 a0).bind (fun v1 => gg_lt (fun (s0_28 : Int32) => gg_chk (gg_isb s0_28) (some s0_28)) (fun k28 => gg_lt ((k28 (0 : Int32))) (fun k27 => (if v1 = (0 : Int32) then k27 else (if a1 < (0 : Int32) then k27 else gg_chk (gg_in a0 6) ((if (c_sizes a0.toNatClampNeg) ≤ a1 then k27 else (k28 (1 : Int32)))))))))
set_option maxRecDepth 20000 in
set_option maxHeartbeats 8000000 in
theorem C_X6_holds_s6 (a0 : Int32) (a1 : Int32) (c_most : Int32) (c_sizes : Nat → Int32) {res : Int32} (h : f_X6_holds_s6 a0 a1 c_sizes = some res) : gg_C MD_X6_holds_s6 [.ref 0, .int a0, .int a1] (wd_X6_holds_s6 c_most c_sizes) (some (.int res)) (wd_X6_holds_s6 c_most c_sizes) := by
  refine gg_ofG [some (.ref 0), some (.int a0), some (.int a1)] (plainFor_of_name (by decide)) (Nat.le_of_ble_eq_true rfl) rfl ?_
  unfold f_X6_holds_s6 at h
  refine gg_aload_n dX6_holds_0 rfl ?_
  refine gg_iload_n dX6_holds_1 rfl ?_
  obtain ⟨v1, hv1, h⟩ := gg_bd h
  refine gg_callV (gg_sg [0]) [0, 1] (wd_X6_holds_s6 c_most c_sizes) 0 (C_X6_knows_s6 a0 c_most c_sizes hv1) nV_X6_knows_s6 ml_X6_22 rfl rfl rfl rfl rfl rfl rfl rfl rfl rfl [] 2 rfl rfl rfl rfl rfl ⟨Nat.le_of_ble_eq_true rfl, Nat.le_of_ble_eq_true rfl⟩ (Nat.le_of_ble_eq_true rfl) dX6_holds_2 [.int v1] rfl ?_
  obtain ⟨k28, hke28, h⟩ := gg_lte h
  have hk28 : ∀ (s0_28 : Int32), k28 s0_28 = some res → gg_G MD_X6_holds_s6 28 [none, none, none] [.int s0_28] (wd_X6_holds_s6 c_most c_sizes) (some (.int res)) (wd_X6_holds_s6 c_most c_sizes) := by
    intro s0_28 h
    subst hke28
    obtain ⟨hz, h⟩ := gg_ck h
    cases h
    exact gg_zret dX6_holds_28 rfl hz
  clear hke28
  obtain ⟨k27, hke27, h⟩ := gg_lte h
  have hk27 : k27 = some res → gg_G MD_X6_holds_s6 27 [none, none, none] [] (wd_X6_holds_s6 c_most c_sizes) (some (.int res)) (wd_X6_holds_s6 c_most c_sizes) := by
    intro  h
    subst hke27
    refine gg_iconst (0 : Int32) dX6_holds_27 (by decide) ?_
    exact hk28 (0 : Int32) h
  clear hke27
  refine gg_if_eq 27 dX6_holds_5 (by decide) (fun hc => ?_) (fun hc => ?_)
  · replace h := gg_th h hc
    refine gg_fg [false, false, false] [none, none, none] rfl ?_
    exact hk27 h
  · replace h := gg_el h hc
    refine gg_iconst (0 : Int32) dX6_holds_8 (by decide) ?_
    refine gg_iload_n dX6_holds_9 rfl ?_
    refine gg_icmp_gt 27 dX6_holds_10 (by decide) (fun hc => ?_) (fun hc => ?_)
    · replace h := gg_th h hc
      refine gg_fg [false, false, false] [none, none, none] rfl ?_
      exact hk27 h
    · replace h := gg_el h hc
      refine gg_iload_n dX6_holds_13 rfl ?_
      refine gg_aload_n dX6_holds_14 rfl ?_
      refine gg_get 0 fl_X6_18 dX6_holds_15 rfl rfl ?_
      refine gg_iload_n dX6_holds_18 rfl ?_
      obtain ⟨hb19, h⟩ := gg_ck h
      refine gg_iald 1 dX6_holds_19 rfl hb19 ?_
      refine gg_icmp_ge 27 dX6_holds_20 (by decide) (fun hc => ?_) (fun hc => ?_)
      · replace h := gg_th h hc
        refine gg_fg [false, false, false] [none, none, none] rfl ?_
        exact hk27 h
      · replace h := gg_el h hc
        refine gg_iconst (1 : Int32) dX6_holds_23 (by decide) ?_
        refine gg_goto 28 dX6_holds_24 (by decide) ?_
        refine gg_fg [false, false, false] [none, none, none] rfl ?_
        exact hk28 (1 : Int32) h
def wd_X8_refusedPlace_s6 (c_latestFinding : Int32) (c_told : Int32) (c_above : Int64) (c_below : Int64) (c_found : Nat → Int32) (c_p1_most : Int32) (c_p1_sizes : Nat → Int32) : va_W := [(0, .inr (7, [.ref 1, .ref 10, .ref 17, .ref 19, .ref 27, .ref 35, .ref 43, .ref 45, .ref 52, .ref 56, .ref 60, .ref 67, .int c_latestFinding, .int c_told, .long c_above, .long c_below])), (67, .inl (0, 6, .inl c_found)), (100, .inr (5, [.int c_p1_most, .ref 101, .ref 102])), (102, .inl (0, 6, .inl c_p1_sizes))]
def MD_X8_refusedPlace_s6 : gg_M := (yX8_refusedPlace, cX8_refusedPlace, 5, some .int, 3, 64)
theorem nV_X8_refusedPlace_s6 : gg_nV MD_X8_refusedPlace_s6 3 := ⟨⟨gg_mem (by decide +kernel) rfl, gg_mem cw_X8_refusedPlace rfl, by decide, by decide, by decide +kernel⟩, gg_mem (by decide +kernel) rfl, gg_mem (by decide +kernel) rfl⟩
def f_X8_refusedPlace_s6 (a0 : Int32) (a1 : Int32) (c_latestFinding : Int32) (c_found : Nat → Int32) (c_p1_sizes : Nat → Int32) : Option (Int32 × (Int32) × (Nat → Int32)) := gg_b3 (f_X8_refusedMissing_s6 a0 c_latestFinding c_found c_p1_sizes) (fun v1_0 v1_1 v1_2 => (if v1_0 = (0 : Int32) then (f_X6_holds_s6 a0 a1 c_p1_sizes).bind (fun v2 => gg_lt (fun (s0_34 : Int32) (c_latestFinding_34 : Int32) (c_found_34 : Nat → Int32) => (some (s0_34, c_latestFinding_34, c_found_34))) (fun k34 => (if v2 = (0 : Int32) then gg_b3 (f_X8_find (2 : Int32) v1_1 v1_2) (fun v3_0 v3_1 v3_2 => (k34 v3_0 v3_1 v3_2)) else (k34 (0 : Int32) v1_1 v1_2)))) else (some (v1_0, v1_1, v1_2))))
set_option maxRecDepth 20000 in
set_option maxHeartbeats 8000000 in
theorem C_X8_refusedPlace_s6 (a0 : Int32) (a1 : Int32) (c_latestFinding : Int32) (c_told : Int32) (c_above : Int64) (c_below : Int64) (c_found : Nat → Int32) (c_p1_most : Int32) (c_p1_sizes : Nat → Int32) {r0 : Int32} {r1 : (Int32)} {r2 : (Nat → Int32)} (h : f_X8_refusedPlace_s6 a0 a1 c_latestFinding c_found c_p1_sizes = some (r0, r1, r2)) : gg_C MD_X8_refusedPlace_s6 [.ref 0, .ref 100, .int a0, .int a1] (wd_X8_refusedPlace_s6 c_latestFinding c_told c_above c_below c_found c_p1_most c_p1_sizes) (some (.int r0)) (wd_X8_refusedPlace_s6 r1 c_told c_above c_below r2 c_p1_most c_p1_sizes) := by
  refine gg_ofG [some (.ref 0), some (.ref 100), some (.int a0), some (.int a1), none] (plainFor_of_name (by decide)) (Nat.le_of_ble_eq_true rfl) rfl ?_
  unfold f_X8_refusedPlace_s6 at h
  refine gg_aload_n dX8_refusedPlace_0 rfl ?_
  refine gg_aload_n dX8_refusedPlace_1 rfl ?_
  refine gg_iload_n dX8_refusedPlace_2 rfl ?_
  obtain ⟨v1_0, v1_1, v1_2, hv1, h⟩ := gg_bd3 h
  refine gg_callV (gg_sg [0, 100]) [0, 1, 2, 3] (wd_X8_refusedPlace_s6 v1_1 c_told c_above c_below v1_2 c_p1_most c_p1_sizes) 0 (C_X8_refusedMissing_s6 a0 c_latestFinding c_told c_above c_below c_found c_p1_most c_p1_sizes hv1) nV_X8_refusedMissing_s6 ml_X8_108 rfl rfl rfl rfl rfl rfl rfl rfl rfl rfl [] 4 rfl rfl rfl rfl rfl ⟨Nat.le_of_ble_eq_true rfl, Nat.le_of_ble_eq_true rfl⟩ (Nat.le_of_ble_eq_true rfl) dX8_refusedPlace_3 [.int v1_0] rfl ?_
  refine gg_istore [some (.ref 0), some (.ref 100), some (.int a0), some (.int a1), some (.int v1_0)] dX8_refusedPlace_6 rfl (Nat.le_of_ble_eq_true rfl) rfl ?_
  refine gg_iload dX8_refusedPlace_8 rfl ?_
  refine gg_if_eq 16 dX8_refusedPlace_10 (by decide) (fun hc => ?_) (fun hc => ?_)
  · replace h := gg_th h hc
    refine gg_aload_n dX8_refusedPlace_16 rfl ?_
    refine gg_iload_n dX8_refusedPlace_17 rfl ?_
    refine gg_iload_n dX8_refusedPlace_18 rfl ?_
    obtain ⟨v2, hv2, h⟩ := gg_bd h
    refine gg_callV (gg_sg [100]) [2, 3] (wd_X8_refusedPlace_s6 v1_1 c_told c_above c_below v1_2 c_p1_most c_p1_sizes) 0 (C_X6_holds_s6 a0 a1 c_p1_most c_p1_sizes hv2) nV_X6_holds_s6 ml_X8_333 rfl rfl rfl rfl rfl rfl rfl rfl rfl rfl [0, 1] 4 rfl rfl rfl rfl rfl ⟨Nat.le_of_ble_eq_true rfl, Nat.le_of_ble_eq_true rfl⟩ (Nat.le_of_ble_eq_true rfl) dX8_refusedPlace_19 [.int v2] rfl ?_
    obtain ⟨k34, hke34, h⟩ := gg_lte h
    have hk34 : ∀ (s0_34 : Int32) (c_latestFinding_34 : Int32) (c_found_34 : Nat → Int32), k34 s0_34 c_latestFinding_34 c_found_34 = some (r0, r1, r2) → gg_G MD_X8_refusedPlace_s6 34 [none, none, none, none, none] [.int s0_34] (wd_X8_refusedPlace_s6 c_latestFinding_34 c_told c_above c_below c_found_34 c_p1_most c_p1_sizes) (some (.int r0)) (wd_X8_refusedPlace_s6 r1 c_told c_above c_below r2 c_p1_most c_p1_sizes) := by
      intro s0_34 c_latestFinding_34 c_found_34 h
      subst hke34
      cases h
      exact gg_iret dX8_refusedPlace_34 rfl
    clear hke34
    refine gg_if_eq 29 dX8_refusedPlace_22 (by decide) (fun hc => ?_) (fun hc => ?_)
    · replace h := gg_th h hc
      refine gg_aload_n dX8_refusedPlace_29 rfl ?_
      refine gg_iconst (2 : Int32) dX8_refusedPlace_30 (by decide) ?_
      obtain ⟨v3_0, v3_1, v3_2, hv3, h⟩ := gg_bd3 h
      refine gg_callV (gg_sg [0]) [0, 1] (wd_X8_refusedPlace_s6 v3_1 c_told c_above c_below v3_2 c_p1_most c_p1_sizes) 0 (C_X8_find (2 : Int32) v1_1 c_told c_above c_below v1_2 hv3) nV_X8_find ml_X8_119 rfl rfl rfl rfl rfl rfl rfl rfl rfl rfl [2, 3] 4 rfl rfl rfl rfl rfl ⟨Nat.le_of_ble_eq_true rfl, Nat.le_of_ble_eq_true rfl⟩ (Nat.le_of_ble_eq_true rfl) dX8_refusedPlace_31 [.int v3_0] rfl ?_
      refine gg_fg [false, false, false, false, false] [none, none, none, none, none] rfl ?_
      exact hk34 v3_0 v3_1 v3_2 h
    · replace h := gg_el h hc
      refine gg_iconst (0 : Int32) dX8_refusedPlace_25 (by decide) ?_
      refine gg_goto 34 dX8_refusedPlace_26 (by decide) ?_
      refine gg_fg [false, false, false, false, false] [none, none, none, none, none] rfl ?_
      exact hk34 (0 : Int32) v1_1 v1_2 h
  · replace h := gg_el h hc
    refine gg_iload dX8_refusedPlace_13 rfl ?_
    cases h
    exact gg_iret dX8_refusedPlace_15 rfl
def wd_X6_get_s6 (c_most : Int32) (c_sizes : Nat → Int32) (c_cells : Nat → Nat → Int32) : va_W := [(0, .inr (5, [.int c_most, .ref 1, .ref 2])), (1, .inl (4, 6, .inr (.inr (.inr (.inr (gg_rf 2 1)))))), (2, .inl (0, 6, .inl c_sizes)), (3, .inl (0, 40, .inl (c_cells 0))), (4, .inl (0, 40, .inl (c_cells 1))), (5, .inl (0, 40, .inl (c_cells 2))), (6, .inl (0, 40, .inl (c_cells 3))), (7, .inl (0, 40, .inl (c_cells 4))), (8, .inl (0, 40, .inl (c_cells 5)))]
def MD_X6_get_s6 : gg_M := (yX6_get, cX6_get, 3, some .int, 2, 43)
theorem nV_X6_get_s6 : gg_nV MD_X6_get_s6 2 := ⟨⟨gg_mem (by decide +kernel) rfl, gg_mem cw_X6_get rfl, by decide, by decide, by decide +kernel⟩, gg_mem (by decide +kernel) rfl, gg_mem (by decide +kernel) rfl⟩
def f_X6_get_s6 (a0 : Int32) (a1 : Int32) (c_sizes : Nat → Int32) (c_cells : Nat → Nat → Int32) : Option (Int32) := (f_X6_holds_s6 a0 a1 c_sizes).bind (fun v1 => gg_lt (fun (s0_21 : Int32) => (some s0_21)) (fun k21 => (if v1 = (0 : Int32) then (k21 (0 : Int32)) else gg_chk (gg_in a0 6) (gg_chk (gg_in a1 40) ((k21 (c_cells a0.toNatClampNeg a1.toNatClampNeg)))))))
set_option maxRecDepth 20000 in
set_option maxHeartbeats 8000000 in
theorem C_X6_get_s6 (a0 : Int32) (a1 : Int32) (c_most : Int32) (c_sizes : Nat → Int32) (c_cells : Nat → Nat → Int32) {res : Int32} (h : f_X6_get_s6 a0 a1 c_sizes c_cells = some res) : gg_C MD_X6_get_s6 [.ref 0, .int a0, .int a1] (wd_X6_get_s6 c_most c_sizes c_cells) (some (.int res)) (wd_X6_get_s6 c_most c_sizes c_cells) := by
  refine gg_ofG [some (.ref 0), some (.int a0), some (.int a1)] (plainFor_of_name (by decide)) (Nat.le_of_ble_eq_true rfl) rfl ?_
  unfold f_X6_get_s6 at h
  refine gg_aload_n dX6_get_0 rfl ?_
  refine gg_iload_n dX6_get_1 rfl ?_
  refine gg_iload_n dX6_get_2 rfl ?_
  obtain ⟨v1, hv1, h⟩ := gg_bd h
  refine gg_callV (gg_sg [0]) [0, 2] (wd_X6_get_s6 c_most c_sizes c_cells) 0 (C_X6_holds_s6 a0 a1 c_most c_sizes hv1) nV_X6_holds_s6 ml_X6_29 rfl rfl rfl rfl rfl rfl rfl rfl rfl rfl [1, 3, 4, 5, 6, 7, 8] 9 rfl rfl rfl rfl rfl ⟨Nat.le_of_ble_eq_true rfl, Nat.le_of_ble_eq_true rfl⟩ (Nat.le_of_ble_eq_true rfl) dX6_get_3 [.int v1] rfl ?_
  obtain ⟨k21, hke21, h⟩ := gg_lte h
  have hk21 : ∀ (s0_21 : Int32), k21 s0_21 = some res → gg_G MD_X6_get_s6 21 [none, none, none] [.int s0_21] (wd_X6_get_s6 c_most c_sizes c_cells) (some (.int res)) (wd_X6_get_s6 c_most c_sizes c_cells) := by
    intro s0_21 h
    subst hke21
    cases h
    exact gg_iret dX6_get_21 rfl
  clear hke21
  refine gg_if_eq 20 dX6_get_6 (by decide) (fun hc => ?_) (fun hc => ?_)
  · replace h := gg_th h hc
    refine gg_iconst (0 : Int32) dX6_get_20 (by decide) ?_
    refine gg_fg [false, false, false] [none, none, none] rfl ?_
    exact hk21 (0 : Int32) h
  · replace h := gg_el h hc
    refine gg_aload_n dX6_get_9 rfl ?_
    refine gg_get 0 fl_X6_15 dX6_get_10 rfl rfl ?_
    refine gg_iload_n dX6_get_13 rfl ?_
    obtain ⟨hr14, h⟩ := gg_ck h
    refine gg_aldA 1 (3 + a0.toNatClampNeg) dX6_get_14 rfl hr14 rfl (gg_ad 1 2 _) ?_
    refine gg_iload_n dX6_get_15 rfl ?_
    obtain ⟨hb16, h⟩ := gg_ck h
    refine gg_iald (3 + a0.toNatClampNeg) dX6_get_16 (gg_rows6 rfl rfl rfl rfl rfl rfl (gg_in_lt hr14)) hb16 ?_
    refine gg_goto 21 dX6_get_17 (by decide) ?_
    refine gg_fg [false, false, false] [none, none, none] rfl ?_
    exact hk21 (c_cells a0.toNatClampNeg a1.toNatClampNeg) h
def wd_X6_set_s6 (c_most : Int32) (c_sizes : Nat → Int32) (c_cells : Nat → Nat → Int32) : va_W := [(0, .inr (5, [.int c_most, .ref 1, .ref 2])), (1, .inl (4, 6, .inr (.inr (.inr (.inr (gg_rf 2 1)))))), (2, .inl (0, 6, .inl c_sizes)), (3, .inl (0, 40, .inl (c_cells 0))), (4, .inl (0, 40, .inl (c_cells 1))), (5, .inl (0, 40, .inl (c_cells 2))), (6, .inl (0, 40, .inl (c_cells 3))), (7, .inl (0, 40, .inl (c_cells 4))), (8, .inl (0, 40, .inl (c_cells 5)))]
def MD_X6_set_s6 : gg_M := (yX6_set, cX6_set, 4, none, 2, 43)
theorem nV_X6_set_s6 : gg_nV MD_X6_set_s6 3 := ⟨⟨gg_mem (by decide +kernel) rfl, gg_mem cw_X6_set rfl, by decide, by decide, by decide +kernel⟩, gg_mem (by decide +kernel) rfl, gg_mem (by decide +kernel) rfl⟩
def f_X6_set_s6 (a0 : Int32) (a1 : Int32) (a2 : Int32) (c_sizes : Nat → Int32) (c_cells : Nat → Nat → Int32) : Option ((Nat → Nat → Int32)) := (f_X6_holds_s6 a0 a1 c_sizes).bind (fun v1 => gg_lt (fun (c_cells_18 : Nat → Nat → Int32) => (some c_cells_18)) (fun k18 => (if v1 = (0 : Int32) then (k18 c_cells) else gg_chk (gg_in a0 6) (gg_chk (gg_in a1 40) ((k18 (gg_up c_cells a0.toNatClampNeg (upd (c_cells a0.toNatClampNeg) a1.toNatClampNeg a2))))))))
set_option maxRecDepth 20000 in
set_option maxHeartbeats 8000000 in
theorem C_X6_set_s6 (a0 : Int32) (a1 : Int32) (a2 : Int32) (c_most : Int32) (c_sizes : Nat → Int32) (c_cells : Nat → Nat → Int32) {res : (Nat → Nat → Int32)} (h : f_X6_set_s6 a0 a1 a2 c_sizes c_cells = some res) : gg_C MD_X6_set_s6 [.ref 0, .int a0, .int a1, .int a2] (wd_X6_set_s6 c_most c_sizes c_cells) (none) (wd_X6_set_s6 c_most c_sizes res) := by
  refine gg_ofG [some (.ref 0), some (.int a0), some (.int a1), some (.int a2)] (plainFor_of_name (by decide)) (Nat.le_of_ble_eq_true rfl) rfl ?_
  unfold f_X6_set_s6 at h
  refine gg_aload_n dX6_set_0 rfl ?_
  refine gg_iload_n dX6_set_1 rfl ?_
  refine gg_iload_n dX6_set_2 rfl ?_
  obtain ⟨v1, hv1, h⟩ := gg_bd h
  refine gg_callV (gg_sg [0]) [0, 2] (wd_X6_set_s6 c_most c_sizes c_cells) 0 (C_X6_holds_s6 a0 a1 c_most c_sizes hv1) nV_X6_holds_s6 ml_X6_29 rfl rfl rfl rfl rfl rfl rfl rfl rfl rfl [1, 3, 4, 5, 6, 7, 8] 9 rfl rfl rfl rfl rfl ⟨Nat.le_of_ble_eq_true rfl, Nat.le_of_ble_eq_true rfl⟩ (Nat.le_of_ble_eq_true rfl) dX6_set_3 [.int v1] rfl ?_
  obtain ⟨k18, hke18, h⟩ := gg_lte h
  have hk18 : ∀ (c_cells_18 : Nat → Nat → Int32), k18 c_cells_18 = some res → gg_G MD_X6_set_s6 18 [none, none, none, none] [] (wd_X6_set_s6 c_most c_sizes c_cells_18) (none) (wd_X6_set_s6 c_most c_sizes res) := by
    intro c_cells_18 h
    subst hke18
    cases h
    exact gg_vret dX6_set_18 rfl
  clear hke18
  refine gg_if_eq 18 dX6_set_6 (by decide) (fun hc => ?_) (fun hc => ?_)
  · replace h := gg_th h hc
    refine gg_fg [false, false, false, false] [none, none, none, none] rfl ?_
    exact hk18 c_cells h
  · replace h := gg_el h hc
    refine gg_aload_n dX6_set_9 rfl ?_
    refine gg_get 0 fl_X6_15 dX6_set_10 rfl rfl ?_
    refine gg_iload_n dX6_set_13 rfl ?_
    obtain ⟨hr14, h⟩ := gg_ck h
    refine gg_aldA 1 (3 + a0.toNatClampNeg) dX6_set_14 rfl hr14 rfl (gg_ad 1 2 _) ?_
    refine gg_iload_n dX6_set_15 rfl ?_
    refine gg_iload_n dX6_set_16 rfl ?_
    obtain ⟨hb17, h⟩ := gg_ck h
    refine gg_iast (3 + a0.toNatClampNeg) (wd_X6_set_s6 c_most c_sizes (gg_up c_cells a0.toNatClampNeg (upd (c_cells a0.toNatClampNeg) a1.toNatClampNeg a2))) dX6_set_17 (gg_rows6 rfl rfl rfl rfl rfl rfl (gg_in_lt hr14)) hb17 (gg_pick6 (P := fun t => List.set (wd_X6_set_s6 c_most c_sizes c_cells) (3 + t) (3 + t, .inl (0, 40, .inl (upd (c_cells t) a1.toNatClampNeg a2))) = (wd_X6_set_s6 c_most c_sizes (gg_up c_cells t (upd (c_cells t) a1.toNatClampNeg a2)))) rfl rfl rfl rfl rfl rfl (gg_in_lt hr14)) ?_
    refine gg_fg [false, false, false, false] [none, none, none, none] rfl ?_
    exact hk18 (gg_up c_cells a0.toNatClampNeg (upd (c_cells a0.toNatClampNeg) a1.toNatClampNeg a2)) h
def wd_X8_lay (c_latestFinding : Int32) (c_told : Int32) (c_above : Int64) (c_below : Int64) (c_rows_most : Int32) (c_rows_sizes : Nat → Int32) (c_rows_cells : Nat → Nat → Int32) (c_found : Nat → Int32) : va_W := [(0, .inr (7, [.ref 1, .ref 10, .ref 17, .ref 19, .ref 27, .ref 35, .ref 43, .ref 45, .ref 52, .ref 56, .ref 60, .ref 67, .int c_latestFinding, .int c_told, .long c_above, .long c_below])), (1, .inr (5, [.int c_rows_most, .ref 2, .ref 3])), (2, .inl (4, 6, .inr (.inr (.inr (.inr (gg_rf 2 1)))))), (3, .inl (0, 6, .inl c_rows_sizes)), (4, .inl (0, 40, .inl (c_rows_cells 0))), (5, .inl (0, 40, .inl (c_rows_cells 1))), (6, .inl (0, 40, .inl (c_rows_cells 2))), (7, .inl (0, 40, .inl (c_rows_cells 3))), (8, .inl (0, 40, .inl (c_rows_cells 4))), (9, .inl (0, 40, .inl (c_rows_cells 5))), (67, .inl (0, 6, .inl c_found))]
def MD_X8_lay : gg_M := (yX8_lay, cX8_lay, 5, some .int, 4, 88)
theorem nV_X8_lay : gg_nV MD_X8_lay 3 := ⟨⟨gg_mem (by decide +kernel) rfl, gg_mem cw_X8_lay rfl, by decide, by decide, by decide +kernel⟩, gg_mem (by decide +kernel) rfl, gg_mem (by decide +kernel) rfl⟩
def f_X8_lay (a0 : Int32) (a1 : Int32) (a2 : Int32) (c_latestFinding : Int32) (c_told : Int32) (c_rows_sizes : Nat → Int32) (c_rows_cells : Nat → Nat → Int32) (c_found : Nat → Int32) : Option (Int32 × (Int32) × (Int32) × (Nat → Nat → Int32) × (Nat → Int32)) := gg_b3 (f_X8_refusedPlace_s6 a0 a1 c_latestFinding c_found c_rows_sizes) (fun v1_0 v1_1 v1_2 => (if v1_0 = (0 : Int32) then (f_X6_get_s6 a0 a1 c_rows_sizes c_rows_cells).bind (fun v2 => (f_X6_set_s6 a0 a1 a2 c_rows_sizes c_rows_cells).bind (fun v3 => (some ((1 : Int32), v1_1, v2, v3, v1_2)))) else (some (v1_0, v1_1, c_told, c_rows_cells, v1_2))))
set_option maxRecDepth 20000 in
set_option maxHeartbeats 8000000 in
theorem C_X8_lay (a0 : Int32) (a1 : Int32) (a2 : Int32) (c_latestFinding : Int32) (c_told : Int32) (c_above : Int64) (c_below : Int64) (c_rows_most : Int32) (c_rows_sizes : Nat → Int32) (c_rows_cells : Nat → Nat → Int32) (c_found : Nat → Int32) {r0 : Int32} {r1 : (Int32)} {r2 : (Int32)} {r3 : (Nat → Nat → Int32)} {r4 : (Nat → Int32)} (h : f_X8_lay a0 a1 a2 c_latestFinding c_told c_rows_sizes c_rows_cells c_found = some (r0, r1, r2, r3, r4)) : gg_C MD_X8_lay [.ref 0, .int a0, .int a1, .int a2] (wd_X8_lay c_latestFinding c_told c_above c_below c_rows_most c_rows_sizes c_rows_cells c_found) (some (.int r0)) (wd_X8_lay r1 r2 c_above c_below c_rows_most c_rows_sizes r3 r4) := by
  refine gg_ofG [some (.ref 0), some (.int a0), some (.int a1), some (.int a2), none] (plainFor_of_name (by decide)) (Nat.le_of_ble_eq_true rfl) rfl ?_
  unfold f_X8_lay at h
  refine gg_aload_n dX8_lay_0 rfl ?_
  refine gg_aload_n dX8_lay_1 rfl ?_
  refine gg_get 0 fl_X8_14 dX8_lay_2 rfl rfl ?_
  refine gg_iload_n dX8_lay_5 rfl ?_
  refine gg_iload_n dX8_lay_6 rfl ?_
  obtain ⟨v1_0, v1_1, v1_2, hv1, h⟩ := gg_bd3 h
  refine gg_callV (gg_sg [0, 1]) [0, 10, 1, 3] (wd_X8_lay v1_1 c_told c_above c_below c_rows_most c_rows_sizes c_rows_cells v1_2) 0 (C_X8_refusedPlace_s6 a0 a1 c_latestFinding c_told c_above c_below c_found c_rows_most c_rows_sizes hv1) nV_X8_refusedPlace_s6 ml_X8_97 rfl rfl rfl rfl rfl rfl rfl rfl rfl rfl [2, 4, 5, 6, 7, 8, 9] 11 rfl rfl rfl rfl rfl ⟨Nat.le_of_ble_eq_true rfl, Nat.le_of_ble_eq_true rfl⟩ (Nat.le_of_ble_eq_true rfl) dX8_lay_7 [.int v1_0] rfl ?_
  refine gg_istore [some (.ref 0), some (.int a0), some (.int a1), some (.int a2), some (.int v1_0)] dX8_lay_10 rfl (Nat.le_of_ble_eq_true rfl) rfl ?_
  refine gg_iload dX8_lay_12 rfl ?_
  refine gg_if_eq 20 dX8_lay_14 (by decide) (fun hc => ?_) (fun hc => ?_)
  · replace h := gg_th h hc
    refine gg_aload_n dX8_lay_20 rfl ?_
    refine gg_aload_n dX8_lay_21 rfl ?_
    refine gg_get 0 fl_X8_14 dX8_lay_22 rfl rfl ?_
    refine gg_iload_n dX8_lay_25 rfl ?_
    refine gg_iload_n dX8_lay_26 rfl ?_
    obtain ⟨v2, hv2, h⟩ := gg_bd h
    refine gg_callV (gg_sg [1]) [1, 2, 3, 4, 5, 6, 7, 8, 9] (wd_X8_lay v1_1 c_told c_above c_below c_rows_most c_rows_sizes c_rows_cells v1_2) 0 (C_X6_get_s6 a0 a1 c_rows_most c_rows_sizes c_rows_cells hv2) nV_X6_get_s6 ml_X8_100 rfl rfl rfl rfl rfl rfl rfl rfl rfl rfl [0, 10] 11 rfl rfl rfl rfl rfl ⟨Nat.le_of_ble_eq_true rfl, Nat.le_of_ble_eq_true rfl⟩ (Nat.le_of_ble_eq_true rfl) dX8_lay_27 [.int v2, .ref 0] rfl ?_
    refine gg_putf 0 (wd_X8_lay v1_1 v2 c_above c_below c_rows_most c_rows_sizes c_rows_cells v1_2) fl_X8_83 dX8_lay_30 rfl (Nat.le_of_ble_eq_true rfl) (fun _ => ⟨rfl, rfl⟩) rfl ?_
    refine gg_aload_n dX8_lay_33 rfl ?_
    refine gg_get 0 fl_X8_14 dX8_lay_34 rfl rfl ?_
    refine gg_iload_n dX8_lay_37 rfl ?_
    refine gg_iload_n dX8_lay_38 rfl ?_
    refine gg_iload_n dX8_lay_39 rfl ?_
    obtain ⟨v3, hv3, h⟩ := gg_bd h
    refine gg_callV (gg_sg [1]) [1, 2, 3, 4, 5, 6, 7, 8, 9] (wd_X8_lay v1_1 v2 c_above c_below c_rows_most c_rows_sizes v3 v1_2) 0 (C_X6_set_s6 a0 a1 a2 c_rows_most c_rows_sizes c_rows_cells hv3) nV_X6_set_s6 ml_X8_104 rfl rfl rfl rfl rfl rfl rfl rfl rfl rfl [0, 10] 11 rfl rfl rfl rfl rfl ⟨Nat.le_of_ble_eq_true rfl, Nat.le_of_ble_eq_true rfl⟩ (Nat.le_of_ble_eq_true rfl) dX8_lay_40 [] rfl ?_
    refine gg_iconst (1 : Int32) dX8_lay_43 (by decide) ?_
    cases h
    exact gg_iret dX8_lay_44 rfl
  · replace h := gg_el h hc
    refine gg_iload dX8_lay_17 rfl ?_
    cases h
    exact gg_iret dX8_lay_19 rfl
def wd_X8_at (c_latestFinding : Int32) (c_told : Int32) (c_above : Int64) (c_below : Int64) (c_rows_most : Int32) (c_rows_sizes : Nat → Int32) (c_rows_cells : Nat → Nat → Int32) (c_found : Nat → Int32) : va_W := [(0, .inr (7, [.ref 1, .ref 10, .ref 17, .ref 19, .ref 27, .ref 35, .ref 43, .ref 45, .ref 52, .ref 56, .ref 60, .ref 67, .int c_latestFinding, .int c_told, .long c_above, .long c_below])), (1, .inr (5, [.int c_rows_most, .ref 2, .ref 3])), (2, .inl (4, 6, .inr (.inr (.inr (.inr (gg_rf 2 1)))))), (3, .inl (0, 6, .inl c_rows_sizes)), (4, .inl (0, 40, .inl (c_rows_cells 0))), (5, .inl (0, 40, .inl (c_rows_cells 1))), (6, .inl (0, 40, .inl (c_rows_cells 2))), (7, .inl (0, 40, .inl (c_rows_cells 3))), (8, .inl (0, 40, .inl (c_rows_cells 4))), (9, .inl (0, 40, .inl (c_rows_cells 5))), (67, .inl (0, 6, .inl c_found))]
def MD_X8_at : gg_M := (yX8_at, cX8_at, 4, some .int, 4, 88)
theorem nV_X8_at : gg_nV MD_X8_at 2 := ⟨⟨gg_mem (by decide +kernel) rfl, gg_mem cw_X8_at rfl, by decide, by decide, by decide +kernel⟩, gg_mem (by decide +kernel) rfl, gg_mem (by decide +kernel) rfl⟩
def f_X8_at (a0 : Int32) (a1 : Int32) (c_latestFinding : Int32) (c_told : Int32) (c_rows_sizes : Nat → Int32) (c_rows_cells : Nat → Nat → Int32) (c_found : Nat → Int32) : Option (Int32 × (Int32) × (Int32) × (Nat → Int32)) := gg_b3 (f_X8_refusedPlace_s6 a0 a1 c_latestFinding c_found c_rows_sizes) (fun v1_0 v1_1 v1_2 => (if v1_0 = (0 : Int32) then (f_X6_get_s6 a0 a1 c_rows_sizes c_rows_cells).bind (fun v2 => (some ((1 : Int32), v1_1, v2, v1_2))) else (some (v1_0, v1_1, c_told, v1_2))))
set_option maxRecDepth 20000 in
set_option maxHeartbeats 8000000 in
theorem C_X8_at (a0 : Int32) (a1 : Int32) (c_latestFinding : Int32) (c_told : Int32) (c_above : Int64) (c_below : Int64) (c_rows_most : Int32) (c_rows_sizes : Nat → Int32) (c_rows_cells : Nat → Nat → Int32) (c_found : Nat → Int32) {r0 : Int32} {r1 : (Int32)} {r2 : (Int32)} {r3 : (Nat → Int32)} (h : f_X8_at a0 a1 c_latestFinding c_told c_rows_sizes c_rows_cells c_found = some (r0, r1, r2, r3)) : gg_C MD_X8_at [.ref 0, .int a0, .int a1] (wd_X8_at c_latestFinding c_told c_above c_below c_rows_most c_rows_sizes c_rows_cells c_found) (some (.int r0)) (wd_X8_at r1 r2 c_above c_below c_rows_most c_rows_sizes c_rows_cells r3) := by
  refine gg_ofG [some (.ref 0), some (.int a0), some (.int a1), none] (plainFor_of_name (by decide)) (Nat.le_of_ble_eq_true rfl) rfl ?_
  unfold f_X8_at at h
  refine gg_aload_n dX8_at_0 rfl ?_
  refine gg_aload_n dX8_at_1 rfl ?_
  refine gg_get 0 fl_X8_14 dX8_at_2 rfl rfl ?_
  refine gg_iload_n dX8_at_5 rfl ?_
  refine gg_iload_n dX8_at_6 rfl ?_
  obtain ⟨v1_0, v1_1, v1_2, hv1, h⟩ := gg_bd3 h
  refine gg_callV (gg_sg [0, 1]) [0, 10, 1, 3] (wd_X8_at v1_1 c_told c_above c_below c_rows_most c_rows_sizes c_rows_cells v1_2) 0 (C_X8_refusedPlace_s6 a0 a1 c_latestFinding c_told c_above c_below c_found c_rows_most c_rows_sizes hv1) nV_X8_refusedPlace_s6 ml_X8_97 rfl rfl rfl rfl rfl rfl rfl rfl rfl rfl [2, 4, 5, 6, 7, 8, 9] 11 rfl rfl rfl rfl rfl ⟨Nat.le_of_ble_eq_true rfl, Nat.le_of_ble_eq_true rfl⟩ (Nat.le_of_ble_eq_true rfl) dX8_at_7 [.int v1_0] rfl ?_
  refine gg_istore_n [some (.ref 0), some (.int a0), some (.int a1), some (.int v1_0)] dX8_at_10 rfl (Nat.le_of_ble_eq_true rfl) rfl ?_
  refine gg_iload_n dX8_at_11 rfl ?_
  refine gg_if_eq 17 dX8_at_12 (by decide) (fun hc => ?_) (fun hc => ?_)
  · replace h := gg_th h hc
    refine gg_aload_n dX8_at_17 rfl ?_
    refine gg_aload_n dX8_at_18 rfl ?_
    refine gg_get 0 fl_X8_14 dX8_at_19 rfl rfl ?_
    refine gg_iload_n dX8_at_22 rfl ?_
    refine gg_iload_n dX8_at_23 rfl ?_
    obtain ⟨v2, hv2, h⟩ := gg_bd h
    refine gg_callV (gg_sg [1]) [1, 2, 3, 4, 5, 6, 7, 8, 9] (wd_X8_at v1_1 c_told c_above c_below c_rows_most c_rows_sizes c_rows_cells v1_2) 0 (C_X6_get_s6 a0 a1 c_rows_most c_rows_sizes c_rows_cells hv2) nV_X6_get_s6 ml_X8_100 rfl rfl rfl rfl rfl rfl rfl rfl rfl rfl [0, 10] 11 rfl rfl rfl rfl rfl ⟨Nat.le_of_ble_eq_true rfl, Nat.le_of_ble_eq_true rfl⟩ (Nat.le_of_ble_eq_true rfl) dX8_at_24 [.int v2, .ref 0] rfl ?_
    refine gg_putf 0 (wd_X8_at v1_1 v2 c_above c_below c_rows_most c_rows_sizes c_rows_cells v1_2) fl_X8_83 dX8_at_27 rfl (Nat.le_of_ble_eq_true rfl) (fun _ => ⟨rfl, rfl⟩) rfl ?_
    refine gg_iconst (1 : Int32) dX8_at_30 (by decide) ?_
    cases h
    exact gg_iret dX8_at_31 rfl
  · replace h := gg_el h hc
    refine gg_iload_n dX8_at_15 rfl ?_
    cases h
    exact gg_iret dX8_at_16 rfl
def wd_X6_drop_s6 (c_most : Int32) (c_sizes : Nat → Int32) : va_W := [(0, .inr (5, [.int c_most, .ref 1, .ref 2])), (2, .inl (0, 6, .inl c_sizes))]
def MD_X6_drop_s6 : gg_M := (yX6_drop, cX6_drop, 2, none, 1, 21)
theorem nV_X6_drop_s6 : gg_nV MD_X6_drop_s6 1 := ⟨⟨gg_mem (by decide +kernel) rfl, gg_mem cw_X6_drop rfl, by decide, by decide, by decide +kernel⟩, gg_mem (by decide +kernel) rfl, gg_mem (by decide +kernel) rfl⟩
def f_X6_drop_s6 (a0 : Int32) (c_sizes : Nat → Int32) : Option ((Nat → Int32)) := (f_X6_knows_s6 a0).bind (fun v1 => gg_lt (fun (c_sizes_15 : Nat → Int32) => (some c_sizes_15)) (fun k15 => (if v1 = (0 : Int32) then (k15 c_sizes) else gg_chk (gg_in a0 6) ((k15 (upd c_sizes a0.toNatClampNeg (-1 : Int32)))))))
set_option maxRecDepth 20000 in
set_option maxHeartbeats 8000000 in
theorem C_X6_drop_s6 (a0 : Int32) (c_most : Int32) (c_sizes : Nat → Int32) {res : (Nat → Int32)} (h : f_X6_drop_s6 a0 c_sizes = some res) : gg_C MD_X6_drop_s6 [.ref 0, .int a0] (wd_X6_drop_s6 c_most c_sizes) (none) (wd_X6_drop_s6 c_most res) := by
  refine gg_ofG [some (.ref 0), some (.int a0)] (plainFor_of_name (by decide)) (Nat.le_of_ble_eq_true rfl) rfl ?_
  unfold f_X6_drop_s6 at h
  refine gg_aload_n dX6_drop_0 rfl ?_
  refine gg_iload_n dX6_drop_1 rfl ?_
  obtain ⟨v1, hv1, h⟩ := gg_bd h
  refine gg_callV (gg_sg [0]) [0, 1] (wd_X6_drop_s6 c_most c_sizes) 0 (C_X6_knows_s6 a0 c_most c_sizes hv1) nV_X6_knows_s6 ml_X6_22 rfl rfl rfl rfl rfl rfl rfl rfl rfl rfl [] 2 rfl rfl rfl rfl rfl ⟨Nat.le_of_ble_eq_true rfl, Nat.le_of_ble_eq_true rfl⟩ (Nat.le_of_ble_eq_true rfl) dX6_drop_2 [.int v1] rfl ?_
  obtain ⟨k15, hke15, h⟩ := gg_lte h
  have hk15 : ∀ (c_sizes_15 : Nat → Int32), k15 c_sizes_15 = some res → gg_G MD_X6_drop_s6 15 [none, none] [] (wd_X6_drop_s6 c_most c_sizes_15) (none) (wd_X6_drop_s6 c_most res) := by
    intro c_sizes_15 h
    subst hke15
    cases h
    exact gg_vret dX6_drop_15 rfl
  clear hke15
  refine gg_if_eq 15 dX6_drop_5 (by decide) (fun hc => ?_) (fun hc => ?_)
  · replace h := gg_th h hc
    refine gg_fg [false, false] [none, none] rfl ?_
    exact hk15 c_sizes h
  · replace h := gg_el h hc
    refine gg_aload_n dX6_drop_8 rfl ?_
    refine gg_get 0 fl_X6_18 dX6_drop_9 rfl rfl ?_
    refine gg_iload_n dX6_drop_12 rfl ?_
    refine gg_iconst (-1 : Int32) dX6_drop_13 (by decide) ?_
    obtain ⟨hb14, h⟩ := gg_ck h
    refine gg_iast 1 (wd_X6_drop_s6 c_most (upd c_sizes a0.toNatClampNeg (-1 : Int32))) dX6_drop_14 rfl hb14 rfl ?_
    refine gg_fg [false, false] [none, none] rfl ?_
    exact hk15 (upd c_sizes a0.toNatClampNeg (-1 : Int32)) h
def wd_X8_tear (c_latestFinding : Int32) (c_told : Int32) (c_above : Int64) (c_below : Int64) (c_rows_most : Int32) (c_rows_sizes : Nat → Int32) (c_found : Nat → Int32) : va_W := [(0, .inr (7, [.ref 1, .ref 10, .ref 17, .ref 19, .ref 27, .ref 35, .ref 43, .ref 45, .ref 52, .ref 56, .ref 60, .ref 67, .int c_latestFinding, .int c_told, .long c_above, .long c_below])), (1, .inr (5, [.int c_rows_most, .ref 2, .ref 3])), (3, .inl (0, 6, .inl c_rows_sizes)), (67, .inl (0, 6, .inl c_found))]
def MD_X8_tear : gg_M := (yX8_tear, cX8_tear, 3, some .int, 3, 64)
theorem nV_X8_tear : gg_nV MD_X8_tear 1 := ⟨⟨gg_mem (by decide +kernel) rfl, gg_mem cw_X8_tear rfl, by decide, by decide, by decide +kernel⟩, gg_mem (by decide +kernel) rfl, gg_mem (by decide +kernel) rfl⟩
def f_X8_tear (a0 : Int32) (c_latestFinding : Int32) (c_rows_sizes : Nat → Int32) (c_found : Nat → Int32) : Option (Int32 × (Int32) × (Nat → Int32) × (Nat → Int32)) := gg_b3 (f_X8_refusedMissing_s6 a0 c_latestFinding c_found c_rows_sizes) (fun v1_0 v1_1 v1_2 => (if v1_0 = (0 : Int32) then (f_X6_drop_s6 a0 c_rows_sizes).bind (fun v2 => (some ((1 : Int32), v1_1, v2, v1_2))) else (some (v1_0, v1_1, c_rows_sizes, v1_2))))
set_option maxRecDepth 20000 in
set_option maxHeartbeats 8000000 in
theorem C_X8_tear (a0 : Int32) (c_latestFinding : Int32) (c_told : Int32) (c_above : Int64) (c_below : Int64) (c_rows_most : Int32) (c_rows_sizes : Nat → Int32) (c_found : Nat → Int32) {r0 : Int32} {r1 : (Int32)} {r2 : (Nat → Int32)} {r3 : (Nat → Int32)} (h : f_X8_tear a0 c_latestFinding c_rows_sizes c_found = some (r0, r1, r2, r3)) : gg_C MD_X8_tear [.ref 0, .int a0] (wd_X8_tear c_latestFinding c_told c_above c_below c_rows_most c_rows_sizes c_found) (some (.int r0)) (wd_X8_tear r1 c_told c_above c_below c_rows_most r2 r3) := by
  refine gg_ofG [some (.ref 0), some (.int a0), none] (plainFor_of_name (by decide)) (Nat.le_of_ble_eq_true rfl) rfl ?_
  unfold f_X8_tear at h
  refine gg_aload_n dX8_tear_0 rfl ?_
  refine gg_aload_n dX8_tear_1 rfl ?_
  refine gg_get 0 fl_X8_14 dX8_tear_2 rfl rfl ?_
  refine gg_iload_n dX8_tear_5 rfl ?_
  obtain ⟨v1_0, v1_1, v1_2, hv1, h⟩ := gg_bd3 h
  refine gg_callV (gg_sg [0, 1]) [0, 3, 1, 2] (wd_X8_tear v1_1 c_told c_above c_below c_rows_most c_rows_sizes v1_2) 0 (C_X8_refusedMissing_s6 a0 c_latestFinding c_told c_above c_below c_found c_rows_most c_rows_sizes hv1) nV_X8_refusedMissing_s6 ml_X8_108 rfl rfl rfl rfl rfl rfl rfl rfl rfl rfl [] 4 rfl rfl rfl rfl rfl ⟨Nat.le_of_ble_eq_true rfl, Nat.le_of_ble_eq_true rfl⟩ (Nat.le_of_ble_eq_true rfl) dX8_tear_6 [.int v1_0] rfl ?_
  refine gg_istore_n [some (.ref 0), some (.int a0), some (.int v1_0)] dX8_tear_9 rfl (Nat.le_of_ble_eq_true rfl) rfl ?_
  refine gg_iload_n dX8_tear_10 rfl ?_
  refine gg_if_eq 16 dX8_tear_11 (by decide) (fun hc => ?_) (fun hc => ?_)
  · replace h := gg_th h hc
    refine gg_aload_n dX8_tear_16 rfl ?_
    refine gg_get 0 fl_X8_14 dX8_tear_17 rfl rfl ?_
    refine gg_iload_n dX8_tear_20 rfl ?_
    obtain ⟨v2, hv2, h⟩ := gg_bd h
    refine gg_callV (gg_sg [1]) [1, 2] (wd_X8_tear v1_1 c_told c_above c_below c_rows_most v2 v1_2) 0 (C_X6_drop_s6 a0 c_rows_most c_rows_sizes hv2) nV_X6_drop_s6 ml_X8_112 rfl rfl rfl rfl rfl rfl rfl rfl rfl rfl [0, 3] 4 rfl rfl rfl rfl rfl ⟨Nat.le_of_ble_eq_true rfl, Nat.le_of_ble_eq_true rfl⟩ (Nat.le_of_ble_eq_true rfl) dX8_tear_21 [] rfl ?_
    refine gg_iconst (1 : Int32) dX8_tear_24 (by decide) ?_
    cases h
    exact gg_iret dX8_tear_25 rfl
  · replace h := gg_el h hc
    refine gg_iload_n dX8_tear_14 rfl ?_
    cases h
    exact gg_iret dX8_tear_15 rfl
def wd_X6_holdsRun_s6 (c_most : Int32) (c_sizes : Nat → Int32) : va_W := [(0, .inr (5, [.int c_most, .ref 1, .ref 2])), (2, .inl (0, 6, .inl c_sizes))]
def MD_X6_holdsRun_s6 : gg_M := (yX6_holdsRun, cX6_holdsRun, 4, some .boolean, 2, 42)
theorem nV_X6_holdsRun_s6 : gg_nV MD_X6_holdsRun_s6 3 := ⟨⟨gg_mem (by decide +kernel) rfl, gg_mem cw_X6_holdsRun rfl, by decide, by decide, by decide +kernel⟩, gg_mem (by decide +kernel) rfl, gg_mem (by decide +kernel) rfl⟩
def f_X6_holdsRun_s6 (a0 : Int32) (a1 : Int32) (a2 : Int32) (c_sizes : Nat → Int32) : Option (Int32) := (f_X6_has_s6 a0 c_sizes).bind (fun v1 => gg_lt (fun (s0_45 : Int32) => gg_chk (gg_isb s0_45) (some s0_45)) (fun k45 => gg_lt ((k45 (0 : Int32))) (fun k44 => (if v1 = (0 : Int32) then k44 else (if a2 < (0 : Int32) then k44 else (if a1 < (0 : Int32) then k44 else gg_chk (gg_in a0 6) ((if (c_sizes a0.toNatClampNeg) < a2 then k44 else gg_chk (gg_in a0 6) ((if ((c_sizes a0.toNatClampNeg) - a2) < a1 then k44 else (k45 (1 : Int32))))))))))))
set_option maxRecDepth 20000 in
set_option maxHeartbeats 8000000 in
theorem C_X6_holdsRun_s6 (a0 : Int32) (a1 : Int32) (a2 : Int32) (c_most : Int32) (c_sizes : Nat → Int32) {res : Int32} (h : f_X6_holdsRun_s6 a0 a1 a2 c_sizes = some res) : gg_C MD_X6_holdsRun_s6 [.ref 0, .int a0, .int a1, .int a2] (wd_X6_holdsRun_s6 c_most c_sizes) (some (.int res)) (wd_X6_holdsRun_s6 c_most c_sizes) := by
  refine gg_ofG [some (.ref 0), some (.int a0), some (.int a1), some (.int a2)] (plainFor_of_name (by decide)) (Nat.le_of_ble_eq_true rfl) rfl ?_
  unfold f_X6_holdsRun_s6 at h
  refine gg_aload_n dX6_holdsRun_0 rfl ?_
  refine gg_iload_n dX6_holdsRun_1 rfl ?_
  obtain ⟨v1, hv1, h⟩ := gg_bd h
  refine gg_callV (gg_sg [0]) [0, 1] (wd_X6_holdsRun_s6 c_most c_sizes) 0 (C_X6_has_s6 a0 c_most c_sizes hv1) nV_X6_has_s6 ml_X6_26 rfl rfl rfl rfl rfl rfl rfl rfl rfl rfl [] 2 rfl rfl rfl rfl rfl ⟨Nat.le_of_ble_eq_true rfl, Nat.le_of_ble_eq_true rfl⟩ (Nat.le_of_ble_eq_true rfl) dX6_holdsRun_2 [.int v1] rfl ?_
  obtain ⟨k45, hke45, h⟩ := gg_lte h
  have hk45 : ∀ (s0_45 : Int32), k45 s0_45 = some res → gg_G MD_X6_holdsRun_s6 45 [none, none, none, none] [.int s0_45] (wd_X6_holdsRun_s6 c_most c_sizes) (some (.int res)) (wd_X6_holdsRun_s6 c_most c_sizes) := by
    intro s0_45 h
    subst hke45
    obtain ⟨hz, h⟩ := gg_ck h
    cases h
    exact gg_zret dX6_holdsRun_45 rfl hz
  clear hke45
  obtain ⟨k44, hke44, h⟩ := gg_lte h
  have hk44 : k44 = some res → gg_G MD_X6_holdsRun_s6 44 [none, none, none, none] [] (wd_X6_holdsRun_s6 c_most c_sizes) (some (.int res)) (wd_X6_holdsRun_s6 c_most c_sizes) := by
    intro  h
    subst hke44
    refine gg_iconst (0 : Int32) dX6_holdsRun_44 (by decide) ?_
    exact hk45 (0 : Int32) h
  clear hke44
  refine gg_if_eq 44 dX6_holdsRun_5 (by decide) (fun hc => ?_) (fun hc => ?_)
  · replace h := gg_th h hc
    refine gg_fg [false, false, false, false] [none, none, none, none] rfl ?_
    exact hk44 h
  · replace h := gg_el h hc
    refine gg_iconst (0 : Int32) dX6_holdsRun_8 (by decide) ?_
    refine gg_iload_n dX6_holdsRun_9 rfl ?_
    refine gg_icmp_gt 44 dX6_holdsRun_10 (by decide) (fun hc => ?_) (fun hc => ?_)
    · replace h := gg_th h hc
      refine gg_fg [false, false, false, false] [none, none, none, none] rfl ?_
      exact hk44 h
    · replace h := gg_el h hc
      refine gg_iconst (0 : Int32) dX6_holdsRun_13 (by decide) ?_
      refine gg_iload_n dX6_holdsRun_14 rfl ?_
      refine gg_icmp_gt 44 dX6_holdsRun_15 (by decide) (fun hc => ?_) (fun hc => ?_)
      · replace h := gg_th h hc
        refine gg_fg [false, false, false, false] [none, none, none, none] rfl ?_
        exact hk44 h
      · replace h := gg_el h hc
        refine gg_iload_n dX6_holdsRun_18 rfl ?_
        refine gg_aload_n dX6_holdsRun_19 rfl ?_
        refine gg_get 0 fl_X6_18 dX6_holdsRun_20 rfl rfl ?_
        refine gg_iload_n dX6_holdsRun_23 rfl ?_
        obtain ⟨hb24, h⟩ := gg_ck h
        refine gg_iald 1 dX6_holdsRun_24 rfl hb24 ?_
        refine gg_icmp_gt 44 dX6_holdsRun_25 (by decide) (fun hc => ?_) (fun hc => ?_)
        · replace h := gg_th h hc
          refine gg_fg [false, false, false, false] [none, none, none, none] rfl ?_
          exact hk44 h
        · replace h := gg_el h hc
          refine gg_iload_n dX6_holdsRun_28 rfl ?_
          refine gg_aload_n dX6_holdsRun_29 rfl ?_
          refine gg_get 0 fl_X6_18 dX6_holdsRun_30 rfl rfl ?_
          refine gg_iload_n dX6_holdsRun_33 rfl ?_
          obtain ⟨hb34, h⟩ := gg_ck h
          refine gg_iald 1 dX6_holdsRun_34 rfl hb34 ?_
          refine gg_iload_n dX6_holdsRun_35 rfl ?_
          refine gg_isub dX6_holdsRun_36 ?_
          refine gg_icmp_gt 44 dX6_holdsRun_37 (by decide) (fun hc => ?_) (fun hc => ?_)
          · replace h := gg_th h hc
            refine gg_fg [false, false, false, false] [none, none, none, none] rfl ?_
            exact hk44 h
          · replace h := gg_el h hc
            refine gg_iconst (1 : Int32) dX6_holdsRun_40 (by decide) ?_
            refine gg_goto 45 dX6_holdsRun_41 (by decide) ?_
            refine gg_fg [false, false, false, false] [none, none, none, none] rfl ?_
            exact hk45 (1 : Int32) h
def wd_X6_move_s6 (c_most : Int32) (c_sizes : Nat → Int32) (c_cells : Nat → Nat → Int32) : va_W := [(0, .inr (5, [.int c_most, .ref 1, .ref 2])), (1, .inl (4, 6, .inr (.inr (.inr (.inr (gg_rf 2 1)))))), (2, .inl (0, 6, .inl c_sizes)), (3, .inl (0, 40, .inl (c_cells 0))), (4, .inl (0, 40, .inl (c_cells 1))), (5, .inl (0, 40, .inl (c_cells 2))), (6, .inl (0, 40, .inl (c_cells 3))), (7, .inl (0, 40, .inl (c_cells 4))), (8, .inl (0, 40, .inl (c_cells 5)))]
def MD_X6_move_s6 : gg_M := (yX6_move, cX6_move, 6, none, 3, 65)
theorem nV_X6_move_s6 : gg_nV MD_X6_move_s6 5 := ⟨⟨gg_mem (by decide +kernel) rfl, gg_mem cw_X6_move rfl, by decide, by decide, by decide +kernel⟩, gg_mem (by decide +kernel) rfl, gg_mem (by decide +kernel) rfl⟩
def f_X6_move_s6 (a0 : Int32) (a1 : Int32) (a2 : Int32) (a3 : Int32) (a4 : Int32) (c_sizes : Nat → Int32) (c_cells : Nat → Nat → Int32) : Option ((Nat → Nat → Int32)) := (f_X6_holdsRun_s6 a0 a1 a4 c_sizes).bind (fun v1 => gg_lt (fun (c_cells_43 : Nat → Nat → Int32) => (some c_cells_43)) (fun k43 => (if v1 = (0 : Int32) then (k43 c_cells) else (f_X6_holdsRun_s6 a2 a3 a4 c_sizes).bind (fun v2 => (if v2 = (0 : Int32) then (k43 c_cells) else gg_chk (gg_in a0 6) (gg_chk (gg_in a2 6) (gg_chk (gg_cpk a1 a3 a4 40 40) ((k43 (gg_up c_cells a2.toNatClampNeg (va_cpy (c_cells a0.toNatClampNeg) (c_cells a2.toNatClampNeg) a1.toNatClampNeg a3.toNatClampNeg a4.toNatClampNeg)))))))))))
set_option maxRecDepth 20000 in
set_option maxHeartbeats 8000000 in
theorem C_X6_move_s6 (a0 : Int32) (a1 : Int32) (a2 : Int32) (a3 : Int32) (a4 : Int32) (c_most : Int32) (c_sizes : Nat → Int32) (c_cells : Nat → Nat → Int32) {res : (Nat → Nat → Int32)} (h : f_X6_move_s6 a0 a1 a2 a3 a4 c_sizes c_cells = some res) : gg_C MD_X6_move_s6 [.ref 0, .int a0, .int a1, .int a2, .int a3, .int a4] (wd_X6_move_s6 c_most c_sizes c_cells) (none) (wd_X6_move_s6 c_most c_sizes res) := by
  refine gg_ofG [some (.ref 0), some (.int a0), some (.int a1), some (.int a2), some (.int a3), some (.int a4)] (plainFor_of_name (by decide)) (Nat.le_of_ble_eq_true rfl) rfl ?_
  unfold f_X6_move_s6 at h
  refine gg_aload_n dX6_move_0 rfl ?_
  refine gg_iload_n dX6_move_1 rfl ?_
  refine gg_iload_n dX6_move_2 rfl ?_
  refine gg_iload dX6_move_3 rfl ?_
  obtain ⟨v1, hv1, h⟩ := gg_bd h
  refine gg_callV (gg_sg [0]) [0, 2] (wd_X6_move_s6 c_most c_sizes c_cells) 0 (C_X6_holdsRun_s6 a0 a1 a4 c_most c_sizes hv1) nV_X6_holdsRun_s6 ml_X6_41 rfl rfl rfl rfl rfl rfl rfl rfl rfl rfl [1, 3, 4, 5, 6, 7, 8] 9 rfl rfl rfl rfl rfl ⟨Nat.le_of_ble_eq_true rfl, Nat.le_of_ble_eq_true rfl⟩ (Nat.le_of_ble_eq_true rfl) dX6_move_5 [.int v1] rfl ?_
  obtain ⟨k43, hke43, h⟩ := gg_lte h
  have hk43 : ∀ (c_cells_43 : Nat → Nat → Int32), k43 c_cells_43 = some res → gg_G MD_X6_move_s6 43 [none, none, none, none, none, none] [] (wd_X6_move_s6 c_most c_sizes c_cells_43) (none) (wd_X6_move_s6 c_most c_sizes res) := by
    intro c_cells_43 h
    subst hke43
    cases h
    exact gg_vret dX6_move_43 rfl
  clear hke43
  refine gg_if_eq 43 dX6_move_8 (by decide) (fun hc => ?_) (fun hc => ?_)
  · replace h := gg_th h hc
    refine gg_fg [false, false, false, false, false, false] [none, none, none, none, none, none] rfl ?_
    exact hk43 c_cells h
  · replace h := gg_el h hc
    refine gg_aload_n dX6_move_11 rfl ?_
    refine gg_iload_n dX6_move_12 rfl ?_
    refine gg_iload dX6_move_13 rfl ?_
    refine gg_iload dX6_move_15 rfl ?_
    obtain ⟨v2, hv2, h⟩ := gg_bd h
    refine gg_callV (gg_sg [0]) [0, 2] (wd_X6_move_s6 c_most c_sizes c_cells) 0 (C_X6_holdsRun_s6 a2 a3 a4 c_most c_sizes hv2) nV_X6_holdsRun_s6 ml_X6_41 rfl rfl rfl rfl rfl rfl rfl rfl rfl rfl [1, 3, 4, 5, 6, 7, 8] 9 rfl rfl rfl rfl rfl ⟨Nat.le_of_ble_eq_true rfl, Nat.le_of_ble_eq_true rfl⟩ (Nat.le_of_ble_eq_true rfl) dX6_move_17 [.int v2] rfl ?_
    refine gg_if_eq 43 dX6_move_20 (by decide) (fun hc => ?_) (fun hc => ?_)
    · replace h := gg_th h hc
      refine gg_fg [false, false, false, false, false, false] [none, none, none, none, none, none] rfl ?_
      exact hk43 c_cells h
    · replace h := gg_el h hc
      refine gg_aload_n dX6_move_23 rfl ?_
      refine gg_get 0 fl_X6_15 dX6_move_24 rfl rfl ?_
      refine gg_iload_n dX6_move_27 rfl ?_
      obtain ⟨hr28, h⟩ := gg_ck h
      refine gg_aldA 1 (3 + a0.toNatClampNeg) dX6_move_28 rfl hr28 rfl (gg_ad 1 2 _) ?_
      refine gg_iload_n dX6_move_29 rfl ?_
      refine gg_aload_n dX6_move_30 rfl ?_
      refine gg_get 0 fl_X6_15 dX6_move_31 rfl rfl ?_
      refine gg_iload_n dX6_move_34 rfl ?_
      obtain ⟨hr35, h⟩ := gg_ck h
      refine gg_aldA 1 (3 + a2.toNatClampNeg) dX6_move_35 rfl hr35 rfl (gg_ad 1 2 _) ?_
      refine gg_iload dX6_move_36 rfl ?_
      refine gg_iload dX6_move_38 rfl ?_
      obtain ⟨hb40, h⟩ := gg_ck h
      refine gg_acopy (3 + a0.toNatClampNeg) (3 + a2.toNatClampNeg) (wd_X6_move_s6 c_most c_sizes (gg_up c_cells a2.toNatClampNeg (va_cpy (c_cells a0.toNatClampNeg) (c_cells a2.toNatClampNeg) a1.toNatClampNeg a3.toNatClampNeg a4.toNatClampNeg))) dX6_move_40 (gg_mem (by decide +kernel) rfl) (gg_rows6 rfl rfl rfl rfl rfl rfl (gg_in_lt hr28)) (gg_rows6 rfl rfl rfl rfl rfl rfl (gg_in_lt hr35)) hb40 (gg_pick6 (P := fun t => List.set (wd_X6_move_s6 c_most c_sizes c_cells) (3 + t) (3 + t, .inl (0, 40, .inl (va_cpy (c_cells a0.toNatClampNeg) (c_cells t) a1.toNatClampNeg a3.toNatClampNeg a4.toNatClampNeg))) = (wd_X6_move_s6 c_most c_sizes (gg_up c_cells t (va_cpy (c_cells a0.toNatClampNeg) (c_cells t) a1.toNatClampNeg a3.toNatClampNeg a4.toNatClampNeg)))) rfl rfl rfl rfl rfl rfl (gg_in_lt hr35)) (Nat.le_of_ble_eq_true rfl) (by decide +kernel) ?_
      refine gg_fg [false, false, false, false, false, false] [none, none, none, none, none, none] rfl ?_
      exact hk43 (gg_up c_cells a2.toNatClampNeg (va_cpy (c_cells a0.toNatClampNeg) (c_cells a2.toNatClampNeg) a1.toNatClampNeg a3.toNatClampNeg a4.toNatClampNeg)) h
def wd_X8_copy (c_latestFinding : Int32) (c_told : Int32) (c_above : Int64) (c_below : Int64) (c_rows_most : Int32) (c_rows_sizes : Nat → Int32) (c_rows_cells : Nat → Nat → Int32) (c_found : Nat → Int32) : va_W := [(0, .inr (7, [.ref 1, .ref 10, .ref 17, .ref 19, .ref 27, .ref 35, .ref 43, .ref 45, .ref 52, .ref 56, .ref 60, .ref 67, .int c_latestFinding, .int c_told, .long c_above, .long c_below])), (1, .inr (5, [.int c_rows_most, .ref 2, .ref 3])), (2, .inl (4, 6, .inr (.inr (.inr (.inr (gg_rf 2 1)))))), (3, .inl (0, 6, .inl c_rows_sizes)), (4, .inl (0, 40, .inl (c_rows_cells 0))), (5, .inl (0, 40, .inl (c_rows_cells 1))), (6, .inl (0, 40, .inl (c_rows_cells 2))), (7, .inl (0, 40, .inl (c_rows_cells 3))), (8, .inl (0, 40, .inl (c_rows_cells 4))), (9, .inl (0, 40, .inl (c_rows_cells 5))), (67, .inl (0, 6, .inl c_found))]
def MD_X8_copy : gg_M := (yX8_copy, cX8_copy, 6, some .int, 4, 90)
theorem nV_X8_copy : gg_nV MD_X8_copy 5 := ⟨⟨gg_mem (by decide +kernel) rfl, gg_mem cw_X8_copy rfl, by decide, by decide, by decide +kernel⟩, gg_mem (by decide +kernel) rfl, gg_mem (by decide +kernel) rfl⟩
def f_X8_copy (a0 : Int32) (a1 : Int32) (a2 : Int32) (a3 : Int32) (a4 : Int32) (c_latestFinding : Int32) (c_rows_sizes : Nat → Int32) (c_rows_cells : Nat → Nat → Int32) (c_found : Nat → Int32) : Option (Int32 × (Int32) × (Nat → Nat → Int32) × (Nat → Int32)) := (f_X6_knows_s6 a0).bind (fun v1 => gg_lt ((some ((-1 : Int32), c_latestFinding, c_rows_cells, c_found))) (fun k22 => (if v1 = (0 : Int32) then k22 else (f_X6_knows_s6 a2).bind (fun v2 => (if v2 = (0 : Int32) then k22 else (if (0 : Int32) ≤ a4 then (f_X6_has_s6 a0 c_rows_sizes).bind (fun v3 => gg_lt (gg_b3 (f_X8_find (1 : Int32) c_latestFinding c_found) (fun v4_0 v4_1 v4_2 => (some (v4_0, v4_1, c_rows_cells, v4_2)))) (fun k57 => (if v3 = (0 : Int32) then k57 else (f_X6_has_s6 a2 c_rows_sizes).bind (fun v5 => (if v5 = (0 : Int32) then k57 else (f_X6_holdsRun_s6 a0 a1 a4 c_rows_sizes).bind (fun v6 => gg_lt (gg_b3 (f_X8_find (2 : Int32) c_latestFinding c_found) (fun v7_0 v7_1 v7_2 => (some (v7_0, v7_1, c_rows_cells, v7_2)))) (fun k92 => (if v6 = (0 : Int32) then k92 else (f_X6_holdsRun_s6 a2 a3 a4 c_rows_sizes).bind (fun v8 => (if v8 = (0 : Int32) then k92 else (f_X6_move_s6 a0 a1 a2 a3 a4 c_rows_sizes c_rows_cells).bind (fun v9 => (some ((1 : Int32), c_latestFinding, v9, c_found))))))))))))) else gg_b3 (f_X8_find (5 : Int32) c_latestFinding c_found) (fun v10_0 v10_1 v10_2 => (some (v10_0, v10_1, c_rows_cells, v10_2)))))))))
set_option maxRecDepth 20000 in
set_option maxHeartbeats 8000000 in
theorem C_X8_copy (a0 : Int32) (a1 : Int32) (a2 : Int32) (a3 : Int32) (a4 : Int32) (c_latestFinding : Int32) (c_told : Int32) (c_above : Int64) (c_below : Int64) (c_rows_most : Int32) (c_rows_sizes : Nat → Int32) (c_rows_cells : Nat → Nat → Int32) (c_found : Nat → Int32) {r0 : Int32} {r1 : (Int32)} {r2 : (Nat → Nat → Int32)} {r3 : (Nat → Int32)} (h : f_X8_copy a0 a1 a2 a3 a4 c_latestFinding c_rows_sizes c_rows_cells c_found = some (r0, r1, r2, r3)) : gg_C MD_X8_copy [.ref 0, .int a0, .int a1, .int a2, .int a3, .int a4] (wd_X8_copy c_latestFinding c_told c_above c_below c_rows_most c_rows_sizes c_rows_cells c_found) (some (.int r0)) (wd_X8_copy r1 c_told c_above c_below c_rows_most c_rows_sizes r2 r3) := by
  refine gg_ofG [some (.ref 0), some (.int a0), some (.int a1), some (.int a2), some (.int a3), some (.int a4)] (plainFor_of_name (by decide)) (Nat.le_of_ble_eq_true rfl) rfl ?_
  unfold f_X8_copy at h
  refine gg_aload_n dX8_copy_0 rfl ?_
  refine gg_get 0 fl_X8_14 dX8_copy_1 rfl rfl ?_
  refine gg_iload_n dX8_copy_4 rfl ?_
  obtain ⟨v1, hv1, h⟩ := gg_bd h
  refine gg_callV (gg_sg [1]) [1, 3] (wd_X8_copy c_latestFinding c_told c_above c_below c_rows_most c_rows_sizes c_rows_cells c_found) 0 (C_X6_knows_s6 a0 c_rows_most c_rows_sizes hv1) nV_X6_knows_s6 ml_X8_115 rfl rfl rfl rfl rfl rfl rfl rfl rfl rfl [0, 2, 4, 5, 6, 7, 8, 9, 10] 11 rfl rfl rfl rfl rfl ⟨Nat.le_of_ble_eq_true rfl, Nat.le_of_ble_eq_true rfl⟩ (Nat.le_of_ble_eq_true rfl) dX8_copy_5 [.int v1] rfl ?_
  obtain ⟨k22, hke22, h⟩ := gg_lte h
  have hk22 : k22 = some (r0, r1, r2, r3) → gg_G MD_X8_copy 22 [none, none, none, none, none, none] [] (wd_X8_copy c_latestFinding c_told c_above c_below c_rows_most c_rows_sizes c_rows_cells c_found) (some (.int r0)) (wd_X8_copy r1 c_told c_above c_below c_rows_most c_rows_sizes r2 r3) := by
    intro  h
    subst hke22
    refine gg_iconst (-1 : Int32) dX8_copy_22 (by decide) ?_
    cases h
    exact gg_iret dX8_copy_23 rfl
  clear hke22
  refine gg_if_eq 22 dX8_copy_8 (by decide) (fun hc => ?_) (fun hc => ?_)
  · replace h := gg_th h hc
    refine gg_fg [false, false, false, false, false, false] [none, none, none, none, none, none] rfl ?_
    exact hk22 h
  · replace h := gg_el h hc
    refine gg_aload_n dX8_copy_11 rfl ?_
    refine gg_get 0 fl_X8_14 dX8_copy_12 rfl rfl ?_
    refine gg_iload_n dX8_copy_15 rfl ?_
    obtain ⟨v2, hv2, h⟩ := gg_bd h
    refine gg_callV (gg_sg [1]) [1, 3] (wd_X8_copy c_latestFinding c_told c_above c_below c_rows_most c_rows_sizes c_rows_cells c_found) 0 (C_X6_knows_s6 a2 c_rows_most c_rows_sizes hv2) nV_X6_knows_s6 ml_X8_115 rfl rfl rfl rfl rfl rfl rfl rfl rfl rfl [0, 2, 4, 5, 6, 7, 8, 9, 10] 11 rfl rfl rfl rfl rfl ⟨Nat.le_of_ble_eq_true rfl, Nat.le_of_ble_eq_true rfl⟩ (Nat.le_of_ble_eq_true rfl) dX8_copy_16 [.int v2] rfl ?_
    refine gg_if_ne 24 dX8_copy_19 (by decide) (fun hc => ?_) (fun hc => ?_)
    · replace h := gg_el h hc
      refine gg_iload dX8_copy_24 rfl ?_
      refine gg_if_ge 35 dX8_copy_26 (by decide) (fun hc => ?_) (fun hc => ?_)
      · replace h := gg_th h hc
        refine gg_aload_n dX8_copy_35 rfl ?_
        refine gg_get 0 fl_X8_14 dX8_copy_36 rfl rfl ?_
        refine gg_iload_n dX8_copy_39 rfl ?_
        obtain ⟨v3, hv3, h⟩ := gg_bd h
        refine gg_callV (gg_sg [1]) [1, 3] (wd_X8_copy c_latestFinding c_told c_above c_below c_rows_most c_rows_sizes c_rows_cells c_found) 0 (C_X6_has_s6 a0 c_rows_most c_rows_sizes hv3) nV_X6_has_s6 ml_X8_123 rfl rfl rfl rfl rfl rfl rfl rfl rfl rfl [0, 2, 4, 5, 6, 7, 8, 9, 10] 11 rfl rfl rfl rfl rfl ⟨Nat.le_of_ble_eq_true rfl, Nat.le_of_ble_eq_true rfl⟩ (Nat.le_of_ble_eq_true rfl) dX8_copy_40 [.int v3] rfl ?_
        obtain ⟨k57, hke57, h⟩ := gg_lte h
        have hk57 : k57 = some (r0, r1, r2, r3) → gg_G MD_X8_copy 57 [some (.ref 0), none, none, none, none, none] [] (wd_X8_copy c_latestFinding c_told c_above c_below c_rows_most c_rows_sizes c_rows_cells c_found) (some (.int r0)) (wd_X8_copy r1 c_told c_above c_below c_rows_most c_rows_sizes r2 r3) := by
          intro  h
          subst hke57
          refine gg_aload_n dX8_copy_57 rfl ?_
          refine gg_iconst (1 : Int32) dX8_copy_58 (by decide) ?_
          obtain ⟨v4_0, v4_1, v4_2, hv4, h⟩ := gg_bd3 h
          refine gg_callV (gg_sg [0]) [0, 10] (wd_X8_copy v4_1 c_told c_above c_below c_rows_most c_rows_sizes c_rows_cells v4_2) 0 (C_X8_find (1 : Int32) c_latestFinding c_told c_above c_below c_found hv4) nV_X8_find ml_X8_119 rfl rfl rfl rfl rfl rfl rfl rfl rfl rfl [1, 2, 3, 4, 5, 6, 7, 8, 9] 11 rfl rfl rfl rfl rfl ⟨Nat.le_of_ble_eq_true rfl, Nat.le_of_ble_eq_true rfl⟩ (Nat.le_of_ble_eq_true rfl) dX8_copy_59 [.int v4_0] rfl ?_
          cases h
          exact gg_iret dX8_copy_62 rfl
        clear hke57
        refine gg_if_eq 57 dX8_copy_43 (by decide) (fun hc => ?_) (fun hc => ?_)
        · replace h := gg_th h hc
          refine gg_fg [true, false, false, false, false, false] [some (.ref 0), none, none, none, none, none] rfl ?_
          exact hk57 h
        · replace h := gg_el h hc
          refine gg_aload_n dX8_copy_46 rfl ?_
          refine gg_get 0 fl_X8_14 dX8_copy_47 rfl rfl ?_
          refine gg_iload_n dX8_copy_50 rfl ?_
          obtain ⟨v5, hv5, h⟩ := gg_bd h
          refine gg_callV (gg_sg [1]) [1, 3] (wd_X8_copy c_latestFinding c_told c_above c_below c_rows_most c_rows_sizes c_rows_cells c_found) 0 (C_X6_has_s6 a2 c_rows_most c_rows_sizes hv5) nV_X6_has_s6 ml_X8_123 rfl rfl rfl rfl rfl rfl rfl rfl rfl rfl [0, 2, 4, 5, 6, 7, 8, 9, 10] 11 rfl rfl rfl rfl rfl ⟨Nat.le_of_ble_eq_true rfl, Nat.le_of_ble_eq_true rfl⟩ (Nat.le_of_ble_eq_true rfl) dX8_copy_51 [.int v5] rfl ?_
          refine gg_if_ne 63 dX8_copy_54 (by decide) (fun hc => ?_) (fun hc => ?_)
          · replace h := gg_el h hc
            refine gg_aload_n dX8_copy_63 rfl ?_
            refine gg_get 0 fl_X8_14 dX8_copy_64 rfl rfl ?_
            refine gg_iload_n dX8_copy_67 rfl ?_
            refine gg_iload_n dX8_copy_68 rfl ?_
            refine gg_iload dX8_copy_69 rfl ?_
            obtain ⟨v6, hv6, h⟩ := gg_bd h
            refine gg_callV (gg_sg [1]) [1, 3] (wd_X8_copy c_latestFinding c_told c_above c_below c_rows_most c_rows_sizes c_rows_cells c_found) 0 (C_X6_holdsRun_s6 a0 a1 a4 c_rows_most c_rows_sizes hv6) nV_X6_holdsRun_s6 ml_X8_126 rfl rfl rfl rfl rfl rfl rfl rfl rfl rfl [0, 2, 4, 5, 6, 7, 8, 9, 10] 11 rfl rfl rfl rfl rfl ⟨Nat.le_of_ble_eq_true rfl, Nat.le_of_ble_eq_true rfl⟩ (Nat.le_of_ble_eq_true rfl) dX8_copy_71 [.int v6] rfl ?_
            obtain ⟨k92, hke92, h⟩ := gg_lte h
            have hk92 : k92 = some (r0, r1, r2, r3) → gg_G MD_X8_copy 92 [some (.ref 0), none, none, none, none, none] [] (wd_X8_copy c_latestFinding c_told c_above c_below c_rows_most c_rows_sizes c_rows_cells c_found) (some (.int r0)) (wd_X8_copy r1 c_told c_above c_below c_rows_most c_rows_sizes r2 r3) := by
              intro  h
              subst hke92
              refine gg_aload_n dX8_copy_92 rfl ?_
              refine gg_iconst (2 : Int32) dX8_copy_93 (by decide) ?_
              obtain ⟨v7_0, v7_1, v7_2, hv7, h⟩ := gg_bd3 h
              refine gg_callV (gg_sg [0]) [0, 10] (wd_X8_copy v7_1 c_told c_above c_below c_rows_most c_rows_sizes c_rows_cells v7_2) 0 (C_X8_find (2 : Int32) c_latestFinding c_told c_above c_below c_found hv7) nV_X8_find ml_X8_119 rfl rfl rfl rfl rfl rfl rfl rfl rfl rfl [1, 2, 3, 4, 5, 6, 7, 8, 9] 11 rfl rfl rfl rfl rfl ⟨Nat.le_of_ble_eq_true rfl, Nat.le_of_ble_eq_true rfl⟩ (Nat.le_of_ble_eq_true rfl) dX8_copy_94 [.int v7_0] rfl ?_
              cases h
              exact gg_iret dX8_copy_97 rfl
            clear hke92
            refine gg_if_eq 92 dX8_copy_74 (by decide) (fun hc => ?_) (fun hc => ?_)
            · replace h := gg_th h hc
              refine gg_fg [true, false, false, false, false, false] [some (.ref 0), none, none, none, none, none] rfl ?_
              exact hk92 h
            · replace h := gg_el h hc
              refine gg_aload_n dX8_copy_77 rfl ?_
              refine gg_get 0 fl_X8_14 dX8_copy_78 rfl rfl ?_
              refine gg_iload_n dX8_copy_81 rfl ?_
              refine gg_iload dX8_copy_82 rfl ?_
              refine gg_iload dX8_copy_84 rfl ?_
              obtain ⟨v8, hv8, h⟩ := gg_bd h
              refine gg_callV (gg_sg [1]) [1, 3] (wd_X8_copy c_latestFinding c_told c_above c_below c_rows_most c_rows_sizes c_rows_cells c_found) 0 (C_X6_holdsRun_s6 a2 a3 a4 c_rows_most c_rows_sizes hv8) nV_X6_holdsRun_s6 ml_X8_126 rfl rfl rfl rfl rfl rfl rfl rfl rfl rfl [0, 2, 4, 5, 6, 7, 8, 9, 10] 11 rfl rfl rfl rfl rfl ⟨Nat.le_of_ble_eq_true rfl, Nat.le_of_ble_eq_true rfl⟩ (Nat.le_of_ble_eq_true rfl) dX8_copy_86 [.int v8] rfl ?_
              refine gg_if_ne 98 dX8_copy_89 (by decide) (fun hc => ?_) (fun hc => ?_)
              · replace h := gg_el h hc
                refine gg_aload_n dX8_copy_98 rfl ?_
                refine gg_get 0 fl_X8_14 dX8_copy_99 rfl rfl ?_
                refine gg_iload_n dX8_copy_102 rfl ?_
                refine gg_iload_n dX8_copy_103 rfl ?_
                refine gg_iload_n dX8_copy_104 rfl ?_
                refine gg_iload dX8_copy_105 rfl ?_
                refine gg_iload dX8_copy_107 rfl ?_
                obtain ⟨v9, hv9, h⟩ := gg_bd h
                refine gg_callV (gg_sg [1]) [1, 2, 3, 4, 5, 6, 7, 8, 9] (wd_X8_copy c_latestFinding c_told c_above c_below c_rows_most c_rows_sizes v9 c_found) 0 (C_X6_move_s6 a0 a1 a2 a3 a4 c_rows_most c_rows_sizes c_rows_cells hv9) nV_X6_move_s6 ml_X8_130 rfl rfl rfl rfl rfl rfl rfl rfl rfl rfl [0, 10] 11 rfl rfl rfl rfl rfl ⟨Nat.le_of_ble_eq_true rfl, Nat.le_of_ble_eq_true rfl⟩ (Nat.le_of_ble_eq_true rfl) dX8_copy_109 [] rfl ?_
                refine gg_iconst (1 : Int32) dX8_copy_112 (by decide) ?_
                cases h
                exact gg_iret dX8_copy_113 rfl
              · replace h := gg_th h hc
                refine gg_fg [true, false, false, false, false, false] [some (.ref 0), none, none, none, none, none] rfl ?_
                exact hk92 h
          · replace h := gg_th h hc
            refine gg_fg [true, false, false, false, false, false] [some (.ref 0), none, none, none, none, none] rfl ?_
            exact hk57 h
      · replace h := gg_el h hc
        refine gg_aload_n dX8_copy_29 rfl ?_
        refine gg_iconst (5 : Int32) dX8_copy_30 (by decide) ?_
        obtain ⟨v10_0, v10_1, v10_2, hv10, h⟩ := gg_bd3 h
        refine gg_callV (gg_sg [0]) [0, 10] (wd_X8_copy v10_1 c_told c_above c_below c_rows_most c_rows_sizes c_rows_cells v10_2) 0 (C_X8_find (5 : Int32) c_latestFinding c_told c_above c_below c_found hv10) nV_X8_find ml_X8_119 rfl rfl rfl rfl rfl rfl rfl rfl rfl rfl [1, 2, 3, 4, 5, 6, 7, 8, 9] 11 rfl rfl rfl rfl rfl ⟨Nat.le_of_ble_eq_true rfl, Nat.le_of_ble_eq_true rfl⟩ (Nat.le_of_ble_eq_true rfl) dX8_copy_31 [.int v10_0] rfl ?_
        cases h
        exact gg_iret dX8_copy_34 rfl
    · replace h := gg_th h hc
      refine gg_fg [false, false, false, false, false, false] [none, none, none, none, none, none] rfl ?_
      exact hk22 h
def wd_X6_size_s6 (c_most : Int32) (c_sizes : Nat → Int32) : va_W := [(0, .inr (5, [.int c_most, .ref 1, .ref 2])), (2, .inl (0, 6, .inl c_sizes))]
def MD_X6_size_s6 : gg_M := (yX6_size, cX6_size, 2, some .int, 1, 21)
theorem nV_X6_size_s6 : gg_nV MD_X6_size_s6 1 := ⟨⟨gg_mem (by decide +kernel) rfl, gg_mem cw_X6_size rfl, by decide, by decide, by decide +kernel⟩, gg_mem (by decide +kernel) rfl, gg_mem (by decide +kernel) rfl⟩
def f_X6_size_s6 (a0 : Int32) (c_sizes : Nat → Int32) : Option (Int32) := (f_X6_knows_s6 a0).bind (fun v1 => gg_lt (fun (s0_18 : Int32) => (some s0_18)) (fun k18 => (if v1 = (0 : Int32) then (k18 (-1 : Int32)) else gg_chk (gg_in a0 6) ((k18 (c_sizes a0.toNatClampNeg))))))
set_option maxRecDepth 20000 in
set_option maxHeartbeats 8000000 in
theorem C_X6_size_s6 (a0 : Int32) (c_most : Int32) (c_sizes : Nat → Int32) {res : Int32} (h : f_X6_size_s6 a0 c_sizes = some res) : gg_C MD_X6_size_s6 [.ref 0, .int a0] (wd_X6_size_s6 c_most c_sizes) (some (.int res)) (wd_X6_size_s6 c_most c_sizes) := by
  refine gg_ofG [some (.ref 0), some (.int a0)] (plainFor_of_name (by decide)) (Nat.le_of_ble_eq_true rfl) rfl ?_
  unfold f_X6_size_s6 at h
  refine gg_aload_n dX6_size_0 rfl ?_
  refine gg_iload_n dX6_size_1 rfl ?_
  obtain ⟨v1, hv1, h⟩ := gg_bd h
  refine gg_callV (gg_sg [0]) [0, 1] (wd_X6_size_s6 c_most c_sizes) 0 (C_X6_knows_s6 a0 c_most c_sizes hv1) nV_X6_knows_s6 ml_X6_22 rfl rfl rfl rfl rfl rfl rfl rfl rfl rfl [] 2 rfl rfl rfl rfl rfl ⟨Nat.le_of_ble_eq_true rfl, Nat.le_of_ble_eq_true rfl⟩ (Nat.le_of_ble_eq_true rfl) dX6_size_2 [.int v1] rfl ?_
  obtain ⟨k18, hke18, h⟩ := gg_lte h
  have hk18 : ∀ (s0_18 : Int32), k18 s0_18 = some res → gg_G MD_X6_size_s6 18 [none, none] [.int s0_18] (wd_X6_size_s6 c_most c_sizes) (some (.int res)) (wd_X6_size_s6 c_most c_sizes) := by
    intro s0_18 h
    subst hke18
    cases h
    exact gg_iret dX6_size_18 rfl
  clear hke18
  refine gg_if_eq 17 dX6_size_5 (by decide) (fun hc => ?_) (fun hc => ?_)
  · replace h := gg_th h hc
    refine gg_iconst (-1 : Int32) dX6_size_17 (by decide) ?_
    refine gg_fg [false, false] [none, none] rfl ?_
    exact hk18 (-1 : Int32) h
  · replace h := gg_el h hc
    refine gg_aload_n dX6_size_8 rfl ?_
    refine gg_get 0 fl_X6_18 dX6_size_9 rfl rfl ?_
    refine gg_iload_n dX6_size_12 rfl ?_
    obtain ⟨hb13, h⟩ := gg_ck h
    refine gg_iald 1 dX6_size_13 rfl hb13 ?_
    refine gg_goto 18 dX6_size_14 (by decide) ?_
    refine gg_fg [false, false] [none, none] rfl ?_
    exact hk18 (c_sizes a0.toNatClampNeg) h
def wd_X6_sum_s6 (c_most : Int32) (c_sizes : Nat → Int32) (c_cells : Nat → Nat → Int32) : va_W := [(0, .inr (5, [.int c_most, .ref 1, .ref 2])), (1, .inl (4, 6, .inr (.inr (.inr (.inr (gg_rf 2 1)))))), (2, .inl (0, 6, .inl c_sizes)), (3, .inl (0, 40, .inl (c_cells 0))), (4, .inl (0, 40, .inl (c_cells 1))), (5, .inl (0, 40, .inl (c_cells 2))), (6, .inl (0, 40, .inl (c_cells 3))), (7, .inl (0, 40, .inl (c_cells 4))), (8, .inl (0, 40, .inl (c_cells 5)))]
def MD_X6_sum_s6 : gg_M := (yX6_sum, cX6_sum, 5, some .long, 3, 65)
theorem nV_X6_sum_s6 : gg_nV MD_X6_sum_s6 1 := ⟨⟨gg_mem (by decide +kernel) rfl, gg_mem cw_X6_sum rfl, by decide, by decide, by decide +kernel⟩, gg_mem (by decide +kernel) rfl, gg_mem (by decide +kernel) rfl⟩
def lp_X6_sum_s6_5 {β : Type} (y1 : Int32) (c_sizes : Nat → Int32) (c_cells : Nat → Nat → Int32) (k32 : (Int64) → Option β) : Nat → (Int64) → (Int32) → Option β
  | 0, _, _ => none
  | n + 1, x2_5, x4_5 => (f_X6_size_s6 y1 c_sizes).bind (fun v1 => (if v1 ≤ x4_5 then (k32 x2_5) else (f_X6_get_s6 y1 x4_5 c_sizes c_cells).bind (fun v2 => (lp_X6_sum_s6_5 y1 c_sizes c_cells k32 n (x2_5 + (v2.toInt64)) (x4_5 + (1 : Int32))))))
def f_X6_sum_s6 (a0 : Int32) (c_sizes : Nat → Int32) (c_cells : Nat → Nat → Int32) : Option (Int64) := (lp_X6_sum_s6_5 a0 c_sizes c_cells (fun (x2_32 : Int64) => (some x2_32)) gg_fuel (0 : Int64) (0 : Int32))
set_option maxRecDepth 20000 in
set_option maxHeartbeats 4000000 in
theorem lq_X6_sum_s6_5 {β : Type} {res : β} {rr : Option Value} {ww : va_W} (y1 : Int32) (c_most : Int32) (c_sizes : Nat → Int32) (c_cells : Nat → Nat → Int32) (k32 : (Int64) → Option β) (hk32 : ∀ (x2_32 : Int64), k32 x2_32 = some res → gg_G MD_X6_sum_s6 32 [none, none, some (.long x2_32), none, none] [] (wd_X6_sum_s6 c_most c_sizes c_cells) rr ww) : ∀ (n : Nat) (x2_5 : Int64) (x4_5 : Int32), lp_X6_sum_s6_5 y1 c_sizes c_cells k32 n x2_5 x4_5 = some res → gg_G MD_X6_sum_s6 5 [some (.ref 0), some (.int y1), some (.long x2_5), none, some (.int x4_5)] [] (wd_X6_sum_s6 c_most c_sizes c_cells) rr ww := by
  intro n
  induction n with
  | zero =>
    intro x2_5 x4_5 h
    exact nomatch (show (none : Option β) = some res from h)
  | succ n ih =>
    intro x2_5 x4_5 h
    rw [lp_X6_sum_s6_5] at h
    refine gg_iload dX6_sum_5 rfl ?_
    refine gg_aload_n dX6_sum_7 rfl ?_
    refine gg_iload_n dX6_sum_8 rfl ?_
    obtain ⟨v1, hv1, h⟩ := gg_bd h
    refine gg_callV (gg_sg [0]) [0, 2] (wd_X6_sum_s6 c_most c_sizes c_cells) 0 (C_X6_size_s6 y1 c_most c_sizes hv1) nV_X6_size_s6 ml_X6_51 rfl rfl rfl rfl rfl rfl rfl rfl rfl rfl [1, 3, 4, 5, 6, 7, 8] 9 rfl rfl rfl rfl rfl ⟨Nat.le_of_ble_eq_true rfl, Nat.le_of_ble_eq_true rfl⟩ (Nat.le_of_ble_eq_true rfl) dX6_sum_9 [.int v1, .int x4_5] rfl ?_
    refine gg_icmp_ge 32 dX6_sum_12 (by decide) (fun hc => ?_) (fun hc => ?_)
    · replace h := gg_th h hc
      refine gg_fg [false, false, true, false, false] [none, none, some (.long x2_5), none, none] rfl ?_
      exact hk32 x2_5 h
    · replace h := gg_el h hc
      refine gg_lload_n dX6_sum_15 rfl ?_
      refine gg_aload_n dX6_sum_16 rfl ?_
      refine gg_iload_n dX6_sum_17 rfl ?_
      refine gg_iload dX6_sum_18 rfl ?_
      obtain ⟨v2, hv2, h⟩ := gg_bd h
      refine gg_callV (gg_sg [0]) [0, 1, 2, 3, 4, 5, 6, 7, 8] (wd_X6_sum_s6 c_most c_sizes c_cells) 0 (C_X6_get_s6 y1 x4_5 c_most c_sizes c_cells hv2) nV_X6_get_s6 ml_X6_55 rfl rfl rfl rfl rfl rfl rfl rfl rfl rfl [] 9 rfl rfl rfl rfl rfl ⟨Nat.le_of_ble_eq_true rfl, Nat.le_of_ble_eq_true rfl⟩ (Nat.le_of_ble_eq_true rfl) dX6_sum_20 [.int v2, .long x2_5] rfl ?_
      refine gg_i2l dX6_sum_23 ?_
      refine gg_ladd dX6_sum_24 ?_
      refine gg_lstore_n [some (.ref 0), some (.int y1), some (.long (x2_5 + (v2.toInt64))), none, some (.int x4_5)] dX6_sum_25 rfl (Nat.le_of_ble_eq_true rfl) rfl ?_
      refine gg_iinc (x4_5 + (1 : Int32)) [some (.ref 0), some (.int y1), some (.long (x2_5 + (v2.toInt64))), none, some (.int (x4_5 + (1 : Int32)))] dX6_sum_26 rfl rfl rfl (Nat.le_of_ble_eq_true rfl) rfl ?_
      refine gg_goto 5 dX6_sum_29 (by decide) ?_
      exact ih (x2_5 + (v2.toInt64)) (x4_5 + (1 : Int32)) h
set_option maxRecDepth 20000 in
set_option maxHeartbeats 8000000 in
theorem C_X6_sum_s6 (a0 : Int32) (c_most : Int32) (c_sizes : Nat → Int32) (c_cells : Nat → Nat → Int32) {res : Int64} (h : f_X6_sum_s6 a0 c_sizes c_cells = some res) : gg_C MD_X6_sum_s6 [.ref 0, .int a0] (wd_X6_sum_s6 c_most c_sizes c_cells) (some (.long res)) (wd_X6_sum_s6 c_most c_sizes c_cells) := by
  refine gg_ofG [some (.ref 0), some (.int a0), none, none, none] (plainFor_of_name (by decide)) (Nat.le_of_ble_eq_true rfl) rfl ?_
  unfold f_X6_sum_s6 at h
  refine gg_lconst (0 : Int64) dX6_sum_0 (by decide) ?_
  refine gg_lstore_n [some (.ref 0), some (.int a0), some (.long (0 : Int64)), none, none] dX6_sum_1 rfl (Nat.le_of_ble_eq_true rfl) rfl ?_
  refine gg_iconst (0 : Int32) dX6_sum_2 (by decide) ?_
  refine gg_istore [some (.ref 0), some (.int a0), some (.long (0 : Int64)), none, some (.int (0 : Int32))] dX6_sum_3 rfl (Nat.le_of_ble_eq_true rfl) rfl ?_
  refine lq_X6_sum_s6_5 a0 c_most c_sizes c_cells _ ?_ gg_fuel (0 : Int64) (0 : Int32) h
  intro x2_32 h
  refine gg_lload_n dX6_sum_32 rfl ?_
  cases h
  exact gg_lret dX6_sum_33 rfl
def wd_X8_mean (c_latestFinding : Int32) (c_told : Int32) (c_above : Int64) (c_below : Int64) (c_rows_most : Int32) (c_rows_sizes : Nat → Int32) (c_rows_cells : Nat → Nat → Int32) (c_found : Nat → Int32) : va_W := [(0, .inr (7, [.ref 1, .ref 10, .ref 17, .ref 19, .ref 27, .ref 35, .ref 43, .ref 45, .ref 52, .ref 56, .ref 60, .ref 67, .int c_latestFinding, .int c_told, .long c_above, .long c_below])), (1, .inr (5, [.int c_rows_most, .ref 2, .ref 3])), (2, .inl (4, 6, .inr (.inr (.inr (.inr (gg_rf 2 1)))))), (3, .inl (0, 6, .inl c_rows_sizes)), (4, .inl (0, 40, .inl (c_rows_cells 0))), (5, .inl (0, 40, .inl (c_rows_cells 1))), (6, .inl (0, 40, .inl (c_rows_cells 2))), (7, .inl (0, 40, .inl (c_rows_cells 3))), (8, .inl (0, 40, .inl (c_rows_cells 4))), (9, .inl (0, 40, .inl (c_rows_cells 5))), (67, .inl (0, 6, .inl c_found))]
def MD_X8_mean : gg_M := (yX8_mean, cX8_mean, 4, some .int, 4, 89)
theorem nV_X8_mean : gg_nV MD_X8_mean 1 := ⟨⟨gg_mem (by decide +kernel) rfl, gg_mem cw_X8_mean rfl, by decide, by decide, by decide +kernel⟩, gg_mem (by decide +kernel) rfl, gg_mem (by decide +kernel) rfl⟩
def f_X8_mean (a0 : Int32) (c_latestFinding : Int32) (c_told : Int32) (c_rows_sizes : Nat → Int32) (c_rows_cells : Nat → Nat → Int32) (c_found : Nat → Int32) : Option (Int32 × (Int32) × (Int32) × (Nat → Int32)) := gg_b3 (f_X8_refusedMissing_s6 a0 c_latestFinding c_found c_rows_sizes) (fun v1_0 v1_1 v1_2 => (if v1_0 = (0 : Int32) then (f_X6_size_s6 a0 c_rows_sizes).bind (fun v2 => (if (0 : Int32) < v2 then (f_X6_sum_s6 a0 c_rows_sizes c_rows_cells).bind (fun v3 => gg_chk (!decide ((v2.toInt64) = 0)) ((some ((1 : Int32), v1_1, ((v3 / (v2.toInt64)).toInt32), v1_2)))) else gg_b3 (f_X8_find (4 : Int32) v1_1 v1_2) (fun v4_0 v4_1 v4_2 => (some (v4_0, v4_1, c_told, v4_2))))) else (some (v1_0, v1_1, c_told, v1_2))))
set_option maxRecDepth 20000 in
set_option maxHeartbeats 8000000 in
theorem C_X8_mean (a0 : Int32) (c_latestFinding : Int32) (c_told : Int32) (c_above : Int64) (c_below : Int64) (c_rows_most : Int32) (c_rows_sizes : Nat → Int32) (c_rows_cells : Nat → Nat → Int32) (c_found : Nat → Int32) {r0 : Int32} {r1 : (Int32)} {r2 : (Int32)} {r3 : (Nat → Int32)} (h : f_X8_mean a0 c_latestFinding c_told c_rows_sizes c_rows_cells c_found = some (r0, r1, r2, r3)) : gg_C MD_X8_mean [.ref 0, .int a0] (wd_X8_mean c_latestFinding c_told c_above c_below c_rows_most c_rows_sizes c_rows_cells c_found) (some (.int r0)) (wd_X8_mean r1 r2 c_above c_below c_rows_most c_rows_sizes c_rows_cells r3) := by
  refine gg_ofG [some (.ref 0), some (.int a0), none, none] (plainFor_of_name (by decide)) (Nat.le_of_ble_eq_true rfl) rfl ?_
  unfold f_X8_mean at h
  refine gg_aload_n dX8_mean_0 rfl ?_
  refine gg_aload_n dX8_mean_1 rfl ?_
  refine gg_get 0 fl_X8_14 dX8_mean_2 rfl rfl ?_
  refine gg_iload_n dX8_mean_5 rfl ?_
  obtain ⟨v1_0, v1_1, v1_2, hv1, h⟩ := gg_bd3 h
  refine gg_callV (gg_sg [0, 1]) [0, 10, 1, 3] (wd_X8_mean v1_1 c_told c_above c_below c_rows_most c_rows_sizes c_rows_cells v1_2) 0 (C_X8_refusedMissing_s6 a0 c_latestFinding c_told c_above c_below c_found c_rows_most c_rows_sizes hv1) nV_X8_refusedMissing_s6 ml_X8_108 rfl rfl rfl rfl rfl rfl rfl rfl rfl rfl [2, 4, 5, 6, 7, 8, 9] 11 rfl rfl rfl rfl rfl ⟨Nat.le_of_ble_eq_true rfl, Nat.le_of_ble_eq_true rfl⟩ (Nat.le_of_ble_eq_true rfl) dX8_mean_6 [.int v1_0] rfl ?_
  refine gg_istore_n [some (.ref 0), some (.int a0), some (.int v1_0), none] dX8_mean_9 rfl (Nat.le_of_ble_eq_true rfl) rfl ?_
  refine gg_iload_n dX8_mean_10 rfl ?_
  refine gg_if_eq 16 dX8_mean_11 (by decide) (fun hc => ?_) (fun hc => ?_)
  · replace h := gg_th h hc
    refine gg_aload_n dX8_mean_16 rfl ?_
    refine gg_get 0 fl_X8_14 dX8_mean_17 rfl rfl ?_
    refine gg_iload_n dX8_mean_20 rfl ?_
    obtain ⟨v2, hv2, h⟩ := gg_bd h
    refine gg_callV (gg_sg [1]) [1, 3] (wd_X8_mean v1_1 c_told c_above c_below c_rows_most c_rows_sizes c_rows_cells v1_2) 0 (C_X6_size_s6 a0 c_rows_most c_rows_sizes hv2) nV_X6_size_s6 ml_X8_134 rfl rfl rfl rfl rfl rfl rfl rfl rfl rfl [0, 2, 4, 5, 6, 7, 8, 9, 10] 11 rfl rfl rfl rfl rfl ⟨Nat.le_of_ble_eq_true rfl, Nat.le_of_ble_eq_true rfl⟩ (Nat.le_of_ble_eq_true rfl) dX8_mean_21 [.int v2] rfl ?_
    refine gg_istore_n [some (.ref 0), some (.int a0), some (.int v1_0), some (.int v2)] dX8_mean_24 rfl (Nat.le_of_ble_eq_true rfl) rfl ?_
    refine gg_iload_n dX8_mean_25 rfl ?_
    refine gg_if_gt 35 dX8_mean_26 (by decide) (fun hc => ?_) (fun hc => ?_)
    · replace h := gg_th h hc
      refine gg_aload_n dX8_mean_35 rfl ?_
      refine gg_aload_n dX8_mean_36 rfl ?_
      refine gg_get 0 fl_X8_14 dX8_mean_37 rfl rfl ?_
      refine gg_iload_n dX8_mean_40 rfl ?_
      obtain ⟨v3, hv3, h⟩ := gg_bd h
      refine gg_callV (gg_sg [1]) [1, 2, 3, 4, 5, 6, 7, 8, 9] (wd_X8_mean v1_1 c_told c_above c_below c_rows_most c_rows_sizes c_rows_cells v1_2) 0 (C_X6_sum_s6 a0 c_rows_most c_rows_sizes c_rows_cells hv3) nV_X6_sum_s6 ml_X8_137 rfl rfl rfl rfl rfl rfl rfl rfl rfl rfl [0, 10] 11 rfl rfl rfl rfl rfl ⟨Nat.le_of_ble_eq_true rfl, Nat.le_of_ble_eq_true rfl⟩ (Nat.le_of_ble_eq_true rfl) dX8_mean_41 [.long v3, .ref 0] rfl ?_
      refine gg_iload_n dX8_mean_44 rfl ?_
      refine gg_i2l dX8_mean_45 ?_
      obtain ⟨hz46, h⟩ := gg_ck h
      refine gg_ldiv dX8_mean_46 (gg_nz hz46) ?_
      refine gg_l2i dX8_mean_47 ?_
      refine gg_putf 0 (wd_X8_mean v1_1 ((v3 / (v2.toInt64)).toInt32) c_above c_below c_rows_most c_rows_sizes c_rows_cells v1_2) fl_X8_83 dX8_mean_48 rfl (Nat.le_of_ble_eq_true rfl) (fun _ => ⟨rfl, rfl⟩) rfl ?_
      refine gg_iconst (1 : Int32) dX8_mean_51 (by decide) ?_
      cases h
      exact gg_iret dX8_mean_52 rfl
    · replace h := gg_el h hc
      refine gg_aload_n dX8_mean_29 rfl ?_
      refine gg_iconst (4 : Int32) dX8_mean_30 (by decide) ?_
      obtain ⟨v4_0, v4_1, v4_2, hv4, h⟩ := gg_bd3 h
      refine gg_callV (gg_sg [0]) [0, 10] (wd_X8_mean v4_1 c_told c_above c_below c_rows_most c_rows_sizes c_rows_cells v4_2) 0 (C_X8_find (4 : Int32) v1_1 c_told c_above c_below v1_2 hv4) nV_X8_find ml_X8_119 rfl rfl rfl rfl rfl rfl rfl rfl rfl rfl [1, 2, 3, 4, 5, 6, 7, 8, 9] 11 rfl rfl rfl rfl rfl ⟨Nat.le_of_ble_eq_true rfl, Nat.le_of_ble_eq_true rfl⟩ (Nat.le_of_ble_eq_true rfl) dX8_mean_31 [.int v4_0] rfl ?_
      cases h
      exact gg_iret dX8_mean_34 rfl
  · replace h := gg_el h hc
    refine gg_iload_n dX8_mean_14 rfl ?_
    cases h
    exact gg_iret dX8_mean_15 rfl
def wd_X6_knows_s4 (c_most : Int32) (c_sizes : Nat → Int32) : va_W := [(0, .inr (5, [.int c_most, .ref 1, .ref 2])), (2, .inl (0, 4, .inl c_sizes))]
def MD_X6_knows_s4 : gg_M := (yX6_knows, cX6_knows, 2, some .boolean, 0, 0)
theorem nV_X6_knows_s4 : gg_nV MD_X6_knows_s4 1 := ⟨⟨gg_mem (by decide +kernel) rfl, gg_mem cw_X6_knows rfl, by decide, by decide, by decide +kernel⟩, gg_mem (by decide +kernel) rfl, gg_mem (by decide +kernel) rfl⟩
def f_X6_knows_s4 (a0 : Int32)  : Option (Int32) := gg_lt (fun (s0_19 : Int32) => gg_chk (gg_isb s0_19) (some s0_19)) (fun k19 => gg_lt ((k19 (0 : Int32))) (fun k18 => (if a0 < (0 : Int32) then k18 else (if (4 : Int32) ≤ a0 then k18 else (k19 (1 : Int32))))))
set_option maxRecDepth 20000 in
set_option maxHeartbeats 8000000 in
theorem C_X6_knows_s4 (a0 : Int32) (c_most : Int32) (c_sizes : Nat → Int32) {res : Int32} (h : f_X6_knows_s4 a0 = some res) : gg_C MD_X6_knows_s4 [.ref 0, .int a0] (wd_X6_knows_s4 c_most c_sizes) (some (.int res)) (wd_X6_knows_s4 c_most c_sizes) := by
  refine gg_ofG [some (.ref 0), some (.int a0)] (plainFor_of_name (by decide)) (Nat.le_of_ble_eq_true rfl) rfl ?_
  unfold f_X6_knows_s4 at h
  refine gg_iconst (0 : Int32) dX6_knows_0 (by decide) ?_
  refine gg_iload_n dX6_knows_1 rfl ?_
  obtain ⟨k19, hke19, h⟩ := gg_lte h
  have hk19 : ∀ (s0_19 : Int32), k19 s0_19 = some res → gg_G MD_X6_knows_s4 19 [none, none] [.int s0_19] (wd_X6_knows_s4 c_most c_sizes) (some (.int res)) (wd_X6_knows_s4 c_most c_sizes) := by
    intro s0_19 h
    subst hke19
    obtain ⟨hz, h⟩ := gg_ck h
    cases h
    exact gg_zret dX6_knows_19 rfl hz
  clear hke19
  obtain ⟨k18, hke18, h⟩ := gg_lte h
  have hk18 : k18 = some res → gg_G MD_X6_knows_s4 18 [none, none] [] (wd_X6_knows_s4 c_most c_sizes) (some (.int res)) (wd_X6_knows_s4 c_most c_sizes) := by
    intro  h
    subst hke18
    refine gg_iconst (0 : Int32) dX6_knows_18 (by decide) ?_
    exact hk19 (0 : Int32) h
  clear hke18
  refine gg_icmp_gt 18 dX6_knows_2 (by decide) (fun hc => ?_) (fun hc => ?_)
  · replace h := gg_th h hc
    refine gg_fg [false, false] [none, none] rfl ?_
    exact hk18 h
  · replace h := gg_el h hc
    refine gg_iload_n dX6_knows_5 rfl ?_
    refine gg_aload_n dX6_knows_6 rfl ?_
    refine gg_get 0 fl_X6_18 dX6_knows_7 rfl rfl ?_
    refine gg_alen (4 : Int32) 1 dX6_knows_10 rfl (by decide) rfl ?_
    refine gg_icmp_ge 18 dX6_knows_11 (by decide) (fun hc => ?_) (fun hc => ?_)
    · replace h := gg_th h hc
      refine gg_fg [false, false] [none, none] rfl ?_
      exact hk18 h
    · replace h := gg_el h hc
      refine gg_iconst (1 : Int32) dX6_knows_14 (by decide) ?_
      refine gg_goto 19 dX6_knows_15 (by decide) ?_
      refine gg_fg [false, false] [none, none] rfl ?_
      exact hk19 (1 : Int32) h
def wd_X6_make_s4 (c_most : Int32) (c_sizes : Nat → Int32) (c_cells : Nat → Nat → Int32) : va_W := [(0, .inr (5, [.int c_most, .ref 1, .ref 2])), (1, .inl (4, 4, .inr (.inr (.inr (.inr (gg_rf 2 1)))))), (2, .inl (0, 4, .inl c_sizes)), (3, .inl (0, 60, .inl (c_cells 0))), (4, .inl (0, 60, .inl (c_cells 1))), (5, .inl (0, 60, .inl (c_cells 2))), (6, .inl (0, 60, .inl (c_cells 3)))]
def MD_X6_make_s4 : gg_M := (yX6_make, cX6_make, 4, none, 1, 21)
theorem nV_X6_make_s4 : gg_nV MD_X6_make_s4 2 := ⟨⟨gg_mem (by decide +kernel) rfl, gg_mem cw_X6_make rfl, by decide, by decide, by decide +kernel⟩, gg_mem (by decide +kernel) rfl, gg_mem (by decide +kernel) rfl⟩
def lp_X6_make_s4_30 {β : Type} (y1 : Int32) (y2 : Int32) (k50 : (Nat → Nat → Int32) → Option β) : Nat → (Int32) → (Nat → Nat → Int32) → Option β
  | 0, _, _ => none
  | n + 1, x3_30, c_cells_30 => (if y2 ≤ x3_30 then (k50 c_cells_30) else gg_chk (gg_in y1 4) (gg_chk (gg_in x3_30 60) ((lp_X6_make_s4_30 y1 y2 k50 n (x3_30 + (1 : Int32)) (gg_up c_cells_30 y1.toNatClampNeg (upd (c_cells_30 y1.toNatClampNeg) x3_30.toNatClampNeg (0 : Int32)))))))
def f_X6_make_s4 (a0 : Int32) (a1 : Int32) (c_most : Int32) (c_sizes : Nat → Int32) (c_cells : Nat → Nat → Int32) : Option ((Nat → Int32) × (Nat → Nat → Int32)) := (f_X6_knows_s4 a0).bind (fun v1 => gg_lt ((some (c_sizes, c_cells))) (fun k20 => (if v1 = (0 : Int32) then k20 else (if a1 < (0 : Int32) then k20 else (if a1 ≤ c_most then gg_chk (gg_in a0 4) ((lp_X6_make_s4_30 a0 a1 (fun (c_cells_50 : Nat → Nat → Int32) => (some ((upd c_sizes a0.toNatClampNeg a1), c_cells_50))) gg_fuel (0 : Int32) c_cells)) else k20)))))
set_option maxRecDepth 20000 in
set_option maxHeartbeats 4000000 in
theorem lq_X6_make_s4_30 {β : Type} {res : β} {rr : Option Value} {ww : va_W} (y1 : Int32) (y2 : Int32) (c_most : Int32) (c_sizes : Nat → Int32) (k50 : (Nat → Nat → Int32) → Option β) (hk50 : ∀ (c_cells_50 : Nat → Nat → Int32), k50 c_cells_50 = some res → gg_G MD_X6_make_s4 50 [none, none, none, none] [] (wd_X6_make_s4 c_most c_sizes c_cells_50) rr ww) : ∀ (n : Nat) (x3_30 : Int32) (c_cells_30 : Nat → Nat → Int32), lp_X6_make_s4_30 y1 y2 k50 n x3_30 c_cells_30 = some res → gg_G MD_X6_make_s4 30 [some (.ref 0), some (.int y1), some (.int y2), some (.int x3_30)] [] (wd_X6_make_s4 c_most c_sizes c_cells_30) rr ww := by
  intro n
  induction n with
  | zero =>
    intro x3_30 c_cells_30 h
    exact nomatch (show (none : Option β) = some res from h)
  | succ n ih =>
    intro x3_30 c_cells_30 h
    rw [lp_X6_make_s4_30] at h
    refine gg_iload_n dX6_make_30 rfl ?_
    refine gg_iload_n dX6_make_31 rfl ?_
    refine gg_icmp_ge 50 dX6_make_32 (by decide) (fun hc => ?_) (fun hc => ?_)
    · replace h := gg_th h hc
      refine gg_fg [false, false, false, false] [none, none, none, none] rfl ?_
      exact hk50 c_cells_30 h
    · replace h := gg_el h hc
      refine gg_aload_n dX6_make_35 rfl ?_
      refine gg_get 0 fl_X6_15 dX6_make_36 rfl rfl ?_
      refine gg_iload_n dX6_make_39 rfl ?_
      obtain ⟨hr40, h⟩ := gg_ck h
      refine gg_aldA 1 (3 + y1.toNatClampNeg) dX6_make_40 rfl hr40 rfl (gg_ad 1 2 _) ?_
      refine gg_iload_n dX6_make_41 rfl ?_
      refine gg_iconst (0 : Int32) dX6_make_42 (by decide) ?_
      obtain ⟨hb43, h⟩ := gg_ck h
      refine gg_iast (3 + y1.toNatClampNeg) (wd_X6_make_s4 c_most c_sizes (gg_up c_cells_30 y1.toNatClampNeg (upd (c_cells_30 y1.toNatClampNeg) x3_30.toNatClampNeg (0 : Int32)))) dX6_make_43 (gg_rows4 rfl rfl rfl rfl (gg_in_lt hr40)) hb43 (gg_pick4 (P := fun t => List.set (wd_X6_make_s4 c_most c_sizes c_cells_30) (3 + t) (3 + t, .inl (0, 60, .inl (upd (c_cells_30 t) x3_30.toNatClampNeg (0 : Int32)))) = (wd_X6_make_s4 c_most c_sizes (gg_up c_cells_30 t (upd (c_cells_30 t) x3_30.toNatClampNeg (0 : Int32))))) rfl rfl rfl rfl (gg_in_lt hr40)) ?_
      refine gg_iinc (x3_30 + (1 : Int32)) [some (.ref 0), some (.int y1), some (.int y2), some (.int (x3_30 + (1 : Int32)))] dX6_make_44 rfl rfl rfl (Nat.le_of_ble_eq_true rfl) rfl ?_
      refine gg_goto 30 dX6_make_47 (by decide) ?_
      exact ih (x3_30 + (1 : Int32)) (gg_up c_cells_30 y1.toNatClampNeg (upd (c_cells_30 y1.toNatClampNeg) x3_30.toNatClampNeg (0 : Int32))) h
set_option maxRecDepth 20000 in
set_option maxHeartbeats 8000000 in
theorem C_X6_make_s4 (a0 : Int32) (a1 : Int32) (c_most : Int32) (c_sizes : Nat → Int32) (c_cells : Nat → Nat → Int32) {r0 : (Nat → Int32)} {r1 : (Nat → Nat → Int32)} (h : f_X6_make_s4 a0 a1 c_most c_sizes c_cells = some (r0, r1)) : gg_C MD_X6_make_s4 [.ref 0, .int a0, .int a1] (wd_X6_make_s4 c_most c_sizes c_cells) (none) (wd_X6_make_s4 c_most r0 r1) := by
  refine gg_ofG [some (.ref 0), some (.int a0), some (.int a1), none] (plainFor_of_name (by decide)) (Nat.le_of_ble_eq_true rfl) rfl ?_
  unfold f_X6_make_s4 at h
  refine gg_aload_n dX6_make_0 rfl ?_
  refine gg_iload_n dX6_make_1 rfl ?_
  obtain ⟨v1, hv1, h⟩ := gg_bd h
  refine gg_callV (gg_sg [0]) [0, 2] (wd_X6_make_s4 c_most c_sizes c_cells) 0 (C_X6_knows_s4 a0 c_most c_sizes hv1) nV_X6_knows_s4 ml_X6_22 rfl rfl rfl rfl rfl rfl rfl rfl rfl rfl [1, 3, 4, 5, 6] 7 rfl rfl rfl rfl rfl ⟨Nat.le_of_ble_eq_true rfl, Nat.le_of_ble_eq_true rfl⟩ (Nat.le_of_ble_eq_true rfl) dX6_make_2 [.int v1] rfl ?_
  obtain ⟨k20, hke20, h⟩ := gg_lte h
  have hk20 : k20 = some (r0, r1) → gg_G MD_X6_make_s4 20 [none, none, none, none] [] (wd_X6_make_s4 c_most c_sizes c_cells) (none) (wd_X6_make_s4 c_most r0 r1) := by
    intro  h
    subst hke20
    cases h
    exact gg_vret dX6_make_20 rfl
  clear hke20
  refine gg_if_eq 20 dX6_make_5 (by decide) (fun hc => ?_) (fun hc => ?_)
  · replace h := gg_th h hc
    refine gg_fg [false, false, false, false] [none, none, none, none] rfl ?_
    exact hk20 h
  · replace h := gg_el h hc
    refine gg_iload_n dX6_make_8 rfl ?_
    refine gg_if_lt 20 dX6_make_9 (by decide) (fun hc => ?_) (fun hc => ?_)
    · replace h := gg_th h hc
      refine gg_fg [false, false, false, false] [none, none, none, none] rfl ?_
      exact hk20 h
    · replace h := gg_el h hc
      refine gg_iload_n dX6_make_12 rfl ?_
      refine gg_aload_n dX6_make_13 rfl ?_
      refine gg_get 0 fl_X6_7 dX6_make_14 rfl rfl ?_
      refine gg_icmp_le 21 dX6_make_17 (by decide) (fun hc => ?_) (fun hc => ?_)
      · replace h := gg_th h hc
        refine gg_aload_n dX6_make_21 rfl ?_
        refine gg_get 0 fl_X6_18 dX6_make_22 rfl rfl ?_
        refine gg_iload_n dX6_make_25 rfl ?_
        refine gg_iload_n dX6_make_26 rfl ?_
        obtain ⟨hb27, h⟩ := gg_ck h
        refine gg_iast 2 (wd_X6_make_s4 c_most (upd c_sizes a0.toNatClampNeg a1) c_cells) dX6_make_27 rfl hb27 rfl ?_
        refine gg_iconst (0 : Int32) dX6_make_28 (by decide) ?_
        refine gg_istore_n [some (.ref 0), some (.int a0), some (.int a1), some (.int (0 : Int32))] dX6_make_29 rfl (Nat.le_of_ble_eq_true rfl) rfl ?_
        refine lq_X6_make_s4_30 a0 a1 c_most (upd c_sizes a0.toNatClampNeg a1) _ ?_ gg_fuel (0 : Int32) c_cells h
        intro c_cells_50 h
        cases h
        exact gg_vret dX6_make_50 rfl
      · replace h := gg_el h hc
        refine gg_fg [false, false, false, false] [none, none, none, none] rfl ?_
        exact hk20 h
def wd_X8_makeOn_s4 (c_latestFinding : Int32) (c_told : Int32) (c_above : Int64) (c_below : Int64) (c_found : Nat → Int32) (c_p1_most : Int32) (c_p1_sizes : Nat → Int32) (c_p1_cells : Nat → Nat → Int32) : va_W := [(0, .inr (7, [.ref 1, .ref 10, .ref 17, .ref 19, .ref 27, .ref 35, .ref 43, .ref 45, .ref 52, .ref 56, .ref 60, .ref 67, .int c_latestFinding, .int c_told, .long c_above, .long c_below])), (67, .inl (0, 6, .inl c_found)), (100, .inr (5, [.int c_p1_most, .ref 101, .ref 102])), (101, .inl (4, 4, .inr (.inr (.inr (.inr (gg_rf 2 1)))))), (102, .inl (0, 4, .inl c_p1_sizes)), (103, .inl (0, 60, .inl (c_p1_cells 0))), (104, .inl (0, 60, .inl (c_p1_cells 1))), (105, .inl (0, 60, .inl (c_p1_cells 2))), (106, .inl (0, 60, .inl (c_p1_cells 3)))]
def MD_X8_makeOn_s4 : gg_M := (yX8_makeOn, cX8_makeOn, 4, some .int, 2, 44)
theorem nV_X8_makeOn_s4 : gg_nV MD_X8_makeOn_s4 3 := ⟨⟨gg_mem (by decide +kernel) rfl, gg_mem cw_X8_makeOn rfl, by decide, by decide, by decide +kernel⟩, gg_mem (by decide +kernel) rfl, gg_mem (by decide +kernel) rfl⟩
def f_X8_makeOn_s4 (a0 : Int32) (a1 : Int32) (c_latestFinding : Int32) (c_found : Nat → Int32) (c_p1_most : Int32) (c_p1_sizes : Nat → Int32) (c_p1_cells : Nat → Nat → Int32) : Option (Int32 × (Int32) × (Nat → Int32) × (Nat → Int32) × (Nat → Nat → Int32)) := (f_X6_knows_s4 a0).bind (fun v1 => gg_lt ((some ((-1 : Int32), c_latestFinding, c_found, c_p1_sizes, c_p1_cells))) (fun k16 => (if v1 = (0 : Int32) then k16 else (if a1 ≤ c_p1_most then (if (0 : Int32) ≤ a1 then gg_b2 (f_X6_make_s4 a0 a1 c_p1_most c_p1_sizes c_p1_cells) (fun v2_0 v2_1 => (some (a1, c_latestFinding, c_found, v2_0, v2_1))) else gg_b3 (f_X8_find (5 : Int32) c_latestFinding c_found) (fun v3_0 v3_1 v3_2 => (some (v3_0, v3_1, v3_2, c_p1_sizes, c_p1_cells)))) else k16))))
set_option maxRecDepth 20000 in
set_option maxHeartbeats 8000000 in
theorem C_X8_makeOn_s4 (a0 : Int32) (a1 : Int32) (c_latestFinding : Int32) (c_told : Int32) (c_above : Int64) (c_below : Int64) (c_found : Nat → Int32) (c_p1_most : Int32) (c_p1_sizes : Nat → Int32) (c_p1_cells : Nat → Nat → Int32) {r0 : Int32} {r1 : (Int32)} {r2 : (Nat → Int32)} {r3 : (Nat → Int32)} {r4 : (Nat → Nat → Int32)} (h : f_X8_makeOn_s4 a0 a1 c_latestFinding c_found c_p1_most c_p1_sizes c_p1_cells = some (r0, r1, r2, r3, r4)) : gg_C MD_X8_makeOn_s4 [.ref 0, .ref 100, .int a0, .int a1] (wd_X8_makeOn_s4 c_latestFinding c_told c_above c_below c_found c_p1_most c_p1_sizes c_p1_cells) (some (.int r0)) (wd_X8_makeOn_s4 r1 c_told c_above c_below r2 c_p1_most r3 r4) := by
  refine gg_ofG [some (.ref 0), some (.ref 100), some (.int a0), some (.int a1)] (plainFor_of_name (by decide)) (Nat.le_of_ble_eq_true rfl) rfl ?_
  unfold f_X8_makeOn_s4 at h
  refine gg_aload_n dX8_makeOn_0 rfl ?_
  refine gg_iload_n dX8_makeOn_1 rfl ?_
  obtain ⟨v1, hv1, h⟩ := gg_bd h
  refine gg_callV (gg_sg [100]) [2, 4] (wd_X8_makeOn_s4 c_latestFinding c_told c_above c_below c_found c_p1_most c_p1_sizes c_p1_cells) 0 (C_X6_knows_s4 a0 c_p1_most c_p1_sizes hv1) nV_X6_knows_s4 ml_X8_115 rfl rfl rfl rfl rfl rfl rfl rfl rfl rfl [0, 1, 3, 5, 6, 7, 8] 9 rfl rfl rfl rfl rfl ⟨Nat.le_of_ble_eq_true rfl, Nat.le_of_ble_eq_true rfl⟩ (Nat.le_of_ble_eq_true rfl) dX8_makeOn_2 [.int v1] rfl ?_
  obtain ⟨k16, hke16, h⟩ := gg_lte h
  have hk16 : k16 = some (r0, r1, r2, r3, r4) → gg_G MD_X8_makeOn_s4 16 [none, none, none, none] [] (wd_X8_makeOn_s4 c_latestFinding c_told c_above c_below c_found c_p1_most c_p1_sizes c_p1_cells) (some (.int r0)) (wd_X8_makeOn_s4 r1 c_told c_above c_below r2 c_p1_most r3 r4) := by
    intro  h
    subst hke16
    refine gg_iconst (-1 : Int32) dX8_makeOn_16 (by decide) ?_
    cases h
    exact gg_iret dX8_makeOn_17 rfl
  clear hke16
  refine gg_if_eq 16 dX8_makeOn_5 (by decide) (fun hc => ?_) (fun hc => ?_)
  · replace h := gg_th h hc
    refine gg_fg [false, false, false, false] [none, none, none, none] rfl ?_
    exact hk16 h
  · replace h := gg_el h hc
    refine gg_iload_n dX8_makeOn_8 rfl ?_
    refine gg_aload_n dX8_makeOn_9 rfl ?_
    refine gg_get 2 fl_X8_336 dX8_makeOn_10 rfl rfl ?_
    refine gg_icmp_le 18 dX8_makeOn_13 (by decide) (fun hc => ?_) (fun hc => ?_)
    · replace h := gg_th h hc
      refine gg_iload_n dX8_makeOn_18 rfl ?_
      refine gg_if_ge 28 dX8_makeOn_19 (by decide) (fun hc => ?_) (fun hc => ?_)
      · replace h := gg_th h hc
        refine gg_aload_n dX8_makeOn_28 rfl ?_
        refine gg_iload_n dX8_makeOn_29 rfl ?_
        refine gg_iload_n dX8_makeOn_30 rfl ?_
        obtain ⟨v2_0, v2_1, hv2, h⟩ := gg_bd2 h
        refine gg_callV (gg_sg [100]) [2, 3, 4, 5, 6, 7, 8] (wd_X8_makeOn_s4 c_latestFinding c_told c_above c_below c_found c_p1_most v2_0 v2_1) 0 (C_X6_make_s4 a0 a1 c_p1_most c_p1_sizes c_p1_cells hv2) nV_X6_make_s4 ml_X8_339 rfl rfl rfl rfl rfl rfl rfl rfl rfl rfl [0, 1] 9 rfl rfl rfl rfl rfl ⟨Nat.le_of_ble_eq_true rfl, Nat.le_of_ble_eq_true rfl⟩ (Nat.le_of_ble_eq_true rfl) dX8_makeOn_31 [] rfl ?_
        refine gg_iload_n dX8_makeOn_34 rfl ?_
        cases h
        exact gg_iret dX8_makeOn_35 rfl
      · replace h := gg_el h hc
        refine gg_aload_n dX8_makeOn_22 rfl ?_
        refine gg_iconst (5 : Int32) dX8_makeOn_23 (by decide) ?_
        obtain ⟨v3_0, v3_1, v3_2, hv3, h⟩ := gg_bd3 h
        refine gg_callV (gg_sg [0]) [0, 1] (wd_X8_makeOn_s4 v3_1 c_told c_above c_below v3_2 c_p1_most c_p1_sizes c_p1_cells) 0 (C_X8_find (5 : Int32) c_latestFinding c_told c_above c_below c_found hv3) nV_X8_find ml_X8_119 rfl rfl rfl rfl rfl rfl rfl rfl rfl rfl [2, 3, 4, 5, 6, 7, 8] 9 rfl rfl rfl rfl rfl ⟨Nat.le_of_ble_eq_true rfl, Nat.le_of_ble_eq_true rfl⟩ (Nat.le_of_ble_eq_true rfl) dX8_makeOn_24 [.int v3_0] rfl ?_
        cases h
        exact gg_iret dX8_makeOn_27 rfl
    · replace h := gg_el h hc
      refine gg_fg [false, false, false, false] [none, none, none, none] rfl ?_
      exact hk16 h
def wd_X6_holds_s4 (c_most : Int32) (c_sizes : Nat → Int32) : va_W := [(0, .inr (5, [.int c_most, .ref 1, .ref 2])), (2, .inl (0, 4, .inl c_sizes))]
def MD_X6_holds_s4 : gg_M := (yX6_holds, cX6_holds, 3, some .boolean, 1, 21)
theorem nV_X6_holds_s4 : gg_nV MD_X6_holds_s4 2 := ⟨⟨gg_mem (by decide +kernel) rfl, gg_mem cw_X6_holds rfl, by decide, by decide, by decide +kernel⟩, gg_mem (by decide +kernel) rfl, gg_mem (by decide +kernel) rfl⟩
def f_X6_holds_s4 (a0 : Int32) (a1 : Int32) (c_sizes : Nat → Int32) : Option (Int32) := (f_X6_knows_s4 a0).bind (fun v1 => gg_lt (fun (s0_28 : Int32) => gg_chk (gg_isb s0_28) (some s0_28)) (fun k28 => gg_lt ((k28 (0 : Int32))) (fun k27 => (if v1 = (0 : Int32) then k27 else (if a1 < (0 : Int32) then k27 else gg_chk (gg_in a0 4) ((if (c_sizes a0.toNatClampNeg) ≤ a1 then k27 else (k28 (1 : Int32)))))))))
set_option maxRecDepth 20000 in
set_option maxHeartbeats 8000000 in
theorem C_X6_holds_s4 (a0 : Int32) (a1 : Int32) (c_most : Int32) (c_sizes : Nat → Int32) {res : Int32} (h : f_X6_holds_s4 a0 a1 c_sizes = some res) : gg_C MD_X6_holds_s4 [.ref 0, .int a0, .int a1] (wd_X6_holds_s4 c_most c_sizes) (some (.int res)) (wd_X6_holds_s4 c_most c_sizes) := by
  refine gg_ofG [some (.ref 0), some (.int a0), some (.int a1)] (plainFor_of_name (by decide)) (Nat.le_of_ble_eq_true rfl) rfl ?_
  unfold f_X6_holds_s4 at h
  refine gg_aload_n dX6_holds_0 rfl ?_
  refine gg_iload_n dX6_holds_1 rfl ?_
  obtain ⟨v1, hv1, h⟩ := gg_bd h
  refine gg_callV (gg_sg [0]) [0, 1] (wd_X6_holds_s4 c_most c_sizes) 0 (C_X6_knows_s4 a0 c_most c_sizes hv1) nV_X6_knows_s4 ml_X6_22 rfl rfl rfl rfl rfl rfl rfl rfl rfl rfl [] 2 rfl rfl rfl rfl rfl ⟨Nat.le_of_ble_eq_true rfl, Nat.le_of_ble_eq_true rfl⟩ (Nat.le_of_ble_eq_true rfl) dX6_holds_2 [.int v1] rfl ?_
  obtain ⟨k28, hke28, h⟩ := gg_lte h
  have hk28 : ∀ (s0_28 : Int32), k28 s0_28 = some res → gg_G MD_X6_holds_s4 28 [none, none, none] [.int s0_28] (wd_X6_holds_s4 c_most c_sizes) (some (.int res)) (wd_X6_holds_s4 c_most c_sizes) := by
    intro s0_28 h
    subst hke28
    obtain ⟨hz, h⟩ := gg_ck h
    cases h
    exact gg_zret dX6_holds_28 rfl hz
  clear hke28
  obtain ⟨k27, hke27, h⟩ := gg_lte h
  have hk27 : k27 = some res → gg_G MD_X6_holds_s4 27 [none, none, none] [] (wd_X6_holds_s4 c_most c_sizes) (some (.int res)) (wd_X6_holds_s4 c_most c_sizes) := by
    intro  h
    subst hke27
    refine gg_iconst (0 : Int32) dX6_holds_27 (by decide) ?_
    exact hk28 (0 : Int32) h
  clear hke27
  refine gg_if_eq 27 dX6_holds_5 (by decide) (fun hc => ?_) (fun hc => ?_)
  · replace h := gg_th h hc
    refine gg_fg [false, false, false] [none, none, none] rfl ?_
    exact hk27 h
  · replace h := gg_el h hc
    refine gg_iconst (0 : Int32) dX6_holds_8 (by decide) ?_
    refine gg_iload_n dX6_holds_9 rfl ?_
    refine gg_icmp_gt 27 dX6_holds_10 (by decide) (fun hc => ?_) (fun hc => ?_)
    · replace h := gg_th h hc
      refine gg_fg [false, false, false] [none, none, none] rfl ?_
      exact hk27 h
    · replace h := gg_el h hc
      refine gg_iload_n dX6_holds_13 rfl ?_
      refine gg_aload_n dX6_holds_14 rfl ?_
      refine gg_get 0 fl_X6_18 dX6_holds_15 rfl rfl ?_
      refine gg_iload_n dX6_holds_18 rfl ?_
      obtain ⟨hb19, h⟩ := gg_ck h
      refine gg_iald 1 dX6_holds_19 rfl hb19 ?_
      refine gg_icmp_ge 27 dX6_holds_20 (by decide) (fun hc => ?_) (fun hc => ?_)
      · replace h := gg_th h hc
        refine gg_fg [false, false, false] [none, none, none] rfl ?_
        exact hk27 h
      · replace h := gg_el h hc
        refine gg_iconst (1 : Int32) dX6_holds_23 (by decide) ?_
        refine gg_goto 28 dX6_holds_24 (by decide) ?_
        refine gg_fg [false, false, false] [none, none, none] rfl ?_
        exact hk28 (1 : Int32) h
