def wd_X6_write_s6_a4 (c_most : Int32) (c_sizes : Nat → Int32) (c_cells : Nat → Nat → Int32) (c_p1_a : Nat → Int32) : va_W := [(0, .inr (5, [.int c_most, .ref 1, .ref 2])), (1, .inl (4, 6, .inr (.inr (.inr (.inr (gg_rf 2 1)))))), (2, .inl (0, 6, .inl c_sizes)), (3, .inl (0, 40, .inl (c_cells 0))), (4, .inl (0, 40, .inl (c_cells 1))), (5, .inl (0, 40, .inl (c_cells 2))), (6, .inl (0, 40, .inl (c_cells 3))), (7, .inl (0, 40, .inl (c_cells 4))), (8, .inl (0, 40, .inl (c_cells 5))), (100, .inl (0, 4, .inl c_p1_a))]
def MD_X6_write_s6_a4 : gg_M := (yX6_write, cX6_write, 5, none, 3, 66)
theorem nV_X6_write_s6_a4 : gg_nV MD_X6_write_s6_a4 3 := ⟨⟨gg_mem (by decide +kernel) rfl, gg_mem cw_X6_write rfl, by decide, by decide, by decide +kernel⟩, gg_mem (by decide +kernel) rfl, gg_mem (by decide +kernel) rfl⟩
def lp_X6_write_s6_a4_9 {β : Type} (y1 : Int32) (y3 : Int32) (c_sizes : Nat → Int32) (c_p1_a : Nat → Int32) (k39 : (Nat → Nat → Int32) → Option β) : Nat → (Int32) → (Nat → Nat → Int32) → Option β
  | 0, _, _ => none
  | n + 1, x4_9, c_cells_9 => (if y3 ≤ x4_9 then (k39 c_cells_9) else (if (4 : Int32) ≤ x4_9 then (k39 c_cells_9) else gg_chk (gg_in x4_9 4) ((f_X6_set_s6 y1 x4_9 (c_p1_a x4_9.toNatClampNeg) c_sizes c_cells_9).bind (fun v2 => (lp_X6_write_s6_a4_9 y1 y3 c_sizes c_p1_a k39 n (x4_9 + (1 : Int32)) v2)))))
def f_X6_write_s6_a4 (a0 : Int32) (a1 : Int32) (c_most : Int32) (c_sizes : Nat → Int32) (c_cells : Nat → Nat → Int32) (c_p1_a : Nat → Int32) : Option ((Nat → Int32) × (Nat → Nat → Int32)) := gg_b2 (f_X6_make_s6 a0 a1 c_most c_sizes c_cells) (fun v1_0 v1_1 => (lp_X6_write_s6_a4_9 a0 a1 v1_0 c_p1_a (fun (c_cells_39 : Nat → Nat → Int32) => (some (v1_0, c_cells_39))) gg_fuel (0 : Int32) v1_1))
set_option maxRecDepth 20000 in
set_option maxHeartbeats 4000000 in
theorem lq_X6_write_s6_a4_9 {β : Type} {res : β} {rr : Option Value} {ww : va_W} (y1 : Int32) (y3 : Int32) (c_most : Int32) (c_sizes : Nat → Int32) (c_p1_a : Nat → Int32) (k39 : (Nat → Nat → Int32) → Option β) (hk39 : ∀ (c_cells_39 : Nat → Nat → Int32), k39 c_cells_39 = some res → gg_G MD_X6_write_s6_a4 39 [none, none, none, none, none] [] (wd_X6_write_s6_a4 c_most c_sizes c_cells_39 c_p1_a) rr ww) : ∀ (n : Nat) (x4_9 : Int32) (c_cells_9 : Nat → Nat → Int32), lp_X6_write_s6_a4_9 y1 y3 c_sizes c_p1_a k39 n x4_9 c_cells_9 = some res → gg_G MD_X6_write_s6_a4 9 [some (.ref 0), some (.int y1), some (.ref 100), some (.int y3), some (.int x4_9)] [] (wd_X6_write_s6_a4 c_most c_sizes c_cells_9 c_p1_a) rr ww := by
  intro n
  induction n with
  | zero =>
    intro x4_9 c_cells_9 h
    exact nomatch (show (none : Option β) = some res from h)
  | succ n ih =>
    intro x4_9 c_cells_9 h
    rw [lp_X6_write_s6_a4_9] at h
    refine gg_iload dX6_write_9 rfl ?_
    refine gg_iload_n dX6_write_11 rfl ?_
    refine gg_icmp_ge 39 dX6_write_12 (by decide) (fun hc => ?_) (fun hc => ?_)
    · replace h := gg_th h hc
      refine gg_fg [false, false, false, false, false] [none, none, none, none, none] rfl ?_
      exact hk39 c_cells_9 h
    · replace h := gg_el h hc
      refine gg_iload dX6_write_15 rfl ?_
      refine gg_aload_n dX6_write_17 rfl ?_
      refine gg_alen (4 : Int32) 9 dX6_write_18 rfl (by decide) rfl ?_
      refine gg_icmp_ge 39 dX6_write_19 (by decide) (fun hc => ?_) (fun hc => ?_)
      · replace h := gg_th h hc
        refine gg_fg [false, false, false, false, false] [none, none, none, none, none] rfl ?_
        exact hk39 c_cells_9 h
      · replace h := gg_el h hc
        refine gg_aload_n dX6_write_22 rfl ?_
        refine gg_iload_n dX6_write_23 rfl ?_
        refine gg_iload dX6_write_24 rfl ?_
        refine gg_aload_n dX6_write_26 rfl ?_
        refine gg_iload dX6_write_27 rfl ?_
        obtain ⟨hb29, h⟩ := gg_ck h
        refine gg_iald 9 dX6_write_29 rfl hb29 ?_
        obtain ⟨v2, hv2, h⟩ := gg_bd h
        refine gg_callV (gg_sg [0]) [0, 1, 2, 3, 4, 5, 6, 7, 8] (wd_X6_write_s6_a4 c_most c_sizes v2 c_p1_a) 0 (C_X6_set_s6 y1 x4_9 (c_p1_a x4_9.toNatClampNeg) c_most c_sizes c_cells_9 hv2) nV_X6_set_s6 ml_X6_37 rfl rfl rfl rfl rfl rfl rfl rfl rfl rfl [9] 10 rfl rfl rfl rfl rfl ⟨Nat.le_of_ble_eq_true rfl, Nat.le_of_ble_eq_true rfl⟩ (Nat.le_of_ble_eq_true rfl) dX6_write_30 [] rfl ?_
        refine gg_iinc (x4_9 + (1 : Int32)) [some (.ref 0), some (.int y1), some (.ref 100), some (.int y3), some (.int (x4_9 + (1 : Int32)))] dX6_write_33 rfl rfl rfl (Nat.le_of_ble_eq_true rfl) rfl ?_
        refine gg_goto 9 dX6_write_36 (by decide) ?_
        exact ih (x4_9 + (1 : Int32)) v2 h
set_option maxRecDepth 20000 in
set_option maxHeartbeats 8000000 in
theorem C_X6_write_s6_a4 (a0 : Int32) (a1 : Int32) (c_most : Int32) (c_sizes : Nat → Int32) (c_cells : Nat → Nat → Int32) (c_p1_a : Nat → Int32) {r0 : (Nat → Int32)} {r1 : (Nat → Nat → Int32)} (h : f_X6_write_s6_a4 a0 a1 c_most c_sizes c_cells c_p1_a = some (r0, r1)) : gg_C MD_X6_write_s6_a4 [.ref 0, .int a0, .ref 100, .int a1] (wd_X6_write_s6_a4 c_most c_sizes c_cells c_p1_a) (none) (wd_X6_write_s6_a4 c_most r0 r1 c_p1_a) := by
  refine gg_ofG [some (.ref 0), some (.int a0), some (.ref 100), some (.int a1), none] (plainFor_of_name (by decide)) (Nat.le_of_ble_eq_true rfl) rfl ?_
  unfold f_X6_write_s6_a4 at h
  refine gg_aload_n dX6_write_0 rfl ?_
  refine gg_iload_n dX6_write_1 rfl ?_
  refine gg_iload_n dX6_write_2 rfl ?_
  obtain ⟨v1_0, v1_1, hv1, h⟩ := gg_bd2 h
  refine gg_callV (gg_sg [0]) [0, 1, 2, 3, 4, 5, 6, 7, 8] (wd_X6_write_s6_a4 c_most v1_0 v1_1 c_p1_a) 0 (C_X6_make_s6 a0 a1 c_most c_sizes c_cells hv1) nV_X6_make_s6 ml_X6_33 rfl rfl rfl rfl rfl rfl rfl rfl rfl rfl [9] 10 rfl rfl rfl rfl rfl ⟨Nat.le_of_ble_eq_true rfl, Nat.le_of_ble_eq_true rfl⟩ (Nat.le_of_ble_eq_true rfl) dX6_write_3 [] rfl ?_
  refine gg_iconst (0 : Int32) dX6_write_6 (by decide) ?_
  refine gg_istore [some (.ref 0), some (.int a0), some (.ref 100), some (.int a1), some (.int (0 : Int32))] dX6_write_7 rfl (Nat.le_of_ble_eq_true rfl) rfl ?_
  refine lq_X6_write_s6_a4_9 a0 a1 c_most v1_0 c_p1_a _ ?_ gg_fuel (0 : Int32) v1_1 h
  intro c_cells_39 h
  cases h
  exact gg_vret dX6_write_39 rfl
def wd_X8_vee (c_latestFinding : Int32) (c_told : Int32) (c_above : Int64) (c_below : Int64) (c_rows_most : Int32) (c_rows_sizes : Nat → Int32) (c_rows_cells : Nat → Nat → Int32) (c_now_huts : Int32) (c_now_food : Int32) (c_now_due : Int32) (c_now_backs : Int32) (c_now_winds : Nat → Int32) (c_now_kind : Nat → Int32) (c_now_strength : Nat → Int32) (c_now_brick : Nat → Int32) (c_vees_size : Int32) (c_vees_legs : Int32) (c_vees_who : Nat → Int32) (c_vees_fronts : Nat → Int32) (c_vees_best : Nat → Int32) : va_W := [(0, .inr (7, [.ref 1, .ref 10, .ref 17, .ref 19, .ref 27, .ref 35, .ref 43, .ref 45, .ref 52, .ref 56, .ref 60, .ref 67, .int c_latestFinding, .int c_told, .long c_above, .long c_below])), (1, .inr (5, [.int c_rows_most, .ref 2, .ref 3])), (2, .inl (4, 6, .inr (.inr (.inr (.inr (gg_rf 2 1)))))), (3, .inl (0, 6, .inl c_rows_sizes)), (4, .inl (0, 40, .inl (c_rows_cells 0))), (5, .inl (0, 40, .inl (c_rows_cells 1))), (6, .inl (0, 40, .inl (c_rows_cells 2))), (7, .inl (0, 40, .inl (c_rows_cells 3))), (8, .inl (0, 40, .inl (c_rows_cells 4))), (9, .inl (0, 40, .inl (c_rows_cells 5))), (27, .inr (2, [.int c_now_huts, .int c_now_food, .int c_now_due, .ref 28, .ref 29, .ref 30, .ref 31, .ref 32, .ref 33, .ref 34, .int c_now_backs])), (28, .inl (0, 4, .inl c_now_winds)), (29, .inl (0, 6, .inl c_now_kind)), (31, .inl (0, 6, .inl c_now_strength)), (33, .inl (0, 6, .inl c_now_brick)), (52, .inr (6, [.ref 53, .ref 54, .ref 55, .int c_vees_size, .int c_vees_legs])), (53, .inl (0, 6, .inl c_vees_who)), (54, .inl (0, 4, .inl c_vees_fronts)), (55, .inl (0, 4, .inl c_vees_best))]
def MD_X8_vee : gg_M := (yX8_vee, cX8_vee, 4, some .int, 4, 94)
theorem nV_X8_vee : gg_nV MD_X8_vee 2 := ⟨⟨gg_mem (by decide +kernel) rfl, gg_mem cw_X8_vee rfl, by decide, by decide, by decide +kernel⟩, gg_mem (by decide +kernel) rfl, gg_mem (by decide +kernel) rfl⟩
def f_X8_vee (a0 : Int32) (a1 : Int32) (c_rows_most : Int32) (c_rows_sizes : Nat → Int32) (c_rows_cells : Nat → Nat → Int32) (c_now_huts : Int32) (c_now_due : Int32) (c_now_winds : Nat → Int32) (c_now_kind : Nat → Int32) (c_now_strength : Nat → Int32) (c_now_brick : Nat → Int32) (c_vees_size : Int32) (c_vees_legs : Int32) (c_vees_who : Nat → Int32) (c_vees_fronts : Nat → Int32) (c_vees_best : Nat → Int32) : Option (Int32 × (Nat → Int32) × (Nat → Nat → Int32) × (Int32) × (Int32) × (Nat → Int32) × (Nat → Int32) × (Nat → Int32)) := (f_X8_within a0 (0 : Int32) (4 : Int32)).bind (fun v1 => gg_lt ((some ((-1 : Int32), c_rows_sizes, c_rows_cells, c_vees_size, c_vees_legs, c_vees_who, c_vees_fronts, c_vees_best))) (fun k20 => (if v1 = (0 : Int32) then k20 else (f_X6_knows_s6 a1).bind (fun v2 => (if v2 = (0 : Int32) then k20 else (f_X2_howManyThere c_now_huts c_now_brick).bind (fun v3 => (if v3 = (0 : Int32) then (some ((-4 : Int32), c_rows_sizes, c_rows_cells, c_vees_size, c_vees_legs, c_vees_who, c_vees_fronts, c_vees_best)) else gg_b6 (f_X7_seek a0 c_vees_size c_vees_legs c_vees_who c_vees_fronts c_vees_best c_now_huts c_now_due c_now_winds c_now_kind c_now_strength c_now_brick) (fun v4_0 v4_1 v4_2 v4_3 v4_4 v4_5 => gg_b2 (f_X6_write_s6_a4 a1 a0 c_rows_most c_rows_sizes c_rows_cells v4_5) (fun v5_0 v5_1 => (some ((v4_0 + (100 : Int32)), v5_0, v5_1, v4_1, v4_2, v4_3, v4_4, v4_5)))))))))))
set_option maxRecDepth 20000 in
set_option maxHeartbeats 8000000 in
theorem C_X8_vee (a0 : Int32) (a1 : Int32) (c_latestFinding : Int32) (c_told : Int32) (c_above : Int64) (c_below : Int64) (c_rows_most : Int32) (c_rows_sizes : Nat → Int32) (c_rows_cells : Nat → Nat → Int32) (c_now_huts : Int32) (c_now_food : Int32) (c_now_due : Int32) (c_now_backs : Int32) (c_now_winds : Nat → Int32) (c_now_kind : Nat → Int32) (c_now_strength : Nat → Int32) (c_now_brick : Nat → Int32) (c_vees_size : Int32) (c_vees_legs : Int32) (c_vees_who : Nat → Int32) (c_vees_fronts : Nat → Int32) (c_vees_best : Nat → Int32) {r0 : Int32} {r1 : (Nat → Int32)} {r2 : (Nat → Nat → Int32)} {r3 : (Int32)} {r4 : (Int32)} {r5 : (Nat → Int32)} {r6 : (Nat → Int32)} {r7 : (Nat → Int32)} (h : f_X8_vee a0 a1 c_rows_most c_rows_sizes c_rows_cells c_now_huts c_now_due c_now_winds c_now_kind c_now_strength c_now_brick c_vees_size c_vees_legs c_vees_who c_vees_fronts c_vees_best = some (r0, r1, r2, r3, r4, r5, r6, r7)) : gg_C MD_X8_vee [.ref 0, .int a0, .int a1] (wd_X8_vee c_latestFinding c_told c_above c_below c_rows_most c_rows_sizes c_rows_cells c_now_huts c_now_food c_now_due c_now_backs c_now_winds c_now_kind c_now_strength c_now_brick c_vees_size c_vees_legs c_vees_who c_vees_fronts c_vees_best) (some (.int r0)) (wd_X8_vee c_latestFinding c_told c_above c_below c_rows_most r1 r2 c_now_huts c_now_food c_now_due c_now_backs c_now_winds c_now_kind c_now_strength c_now_brick r3 r4 r5 r6 r7) := by
  refine gg_ofG [some (.ref 0), some (.int a0), some (.int a1), none] (plainFor_of_name (by decide)) (Nat.le_of_ble_eq_true rfl) rfl ?_
  unfold f_X8_vee at h
  refine gg_iload_n dX8_vee_0 rfl ?_
  refine gg_iconst (0 : Int32) dX8_vee_1 (by decide) ?_
  refine gg_iconst (4 : Int32) dX8_vee_2 (by decide) ?_
  obtain ⟨v1, hv1, h⟩ := gg_bd h
  refine gg_callS (gg_sg []) [] (wd_X8_vee c_latestFinding c_told c_above c_below c_rows_most c_rows_sizes c_rows_cells c_now_huts c_now_food c_now_due c_now_backs c_now_winds c_now_kind c_now_strength c_now_brick c_vees_size c_vees_legs c_vees_who c_vees_fronts c_vees_best) (C_X8_within a0 (0 : Int32) (4 : Int32) hv1) nS_X8_within ml_X8_155 rfl rfl rfl rfl rfl rfl rfl [0, 1, 2, 3, 4, 5, 6, 7, 8, 9, 10, 11, 12, 13, 14, 15, 16, 17, 18] 19 rfl rfl rfl rfl rfl ⟨Nat.le_of_ble_eq_true rfl, Nat.le_of_ble_eq_true rfl⟩ (Nat.le_of_ble_eq_true rfl) dX8_vee_3 [.int v1] rfl ?_
  obtain ⟨k20, hke20, h⟩ := gg_lte h
  have hk20 : k20 = some (r0, r1, r2, r3, r4, r5, r6, r7) → gg_G MD_X8_vee 20 [none, none, none, none] [] (wd_X8_vee c_latestFinding c_told c_above c_below c_rows_most c_rows_sizes c_rows_cells c_now_huts c_now_food c_now_due c_now_backs c_now_winds c_now_kind c_now_strength c_now_brick c_vees_size c_vees_legs c_vees_who c_vees_fronts c_vees_best) (some (.int r0)) (wd_X8_vee c_latestFinding c_told c_above c_below c_rows_most r1 r2 c_now_huts c_now_food c_now_due c_now_backs c_now_winds c_now_kind c_now_strength c_now_brick r3 r4 r5 r6 r7) := by
    intro  h
    subst hke20
    refine gg_iconst (-1 : Int32) dX8_vee_20 (by decide) ?_
    cases h
    exact gg_iret dX8_vee_21 rfl
  clear hke20
  refine gg_if_eq 20 dX8_vee_6 (by decide) (fun hc => ?_) (fun hc => ?_)
  · replace h := gg_th h hc
    refine gg_fg [false, false, false, false] [none, none, none, none] rfl ?_
    exact hk20 h
  · replace h := gg_el h hc
    refine gg_aload_n dX8_vee_9 rfl ?_
    refine gg_get 0 fl_X8_14 dX8_vee_10 rfl rfl ?_
    refine gg_iload_n dX8_vee_13 rfl ?_
    obtain ⟨v2, hv2, h⟩ := gg_bd h
    refine gg_callV (gg_sg [1]) [1, 3] (wd_X8_vee c_latestFinding c_told c_above c_below c_rows_most c_rows_sizes c_rows_cells c_now_huts c_now_food c_now_due c_now_backs c_now_winds c_now_kind c_now_strength c_now_brick c_vees_size c_vees_legs c_vees_who c_vees_fronts c_vees_best) 0 (C_X6_knows_s6 a1 c_rows_most c_rows_sizes hv2) nV_X6_knows_s6 ml_X8_115 rfl rfl rfl rfl rfl rfl rfl rfl rfl rfl [0, 2, 4, 5, 6, 7, 8, 9, 10, 11, 12, 13, 14, 15, 16, 17, 18] 19 rfl rfl rfl rfl rfl ⟨Nat.le_of_ble_eq_true rfl, Nat.le_of_ble_eq_true rfl⟩ (Nat.le_of_ble_eq_true rfl) dX8_vee_14 [.int v2] rfl ?_
    refine gg_if_ne 22 dX8_vee_17 (by decide) (fun hc => ?_) (fun hc => ?_)
    · replace h := gg_el h hc
      refine gg_aload_n dX8_vee_22 rfl ?_
      refine gg_get 0 fl_X8_35 dX8_vee_23 rfl rfl ?_
      obtain ⟨v3, hv3, h⟩ := gg_bd h
      refine gg_callV (gg_sg [27]) [10, 14] (wd_X8_vee c_latestFinding c_told c_above c_below c_rows_most c_rows_sizes c_rows_cells c_now_huts c_now_food c_now_due c_now_backs c_now_winds c_now_kind c_now_strength c_now_brick c_vees_size c_vees_legs c_vees_who c_vees_fronts c_vees_best) 0 (C_X2_howManyThere c_now_huts c_now_food c_now_due c_now_backs c_now_brick hv3) nV_X2_howManyThere ml_X8_196 rfl rfl rfl rfl rfl rfl rfl rfl rfl rfl [0, 1, 2, 3, 4, 5, 6, 7, 8, 9, 11, 12, 13, 15, 16, 17, 18] 19 rfl rfl rfl rfl rfl ⟨Nat.le_of_ble_eq_true rfl, Nat.le_of_ble_eq_true rfl⟩ (Nat.le_of_ble_eq_true rfl) dX8_vee_26 [.int v3] rfl ?_
      refine gg_if_ne 35 dX8_vee_29 (by decide) (fun hc => ?_) (fun hc => ?_)
      · replace h := gg_el h hc
        refine gg_aload_n dX8_vee_35 rfl ?_
        refine gg_get 0 fl_X8_57 dX8_vee_36 rfl rfl ?_
        refine gg_aload_n dX8_vee_39 rfl ?_
        refine gg_get 0 fl_X8_35 dX8_vee_40 rfl rfl ?_
        refine gg_iload_n dX8_vee_43 rfl ?_
        obtain ⟨v4_0, v4_1, v4_2, v4_3, v4_4, v4_5, hv4, h⟩ := gg_bd6 h
        refine gg_callV (gg_sg [52, 27]) [15, 16, 17, 18, 10, 11, 12, 13, 14] (wd_X8_vee c_latestFinding c_told c_above c_below c_rows_most c_rows_sizes c_rows_cells c_now_huts c_now_food c_now_due c_now_backs c_now_winds c_now_kind c_now_strength c_now_brick v4_1 v4_2 v4_3 v4_4 v4_5) 0 (C_X7_seek a0 c_vees_size c_vees_legs c_vees_who c_vees_fronts c_vees_best c_now_huts c_now_food c_now_due c_now_backs c_now_winds c_now_kind c_now_strength c_now_brick hv4) nV_X7_seek ml_X8_236 rfl rfl rfl rfl rfl rfl rfl rfl rfl rfl [0, 1, 2, 3, 4, 5, 6, 7, 8, 9] 19 rfl rfl rfl rfl rfl ⟨Nat.le_of_ble_eq_true rfl, Nat.le_of_ble_eq_true rfl⟩ (Nat.le_of_ble_eq_true rfl) dX8_vee_44 [.int v4_0] rfl ?_
        refine gg_istore_n [some (.ref 0), some (.int a0), some (.int a1), some (.int v4_0)] dX8_vee_47 rfl (Nat.le_of_ble_eq_true rfl) rfl ?_
        refine gg_aload_n dX8_vee_48 rfl ?_
        refine gg_get 0 fl_X8_14 dX8_vee_49 rfl rfl ?_
        refine gg_iload_n dX8_vee_52 rfl ?_
        refine gg_aload_n dX8_vee_53 rfl ?_
        refine gg_get 0 fl_X8_57 dX8_vee_54 rfl rfl ?_
        refine gg_get 15 fl_X8_240 dX8_vee_57 rfl rfl ?_
        refine gg_iload_n dX8_vee_60 rfl ?_
        obtain ⟨v5_0, v5_1, hv5, h⟩ := gg_bd2 h
        refine gg_callV (gg_sg [1, 55]) [1, 2, 3, 4, 5, 6, 7, 8, 9, 18] (wd_X8_vee c_latestFinding c_told c_above c_below c_rows_most v5_0 v5_1 c_now_huts c_now_food c_now_due c_now_backs c_now_winds c_now_kind c_now_strength c_now_brick v4_1 v4_2 v4_3 v4_4 v4_5) 0 (C_X6_write_s6_a4 a1 a0 c_rows_most c_rows_sizes c_rows_cells v4_5 hv5) nV_X6_write_s6_a4 ml_X8_232 rfl rfl rfl rfl rfl rfl rfl rfl rfl rfl [0, 10, 11, 12, 13, 14, 15, 16, 17] 19 rfl rfl rfl rfl rfl ⟨Nat.le_of_ble_eq_true rfl, Nat.le_of_ble_eq_true rfl⟩ (Nat.le_of_ble_eq_true rfl) dX8_vee_61 [] rfl ?_
        refine gg_iload_n dX8_vee_64 rfl ?_
        refine gg_bipush (100 : Int32) dX8_vee_65 (by decide) ?_
        refine gg_iadd dX8_vee_67 ?_
        cases h
        exact gg_iret dX8_vee_68 rfl
      · replace h := gg_th h hc
        refine gg_bipush (-4 : Int32) dX8_vee_32 (by decide) ?_
        cases h
        exact gg_iret dX8_vee_34 rfl
    · replace h := gg_th h hc
      refine gg_fg [false, false, false, false] [none, none, none, none] rfl ?_
      exact hk20 h
def wd_X0_insert (c_size : Int32) (c_bestApart : Int32) (c_bestFar : Int32) (c_given : Nat → Int32) : va_W := [(0, .inr (0, [.ref 1, .ref 2, .ref 3, .int c_size, .int c_bestApart, .int c_bestFar])), (2, .inl (0, 6, .inl c_given))]
def MD_X0_insert : gg_M := (yX0_insert, cX0_insert, 3, none, 0, 0)
theorem nV_X0_insert : gg_nV MD_X0_insert 1 := ⟨⟨gg_mem (by decide +kernel) rfl, gg_mem cw_X0_insert rfl, by decide, by decide, by decide +kernel⟩, gg_mem (by decide +kernel) rfl, gg_mem (by decide +kernel) rfl⟩
def lp_X0_insert_5 {β : Type} (y1 : Int32) (k41 : (Int32) → (Nat → Int32) → Option β) : Nat → (Int32) → (Nat → Int32) → Option β
  | 0, _, _ => none
  | n + 1, x2_5, c_given_5 => (if x2_5 ≤ (0 : Int32) then (k41 x2_5 c_given_5) else gg_chk (gg_in (x2_5 - (1 : Int32)) 6) ((if (c_given_5 (x2_5 - (1 : Int32)).toNatClampNeg) ≤ y1 then (k41 x2_5 c_given_5) else gg_chk (gg_in (x2_5 - (1 : Int32)) 6) (gg_chk (gg_in x2_5 6) ((lp_X0_insert_5 y1 k41 n (x2_5 + (-1 : Int32)) (upd c_given_5 x2_5.toNatClampNeg (c_given_5 (x2_5 - (1 : Int32)).toNatClampNeg))))))))
def f_X0_insert (a0 : Int32) (c_size : Int32) (c_given : Nat → Int32) : Option ((Nat → Int32)) := (lp_X0_insert_5 a0 (fun (x2_41 : Int32) (c_given_41 : Nat → Int32) => gg_chk (gg_in x2_41 6) ((some (upd c_given_41 x2_41.toNatClampNeg a0)))) gg_fuel c_size c_given)
set_option maxRecDepth 20000 in
set_option maxHeartbeats 4000000 in
theorem lq_X0_insert_5 {β : Type} {res : β} {rr : Option Value} {ww : va_W} (y1 : Int32) (c_size : Int32) (c_bestApart : Int32) (c_bestFar : Int32) (k41 : (Int32) → (Nat → Int32) → Option β) (hk41 : ∀ (x2_41 : Int32) (c_given_41 : Nat → Int32), k41 x2_41 c_given_41 = some res → gg_G MD_X0_insert 41 [some (.ref 0), some (.int y1), some (.int x2_41)] [] (wd_X0_insert c_size c_bestApart c_bestFar c_given_41) rr ww) : ∀ (n : Nat) (x2_5 : Int32) (c_given_5 : Nat → Int32), lp_X0_insert_5 y1 k41 n x2_5 c_given_5 = some res → gg_G MD_X0_insert 5 [some (.ref 0), some (.int y1), some (.int x2_5)] [] (wd_X0_insert c_size c_bestApart c_bestFar c_given_5) rr ww := by
  intro n
  induction n with
  | zero =>
    intro x2_5 c_given_5 h
    exact nomatch (show (none : Option β) = some res from h)
  | succ n ih =>
    intro x2_5 c_given_5 h
    rw [lp_X0_insert_5] at h
    refine gg_iload_n dX0_insert_5 rfl ?_
    refine gg_if_le 41 dX0_insert_6 (by decide) (fun hc => ?_) (fun hc => ?_)
    · replace h := gg_th h hc
      exact hk41 x2_5 c_given_5 h
    · replace h := gg_el h hc
      refine gg_aload_n dX0_insert_9 rfl ?_
      refine gg_get 0 fl_X0_15 dX0_insert_10 rfl rfl ?_
      refine gg_iload_n dX0_insert_13 rfl ?_
      refine gg_iconst (1 : Int32) dX0_insert_14 (by decide) ?_
      refine gg_isub dX0_insert_15 ?_
      obtain ⟨hb16, h⟩ := gg_ck h
      refine gg_iald 1 dX0_insert_16 rfl hb16 ?_
      refine gg_iload_n dX0_insert_17 rfl ?_
      refine gg_icmp_le 41 dX0_insert_18 (by decide) (fun hc => ?_) (fun hc => ?_)
      · replace h := gg_th h hc
        exact hk41 x2_5 c_given_5 h
      · replace h := gg_el h hc
        refine gg_aload_n dX0_insert_21 rfl ?_
        refine gg_get 0 fl_X0_15 dX0_insert_22 rfl rfl ?_
        refine gg_iload_n dX0_insert_25 rfl ?_
        refine gg_aload_n dX0_insert_26 rfl ?_
        refine gg_get 0 fl_X0_15 dX0_insert_27 rfl rfl ?_
        refine gg_iload_n dX0_insert_30 rfl ?_
        refine gg_iconst (1 : Int32) dX0_insert_31 (by decide) ?_
        refine gg_isub dX0_insert_32 ?_
        obtain ⟨hb33, h⟩ := gg_ck h
        refine gg_iald 1 dX0_insert_33 rfl hb33 ?_
        obtain ⟨hb34, h⟩ := gg_ck h
        refine gg_iast 1 (wd_X0_insert c_size c_bestApart c_bestFar (upd c_given_5 x2_5.toNatClampNeg (c_given_5 (x2_5 - (1 : Int32)).toNatClampNeg))) dX0_insert_34 rfl hb34 rfl ?_
        refine gg_iinc (x2_5 + (-1 : Int32)) [some (.ref 0), some (.int y1), some (.int (x2_5 + (-1 : Int32)))] dX0_insert_35 rfl rfl rfl (Nat.le_of_ble_eq_true rfl) rfl ?_
        refine gg_goto 5 dX0_insert_38 (by decide) ?_
        exact ih (x2_5 + (-1 : Int32)) (upd c_given_5 x2_5.toNatClampNeg (c_given_5 (x2_5 - (1 : Int32)).toNatClampNeg)) h
set_option maxRecDepth 20000 in
set_option maxHeartbeats 8000000 in
theorem C_X0_insert (a0 : Int32) (c_size : Int32) (c_bestApart : Int32) (c_bestFar : Int32) (c_given : Nat → Int32) {res : (Nat → Int32)} (h : f_X0_insert a0 c_size c_given = some res) : gg_C MD_X0_insert [.ref 0, .int a0] (wd_X0_insert c_size c_bestApart c_bestFar c_given) (none) (wd_X0_insert c_size c_bestApart c_bestFar res) := by
  refine gg_ofG [some (.ref 0), some (.int a0), none] (plainFor_of_name (by decide)) (Nat.le_of_ble_eq_true rfl) rfl ?_
  unfold f_X0_insert at h
  refine gg_aload_n dX0_insert_0 rfl ?_
  refine gg_get 0 fl_X0_21 dX0_insert_1 rfl rfl ?_
  refine gg_istore_n [some (.ref 0), some (.int a0), some (.int c_size)] dX0_insert_4 rfl (Nat.le_of_ble_eq_true rfl) rfl ?_
  refine lq_X0_insert_5 a0 c_size c_bestApart c_bestFar _ ?_ gg_fuel c_size c_given h
  intro x2_41 c_given_41 h
  refine gg_aload_n dX0_insert_41 rfl ?_
  refine gg_get 0 fl_X0_15 dX0_insert_42 rfl rfl ?_
  refine gg_iload_n dX0_insert_45 rfl ?_
  refine gg_iload_n dX0_insert_46 rfl ?_
  obtain ⟨hb47, h⟩ := gg_ck h
  refine gg_iast 1 (wd_X0_insert c_size c_bestApart c_bestFar (upd c_given_41 x2_41.toNatClampNeg a0)) dX0_insert_47 rfl hb47 rfl ?_
  cases h
  exact gg_vret dX0_insert_48 rfl
def wd_X0_begin (c_size : Int32) (c_bestApart : Int32) (c_bestFar : Int32) (c_who : Nat → Int32) (c_given : Nat → Int32) (c_p1_huts : Int32) (c_p1_food : Int32) (c_p1_due : Int32) (c_p1_backs : Int32) (c_p1_brick : Nat → Int32) : va_W := [(0, .inr (0, [.ref 1, .ref 2, .ref 3, .int c_size, .int c_bestApart, .int c_bestFar])), (1, .inl (0, 6, .inl c_who)), (2, .inl (0, 6, .inl c_given)), (100, .inr (2, [.int c_p1_huts, .int c_p1_food, .int c_p1_due, .ref 101, .ref 102, .ref 103, .ref 104, .ref 105, .ref 106, .ref 107, .int c_p1_backs])), (106, .inl (0, 6, .inl c_p1_brick))]
def MD_X0_begin : gg_M := (yX0_begin, cX0_begin, 3, none, 2, 42)
theorem nV_X0_begin : gg_nV MD_X0_begin 1 := ⟨⟨gg_mem (by decide +kernel) rfl, gg_mem cw_X0_begin rfl, by decide, by decide, by decide +kernel⟩, gg_mem (by decide +kernel) rfl, gg_mem (by decide +kernel) rfl⟩
def lp_X0_begin_7 {β : Type} (c_p1_huts : Int32) (c_p1_brick : Nat → Int32) (k59 : (Int32) → (Nat → Int32) → (Nat → Int32) → Option β) : Nat → (Int32) → (Int32) → (Nat → Int32) → (Nat → Int32) → Option β
  | 0, _, _, _, _ => none
  | n + 1, x2_7, c_size_7, c_who_7, c_given_7 => (if c_p1_huts ≤ x2_7 then (k59 c_size_7 c_who_7 c_given_7) else (f_X2_isThere x2_7 c_p1_huts c_p1_brick).bind (fun v1 => gg_lt (fun (c_size_53 : Int32) (c_who_53 : Nat → Int32) (c_given_53 : Nat → Int32) => (lp_X0_begin_7 c_p1_huts c_p1_brick k59 n (x2_7 + (1 : Int32)) c_size_53 c_who_53 c_given_53)) (fun k53 => (if v1 = (0 : Int32) then (k53 c_size_7 c_who_7 c_given_7) else gg_chk (gg_in c_size_7 6) (gg_chk (gg_in x2_7 6) ((f_X0_insert (c_p1_brick x2_7.toNatClampNeg) c_size_7 c_given_7).bind (fun v2 => (k53 (c_size_7 + (1 : Int32)) (upd c_who_7 c_size_7.toNatClampNeg x2_7) v2))))))))
def f_X0_begin  (c_size : Int32) (c_who : Nat → Int32) (c_given : Nat → Int32) (c_p1_huts : Int32) (c_p1_brick : Nat → Int32) : Option ((Int32) × (Nat → Int32) × (Nat → Int32)) := (lp_X0_begin_7 c_p1_huts c_p1_brick (fun (c_size_59 : Int32) (c_who_59 : Nat → Int32) (c_given_59 : Nat → Int32) => (some (c_size_59, c_who_59, c_given_59))) gg_fuel (0 : Int32) (0 : Int32) c_who c_given)
set_option maxRecDepth 20000 in
set_option maxHeartbeats 4000000 in
theorem lq_X0_begin_7 {β : Type} {res : β} {rr : Option Value} {ww : va_W} (c_bestApart : Int32) (c_bestFar : Int32) (c_p1_huts : Int32) (c_p1_food : Int32) (c_p1_due : Int32) (c_p1_backs : Int32) (c_p1_brick : Nat → Int32) (k59 : (Int32) → (Nat → Int32) → (Nat → Int32) → Option β) (hk59 : ∀ (c_size_59 : Int32) (c_who_59 : Nat → Int32) (c_given_59 : Nat → Int32), k59 c_size_59 c_who_59 c_given_59 = some res → gg_G MD_X0_begin 59 [none, none, none] [] (wd_X0_begin c_size_59 c_bestApart c_bestFar c_who_59 c_given_59 c_p1_huts c_p1_food c_p1_due c_p1_backs c_p1_brick) rr ww) : ∀ (n : Nat) (x2_7 : Int32) (c_size_7 : Int32) (c_who_7 : Nat → Int32) (c_given_7 : Nat → Int32), lp_X0_begin_7 c_p1_huts c_p1_brick k59 n x2_7 c_size_7 c_who_7 c_given_7 = some res → gg_G MD_X0_begin 7 [some (.ref 0), some (.ref 100), some (.int x2_7)] [] (wd_X0_begin c_size_7 c_bestApart c_bestFar c_who_7 c_given_7 c_p1_huts c_p1_food c_p1_due c_p1_backs c_p1_brick) rr ww := by
  intro n
  induction n with
  | zero =>
    intro x2_7 c_size_7 c_who_7 c_given_7 h
    exact nomatch (show (none : Option β) = some res from h)
  | succ n ih =>
    intro x2_7 c_size_7 c_who_7 c_given_7 h
    rw [lp_X0_begin_7] at h
    refine gg_iload_n dX0_begin_7 rfl ?_
    refine gg_aload_n dX0_begin_8 rfl ?_
    refine gg_get 3 fl_X0_50 dX0_begin_9 rfl rfl ?_
    refine gg_icmp_ge 59 dX0_begin_12 (by decide) (fun hc => ?_) (fun hc => ?_)
    · replace h := gg_th h hc
      refine gg_fg [false, false, false] [none, none, none] rfl ?_
      exact hk59 c_size_7 c_who_7 c_given_7 h
    · replace h := gg_el h hc
      refine gg_aload_n dX0_begin_15 rfl ?_
      refine gg_iload_n dX0_begin_16 rfl ?_
      obtain ⟨v1, hv1, h⟩ := gg_bd h
      refine gg_callV (gg_sg [100]) [3, 4] (wd_X0_begin c_size_7 c_bestApart c_bestFar c_who_7 c_given_7 c_p1_huts c_p1_food c_p1_due c_p1_backs c_p1_brick) 0 (C_X2_isThere x2_7 c_p1_huts c_p1_food c_p1_due c_p1_backs c_p1_brick hv1) nV_X2_isThere ml_X0_55 rfl rfl rfl rfl rfl rfl rfl rfl rfl rfl [0, 1, 2] 5 rfl rfl rfl rfl rfl ⟨Nat.le_of_ble_eq_true rfl, Nat.le_of_ble_eq_true rfl⟩ (Nat.le_of_ble_eq_true rfl) dX0_begin_17 [.int v1] rfl ?_
      obtain ⟨k53, hke53, h⟩ := gg_lte h
      have hk53 : ∀ (c_size_53 : Int32) (c_who_53 : Nat → Int32) (c_given_53 : Nat → Int32), k53 c_size_53 c_who_53 c_given_53 = some res → gg_G MD_X0_begin 53 [some (.ref 0), some (.ref 100), some (.int x2_7)] [] (wd_X0_begin c_size_53 c_bestApart c_bestFar c_who_53 c_given_53 c_p1_huts c_p1_food c_p1_due c_p1_backs c_p1_brick) rr ww := by
        intro c_size_53 c_who_53 c_given_53 h
        subst hke53
        refine gg_iinc (x2_7 + (1 : Int32)) [some (.ref 0), some (.ref 100), some (.int (x2_7 + (1 : Int32)))] dX0_begin_53 rfl rfl rfl (Nat.le_of_ble_eq_true rfl) rfl ?_
        refine gg_goto 7 dX0_begin_56 (by decide) ?_
        exact ih (x2_7 + (1 : Int32)) c_size_53 c_who_53 c_given_53 h
      clear hke53
      refine gg_if_eq 53 dX0_begin_20 (by decide) (fun hc => ?_) (fun hc => ?_)
      · replace h := gg_th h hc
        exact hk53 c_size_7 c_who_7 c_given_7 h
      · replace h := gg_el h hc
        refine gg_aload_n dX0_begin_23 rfl ?_
        refine gg_get 0 fl_X0_9 dX0_begin_24 rfl rfl ?_
        refine gg_aload_n dX0_begin_27 rfl ?_
        refine gg_get 0 fl_X0_21 dX0_begin_28 rfl rfl ?_
        refine gg_iload_n dX0_begin_31 rfl ?_
        obtain ⟨hb32, h⟩ := gg_ck h
        refine gg_iast 1 (wd_X0_begin c_size_7 c_bestApart c_bestFar (upd c_who_7 c_size_7.toNatClampNeg x2_7) c_given_7 c_p1_huts c_p1_food c_p1_due c_p1_backs c_p1_brick) dX0_begin_32 rfl hb32 rfl ?_
        refine gg_aload_n dX0_begin_33 rfl ?_
        refine gg_aload_n dX0_begin_34 rfl ?_
        refine gg_get 3 fl_X0_59 dX0_begin_35 rfl rfl ?_
        refine gg_iload_n dX0_begin_38 rfl ?_
        obtain ⟨hb39, h⟩ := gg_ck h
        refine gg_iald 4 dX0_begin_39 rfl hb39 ?_
        obtain ⟨v2, hv2, h⟩ := gg_bd h
        refine gg_callV (gg_sg [0]) [0, 2] (wd_X0_begin c_size_7 c_bestApart c_bestFar (upd c_who_7 c_size_7.toNatClampNeg x2_7) v2 c_p1_huts c_p1_food c_p1_due c_p1_backs c_p1_brick) 0 (C_X0_insert (c_p1_brick x2_7.toNatClampNeg) c_size_7 c_bestApart c_bestFar c_given_7 hv2) nV_X0_insert ml_X0_62 rfl rfl rfl rfl rfl rfl rfl rfl rfl rfl [1, 3, 4] 5 rfl rfl rfl rfl rfl ⟨Nat.le_of_ble_eq_true rfl, Nat.le_of_ble_eq_true rfl⟩ (Nat.le_of_ble_eq_true rfl) dX0_begin_40 [] rfl ?_
        refine gg_aload_n dX0_begin_43 rfl ?_
        refine gg_dup dX0_begin_44 rfl ?_
        refine gg_get 0 fl_X0_21 dX0_begin_45 rfl rfl ?_
        refine gg_iconst (1 : Int32) dX0_begin_48 (by decide) ?_
        refine gg_iadd dX0_begin_49 ?_
        refine gg_putf 0 (wd_X0_begin (c_size_7 + (1 : Int32)) c_bestApart c_bestFar (upd c_who_7 c_size_7.toNatClampNeg x2_7) v2 c_p1_huts c_p1_food c_p1_due c_p1_backs c_p1_brick) fl_X0_21 dX0_begin_50 rfl (Nat.le_of_ble_eq_true rfl) (fun _ => ⟨rfl, rfl⟩) rfl ?_
        exact hk53 (c_size_7 + (1 : Int32)) (upd c_who_7 c_size_7.toNatClampNeg x2_7) v2 h
set_option maxRecDepth 20000 in
set_option maxHeartbeats 8000000 in
theorem C_X0_begin  (c_size : Int32) (c_bestApart : Int32) (c_bestFar : Int32) (c_who : Nat → Int32) (c_given : Nat → Int32) (c_p1_huts : Int32) (c_p1_food : Int32) (c_p1_due : Int32) (c_p1_backs : Int32) (c_p1_brick : Nat → Int32) {r0 : (Int32)} {r1 : (Nat → Int32)} {r2 : (Nat → Int32)} (h : f_X0_begin c_size c_who c_given c_p1_huts c_p1_brick = some (r0, r1, r2)) : gg_C MD_X0_begin [.ref 0, .ref 100] (wd_X0_begin c_size c_bestApart c_bestFar c_who c_given c_p1_huts c_p1_food c_p1_due c_p1_backs c_p1_brick) (none) (wd_X0_begin r0 c_bestApart c_bestFar r1 r2 c_p1_huts c_p1_food c_p1_due c_p1_backs c_p1_brick) := by
  refine gg_ofG [some (.ref 0), some (.ref 100), none] (plainFor_of_name (by decide)) (Nat.le_of_ble_eq_true rfl) rfl ?_
  unfold f_X0_begin at h
  refine gg_aload_n dX0_begin_0 rfl ?_
  refine gg_iconst (0 : Int32) dX0_begin_1 (by decide) ?_
  refine gg_putf 0 (wd_X0_begin (0 : Int32) c_bestApart c_bestFar c_who c_given c_p1_huts c_p1_food c_p1_due c_p1_backs c_p1_brick) fl_X0_21 dX0_begin_2 rfl (Nat.le_of_ble_eq_true rfl) (fun _ => ⟨rfl, rfl⟩) rfl ?_
  refine gg_iconst (0 : Int32) dX0_begin_5 (by decide) ?_
  refine gg_istore_n [some (.ref 0), some (.ref 100), some (.int (0 : Int32))] dX0_begin_6 rfl (Nat.le_of_ble_eq_true rfl) rfl ?_
  refine lq_X0_begin_7 c_bestApart c_bestFar c_p1_huts c_p1_food c_p1_due c_p1_backs c_p1_brick _ ?_ gg_fuel (0 : Int32) (0 : Int32) c_who c_given h
  intro c_size_59 c_who_59 c_given_59 h
  cases h
  exact gg_vret dX0_begin_59 rfl
def wd_J9_abs_0f7a4  : va_W := []
def MD_J9_abs_0f7a4 : gg_M := (yJ9_abs_0f7a4, cJ9_abs_0f7a4, 1, some .int, 0, 0)
theorem nS_J9_abs_0f7a4 : gg_nS MD_J9_abs_0f7a4 1 := ⟨⟨gg_mem (by decide +kernel) rfl, gg_mem cw_J9_abs_0f7a4 rfl, by decide, by decide, by decide +kernel⟩, gg_mem (by decide +kernel) rfl⟩
def f_J9_abs_0f7a4 (a0 : Int32)  : Option (Int32) := gg_lt (fun (s0_10 : Int32) => (some s0_10)) (fun k10 => (if (0 : Int32) ≤ a0 then (k10 a0) else (k10 (-a0))))
set_option maxRecDepth 20000 in
set_option maxHeartbeats 8000000 in
theorem C_J9_abs_0f7a4 (a0 : Int32)  {res : Int32} (h : f_J9_abs_0f7a4 a0 = some res) : gg_C MD_J9_abs_0f7a4 [.int a0] (wd_J9_abs_0f7a4) (some (.int res)) (wd_J9_abs_0f7a4) := by
  refine gg_ofG [some (.int a0)] (by decide +kernel) (Nat.le_of_ble_eq_true rfl) rfl ?_
  unfold f_J9_abs_0f7a4 at h
  refine gg_iload_n dJ9_abs_0f7a4_0 rfl ?_
  obtain ⟨k10, hke10, h⟩ := gg_lte h
  have hk10 : ∀ (s0_10 : Int32), k10 s0_10 = some res → gg_G MD_J9_abs_0f7a4 10 [none] [.int s0_10] (wd_J9_abs_0f7a4) (some (.int res)) (wd_J9_abs_0f7a4) := by
    intro s0_10 h
    subst hke10
    cases h
    exact gg_iret dJ9_abs_0f7a4_10 rfl
  clear hke10
  refine gg_if_ge 9 dJ9_abs_0f7a4_1 (by decide) (fun hc => ?_) (fun hc => ?_)
  · replace h := gg_th h hc
    refine gg_iload_n dJ9_abs_0f7a4_9 rfl ?_
    refine gg_fg [false] [none] rfl ?_
    exact hk10 a0 h
  · replace h := gg_el h hc
    refine gg_iload_n dJ9_abs_0f7a4_4 rfl ?_
    refine gg_ineg dJ9_abs_0f7a4_5 ?_
    refine gg_goto 10 dJ9_abs_0f7a4_6 (by decide) ?_
    refine gg_fg [false] [none] rfl ?_
    exact hk10 (-a0) h
def wd_X0_apart (c_size : Int32) (c_bestApart : Int32) (c_bestFar : Int32) (c_who : Nat → Int32) (c_given : Nat → Int32) : va_W := [(0, .inr (0, [.ref 1, .ref 2, .ref 3, .int c_size, .int c_bestApart, .int c_bestFar])), (1, .inl (0, 6, .inl c_who)), (2, .inl (0, 6, .inl c_given))]
def MD_X0_apart : gg_M := (yX0_apart, cX0_apart, 3, some .int, 1, 20)
theorem nV_X0_apart : gg_nV MD_X0_apart 0 := ⟨⟨gg_mem (by decide +kernel) rfl, gg_mem cw_X0_apart rfl, by decide, by decide, by decide +kernel⟩, gg_mem (by decide +kernel) rfl, gg_mem (by decide +kernel) rfl⟩
def lp_X0_apart_4 {β : Type} (c_size : Int32) (c_who : Nat → Int32) (c_given : Nat → Int32) (k71 : (Int32) → Option β) : Nat → (Int32) → (Int32) → Option β
  | 0, _, _ => none
  | n + 1, x1_4, x2_4 => (if c_size ≤ (x2_4 + (1 : Int32)) then (k71 x1_4) else gg_chk (gg_in x2_4 6) (gg_lt (fun (x1_65 : Int32) => (lp_X0_apart_4 c_size c_who c_given k71 n x1_65 (x2_4 + (1 : Int32)))) (fun k65 => (if ((c_who x2_4.toNatClampNeg) - (c_who x2_4.toNatClampNeg) / (2 : Int32) * (2 : Int32)) = (0 : Int32) then gg_chk (gg_in (x2_4 + (1 : Int32)) 6) (gg_chk (gg_in x2_4 6) ((if (c_who (x2_4 + (1 : Int32)).toNatClampNeg) = ((c_who x2_4.toNatClampNeg) + (1 : Int32)) then gg_chk (gg_in x2_4 6) (gg_chk (gg_in (x2_4 + (1 : Int32)) 6) ((f_J9_abs_0f7a4 ((c_given x2_4.toNatClampNeg) - (c_given (x2_4 + (1 : Int32)).toNatClampNeg))).bind (fun v1 => (k65 (x1_4 + v1))))) else (k65 x1_4)))) else (k65 x1_4)))))
def f_X0_apart  (c_size : Int32) (c_who : Nat → Int32) (c_given : Nat → Int32) : Option (Int32) := (lp_X0_apart_4 c_size c_who c_given (fun (x1_71 : Int32) => (some x1_71)) gg_fuel (0 : Int32) (0 : Int32))
set_option maxRecDepth 20000 in
set_option maxHeartbeats 4000000 in
theorem lq_X0_apart_4 {β : Type} {res : β} {rr : Option Value} {ww : va_W} (c_size : Int32) (c_bestApart : Int32) (c_bestFar : Int32) (c_who : Nat → Int32) (c_given : Nat → Int32) (k71 : (Int32) → Option β) (hk71 : ∀ (x1_71 : Int32), k71 x1_71 = some res → gg_G MD_X0_apart 71 [none, some (.int x1_71), none] [] (wd_X0_apart c_size c_bestApart c_bestFar c_who c_given) rr ww) : ∀ (n : Nat) (x1_4 : Int32) (x2_4 : Int32), lp_X0_apart_4 c_size c_who c_given k71 n x1_4 x2_4 = some res → gg_G MD_X0_apart 4 [some (.ref 0), some (.int x1_4), some (.int x2_4)] [] (wd_X0_apart c_size c_bestApart c_bestFar c_who c_given) rr ww := by
  intro n
  induction n with
  | zero =>
    intro x1_4 x2_4 h
    exact nomatch (show (none : Option β) = some res from h)
  | succ n ih =>
    intro x1_4 x2_4 h
    rw [lp_X0_apart_4] at h
    refine gg_iload_n dX0_apart_4 rfl ?_
    refine gg_iconst (1 : Int32) dX0_apart_5 (by decide) ?_
    refine gg_iadd dX0_apart_6 ?_
    refine gg_aload_n dX0_apart_7 rfl ?_
    refine gg_get 0 fl_X0_21 dX0_apart_8 rfl rfl ?_
    refine gg_icmp_ge 71 dX0_apart_11 (by decide) (fun hc => ?_) (fun hc => ?_)
    · replace h := gg_th h hc
      refine gg_fg [false, true, false] [none, some (.int x1_4), none] rfl ?_
      exact hk71 x1_4 h
    · replace h := gg_el h hc
      refine gg_aload_n dX0_apart_14 rfl ?_
      refine gg_get 0 fl_X0_9 dX0_apart_15 rfl rfl ?_
      refine gg_iload_n dX0_apart_18 rfl ?_
      obtain ⟨hb19, h⟩ := gg_ck h
      refine gg_iald 1 dX0_apart_19 rfl hb19 ?_
      refine gg_iconst (2 : Int32) dX0_apart_20 (by decide) ?_
      refine gg_irem dX0_apart_21 (by decide) ?_
      obtain ⟨k65, hke65, h⟩ := gg_lte h
      have hk65 : ∀ (x1_65 : Int32), k65 x1_65 = some res → gg_G MD_X0_apart 65 [some (.ref 0), some (.int x1_65), some (.int x2_4)] [] (wd_X0_apart c_size c_bestApart c_bestFar c_who c_given) rr ww := by
        intro x1_65 h
        subst hke65
        refine gg_iinc (x2_4 + (1 : Int32)) [some (.ref 0), some (.int x1_65), some (.int (x2_4 + (1 : Int32)))] dX0_apart_65 rfl rfl rfl (Nat.le_of_ble_eq_true rfl) rfl ?_
        refine gg_goto 4 dX0_apart_68 (by decide) ?_
        exact ih x1_65 (x2_4 + (1 : Int32)) h
      clear hke65
      refine gg_if_ne 65 dX0_apart_22 (by decide) (fun hc => ?_) (fun hc => ?_)
      · replace h := gg_el h hc
        exact hk65 x1_4 h
      · replace h := gg_th h hc
        refine gg_aload_n dX0_apart_25 rfl ?_
        refine gg_get 0 fl_X0_9 dX0_apart_26 rfl rfl ?_
        refine gg_iload_n dX0_apart_29 rfl ?_
        refine gg_iconst (1 : Int32) dX0_apart_30 (by decide) ?_
        refine gg_iadd dX0_apart_31 ?_
        obtain ⟨hb32, h⟩ := gg_ck h
        refine gg_iald 1 dX0_apart_32 rfl hb32 ?_
        refine gg_aload_n dX0_apart_33 rfl ?_
        refine gg_get 0 fl_X0_9 dX0_apart_34 rfl rfl ?_
        refine gg_iload_n dX0_apart_37 rfl ?_
        obtain ⟨hb38, h⟩ := gg_ck h
        refine gg_iald 1 dX0_apart_38 rfl hb38 ?_
        refine gg_iconst (1 : Int32) dX0_apart_39 (by decide) ?_
        refine gg_iadd dX0_apart_40 ?_
        refine gg_icmp_ne 65 dX0_apart_41 (by decide) (fun hc => ?_) (fun hc => ?_)
        · replace h := gg_el h hc
          exact hk65 x1_4 h
        · replace h := gg_th h hc
          refine gg_iload_n dX0_apart_44 rfl ?_
          refine gg_aload_n dX0_apart_45 rfl ?_
          refine gg_get 0 fl_X0_15 dX0_apart_46 rfl rfl ?_
          refine gg_iload_n dX0_apart_49 rfl ?_
          obtain ⟨hb50, h⟩ := gg_ck h
          refine gg_iald 2 dX0_apart_50 rfl hb50 ?_
          refine gg_aload_n dX0_apart_51 rfl ?_
          refine gg_get 0 fl_X0_15 dX0_apart_52 rfl rfl ?_
          refine gg_iload_n dX0_apart_55 rfl ?_
          refine gg_iconst (1 : Int32) dX0_apart_56 (by decide) ?_
          refine gg_iadd dX0_apart_57 ?_
          obtain ⟨hb58, h⟩ := gg_ck h
          refine gg_iald 2 dX0_apart_58 rfl hb58 ?_
          refine gg_isub dX0_apart_59 ?_
          obtain ⟨v1, hv1, h⟩ := gg_bd h
          refine gg_callS (gg_sg []) [] (wd_X0_apart c_size c_bestApart c_bestFar c_who c_given) (C_J9_abs_0f7a4 ((c_given x2_4.toNatClampNeg) - (c_given (x2_4 + (1 : Int32)).toNatClampNeg)) hv1) nS_J9_abs_0f7a4 ml_X0_66 rfl rfl rfl rfl rfl rfl rfl [0, 1, 2] 3 rfl rfl rfl rfl rfl ⟨Nat.le_of_ble_eq_true rfl, Nat.le_of_ble_eq_true rfl⟩ (Nat.le_of_ble_eq_true rfl) dX0_apart_60 [.int v1, .int x1_4] rfl ?_
          refine gg_iadd dX0_apart_63 ?_
          refine gg_istore_n [some (.ref 0), some (.int (x1_4 + v1)), some (.int x2_4)] dX0_apart_64 rfl (Nat.le_of_ble_eq_true rfl) rfl ?_
          exact hk65 (x1_4 + v1) h
set_option maxRecDepth 20000 in
set_option maxHeartbeats 8000000 in
theorem C_X0_apart  (c_size : Int32) (c_bestApart : Int32) (c_bestFar : Int32) (c_who : Nat → Int32) (c_given : Nat → Int32) {res : Int32} (h : f_X0_apart c_size c_who c_given = some res) : gg_C MD_X0_apart [.ref 0] (wd_X0_apart c_size c_bestApart c_bestFar c_who c_given) (some (.int res)) (wd_X0_apart c_size c_bestApart c_bestFar c_who c_given) := by
  refine gg_ofG [some (.ref 0), none, none] (plainFor_of_name (by decide)) (Nat.le_of_ble_eq_true rfl) rfl ?_
  unfold f_X0_apart at h
  refine gg_iconst (0 : Int32) dX0_apart_0 (by decide) ?_
  refine gg_istore_n [some (.ref 0), some (.int (0 : Int32)), none] dX0_apart_1 rfl (Nat.le_of_ble_eq_true rfl) rfl ?_
  refine gg_iconst (0 : Int32) dX0_apart_2 (by decide) ?_
  refine gg_istore_n [some (.ref 0), some (.int (0 : Int32)), some (.int (0 : Int32))] dX0_apart_3 rfl (Nat.le_of_ble_eq_true rfl) rfl ?_
  refine lq_X0_apart_4 c_size c_bestApart c_bestFar c_who c_given _ ?_ gg_fuel (0 : Int32) (0 : Int32) h
  intro x1_71 h
  refine gg_iload_n dX0_apart_71 rfl ?_
  cases h
  exact gg_iret dX0_apart_72 rfl
def wd_X0_far (c_size : Int32) (c_bestApart : Int32) (c_bestFar : Int32) (c_who : Nat → Int32) (c_given : Nat → Int32) (c_p1_huts : Int32) (c_p1_food : Int32) (c_p1_due : Int32) (c_p1_backs : Int32) (c_p1_home : Nat → Int32) : va_W := [(0, .inr (0, [.ref 1, .ref 2, .ref 3, .int c_size, .int c_bestApart, .int c_bestFar])), (1, .inl (0, 6, .inl c_who)), (2, .inl (0, 6, .inl c_given)), (100, .inr (2, [.int c_p1_huts, .int c_p1_food, .int c_p1_due, .ref 101, .ref 102, .ref 103, .ref 104, .ref 105, .ref 106, .ref 107, .int c_p1_backs])), (103, .inl (0, 6, .inl c_p1_home))]
def MD_X0_far : gg_M := (yX0_far, cX0_far, 4, some .int, 1, 20)
theorem nV_X0_far : gg_nV MD_X0_far 1 := ⟨⟨gg_mem (by decide +kernel) rfl, gg_mem cw_X0_far rfl, by decide, by decide, by decide +kernel⟩, gg_mem (by decide +kernel) rfl, gg_mem (by decide +kernel) rfl⟩
def lp_X0_far_4 {β : Type} (c_size : Int32) (c_who : Nat → Int32) (c_given : Nat → Int32) (c_p1_home : Nat → Int32) (k42 : (Int32) → Option β) : Nat → (Int32) → (Int32) → Option β
  | 0, _, _ => none
  | n + 1, x2_4, x3_4 => (if c_size ≤ x3_4 then (k42 x2_4) else gg_chk (gg_in x3_4 6) (gg_chk (gg_in x3_4 6) (gg_chk (gg_in (c_who x3_4.toNatClampNeg) 6) ((f_J9_abs_0f7a4 ((c_given x3_4.toNatClampNeg) - (c_p1_home (c_who x3_4.toNatClampNeg).toNatClampNeg))).bind (fun v1 => (lp_X0_far_4 c_size c_who c_given c_p1_home k42 n (x2_4 + v1) (x3_4 + (1 : Int32))))))))
def f_X0_far  (c_size : Int32) (c_who : Nat → Int32) (c_given : Nat → Int32) (c_p1_home : Nat → Int32) : Option (Int32) := (lp_X0_far_4 c_size c_who c_given c_p1_home (fun (x2_42 : Int32) => (some x2_42)) gg_fuel (0 : Int32) (0 : Int32))
set_option maxRecDepth 20000 in
set_option maxHeartbeats 4000000 in
theorem lq_X0_far_4 {β : Type} {res : β} {rr : Option Value} {ww : va_W} (c_size : Int32) (c_bestApart : Int32) (c_bestFar : Int32) (c_who : Nat → Int32) (c_given : Nat → Int32) (c_p1_huts : Int32) (c_p1_food : Int32) (c_p1_due : Int32) (c_p1_backs : Int32) (c_p1_home : Nat → Int32) (k42 : (Int32) → Option β) (hk42 : ∀ (x2_42 : Int32), k42 x2_42 = some res → gg_G MD_X0_far 42 [none, none, some (.int x2_42), none] [] (wd_X0_far c_size c_bestApart c_bestFar c_who c_given c_p1_huts c_p1_food c_p1_due c_p1_backs c_p1_home) rr ww) : ∀ (n : Nat) (x2_4 : Int32) (x3_4 : Int32), lp_X0_far_4 c_size c_who c_given c_p1_home k42 n x2_4 x3_4 = some res → gg_G MD_X0_far 4 [some (.ref 0), some (.ref 100), some (.int x2_4), some (.int x3_4)] [] (wd_X0_far c_size c_bestApart c_bestFar c_who c_given c_p1_huts c_p1_food c_p1_due c_p1_backs c_p1_home) rr ww := by
  intro n
  induction n with
  | zero =>
    intro x2_4 x3_4 h
    exact nomatch (show (none : Option β) = some res from h)
  | succ n ih =>
    intro x2_4 x3_4 h
    rw [lp_X0_far_4] at h
    refine gg_iload_n dX0_far_4 rfl ?_
    refine gg_aload_n dX0_far_5 rfl ?_
    refine gg_get 0 fl_X0_21 dX0_far_6 rfl rfl ?_
    refine gg_icmp_ge 42 dX0_far_9 (by decide) (fun hc => ?_) (fun hc => ?_)
    · replace h := gg_th h hc
      refine gg_fg [false, false, true, false] [none, none, some (.int x2_4), none] rfl ?_
      exact hk42 x2_4 h
    · replace h := gg_el h hc
      refine gg_iload_n dX0_far_12 rfl ?_
      refine gg_aload_n dX0_far_13 rfl ?_
      refine gg_get 0 fl_X0_15 dX0_far_14 rfl rfl ?_
      refine gg_iload_n dX0_far_17 rfl ?_
      obtain ⟨hb18, h⟩ := gg_ck h
      refine gg_iald 2 dX0_far_18 rfl hb18 ?_
      refine gg_aload_n dX0_far_19 rfl ?_
      refine gg_get 3 fl_X0_72 dX0_far_20 rfl rfl ?_
      refine gg_aload_n dX0_far_23 rfl ?_
      refine gg_get 0 fl_X0_9 dX0_far_24 rfl rfl ?_
      refine gg_iload_n dX0_far_27 rfl ?_
      obtain ⟨hb28, h⟩ := gg_ck h
      refine gg_iald 1 dX0_far_28 rfl hb28 ?_
      obtain ⟨hb29, h⟩ := gg_ck h
      refine gg_iald 4 dX0_far_29 rfl hb29 ?_
      refine gg_isub dX0_far_30 ?_
      obtain ⟨v1, hv1, h⟩ := gg_bd h
      refine gg_callS (gg_sg []) [] (wd_X0_far c_size c_bestApart c_bestFar c_who c_given c_p1_huts c_p1_food c_p1_due c_p1_backs c_p1_home) (C_J9_abs_0f7a4 ((c_given x3_4.toNatClampNeg) - (c_p1_home (c_who x3_4.toNatClampNeg).toNatClampNeg)) hv1) nS_J9_abs_0f7a4 ml_X0_66 rfl rfl rfl rfl rfl rfl rfl [0, 1, 2, 3, 4] 5 rfl rfl rfl rfl rfl ⟨Nat.le_of_ble_eq_true rfl, Nat.le_of_ble_eq_true rfl⟩ (Nat.le_of_ble_eq_true rfl) dX0_far_31 [.int v1, .int x2_4] rfl ?_
      refine gg_iadd dX0_far_34 ?_
      refine gg_istore_n [some (.ref 0), some (.ref 100), some (.int (x2_4 + v1)), some (.int x3_4)] dX0_far_35 rfl (Nat.le_of_ble_eq_true rfl) rfl ?_
      refine gg_iinc (x3_4 + (1 : Int32)) [some (.ref 0), some (.ref 100), some (.int (x2_4 + v1)), some (.int (x3_4 + (1 : Int32)))] dX0_far_36 rfl rfl rfl (Nat.le_of_ble_eq_true rfl) rfl ?_
      refine gg_goto 4 dX0_far_39 (by decide) ?_
      exact ih (x2_4 + v1) (x3_4 + (1 : Int32)) h
set_option maxRecDepth 20000 in
set_option maxHeartbeats 8000000 in
theorem C_X0_far  (c_size : Int32) (c_bestApart : Int32) (c_bestFar : Int32) (c_who : Nat → Int32) (c_given : Nat → Int32) (c_p1_huts : Int32) (c_p1_food : Int32) (c_p1_due : Int32) (c_p1_backs : Int32) (c_p1_home : Nat → Int32) {res : Int32} (h : f_X0_far c_size c_who c_given c_p1_home = some res) : gg_C MD_X0_far [.ref 0, .ref 100] (wd_X0_far c_size c_bestApart c_bestFar c_who c_given c_p1_huts c_p1_food c_p1_due c_p1_backs c_p1_home) (some (.int res)) (wd_X0_far c_size c_bestApart c_bestFar c_who c_given c_p1_huts c_p1_food c_p1_due c_p1_backs c_p1_home) := by
  refine gg_ofG [some (.ref 0), some (.ref 100), none, none] (plainFor_of_name (by decide)) (Nat.le_of_ble_eq_true rfl) rfl ?_
  unfold f_X0_far at h
  refine gg_iconst (0 : Int32) dX0_far_0 (by decide) ?_
  refine gg_istore_n [some (.ref 0), some (.ref 100), some (.int (0 : Int32)), none] dX0_far_1 rfl (Nat.le_of_ble_eq_true rfl) rfl ?_
  refine gg_iconst (0 : Int32) dX0_far_2 (by decide) ?_
  refine gg_istore_n [some (.ref 0), some (.ref 100), some (.int (0 : Int32)), some (.int (0 : Int32))] dX0_far_3 rfl (Nat.le_of_ble_eq_true rfl) rfl ?_
  refine lq_X0_far_4 c_size c_bestApart c_bestFar c_who c_given c_p1_huts c_p1_food c_p1_due c_p1_backs c_p1_home _ ?_ gg_fuel (0 : Int32) (0 : Int32) h
  intro x2_42 h
  refine gg_iload_n dX0_far_42 rfl ?_
  cases h
  exact gg_iret dX0_far_43 rfl
def wd_X0_takeAsBest (c_size : Int32) (c_bestApart : Int32) (c_bestFar : Int32) (c_given : Nat → Int32) (c_best : Nat → Int32) : va_W := [(0, .inr (0, [.ref 1, .ref 2, .ref 3, .int c_size, .int c_bestApart, .int c_bestFar])), (2, .inl (0, 6, .inl c_given)), (3, .inl (0, 6, .inl c_best))]
def MD_X0_takeAsBest : gg_M := (yX0_takeAsBest, cX0_takeAsBest, 2, none, 0, 0)
theorem nV_X0_takeAsBest : gg_nV MD_X0_takeAsBest 0 := ⟨⟨gg_mem (by decide +kernel) rfl, gg_mem cw_X0_takeAsBest rfl, by decide, by decide, by decide +kernel⟩, gg_mem (by decide +kernel) rfl, gg_mem (by decide +kernel) rfl⟩
def lp_X0_takeAsBest_2 {β : Type} (c_size : Int32) (c_given : Nat → Int32) (k28 : (Nat → Int32) → Option β) : Nat → (Int32) → (Nat → Int32) → Option β
  | 0, _, _ => none
  | n + 1, x1_2, c_best_2 => (if c_size ≤ x1_2 then (k28 c_best_2) else gg_chk (gg_in x1_2 6) (gg_chk (gg_in x1_2 6) ((lp_X0_takeAsBest_2 c_size c_given k28 n (x1_2 + (1 : Int32)) (upd c_best_2 x1_2.toNatClampNeg (c_given x1_2.toNatClampNeg))))))
def f_X0_takeAsBest  (c_size : Int32) (c_given : Nat → Int32) (c_best : Nat → Int32) : Option ((Nat → Int32)) := (lp_X0_takeAsBest_2 c_size c_given (fun (c_best_28 : Nat → Int32) => (some c_best_28)) gg_fuel (0 : Int32) c_best)
set_option maxRecDepth 20000 in
set_option maxHeartbeats 4000000 in
theorem lq_X0_takeAsBest_2 {β : Type} {res : β} {rr : Option Value} {ww : va_W} (c_size : Int32) (c_bestApart : Int32) (c_bestFar : Int32) (c_given : Nat → Int32) (k28 : (Nat → Int32) → Option β) (hk28 : ∀ (c_best_28 : Nat → Int32), k28 c_best_28 = some res → gg_G MD_X0_takeAsBest 28 [none, none] [] (wd_X0_takeAsBest c_size c_bestApart c_bestFar c_given c_best_28) rr ww) : ∀ (n : Nat) (x1_2 : Int32) (c_best_2 : Nat → Int32), lp_X0_takeAsBest_2 c_size c_given k28 n x1_2 c_best_2 = some res → gg_G MD_X0_takeAsBest 2 [some (.ref 0), some (.int x1_2)] [] (wd_X0_takeAsBest c_size c_bestApart c_bestFar c_given c_best_2) rr ww := by
  intro n
  induction n with
  | zero =>
    intro x1_2 c_best_2 h
    exact nomatch (show (none : Option β) = some res from h)
  | succ n ih =>
    intro x1_2 c_best_2 h
    rw [lp_X0_takeAsBest_2] at h
    refine gg_iload_n dX0_takeAsBest_2 rfl ?_
    refine gg_aload_n dX0_takeAsBest_3 rfl ?_
    refine gg_get 0 fl_X0_21 dX0_takeAsBest_4 rfl rfl ?_
    refine gg_icmp_ge 28 dX0_takeAsBest_7 (by decide) (fun hc => ?_) (fun hc => ?_)
    · replace h := gg_th h hc
      refine gg_fg [false, false] [none, none] rfl ?_
      exact hk28 c_best_2 h
    · replace h := gg_el h hc
      refine gg_aload_n dX0_takeAsBest_10 rfl ?_
      refine gg_get 0 fl_X0_18 dX0_takeAsBest_11 rfl rfl ?_
      refine gg_iload_n dX0_takeAsBest_14 rfl ?_
      refine gg_aload_n dX0_takeAsBest_15 rfl ?_
      refine gg_get 0 fl_X0_15 dX0_takeAsBest_16 rfl rfl ?_
      refine gg_iload_n dX0_takeAsBest_19 rfl ?_
      obtain ⟨hb20, h⟩ := gg_ck h
      refine gg_iald 1 dX0_takeAsBest_20 rfl hb20 ?_
      obtain ⟨hb21, h⟩ := gg_ck h
      refine gg_iast 2 (wd_X0_takeAsBest c_size c_bestApart c_bestFar c_given (upd c_best_2 x1_2.toNatClampNeg (c_given x1_2.toNatClampNeg))) dX0_takeAsBest_21 rfl hb21 rfl ?_
      refine gg_iinc (x1_2 + (1 : Int32)) [some (.ref 0), some (.int (x1_2 + (1 : Int32)))] dX0_takeAsBest_22 rfl rfl rfl (Nat.le_of_ble_eq_true rfl) rfl ?_
      refine gg_goto 2 dX0_takeAsBest_25 (by decide) ?_
      exact ih (x1_2 + (1 : Int32)) (upd c_best_2 x1_2.toNatClampNeg (c_given x1_2.toNatClampNeg)) h
set_option maxRecDepth 20000 in
set_option maxHeartbeats 8000000 in
theorem C_X0_takeAsBest  (c_size : Int32) (c_bestApart : Int32) (c_bestFar : Int32) (c_given : Nat → Int32) (c_best : Nat → Int32) {res : (Nat → Int32)} (h : f_X0_takeAsBest c_size c_given c_best = some res) : gg_C MD_X0_takeAsBest [.ref 0] (wd_X0_takeAsBest c_size c_bestApart c_bestFar c_given c_best) (none) (wd_X0_takeAsBest c_size c_bestApart c_bestFar c_given res) := by
  refine gg_ofG [some (.ref 0), none] (plainFor_of_name (by decide)) (Nat.le_of_ble_eq_true rfl) rfl ?_
  unfold f_X0_takeAsBest at h
  refine gg_iconst (0 : Int32) dX0_takeAsBest_0 (by decide) ?_
  refine gg_istore_n [some (.ref 0), some (.int (0 : Int32))] dX0_takeAsBest_1 rfl (Nat.le_of_ble_eq_true rfl) rfl ?_
  refine lq_X0_takeAsBest_2 c_size c_bestApart c_bestFar c_given _ ?_ gg_fuel (0 : Int32) c_best h
  intro c_best_28 h
  cases h
  exact gg_vret dX0_takeAsBest_28 rfl
def wd_X0_swap (c_size : Int32) (c_bestApart : Int32) (c_bestFar : Int32) (c_given : Nat → Int32) : va_W := [(0, .inr (0, [.ref 1, .ref 2, .ref 3, .int c_size, .int c_bestApart, .int c_bestFar])), (2, .inl (0, 6, .inl c_given))]
def MD_X0_swap : gg_M := (yX0_swap, cX0_swap, 4, none, 0, 0)
theorem nV_X0_swap : gg_nV MD_X0_swap 2 := ⟨⟨gg_mem (by decide +kernel) rfl, gg_mem cw_X0_swap rfl, by decide, by decide, by decide +kernel⟩, gg_mem (by decide +kernel) rfl, gg_mem (by decide +kernel) rfl⟩
def f_X0_swap (a0 : Int32) (a1 : Int32) (c_given : Nat → Int32) : Option ((Nat → Int32)) := gg_chk (gg_in a0 6) (gg_chk (gg_in a1 6) (gg_chk (gg_in a0 6) (gg_chk (gg_in a1 6) ((some (upd (upd c_given a0.toNatClampNeg (c_given a1.toNatClampNeg)) a1.toNatClampNeg (c_given a0.toNatClampNeg)))))))
set_option maxRecDepth 20000 in
set_option maxHeartbeats 8000000 in
theorem C_X0_swap (a0 : Int32) (a1 : Int32) (c_size : Int32) (c_bestApart : Int32) (c_bestFar : Int32) (c_given : Nat → Int32) {res : (Nat → Int32)} (h : f_X0_swap a0 a1 c_given = some res) : gg_C MD_X0_swap [.ref 0, .int a0, .int a1] (wd_X0_swap c_size c_bestApart c_bestFar c_given) (none) (wd_X0_swap c_size c_bestApart c_bestFar res) := by
  refine gg_ofG [some (.ref 0), some (.int a0), some (.int a1), none] (plainFor_of_name (by decide)) (Nat.le_of_ble_eq_true rfl) rfl ?_
  unfold f_X0_swap at h
  refine gg_aload_n dX0_swap_0 rfl ?_
  refine gg_get 0 fl_X0_15 dX0_swap_1 rfl rfl ?_
  refine gg_iload_n dX0_swap_4 rfl ?_
  obtain ⟨hb5, h⟩ := gg_ck h
  refine gg_iald 1 dX0_swap_5 rfl hb5 ?_
  refine gg_istore_n [some (.ref 0), some (.int a0), some (.int a1), some (.int (c_given a0.toNatClampNeg))] dX0_swap_6 rfl (Nat.le_of_ble_eq_true rfl) rfl ?_
  refine gg_aload_n dX0_swap_7 rfl ?_
  refine gg_get 0 fl_X0_15 dX0_swap_8 rfl rfl ?_
  refine gg_iload_n dX0_swap_11 rfl ?_
  refine gg_aload_n dX0_swap_12 rfl ?_
  refine gg_get 0 fl_X0_15 dX0_swap_13 rfl rfl ?_
  refine gg_iload_n dX0_swap_16 rfl ?_
  obtain ⟨hb17, h⟩ := gg_ck h
  refine gg_iald 1 dX0_swap_17 rfl hb17 ?_
  obtain ⟨hb18, h⟩ := gg_ck h
  refine gg_iast 1 (wd_X0_swap c_size c_bestApart c_bestFar (upd c_given a0.toNatClampNeg (c_given a1.toNatClampNeg))) dX0_swap_18 rfl hb18 rfl ?_
  refine gg_aload_n dX0_swap_19 rfl ?_
  refine gg_get 0 fl_X0_15 dX0_swap_20 rfl rfl ?_
  refine gg_iload_n dX0_swap_23 rfl ?_
  refine gg_iload_n dX0_swap_24 rfl ?_
  obtain ⟨hb25, h⟩ := gg_ck h
  refine gg_iast 1 (wd_X0_swap c_size c_bestApart c_bestFar (upd (upd c_given a0.toNatClampNeg (c_given a1.toNatClampNeg)) a1.toNatClampNeg (c_given a0.toNatClampNeg))) dX0_swap_25 rfl hb25 rfl ?_
  cases h
  exact gg_vret dX0_swap_26 rfl
def wd_X0_goOn (c_size : Int32) (c_bestApart : Int32) (c_bestFar : Int32) (c_given : Nat → Int32) : va_W := [(0, .inr (0, [.ref 1, .ref 2, .ref 3, .int c_size, .int c_bestApart, .int c_bestFar])), (2, .inl (0, 6, .inl c_given))]
def MD_X0_goOn : gg_M := (yX0_goOn, cX0_goOn, 5, some .boolean, 1, 23)
theorem nV_X0_goOn : gg_nV MD_X0_goOn 0 := ⟨⟨gg_mem (by decide +kernel) rfl, gg_mem cw_X0_goOn rfl, by decide, by decide, by decide +kernel⟩, gg_mem (by decide +kernel) rfl, gg_mem (by decide +kernel) rfl⟩
def lp_X0_goOn_7 {β : Type} (c_given : Nat → Int32) (k34 : (Int32) → Option β) : Nat → (Int32) → Option β
  | 0, _ => none
  | n + 1, x1_7 => (if x1_7 < (0 : Int32) then (k34 x1_7) else gg_chk (gg_in x1_7 6) (gg_chk (gg_in (x1_7 + (1 : Int32)) 6) ((if (c_given x1_7.toNatClampNeg) ≤ (c_given (x1_7 + (1 : Int32)).toNatClampNeg) then (k34 x1_7) else (lp_X0_goOn_7 c_given k34 n (x1_7 + (-1 : Int32)))))))
def lp_X0_goOn_47 {β : Type} (y1 : Int32) (c_given : Nat → Int32) (k73 : (Int32) → Option β) : Nat → (Int32) → Option β
  | 0, _ => none
  | n + 1, x2_47 => (if x2_47 ≤ y1 then (k73 x2_47) else gg_chk (gg_in x2_47 6) (gg_chk (gg_in y1 6) ((if (c_given y1.toNatClampNeg) ≤ (c_given x2_47.toNatClampNeg) then (k73 x2_47) else (lp_X0_goOn_47 y1 c_given k73 n (x2_47 + (-1 : Int32)))))))
def lp_X0_goOn_91 {β : Type}  (k113 : (Nat → Int32) → Option β) : Nat → (Int32) → (Int32) → (Nat → Int32) → Option β
  | 0, _, _, _ => none
  | n + 1, x3_91, x4_91, c_given_91 => (if x4_91 ≤ x3_91 then (k113 c_given_91) else (f_X0_swap x3_91 x4_91 c_given_91).bind (fun v2 => (lp_X0_goOn_91 k113 n (x3_91 + (1 : Int32)) (x4_91 + (-1 : Int32)) v2)))
def f_X0_goOn  (c_size : Int32) (c_given : Nat → Int32) : Option (Int32 × (Nat → Int32)) := (lp_X0_goOn_7 c_given (fun (x1_34 : Int32) => (if (0 : Int32) ≤ x1_34 then (lp_X0_goOn_47 x1_34 c_given (fun (x2_73 : Int32) => (f_X0_swap x1_34 x2_73 c_given).bind (fun v1 => (lp_X0_goOn_91 (fun (c_given_113 : Nat → Int32) => (some ((1 : Int32), c_given_113))) gg_fuel (x1_34 + (1 : Int32)) (c_size - (1 : Int32)) v1))) gg_fuel (c_size - (1 : Int32))) else (some ((0 : Int32), c_given)))) gg_fuel (c_size - (2 : Int32)))
set_option maxRecDepth 20000 in
set_option maxHeartbeats 4000000 in
theorem lq_X0_goOn_7 {β : Type} {res : β} {rr : Option Value} {ww : va_W} (c_size : Int32) (c_bestApart : Int32) (c_bestFar : Int32) (c_given : Nat → Int32) (k34 : (Int32) → Option β) (hk34 : ∀ (x1_34 : Int32), k34 x1_34 = some res → gg_G MD_X0_goOn 34 [some (.ref 0), some (.int x1_34), none, none, none] [] (wd_X0_goOn c_size c_bestApart c_bestFar c_given) rr ww) : ∀ (n : Nat) (x1_7 : Int32), lp_X0_goOn_7 c_given k34 n x1_7 = some res → gg_G MD_X0_goOn 7 [some (.ref 0), some (.int x1_7), none, none, none] [] (wd_X0_goOn c_size c_bestApart c_bestFar c_given) rr ww := by
  intro n
  induction n with
  | zero =>
    intro x1_7 h
    exact nomatch (show (none : Option β) = some res from h)
  | succ n ih =>
    intro x1_7 h
    rw [lp_X0_goOn_7] at h
    refine gg_iload_n dX0_goOn_7 rfl ?_
    refine gg_if_lt 34 dX0_goOn_8 (by decide) (fun hc => ?_) (fun hc => ?_)
    · replace h := gg_th h hc
      exact hk34 x1_7 h
    · replace h := gg_el h hc
      refine gg_aload_n dX0_goOn_11 rfl ?_
      refine gg_get 0 fl_X0_15 dX0_goOn_12 rfl rfl ?_
      refine gg_iload_n dX0_goOn_15 rfl ?_
      obtain ⟨hb16, h⟩ := gg_ck h
      refine gg_iald 1 dX0_goOn_16 rfl hb16 ?_
      refine gg_aload_n dX0_goOn_17 rfl ?_
      refine gg_get 0 fl_X0_15 dX0_goOn_18 rfl rfl ?_
      refine gg_iload_n dX0_goOn_21 rfl ?_
      refine gg_iconst (1 : Int32) dX0_goOn_22 (by decide) ?_
      refine gg_iadd dX0_goOn_23 ?_
      obtain ⟨hb24, h⟩ := gg_ck h
      refine gg_iald 1 dX0_goOn_24 rfl hb24 ?_
      refine gg_icmp_le 34 dX0_goOn_25 (by decide) (fun hc => ?_) (fun hc => ?_)
      · replace h := gg_th h hc
        exact hk34 x1_7 h
      · replace h := gg_el h hc
        refine gg_iinc (x1_7 + (-1 : Int32)) [some (.ref 0), some (.int (x1_7 + (-1 : Int32))), none, none, none] dX0_goOn_28 rfl rfl rfl (Nat.le_of_ble_eq_true rfl) rfl ?_
        refine gg_goto 7 dX0_goOn_31 (by decide) ?_
        exact ih (x1_7 + (-1 : Int32)) h
set_option maxRecDepth 20000 in
set_option maxHeartbeats 4000000 in
theorem lq_X0_goOn_47 {β : Type} {res : β} {rr : Option Value} {ww : va_W} (y1 : Int32) (c_size : Int32) (c_bestApart : Int32) (c_bestFar : Int32) (c_given : Nat → Int32) (k73 : (Int32) → Option β) (hk73 : ∀ (x2_73 : Int32), k73 x2_73 = some res → gg_G MD_X0_goOn 73 [some (.ref 0), some (.int y1), some (.int x2_73), none, none] [] (wd_X0_goOn c_size c_bestApart c_bestFar c_given) rr ww) : ∀ (n : Nat) (x2_47 : Int32), lp_X0_goOn_47 y1 c_given k73 n x2_47 = some res → gg_G MD_X0_goOn 47 [some (.ref 0), some (.int y1), some (.int x2_47), none, none] [] (wd_X0_goOn c_size c_bestApart c_bestFar c_given) rr ww := by
  intro n
  induction n with
  | zero =>
    intro x2_47 h
    exact nomatch (show (none : Option β) = some res from h)
  | succ n ih =>
    intro x2_47 h
    rw [lp_X0_goOn_47] at h
    refine gg_iload_n dX0_goOn_47 rfl ?_
    refine gg_iload_n dX0_goOn_48 rfl ?_
    refine gg_icmp_le 73 dX0_goOn_49 (by decide) (fun hc => ?_) (fun hc => ?_)
    · replace h := gg_th h hc
      exact hk73 x2_47 h
    · replace h := gg_el h hc
      refine gg_aload_n dX0_goOn_52 rfl ?_
      refine gg_get 0 fl_X0_15 dX0_goOn_53 rfl rfl ?_
      refine gg_iload_n dX0_goOn_56 rfl ?_
      obtain ⟨hb57, h⟩ := gg_ck h
      refine gg_iald 1 dX0_goOn_57 rfl hb57 ?_
      refine gg_aload_n dX0_goOn_58 rfl ?_
      refine gg_get 0 fl_X0_15 dX0_goOn_59 rfl rfl ?_
      refine gg_iload_n dX0_goOn_62 rfl ?_
      obtain ⟨hb63, h⟩ := gg_ck h
      refine gg_iald 1 dX0_goOn_63 rfl hb63 ?_
      refine gg_icmp_ge 73 dX0_goOn_64 (by decide) (fun hc => ?_) (fun hc => ?_)
      · replace h := gg_th h hc
        exact hk73 x2_47 h
      · replace h := gg_el h hc
        refine gg_iinc (x2_47 + (-1 : Int32)) [some (.ref 0), some (.int y1), some (.int (x2_47 + (-1 : Int32))), none, none] dX0_goOn_67 rfl rfl rfl (Nat.le_of_ble_eq_true rfl) rfl ?_
        refine gg_goto 47 dX0_goOn_70 (by decide) ?_
        exact ih (x2_47 + (-1 : Int32)) h
set_option maxRecDepth 20000 in
set_option maxHeartbeats 4000000 in
theorem lq_X0_goOn_91 {β : Type} {res : β} {rr : Option Value} {ww : va_W} (c_size : Int32) (c_bestApart : Int32) (c_bestFar : Int32) (k113 : (Nat → Int32) → Option β) (hk113 : ∀ (c_given_113 : Nat → Int32), k113 c_given_113 = some res → gg_G MD_X0_goOn 113 [none, none, none, none, none] [] (wd_X0_goOn c_size c_bestApart c_bestFar c_given_113) rr ww) : ∀ (n : Nat) (x3_91 : Int32) (x4_91 : Int32) (c_given_91 : Nat → Int32), lp_X0_goOn_91 k113 n x3_91 x4_91 c_given_91 = some res → gg_G MD_X0_goOn 91 [some (.ref 0), none, none, some (.int x3_91), some (.int x4_91)] [] (wd_X0_goOn c_size c_bestApart c_bestFar c_given_91) rr ww := by
  intro n
  induction n with
  | zero =>
    intro x3_91 x4_91 c_given_91 h
    exact nomatch (show (none : Option β) = some res from h)
  | succ n ih =>
    intro x3_91 x4_91 c_given_91 h
    rw [lp_X0_goOn_91] at h
    refine gg_iload_n dX0_goOn_91 rfl ?_
    refine gg_iload dX0_goOn_92 rfl ?_
    refine gg_icmp_ge 113 dX0_goOn_94 (by decide) (fun hc => ?_) (fun hc => ?_)
    · replace h := gg_th h hc
      refine gg_fg [false, false, false, false, false] [none, none, none, none, none] rfl ?_
      exact hk113 c_given_91 h
    · replace h := gg_el h hc
      refine gg_aload_n dX0_goOn_97 rfl ?_
      refine gg_iload_n dX0_goOn_98 rfl ?_
      refine gg_iload dX0_goOn_99 rfl ?_
      obtain ⟨v2, hv2, h⟩ := gg_bd h
      refine gg_callV (gg_sg [0]) [0, 1] (wd_X0_goOn c_size c_bestApart c_bestFar v2) 0 (C_X0_swap x3_91 x4_91 c_size c_bestApart c_bestFar c_given_91 hv2) nV_X0_swap ml_X0_75 rfl rfl rfl rfl rfl rfl rfl rfl rfl rfl [] 2 rfl rfl rfl rfl rfl ⟨Nat.le_of_ble_eq_true rfl, Nat.le_of_ble_eq_true rfl⟩ (Nat.le_of_ble_eq_true rfl) dX0_goOn_101 [] rfl ?_
      refine gg_iinc (x3_91 + (1 : Int32)) [some (.ref 0), none, none, some (.int (x3_91 + (1 : Int32))), some (.int x4_91)] dX0_goOn_104 rfl rfl rfl (Nat.le_of_ble_eq_true rfl) rfl ?_
      refine gg_iinc (x4_91 + (-1 : Int32)) [some (.ref 0), none, none, some (.int (x3_91 + (1 : Int32))), some (.int (x4_91 + (-1 : Int32)))] dX0_goOn_107 rfl rfl rfl (Nat.le_of_ble_eq_true rfl) rfl ?_
      refine gg_goto 91 dX0_goOn_110 (by decide) ?_
      exact ih (x3_91 + (1 : Int32)) (x4_91 + (-1 : Int32)) v2 h
set_option maxRecDepth 20000 in
set_option maxHeartbeats 8000000 in
theorem C_X0_goOn  (c_size : Int32) (c_bestApart : Int32) (c_bestFar : Int32) (c_given : Nat → Int32) {r0 : Int32} {r1 : (Nat → Int32)} (h : f_X0_goOn c_size c_given = some (r0, r1)) : gg_C MD_X0_goOn [.ref 0] (wd_X0_goOn c_size c_bestApart c_bestFar c_given) (some (.int r0)) (wd_X0_goOn c_size c_bestApart c_bestFar r1) := by
  refine gg_ofG [some (.ref 0), none, none, none, none] (plainFor_of_name (by decide)) (Nat.le_of_ble_eq_true rfl) rfl ?_
  unfold f_X0_goOn at h
  refine gg_aload_n dX0_goOn_0 rfl ?_
  refine gg_get 0 fl_X0_21 dX0_goOn_1 rfl rfl ?_
  refine gg_iconst (2 : Int32) dX0_goOn_4 (by decide) ?_
  refine gg_isub dX0_goOn_5 ?_
  refine gg_istore_n [some (.ref 0), some (.int (c_size - (2 : Int32))), none, none, none] dX0_goOn_6 rfl (Nat.le_of_ble_eq_true rfl) rfl ?_
  refine lq_X0_goOn_7 c_size c_bestApart c_bestFar c_given _ ?_ gg_fuel (c_size - (2 : Int32)) h
  intro x1_34 h
  refine gg_iload_n dX0_goOn_34 rfl ?_
  refine gg_if_ge 40 dX0_goOn_35 (by decide) (fun hc => ?_) (fun hc => ?_)
  · replace h := gg_th h hc
    refine gg_aload_n dX0_goOn_40 rfl ?_
    refine gg_get 0 fl_X0_21 dX0_goOn_41 rfl rfl ?_
    refine gg_iconst (1 : Int32) dX0_goOn_44 (by decide) ?_
    refine gg_isub dX0_goOn_45 ?_
    refine gg_istore_n [some (.ref 0), some (.int x1_34), some (.int (c_size - (1 : Int32))), none, none] dX0_goOn_46 rfl (Nat.le_of_ble_eq_true rfl) rfl ?_
    refine lq_X0_goOn_47 x1_34 c_size c_bestApart c_bestFar c_given _ ?_ gg_fuel (c_size - (1 : Int32)) h
    intro x2_73 h
    refine gg_aload_n dX0_goOn_73 rfl ?_
    refine gg_iload_n dX0_goOn_74 rfl ?_
    refine gg_iload_n dX0_goOn_75 rfl ?_
    obtain ⟨v1, hv1, h⟩ := gg_bd h
    refine gg_callV (gg_sg [0]) [0, 1] (wd_X0_goOn c_size c_bestApart c_bestFar v1) 0 (C_X0_swap x1_34 x2_73 c_size c_bestApart c_bestFar c_given hv1) nV_X0_swap ml_X0_75 rfl rfl rfl rfl rfl rfl rfl rfl rfl rfl [] 2 rfl rfl rfl rfl rfl ⟨Nat.le_of_ble_eq_true rfl, Nat.le_of_ble_eq_true rfl⟩ (Nat.le_of_ble_eq_true rfl) dX0_goOn_76 [] rfl ?_
    refine gg_iload_n dX0_goOn_79 rfl ?_
    refine gg_iconst (1 : Int32) dX0_goOn_80 (by decide) ?_
    refine gg_iadd dX0_goOn_81 ?_
    refine gg_istore_n [some (.ref 0), some (.int x1_34), some (.int x2_73), some (.int (x1_34 + (1 : Int32))), none] dX0_goOn_82 rfl (Nat.le_of_ble_eq_true rfl) rfl ?_
    refine gg_aload_n dX0_goOn_83 rfl ?_
    refine gg_get 0 fl_X0_21 dX0_goOn_84 rfl rfl ?_
    refine gg_iconst (1 : Int32) dX0_goOn_87 (by decide) ?_
    refine gg_isub dX0_goOn_88 ?_
    refine gg_istore [some (.ref 0), some (.int x1_34), some (.int x2_73), some (.int (x1_34 + (1 : Int32))), some (.int (c_size - (1 : Int32)))] dX0_goOn_89 rfl (Nat.le_of_ble_eq_true rfl) rfl ?_
    refine gg_fg [true, false, false, true, true] [some (.ref 0), none, none, some (.int (x1_34 + (1 : Int32))), some (.int (c_size - (1 : Int32)))] rfl ?_
    refine lq_X0_goOn_91 c_size c_bestApart c_bestFar _ ?_ gg_fuel (x1_34 + (1 : Int32)) (c_size - (1 : Int32)) v1 h
    intro c_given_113 h
    refine gg_iconst (1 : Int32) dX0_goOn_113 (by decide) ?_
    cases h
    exact gg_zret dX0_goOn_114 rfl rfl
  · replace h := gg_el h hc
    refine gg_iconst (0 : Int32) dX0_goOn_38 (by decide) ?_
    cases h
    exact gg_zret dX0_goOn_39 rfl rfl
def wd_X0_seek (c_size : Int32) (c_bestApart : Int32) (c_bestFar : Int32) (c_who : Nat → Int32) (c_given : Nat → Int32) (c_best : Nat → Int32) (c_p1_huts : Int32) (c_p1_food : Int32) (c_p1_due : Int32) (c_p1_backs : Int32) (c_p1_home : Nat → Int32) (c_p1_brick : Nat → Int32) : va_W := [(0, .inr (0, [.ref 1, .ref 2, .ref 3, .int c_size, .int c_bestApart, .int c_bestFar])), (1, .inl (0, 6, .inl c_who)), (2, .inl (0, 6, .inl c_given)), (3, .inl (0, 6, .inl c_best)), (100, .inr (2, [.int c_p1_huts, .int c_p1_food, .int c_p1_due, .ref 101, .ref 102, .ref 103, .ref 104, .ref 105, .ref 106, .ref 107, .int c_p1_backs])), (103, .inl (0, 6, .inl c_p1_home)), (106, .inl (0, 6, .inl c_p1_brick))]
def MD_X0_seek : gg_M := (yX0_seek, cX0_seek, 6, none, 3, 64)
theorem nV_X0_seek : gg_nV MD_X0_seek 1 := ⟨⟨gg_mem (by decide +kernel) rfl, gg_mem cw_X0_seek rfl, by decide, by decide, by decide +kernel⟩, gg_mem (by decide +kernel) rfl, gg_mem (by decide +kernel) rfl⟩
def lp_X0_seek_9 {β : Type} (c_size : Int32) (c_who : Nat → Int32) (c_p1_home : Nat → Int32) (k91 : (Int32) → (Int32) → (Nat → Int32) → (Nat → Int32) → Option β) : Nat → (Int32) → (Int32) → (Int32) → (Int32) → (Nat → Int32) → (Nat → Int32) → Option β
  | 0, _, _, _, _, _, _ => none
  | n + 1, x2_9, x3_9, c_bestApart_9, c_bestFar_9, c_given_9, c_best_9 => (if (1000 : Int32) ≤ x3_9 then (k91 c_bestApart_9 c_bestFar_9 c_given_9 c_best_9) else (if x2_9 = (0 : Int32) then (k91 c_bestApart_9 c_bestFar_9 c_given_9 c_best_9) else (f_X0_apart c_size c_who c_given_9).bind (fun v2 => (f_X0_far c_size c_who c_given_9 c_p1_home).bind (fun v3 => gg_lt (fun (c_bestApart_80 : Int32) (c_bestFar_80 : Int32) (c_best_80 : Nat → Int32) => gg_b2 (f_X0_goOn c_size c_given_9) (fun v4_0 v4_1 => (lp_X0_seek_9 c_size c_who c_p1_home k91 n v4_0 (x3_9 + (1 : Int32)) c_bestApart_80 c_bestFar_80 v4_1 c_best_80))) (fun k80 => gg_lt ((f_X0_takeAsBest c_size c_given_9 c_best_9).bind (fun v5 => (k80 v2 v3 v5))) (fun k64 => (if x3_9 = (0 : Int32) then k64 else (if v2 < c_bestApart_9 then k64 else (if v2 = c_bestApart_9 then (if c_bestFar_9 ≤ v3 then (k80 c_bestApart_9 c_bestFar_9 c_best_9) else k64) else (k80 c_bestApart_9 c_bestFar_9 c_best_9))))))))))
def f_X0_seek  (c_size : Int32) (c_bestApart : Int32) (c_bestFar : Int32) (c_who : Nat → Int32) (c_given : Nat → Int32) (c_best : Nat → Int32) (c_p1_huts : Int32) (c_p1_home : Nat → Int32) (c_p1_brick : Nat → Int32) : Option ((Int32) × (Int32) × (Int32) × (Nat → Int32) × (Nat → Int32) × (Nat → Int32)) := gg_b3 (f_X0_begin c_size c_who c_given c_p1_huts c_p1_brick) (fun v1_0 v1_1 v1_2 => (lp_X0_seek_9 v1_0 v1_1 c_p1_home (fun (c_bestApart_91 : Int32) (c_bestFar_91 : Int32) (c_given_91 : Nat → Int32) (c_best_91 : Nat → Int32) => (some (v1_0, c_bestApart_91, c_bestFar_91, v1_1, c_given_91, c_best_91))) gg_fuel (1 : Int32) (0 : Int32) c_bestApart c_bestFar v1_2 c_best))
set_option maxRecDepth 20000 in
set_option maxHeartbeats 4000000 in
theorem lq_X0_seek_9 {β : Type} {res : β} {rr : Option Value} {ww : va_W} (c_size : Int32) (c_who : Nat → Int32) (c_p1_huts : Int32) (c_p1_food : Int32) (c_p1_due : Int32) (c_p1_backs : Int32) (c_p1_home : Nat → Int32) (c_p1_brick : Nat → Int32) (k91 : (Int32) → (Int32) → (Nat → Int32) → (Nat → Int32) → Option β) (hk91 : ∀ (c_bestApart_91 : Int32) (c_bestFar_91 : Int32) (c_given_91 : Nat → Int32) (c_best_91 : Nat → Int32), k91 c_bestApart_91 c_bestFar_91 c_given_91 c_best_91 = some res → gg_G MD_X0_seek 91 [none, none, none, none, none, none] [] (wd_X0_seek c_size c_bestApart_91 c_bestFar_91 c_who c_given_91 c_best_91 c_p1_huts c_p1_food c_p1_due c_p1_backs c_p1_home c_p1_brick) rr ww) : ∀ (n : Nat) (x2_9 : Int32) (x3_9 : Int32) (c_bestApart_9 : Int32) (c_bestFar_9 : Int32) (c_given_9 : Nat → Int32) (c_best_9 : Nat → Int32), lp_X0_seek_9 c_size c_who c_p1_home k91 n x2_9 x3_9 c_bestApart_9 c_bestFar_9 c_given_9 c_best_9 = some res → gg_G MD_X0_seek 9 [some (.ref 0), some (.ref 100), some (.int x2_9), some (.int x3_9), none, none] [] (wd_X0_seek c_size c_bestApart_9 c_bestFar_9 c_who c_given_9 c_best_9 c_p1_huts c_p1_food c_p1_due c_p1_backs c_p1_home c_p1_brick) rr ww := by
  intro n
  induction n with
  | zero =>
    intro x2_9 x3_9 c_bestApart_9 c_bestFar_9 c_given_9 c_best_9 h
    exact nomatch (show (none : Option β) = some res from h)
  | succ n ih =>
    intro x2_9 x3_9 c_bestApart_9 c_bestFar_9 c_given_9 c_best_9 h
    rw [lp_X0_seek_9] at h
    refine gg_iload_n dX0_seek_9 rfl ?_
    refine gg_sipush (1000 : Int32) dX0_seek_10 (by decide) ?_
    refine gg_icmp_ge 91 dX0_seek_13 (by decide) (fun hc => ?_) (fun hc => ?_)
    · replace h := gg_th h hc
      refine gg_fg [false, false, false, false, false, false] [none, none, none, none, none, none] rfl ?_
      exact hk91 c_bestApart_9 c_bestFar_9 c_given_9 c_best_9 h
    · replace h := gg_el h hc
      refine gg_iload_n dX0_seek_16 rfl ?_
      refine gg_if_eq 91 dX0_seek_17 (by decide) (fun hc => ?_) (fun hc => ?_)
      · replace h := gg_th h hc
        refine gg_fg [false, false, false, false, false, false] [none, none, none, none, none, none] rfl ?_
        exact hk91 c_bestApart_9 c_bestFar_9 c_given_9 c_best_9 h
      · replace h := gg_el h hc
        refine gg_aload_n dX0_seek_20 rfl ?_
        obtain ⟨v2, hv2, h⟩ := gg_bd h
        refine gg_callV (gg_sg [0]) [0, 1, 2] (wd_X0_seek c_size c_bestApart_9 c_bestFar_9 c_who c_given_9 c_best_9 c_p1_huts c_p1_food c_p1_due c_p1_backs c_p1_home c_p1_brick) 0 (C_X0_apart c_size c_bestApart_9 c_bestFar_9 c_who c_given_9 hv2) nV_X0_apart ml_X0_35 rfl rfl rfl rfl rfl rfl rfl rfl rfl rfl [3, 4, 5, 6] 7 rfl rfl rfl rfl rfl ⟨Nat.le_of_ble_eq_true rfl, Nat.le_of_ble_eq_true rfl⟩ (Nat.le_of_ble_eq_true rfl) dX0_seek_21 [.int v2] rfl ?_
        refine gg_istore [some (.ref 0), some (.ref 100), some (.int x2_9), some (.int x3_9), some (.int v2), none] dX0_seek_24 rfl (Nat.le_of_ble_eq_true rfl) rfl ?_
        refine gg_aload_n dX0_seek_26 rfl ?_
        refine gg_aload_n dX0_seek_27 rfl ?_
        obtain ⟨v3, hv3, h⟩ := gg_bd h
        refine gg_callV (gg_sg [0, 100]) [0, 1, 2, 4, 5] (wd_X0_seek c_size c_bestApart_9 c_bestFar_9 c_who c_given_9 c_best_9 c_p1_huts c_p1_food c_p1_due c_p1_backs c_p1_home c_p1_brick) 0 (C_X0_far c_size c_bestApart_9 c_bestFar_9 c_who c_given_9 c_p1_huts c_p1_food c_p1_due c_p1_backs c_p1_home hv3) nV_X0_far ml_X0_39 rfl rfl rfl rfl rfl rfl rfl rfl rfl rfl [3, 6] 7 rfl rfl rfl rfl rfl ⟨Nat.le_of_ble_eq_true rfl, Nat.le_of_ble_eq_true rfl⟩ (Nat.le_of_ble_eq_true rfl) dX0_seek_28 [.int v3] rfl ?_
        refine gg_istore [some (.ref 0), some (.ref 100), some (.int x2_9), some (.int x3_9), some (.int v2), some (.int v3)] dX0_seek_31 rfl (Nat.le_of_ble_eq_true rfl) rfl ?_
        refine gg_iload_n dX0_seek_33 rfl ?_
        obtain ⟨k80, hke80, h⟩ := gg_lte h
        have hk80 : ∀ (c_bestApart_80 : Int32) (c_bestFar_80 : Int32) (c_best_80 : Nat → Int32), k80 c_bestApart_80 c_bestFar_80 c_best_80 = some res → gg_G MD_X0_seek 80 [some (.ref 0), some (.ref 100), none, some (.int x3_9), none, none] [] (wd_X0_seek c_size c_bestApart_80 c_bestFar_80 c_who c_given_9 c_best_80 c_p1_huts c_p1_food c_p1_due c_p1_backs c_p1_home c_p1_brick) rr ww := by
          intro c_bestApart_80 c_bestFar_80 c_best_80 h
          subst hke80
          refine gg_aload_n dX0_seek_80 rfl ?_
          obtain ⟨v4_0, v4_1, hv4, h⟩ := gg_bd2 h
          refine gg_callV (gg_sg [0]) [0, 2] (wd_X0_seek c_size c_bestApart_80 c_bestFar_80 c_who v4_1 c_best_80 c_p1_huts c_p1_food c_p1_due c_p1_backs c_p1_home c_p1_brick) 0 (C_X0_goOn c_size c_bestApart_80 c_bestFar_80 c_given_9 hv4) nV_X0_goOn ml_X0_46 rfl rfl rfl rfl rfl rfl rfl rfl rfl rfl [1, 3, 4, 5, 6] 7 rfl rfl rfl rfl rfl ⟨Nat.le_of_ble_eq_true rfl, Nat.le_of_ble_eq_true rfl⟩ (Nat.le_of_ble_eq_true rfl) dX0_seek_81 [.int v4_0] rfl ?_
          refine gg_istore_n [some (.ref 0), some (.ref 100), some (.int v4_0), some (.int x3_9), none, none] dX0_seek_84 rfl (Nat.le_of_ble_eq_true rfl) rfl ?_
          refine gg_iinc (x3_9 + (1 : Int32)) [some (.ref 0), some (.ref 100), some (.int v4_0), some (.int (x3_9 + (1 : Int32))), none, none] dX0_seek_85 rfl rfl rfl (Nat.le_of_ble_eq_true rfl) rfl ?_
          refine gg_goto 9 dX0_seek_88 (by decide) ?_
          exact ih v4_0 (x3_9 + (1 : Int32)) c_bestApart_80 c_bestFar_80 v4_1 c_best_80 h
        clear hke80
        obtain ⟨k64, hke64, h⟩ := gg_lte h
        have hk64 : k64 = some res → gg_G MD_X0_seek 64 [some (.ref 0), some (.ref 100), none, some (.int x3_9), some (.int v2), some (.int v3)] [] (wd_X0_seek c_size c_bestApart_9 c_bestFar_9 c_who c_given_9 c_best_9 c_p1_huts c_p1_food c_p1_due c_p1_backs c_p1_home c_p1_brick) rr ww := by
          intro  h
          subst hke64
          refine gg_aload_n dX0_seek_64 rfl ?_
          refine gg_iload dX0_seek_65 rfl ?_
          refine gg_putf 0 (wd_X0_seek c_size v2 c_bestFar_9 c_who c_given_9 c_best_9 c_p1_huts c_p1_food c_p1_due c_p1_backs c_p1_home c_p1_brick) fl_X0_25 dX0_seek_67 rfl (Nat.le_of_ble_eq_true rfl) (fun _ => ⟨rfl, rfl⟩) rfl ?_
          refine gg_aload_n dX0_seek_70 rfl ?_
          refine gg_iload dX0_seek_71 rfl ?_
          refine gg_putf 0 (wd_X0_seek c_size v2 v3 c_who c_given_9 c_best_9 c_p1_huts c_p1_food c_p1_due c_p1_backs c_p1_home c_p1_brick) fl_X0_28 dX0_seek_73 rfl (Nat.le_of_ble_eq_true rfl) (fun _ => ⟨rfl, rfl⟩) rfl ?_
          refine gg_aload_n dX0_seek_76 rfl ?_
          obtain ⟨v5, hv5, h⟩ := gg_bd h
          refine gg_callV (gg_sg [0]) [0, 2, 3] (wd_X0_seek c_size v2 v3 c_who c_given_9 v5 c_p1_huts c_p1_food c_p1_due c_p1_backs c_p1_home c_p1_brick) 0 (C_X0_takeAsBest c_size v2 v3 c_given_9 c_best_9 hv5) nV_X0_takeAsBest ml_X0_43 rfl rfl rfl rfl rfl rfl rfl rfl rfl rfl [1, 4, 5, 6] 7 rfl rfl rfl rfl rfl ⟨Nat.le_of_ble_eq_true rfl, Nat.le_of_ble_eq_true rfl⟩ (Nat.le_of_ble_eq_true rfl) dX0_seek_77 [] rfl ?_
          refine gg_fg [true, true, false, true, false, false] [some (.ref 0), some (.ref 100), none, some (.int x3_9), none, none] rfl ?_
          exact hk80 v2 v3 v5 h
        clear hke64
        refine gg_if_eq 64 dX0_seek_34 (by decide) (fun hc => ?_) (fun hc => ?_)
        · replace h := gg_th h hc
          refine gg_fg [true, true, false, true, true, true] [some (.ref 0), some (.ref 100), none, some (.int x3_9), some (.int v2), some (.int v3)] rfl ?_
          exact hk64 h
        · replace h := gg_el h hc
          refine gg_iload dX0_seek_37 rfl ?_
          refine gg_aload_n dX0_seek_39 rfl ?_
          refine gg_get 0 fl_X0_25 dX0_seek_40 rfl rfl ?_
          refine gg_icmp_lt 64 dX0_seek_43 (by decide) (fun hc => ?_) (fun hc => ?_)
          · replace h := gg_th h hc
            refine gg_fg [true, true, false, true, true, true] [some (.ref 0), some (.ref 100), none, some (.int x3_9), some (.int v2), some (.int v3)] rfl ?_
            exact hk64 h
          · replace h := gg_el h hc
            refine gg_iload dX0_seek_46 rfl ?_
            refine gg_aload_n dX0_seek_48 rfl ?_
            refine gg_get 0 fl_X0_25 dX0_seek_49 rfl rfl ?_
            refine gg_icmp_ne 80 dX0_seek_52 (by decide) (fun hc => ?_) (fun hc => ?_)
            · replace h := gg_el h hc
              refine gg_fg [true, true, false, true, false, false] [some (.ref 0), some (.ref 100), none, some (.int x3_9), none, none] rfl ?_
              exact hk80 c_bestApart_9 c_bestFar_9 c_best_9 h
            · replace h := gg_th h hc
              refine gg_iload dX0_seek_55 rfl ?_
              refine gg_aload_n dX0_seek_57 rfl ?_
              refine gg_get 0 fl_X0_28 dX0_seek_58 rfl rfl ?_
              refine gg_icmp_ge 80 dX0_seek_61 (by decide) (fun hc => ?_) (fun hc => ?_)
              · replace h := gg_th h hc
                refine gg_fg [true, true, false, true, false, false] [some (.ref 0), some (.ref 100), none, some (.int x3_9), none, none] rfl ?_
                exact hk80 c_bestApart_9 c_bestFar_9 c_best_9 h
              · replace h := gg_el h hc
                refine gg_fg [true, true, false, true, true, true] [some (.ref 0), some (.ref 100), none, some (.int x3_9), some (.int v2), some (.int v3)] rfl ?_
                exact hk64 h
set_option maxRecDepth 20000 in
set_option maxHeartbeats 8000000 in
theorem C_X0_seek  (c_size : Int32) (c_bestApart : Int32) (c_bestFar : Int32) (c_who : Nat → Int32) (c_given : Nat → Int32) (c_best : Nat → Int32) (c_p1_huts : Int32) (c_p1_food : Int32) (c_p1_due : Int32) (c_p1_backs : Int32) (c_p1_home : Nat → Int32) (c_p1_brick : Nat → Int32) {r0 : (Int32)} {r1 : (Int32)} {r2 : (Int32)} {r3 : (Nat → Int32)} {r4 : (Nat → Int32)} {r5 : (Nat → Int32)} (h : f_X0_seek c_size c_bestApart c_bestFar c_who c_given c_best c_p1_huts c_p1_home c_p1_brick = some (r0, r1, r2, r3, r4, r5)) : gg_C MD_X0_seek [.ref 0, .ref 100] (wd_X0_seek c_size c_bestApart c_bestFar c_who c_given c_best c_p1_huts c_p1_food c_p1_due c_p1_backs c_p1_home c_p1_brick) (none) (wd_X0_seek r0 r1 r2 r3 r4 r5 c_p1_huts c_p1_food c_p1_due c_p1_backs c_p1_home c_p1_brick) := by
  refine gg_ofG [some (.ref 0), some (.ref 100), none, none, none, none] (plainFor_of_name (by decide)) (Nat.le_of_ble_eq_true rfl) rfl ?_
  unfold f_X0_seek at h
  refine gg_aload_n dX0_seek_0 rfl ?_
  refine gg_aload_n dX0_seek_1 rfl ?_
  obtain ⟨v1_0, v1_1, v1_2, hv1, h⟩ := gg_bd3 h
  refine gg_callV (gg_sg [0, 100]) [0, 1, 2, 4, 6] (wd_X0_seek v1_0 c_bestApart c_bestFar v1_1 v1_2 c_best c_p1_huts c_p1_food c_p1_due c_p1_backs c_p1_home c_p1_brick) 0 (C_X0_begin c_size c_bestApart c_bestFar c_who c_given c_p1_huts c_p1_food c_p1_due c_p1_backs c_p1_brick hv1) nV_X0_begin ml_X0_31 rfl rfl rfl rfl rfl rfl rfl rfl rfl rfl [3, 5] 7 rfl rfl rfl rfl rfl ⟨Nat.le_of_ble_eq_true rfl, Nat.le_of_ble_eq_true rfl⟩ (Nat.le_of_ble_eq_true rfl) dX0_seek_2 [] rfl ?_
  refine gg_iconst (1 : Int32) dX0_seek_5 (by decide) ?_
  refine gg_istore_n [some (.ref 0), some (.ref 100), some (.int (1 : Int32)), none, none, none] dX0_seek_6 rfl (Nat.le_of_ble_eq_true rfl) rfl ?_
  refine gg_iconst (0 : Int32) dX0_seek_7 (by decide) ?_
  refine gg_istore_n [some (.ref 0), some (.ref 100), some (.int (1 : Int32)), some (.int (0 : Int32)), none, none] dX0_seek_8 rfl (Nat.le_of_ble_eq_true rfl) rfl ?_
  refine lq_X0_seek_9 v1_0 v1_1 c_p1_huts c_p1_food c_p1_due c_p1_backs c_p1_home c_p1_brick _ ?_ gg_fuel (1 : Int32) (0 : Int32) c_bestApart c_bestFar v1_2 c_best h
  intro c_bestApart_91 c_bestFar_91 c_given_91 c_best_91 h
  cases h
  exact gg_vret dX0_seek_91 rfl
def wd_X8_pairs (c_latestFinding : Int32) (c_told : Int32) (c_above : Int64) (c_below : Int64) (c_rows_most : Int32) (c_rows_sizes : Nat → Int32) (c_rows_cells : Nat → Nat → Int32) (c_now_huts : Int32) (c_now_food : Int32) (c_now_due : Int32) (c_now_backs : Int32) (c_now_home : Nat → Int32) (c_now_brick : Nat → Int32) (c_bricks_size : Int32) (c_bricks_bestApart : Int32) (c_bricks_bestFar : Int32) (c_bricks_who : Nat → Int32) (c_bricks_given : Nat → Int32) (c_bricks_best : Nat → Int32) : va_W := [(0, .inr (7, [.ref 1, .ref 10, .ref 17, .ref 19, .ref 27, .ref 35, .ref 43, .ref 45, .ref 52, .ref 56, .ref 60, .ref 67, .int c_latestFinding, .int c_told, .long c_above, .long c_below])), (1, .inr (5, [.int c_rows_most, .ref 2, .ref 3])), (2, .inl (4, 6, .inr (.inr (.inr (.inr (gg_rf 2 1)))))), (3, .inl (0, 6, .inl c_rows_sizes)), (4, .inl (0, 40, .inl (c_rows_cells 0))), (5, .inl (0, 40, .inl (c_rows_cells 1))), (6, .inl (0, 40, .inl (c_rows_cells 2))), (7, .inl (0, 40, .inl (c_rows_cells 3))), (8, .inl (0, 40, .inl (c_rows_cells 4))), (9, .inl (0, 40, .inl (c_rows_cells 5))), (27, .inr (2, [.int c_now_huts, .int c_now_food, .int c_now_due, .ref 28, .ref 29, .ref 30, .ref 31, .ref 32, .ref 33, .ref 34, .int c_now_backs])), (30, .inl (0, 6, .inl c_now_home)), (33, .inl (0, 6, .inl c_now_brick)), (56, .inr (0, [.ref 57, .ref 58, .ref 59, .int c_bricks_size, .int c_bricks_bestApart, .int c_bricks_bestFar])), (57, .inl (0, 6, .inl c_bricks_who)), (58, .inl (0, 6, .inl c_bricks_given)), (59, .inl (0, 6, .inl c_bricks_best))]
def MD_X8_pairs : gg_M := (yX8_pairs, cX8_pairs, 2, some .int, 4, 90)
theorem nV_X8_pairs : gg_nV MD_X8_pairs 1 := ⟨⟨gg_mem (by decide +kernel) rfl, gg_mem cw_X8_pairs rfl, by decide, by decide, by decide +kernel⟩, gg_mem (by decide +kernel) rfl, gg_mem (by decide +kernel) rfl⟩
def f_X8_pairs (a0 : Int32) (c_told : Int32) (c_rows_most : Int32) (c_rows_sizes : Nat → Int32) (c_rows_cells : Nat → Nat → Int32) (c_now_huts : Int32) (c_now_home : Nat → Int32) (c_now_brick : Nat → Int32) (c_bricks_size : Int32) (c_bricks_bestApart : Int32) (c_bricks_bestFar : Int32) (c_bricks_who : Nat → Int32) (c_bricks_given : Nat → Int32) (c_bricks_best : Nat → Int32) : Option (Int32 × (Int32) × (Nat → Int32) × (Nat → Nat → Int32) × (Int32) × (Int32) × (Int32) × (Nat → Int32) × (Nat → Int32) × (Nat → Int32)) := (f_X6_knows_s6 a0).bind (fun v1 => (if v1 = (0 : Int32) then (some ((-1 : Int32), c_told, c_rows_sizes, c_rows_cells, c_bricks_size, c_bricks_bestApart, c_bricks_bestFar, c_bricks_who, c_bricks_given, c_bricks_best)) else (f_X2_howManyThere c_now_huts c_now_brick).bind (fun v2 => (if v2 = (0 : Int32) then (some ((-4 : Int32), c_told, c_rows_sizes, c_rows_cells, c_bricks_size, c_bricks_bestApart, c_bricks_bestFar, c_bricks_who, c_bricks_given, c_bricks_best)) else gg_b6 (f_X0_seek c_bricks_size c_bricks_bestApart c_bricks_bestFar c_bricks_who c_bricks_given c_bricks_best c_now_huts c_now_home c_now_brick) (fun v3_0 v3_1 v3_2 v3_3 v3_4 v3_5 => gg_b2 (f_X6_write_s6_a6 a0 v3_0 c_rows_most c_rows_sizes c_rows_cells v3_5) (fun v4_0 v4_1 => (some (v3_1, v3_2, v4_0, v4_1, v3_0, v3_1, v3_2, v3_3, v3_4, v3_5))))))))
set_option maxRecDepth 20000 in
set_option maxHeartbeats 8000000 in
theorem C_X8_pairs (a0 : Int32) (c_latestFinding : Int32) (c_told : Int32) (c_above : Int64) (c_below : Int64) (c_rows_most : Int32) (c_rows_sizes : Nat → Int32) (c_rows_cells : Nat → Nat → Int32) (c_now_huts : Int32) (c_now_food : Int32) (c_now_due : Int32) (c_now_backs : Int32) (c_now_home : Nat → Int32) (c_now_brick : Nat → Int32) (c_bricks_size : Int32) (c_bricks_bestApart : Int32) (c_bricks_bestFar : Int32) (c_bricks_who : Nat → Int32) (c_bricks_given : Nat → Int32) (c_bricks_best : Nat → Int32) {r0 : Int32} {r1 : (Int32)} {r2 : (Nat → Int32)} {r3 : (Nat → Nat → Int32)} {r4 : (Int32)} {r5 : (Int32)} {r6 : (Int32)} {r7 : (Nat → Int32)} {r8 : (Nat → Int32)} {r9 : (Nat → Int32)} (h : f_X8_pairs a0 c_told c_rows_most c_rows_sizes c_rows_cells c_now_huts c_now_home c_now_brick c_bricks_size c_bricks_bestApart c_bricks_bestFar c_bricks_who c_bricks_given c_bricks_best = some (r0, r1, r2, r3, r4, r5, r6, r7, r8, r9)) : gg_C MD_X8_pairs [.ref 0, .int a0] (wd_X8_pairs c_latestFinding c_told c_above c_below c_rows_most c_rows_sizes c_rows_cells c_now_huts c_now_food c_now_due c_now_backs c_now_home c_now_brick c_bricks_size c_bricks_bestApart c_bricks_bestFar c_bricks_who c_bricks_given c_bricks_best) (some (.int r0)) (wd_X8_pairs c_latestFinding r1 c_above c_below c_rows_most r2 r3 c_now_huts c_now_food c_now_due c_now_backs c_now_home c_now_brick r4 r5 r6 r7 r8 r9) := by
  refine gg_ofG [some (.ref 0), some (.int a0)] (plainFor_of_name (by decide)) (Nat.le_of_ble_eq_true rfl) rfl ?_
  unfold f_X8_pairs at h
  refine gg_aload_n dX8_pairs_0 rfl ?_
  refine gg_get 0 fl_X8_14 dX8_pairs_1 rfl rfl ?_
  refine gg_iload_n dX8_pairs_4 rfl ?_
  obtain ⟨v1, hv1, h⟩ := gg_bd h
  refine gg_callV (gg_sg [1]) [1, 3] (wd_X8_pairs c_latestFinding c_told c_above c_below c_rows_most c_rows_sizes c_rows_cells c_now_huts c_now_food c_now_due c_now_backs c_now_home c_now_brick c_bricks_size c_bricks_bestApart c_bricks_bestFar c_bricks_who c_bricks_given c_bricks_best) 0 (C_X6_knows_s6 a0 c_rows_most c_rows_sizes hv1) nV_X6_knows_s6 ml_X8_115 rfl rfl rfl rfl rfl rfl rfl rfl rfl rfl [0, 2, 4, 5, 6, 7, 8, 9, 10, 11, 12, 13, 14, 15, 16] 17 rfl rfl rfl rfl rfl ⟨Nat.le_of_ble_eq_true rfl, Nat.le_of_ble_eq_true rfl⟩ (Nat.le_of_ble_eq_true rfl) dX8_pairs_5 [.int v1] rfl ?_
  refine gg_if_ne 13 dX8_pairs_8 (by decide) (fun hc => ?_) (fun hc => ?_)
  · replace h := gg_el h hc
    refine gg_aload_n dX8_pairs_13 rfl ?_
    refine gg_get 0 fl_X8_35 dX8_pairs_14 rfl rfl ?_
    obtain ⟨v2, hv2, h⟩ := gg_bd h
    refine gg_callV (gg_sg [27]) [10, 12] (wd_X8_pairs c_latestFinding c_told c_above c_below c_rows_most c_rows_sizes c_rows_cells c_now_huts c_now_food c_now_due c_now_backs c_now_home c_now_brick c_bricks_size c_bricks_bestApart c_bricks_bestFar c_bricks_who c_bricks_given c_bricks_best) 0 (C_X2_howManyThere c_now_huts c_now_food c_now_due c_now_backs c_now_brick hv2) nV_X2_howManyThere ml_X8_196 rfl rfl rfl rfl rfl rfl rfl rfl rfl rfl [0, 1, 2, 3, 4, 5, 6, 7, 8, 9, 11, 13, 14, 15, 16] 17 rfl rfl rfl rfl rfl ⟨Nat.le_of_ble_eq_true rfl, Nat.le_of_ble_eq_true rfl⟩ (Nat.le_of_ble_eq_true rfl) dX8_pairs_17 [.int v2] rfl ?_
    refine gg_if_ne 26 dX8_pairs_20 (by decide) (fun hc => ?_) (fun hc => ?_)
    · replace h := gg_el h hc
      refine gg_aload_n dX8_pairs_26 rfl ?_
      refine gg_get 0 fl_X8_64 dX8_pairs_27 rfl rfl ?_
      refine gg_aload_n dX8_pairs_30 rfl ?_
      refine gg_get 0 fl_X8_35 dX8_pairs_31 rfl rfl ?_
      obtain ⟨v3_0, v3_1, v3_2, v3_3, v3_4, v3_5, hv3, h⟩ := gg_bd6 h
      refine gg_callV (gg_sg [56, 27]) [13, 14, 15, 16, 10, 11, 12] (wd_X8_pairs c_latestFinding c_told c_above c_below c_rows_most c_rows_sizes c_rows_cells c_now_huts c_now_food c_now_due c_now_backs c_now_home c_now_brick v3_0 v3_1 v3_2 v3_3 v3_4 v3_5) 0 (C_X0_seek c_bricks_size c_bricks_bestApart c_bricks_bestFar c_bricks_who c_bricks_given c_bricks_best c_now_huts c_now_food c_now_due c_now_backs c_now_home c_now_brick hv3) nV_X0_seek ml_X8_243 rfl rfl rfl rfl rfl rfl rfl rfl rfl rfl [0, 1, 2, 3, 4, 5, 6, 7, 8, 9] 17 rfl rfl rfl rfl rfl ⟨Nat.le_of_ble_eq_true rfl, Nat.le_of_ble_eq_true rfl⟩ (Nat.le_of_ble_eq_true rfl) dX8_pairs_34 [] rfl ?_
      refine gg_aload_n dX8_pairs_37 rfl ?_
      refine gg_get 0 fl_X8_14 dX8_pairs_38 rfl rfl ?_
      refine gg_iload_n dX8_pairs_41 rfl ?_
      refine gg_aload_n dX8_pairs_42 rfl ?_
      refine gg_get 0 fl_X8_64 dX8_pairs_43 rfl rfl ?_
      refine gg_get 13 fl_X8_245 dX8_pairs_46 rfl rfl ?_
      refine gg_aload_n dX8_pairs_49 rfl ?_
      refine gg_get 0 fl_X8_64 dX8_pairs_50 rfl rfl ?_
      refine gg_get 13 fl_X8_246 dX8_pairs_53 rfl rfl ?_
      obtain ⟨v4_0, v4_1, hv4, h⟩ := gg_bd2 h
      refine gg_callV (gg_sg [1, 59]) [1, 2, 3, 4, 5, 6, 7, 8, 9, 16] (wd_X8_pairs c_latestFinding c_told c_above c_below c_rows_most v4_0 v4_1 c_now_huts c_now_food c_now_due c_now_backs c_now_home c_now_brick v3_0 v3_1 v3_2 v3_3 v3_4 v3_5) 0 (C_X6_write_s6_a6 a0 v3_0 c_rows_most c_rows_sizes c_rows_cells v3_5 hv4) nV_X6_write_s6_a6 ml_X8_232 rfl rfl rfl rfl rfl rfl rfl rfl rfl rfl [0, 10, 11, 12, 13, 14, 15] 17 rfl rfl rfl rfl rfl ⟨Nat.le_of_ble_eq_true rfl, Nat.le_of_ble_eq_true rfl⟩ (Nat.le_of_ble_eq_true rfl) dX8_pairs_56 [] rfl ?_
      refine gg_aload_n dX8_pairs_59 rfl ?_
      refine gg_aload_n dX8_pairs_60 rfl ?_
      refine gg_get 0 fl_X8_64 dX8_pairs_61 rfl rfl ?_
      refine gg_get 13 fl_X8_247 dX8_pairs_64 rfl rfl ?_
      refine gg_putf 0 (wd_X8_pairs c_latestFinding v3_2 c_above c_below c_rows_most v4_0 v4_1 c_now_huts c_now_food c_now_due c_now_backs c_now_home c_now_brick v3_0 v3_1 v3_2 v3_3 v3_4 v3_5) fl_X8_83 dX8_pairs_67 rfl (Nat.le_of_ble_eq_true rfl) (fun _ => ⟨rfl, rfl⟩) rfl ?_
      refine gg_aload_n dX8_pairs_70 rfl ?_
      refine gg_get 0 fl_X8_64 dX8_pairs_71 rfl rfl ?_
      refine gg_get 13 fl_X8_250 dX8_pairs_74 rfl rfl ?_
      cases h
      exact gg_iret dX8_pairs_77 rfl
    · replace h := gg_th h hc
      refine gg_bipush (-4 : Int32) dX8_pairs_23 (by decide) ?_
      cases h
      exact gg_iret dX8_pairs_25 rfl
  · replace h := gg_th h hc
    refine gg_iconst (-1 : Int32) dX8_pairs_11 (by decide) ?_
    cases h
    exact gg_iret dX8_pairs_12 rfl
def wd_X8_refusedSigns (c_latestFinding : Int32) (c_told : Int32) (c_above : Int64) (c_below : Int64) (c_rows_most : Int32) (c_rows_sizes : Nat → Int32) (c_rows_cells : Nat → Nat → Int32) (c_now_huts : Int32) (c_now_food : Int32) (c_now_due : Int32) (c_now_backs : Int32) (c_found : Nat → Int32) : va_W := [(0, .inr (7, [.ref 1, .ref 10, .ref 17, .ref 19, .ref 27, .ref 35, .ref 43, .ref 45, .ref 52, .ref 56, .ref 60, .ref 67, .int c_latestFinding, .int c_told, .long c_above, .long c_below])), (1, .inr (5, [.int c_rows_most, .ref 2, .ref 3])), (2, .inl (4, 6, .inr (.inr (.inr (.inr (gg_rf 2 1)))))), (3, .inl (0, 6, .inl c_rows_sizes)), (4, .inl (0, 40, .inl (c_rows_cells 0))), (5, .inl (0, 40, .inl (c_rows_cells 1))), (6, .inl (0, 40, .inl (c_rows_cells 2))), (7, .inl (0, 40, .inl (c_rows_cells 3))), (8, .inl (0, 40, .inl (c_rows_cells 4))), (9, .inl (0, 40, .inl (c_rows_cells 5))), (27, .inr (2, [.int c_now_huts, .int c_now_food, .int c_now_due, .ref 28, .ref 29, .ref 30, .ref 31, .ref 32, .ref 33, .ref 34, .int c_now_backs])), (67, .inl (0, 6, .inl c_found))]
def MD_X8_refusedSigns : gg_M := (yX8_refusedSigns, cX8_refusedSigns, 5, some .int, 3, 65)
theorem nV_X8_refusedSigns : gg_nV MD_X8_refusedSigns 2 := ⟨⟨gg_mem (by decide +kernel) rfl, gg_mem cw_X8_refusedSigns rfl, by decide, by decide, by decide +kernel⟩, gg_mem (by decide +kernel) rfl, gg_mem (by decide +kernel) rfl⟩
def lp_X8_refusedSigns_51 {β : Type} (y2 : Int32) (c_rows_sizes : Nat → Int32) (c_rows_cells : Nat → Nat → Int32) (k95 : Option β) (k107 : Option β) : Nat → (Int32) → Option β
  | 0, _ => none
  | n + 1, x4_51 => (f_X6_size_s6 y2 c_rows_sizes).bind (fun v4 => (if v4 ≤ x4_51 then k107 else (f_X6_get_s6 y2 x4_51 c_rows_sizes c_rows_cells).bind (fun v5 => gg_lt (fun (s2_89 : Int32) => (f_X8_within v5 (0 : Int32) s2_89).bind (fun v6 => (if v6 = (0 : Int32) then k95 else (lp_X8_refusedSigns_51 y2 c_rows_sizes c_rows_cells k95 k107 n (x4_51 + (1 : Int32)))))) (fun k89 => (if (x4_51 - x4_51 / (2 : Int32) * (2 : Int32)) = (0 : Int32) then (k89 (9 : Int32)) else (k89 (11 : Int32)))))))
def f_X8_refusedSigns (a0 : Int32) (a1 : Int32) (c_latestFinding : Int32) (c_rows_sizes : Nat → Int32) (c_rows_cells : Nat → Nat → Int32) (c_now_huts : Int32) (c_found : Nat → Int32) : Option (Int32 × (Int32) × (Nat → Int32)) := (f_X2_knows a0 c_now_huts).bind (fun v1 => (if v1 = (0 : Int32) then (some ((-1 : Int32), c_latestFinding, c_found)) else gg_b3 (f_X8_refusedMissing_s6 a1 c_latestFinding c_found c_rows_sizes) (fun v2_0 v2_1 v2_2 => (if v2_0 = (0 : Int32) then (f_X6_size_s6 a1 c_rows_sizes).bind (fun v3 => (if (v3 - v3 / (2 : Int32) * (2 : Int32)) = (0 : Int32) then (lp_X8_refusedSigns_51 a1 c_rows_sizes c_rows_cells (gg_b3 (f_X8_find (3 : Int32) v2_1 v2_2) (fun v7_0 v7_1 v7_2 => (some (v7_0, v7_1, v7_2)))) ((some ((0 : Int32), v2_1, v2_2))) gg_fuel (0 : Int32)) else gg_b3 (f_X8_find (5 : Int32) v2_1 v2_2) (fun v8_0 v8_1 v8_2 => (some (v8_0, v8_1, v8_2))))) else (some (v2_0, v2_1, v2_2))))))
set_option maxRecDepth 20000 in
set_option maxHeartbeats 4000000 in
theorem lq_X8_refusedSigns_51 {β : Type} {res : β} {rr : Option Value} {ww : va_W} (y2 : Int32) (c_latestFinding : Int32) (c_told : Int32) (c_above : Int64) (c_below : Int64) (c_rows_most : Int32) (c_rows_sizes : Nat → Int32) (c_rows_cells : Nat → Nat → Int32) (c_now_huts : Int32) (c_now_food : Int32) (c_now_due : Int32) (c_now_backs : Int32) (c_found : Nat → Int32) (k95 : Option β) (k107 : Option β) (hk95 : k95 = some res → gg_G MD_X8_refusedSigns 95 [some (.ref 0), none, none, none, none] [] (wd_X8_refusedSigns c_latestFinding c_told c_above c_below c_rows_most c_rows_sizes c_rows_cells c_now_huts c_now_food c_now_due c_now_backs c_found) rr ww) (hk107 : k107 = some res → gg_G MD_X8_refusedSigns 107 [none, none, none, none, none] [] (wd_X8_refusedSigns c_latestFinding c_told c_above c_below c_rows_most c_rows_sizes c_rows_cells c_now_huts c_now_food c_now_due c_now_backs c_found) rr ww) : ∀ (n : Nat) (x4_51 : Int32), lp_X8_refusedSigns_51 y2 c_rows_sizes c_rows_cells k95 k107 n x4_51 = some res → gg_G MD_X8_refusedSigns 51 [some (.ref 0), none, some (.int y2), none, some (.int x4_51)] [] (wd_X8_refusedSigns c_latestFinding c_told c_above c_below c_rows_most c_rows_sizes c_rows_cells c_now_huts c_now_food c_now_due c_now_backs c_found) rr ww := by
  intro n
  induction n with
  | zero =>
    intro x4_51 h
    exact nomatch (show (none : Option β) = some res from h)
  | succ n ih =>
    intro x4_51 h
    rw [lp_X8_refusedSigns_51] at h
    refine gg_iload dX8_refusedSigns_51 rfl ?_
    refine gg_aload_n dX8_refusedSigns_53 rfl ?_
    refine gg_get 0 fl_X8_14 dX8_refusedSigns_54 rfl rfl ?_
    refine gg_iload_n dX8_refusedSigns_57 rfl ?_
    obtain ⟨v4, hv4, h⟩ := gg_bd h
    refine gg_callV (gg_sg [1]) [1, 3] (wd_X8_refusedSigns c_latestFinding c_told c_above c_below c_rows_most c_rows_sizes c_rows_cells c_now_huts c_now_food c_now_due c_now_backs c_found) 0 (C_X6_size_s6 y2 c_rows_most c_rows_sizes hv4) nV_X6_size_s6 ml_X8_134 rfl rfl rfl rfl rfl rfl rfl rfl rfl rfl [0, 2, 4, 5, 6, 7, 8, 9, 10, 11] 12 rfl rfl rfl rfl rfl ⟨Nat.le_of_ble_eq_true rfl, Nat.le_of_ble_eq_true rfl⟩ (Nat.le_of_ble_eq_true rfl) dX8_refusedSigns_58 [.int v4, .int x4_51] rfl ?_
    refine gg_icmp_ge 107 dX8_refusedSigns_61 (by decide) (fun hc => ?_) (fun hc => ?_)
    · replace h := gg_th h hc
      refine gg_fg [false, false, false, false, false] [none, none, none, none, none] rfl ?_
      exact hk107 h
    · replace h := gg_el h hc
      refine gg_aload_n dX8_refusedSigns_64 rfl ?_
      refine gg_get 0 fl_X8_14 dX8_refusedSigns_65 rfl rfl ?_
      refine gg_iload_n dX8_refusedSigns_68 rfl ?_
      refine gg_iload dX8_refusedSigns_69 rfl ?_
      obtain ⟨v5, hv5, h⟩ := gg_bd h
      refine gg_callV (gg_sg [1]) [1, 2, 3, 4, 5, 6, 7, 8, 9] (wd_X8_refusedSigns c_latestFinding c_told c_above c_below c_rows_most c_rows_sizes c_rows_cells c_now_huts c_now_food c_now_due c_now_backs c_found) 0 (C_X6_get_s6 y2 x4_51 c_rows_most c_rows_sizes c_rows_cells hv5) nV_X6_get_s6 ml_X8_100 rfl rfl rfl rfl rfl rfl rfl rfl rfl rfl [0, 10, 11] 12 rfl rfl rfl rfl rfl ⟨Nat.le_of_ble_eq_true rfl, Nat.le_of_ble_eq_true rfl⟩ (Nat.le_of_ble_eq_true rfl) dX8_refusedSigns_71 [.int v5] rfl ?_
      refine gg_iconst (0 : Int32) dX8_refusedSigns_74 (by decide) ?_
      refine gg_iload dX8_refusedSigns_75 rfl ?_
      refine gg_iconst (2 : Int32) dX8_refusedSigns_77 (by decide) ?_
      refine gg_irem dX8_refusedSigns_78 (by decide) ?_
      obtain ⟨k89, hke89, h⟩ := gg_lte h
      have hk89 : ∀ (s2_89 : Int32), k89 s2_89 = some res → gg_G MD_X8_refusedSigns 89 [some (.ref 0), none, some (.int y2), none, some (.int x4_51)] [.int s2_89, .int (0 : Int32), .int v5] (wd_X8_refusedSigns c_latestFinding c_told c_above c_below c_rows_most c_rows_sizes c_rows_cells c_now_huts c_now_food c_now_due c_now_backs c_found) rr ww := by
        intro s2_89 h
        subst hke89
        obtain ⟨v6, hv6, h⟩ := gg_bd h
        refine gg_callS (gg_sg []) [] (wd_X8_refusedSigns c_latestFinding c_told c_above c_below c_rows_most c_rows_sizes c_rows_cells c_now_huts c_now_food c_now_due c_now_backs c_found) (C_X8_within v5 (0 : Int32) s2_89 hv6) nS_X8_within ml_X8_155 rfl rfl rfl rfl rfl rfl rfl [0, 1, 2, 3, 4, 5, 6, 7, 8, 9, 10, 11] 12 rfl rfl rfl rfl rfl ⟨Nat.le_of_ble_eq_true rfl, Nat.le_of_ble_eq_true rfl⟩ (Nat.le_of_ble_eq_true rfl) dX8_refusedSigns_89 [.int v6] rfl ?_
        refine gg_if_ne 101 dX8_refusedSigns_92 (by decide) (fun hc => ?_) (fun hc => ?_)
        · replace h := gg_el h hc
          refine gg_iinc (x4_51 + (1 : Int32)) [some (.ref 0), none, some (.int y2), none, some (.int (x4_51 + (1 : Int32)))] dX8_refusedSigns_101 rfl rfl rfl (Nat.le_of_ble_eq_true rfl) rfl ?_
          refine gg_goto 51 dX8_refusedSigns_104 (by decide) ?_
          exact ih (x4_51 + (1 : Int32)) h
        · replace h := gg_th h hc
          refine gg_fg [true, false, false, false, false] [some (.ref 0), none, none, none, none] rfl ?_
          exact hk95 h
      clear hke89
      refine gg_if_ne 87 dX8_refusedSigns_79 (by decide) (fun hc => ?_) (fun hc => ?_)
      · replace h := gg_el h hc
        refine gg_bipush (11 : Int32) dX8_refusedSigns_87 (by decide) ?_
        exact hk89 (11 : Int32) h
      · replace h := gg_th h hc
        refine gg_bipush (9 : Int32) dX8_refusedSigns_82 (by decide) ?_
        refine gg_goto 89 dX8_refusedSigns_84 (by decide) ?_
        exact hk89 (9 : Int32) h
set_option maxRecDepth 20000 in
set_option maxHeartbeats 8000000 in
theorem C_X8_refusedSigns (a0 : Int32) (a1 : Int32) (c_latestFinding : Int32) (c_told : Int32) (c_above : Int64) (c_below : Int64) (c_rows_most : Int32) (c_rows_sizes : Nat → Int32) (c_rows_cells : Nat → Nat → Int32) (c_now_huts : Int32) (c_now_food : Int32) (c_now_due : Int32) (c_now_backs : Int32) (c_found : Nat → Int32) {r0 : Int32} {r1 : (Int32)} {r2 : (Nat → Int32)} (h : f_X8_refusedSigns a0 a1 c_latestFinding c_rows_sizes c_rows_cells c_now_huts c_found = some (r0, r1, r2)) : gg_C MD_X8_refusedSigns [.ref 0, .int a0, .int a1] (wd_X8_refusedSigns c_latestFinding c_told c_above c_below c_rows_most c_rows_sizes c_rows_cells c_now_huts c_now_food c_now_due c_now_backs c_found) (some (.int r0)) (wd_X8_refusedSigns r1 c_told c_above c_below c_rows_most c_rows_sizes c_rows_cells c_now_huts c_now_food c_now_due c_now_backs r2) := by
  refine gg_ofG [some (.ref 0), some (.int a0), some (.int a1), none, none] (plainFor_of_name (by decide)) (Nat.le_of_ble_eq_true rfl) rfl ?_
  unfold f_X8_refusedSigns at h
  refine gg_aload_n dX8_refusedSigns_0 rfl ?_
  refine gg_get 0 fl_X8_35 dX8_refusedSigns_1 rfl rfl ?_
  refine gg_iload_n dX8_refusedSigns_4 rfl ?_
  obtain ⟨v1, hv1, h⟩ := gg_bd h
  refine gg_callV (gg_sg [27]) [10] (wd_X8_refusedSigns c_latestFinding c_told c_above c_below c_rows_most c_rows_sizes c_rows_cells c_now_huts c_now_food c_now_due c_now_backs c_found) 0 (C_X2_knows a0 c_now_huts c_now_food c_now_due c_now_backs hv1) nV_X2_knows ml_X8_154 rfl rfl rfl rfl rfl rfl rfl rfl rfl rfl [0, 1, 2, 3, 4, 5, 6, 7, 8, 9, 11] 12 rfl rfl rfl rfl rfl ⟨Nat.le_of_ble_eq_true rfl, Nat.le_of_ble_eq_true rfl⟩ (Nat.le_of_ble_eq_true rfl) dX8_refusedSigns_5 [.int v1] rfl ?_
  refine gg_if_ne 13 dX8_refusedSigns_8 (by decide) (fun hc => ?_) (fun hc => ?_)
  · replace h := gg_el h hc
    refine gg_aload_n dX8_refusedSigns_13 rfl ?_
    refine gg_aload_n dX8_refusedSigns_14 rfl ?_
    refine gg_get 0 fl_X8_14 dX8_refusedSigns_15 rfl rfl ?_
    refine gg_iload_n dX8_refusedSigns_18 rfl ?_
    obtain ⟨v2_0, v2_1, v2_2, hv2, h⟩ := gg_bd3 h
    refine gg_callV (gg_sg [0, 1]) [0, 11, 1, 3] (wd_X8_refusedSigns v2_1 c_told c_above c_below c_rows_most c_rows_sizes c_rows_cells c_now_huts c_now_food c_now_due c_now_backs v2_2) 0 (C_X8_refusedMissing_s6 a1 c_latestFinding c_told c_above c_below c_found c_rows_most c_rows_sizes hv2) nV_X8_refusedMissing_s6 ml_X8_108 rfl rfl rfl rfl rfl rfl rfl rfl rfl rfl [2, 4, 5, 6, 7, 8, 9, 10] 12 rfl rfl rfl rfl rfl ⟨Nat.le_of_ble_eq_true rfl, Nat.le_of_ble_eq_true rfl⟩ (Nat.le_of_ble_eq_true rfl) dX8_refusedSigns_19 [.int v2_0] rfl ?_
    refine gg_istore_n [some (.ref 0), some (.int a0), some (.int a1), some (.int v2_0), none] dX8_refusedSigns_22 rfl (Nat.le_of_ble_eq_true rfl) rfl ?_
    refine gg_iload_n dX8_refusedSigns_23 rfl ?_
    refine gg_if_eq 29 dX8_refusedSigns_24 (by decide) (fun hc => ?_) (fun hc => ?_)
    · replace h := gg_th h hc
      refine gg_aload_n dX8_refusedSigns_29 rfl ?_
      refine gg_get 0 fl_X8_14 dX8_refusedSigns_30 rfl rfl ?_
      refine gg_iload_n dX8_refusedSigns_33 rfl ?_
      obtain ⟨v3, hv3, h⟩ := gg_bd h
      refine gg_callV (gg_sg [1]) [1, 3] (wd_X8_refusedSigns v2_1 c_told c_above c_below c_rows_most c_rows_sizes c_rows_cells c_now_huts c_now_food c_now_due c_now_backs v2_2) 0 (C_X6_size_s6 a1 c_rows_most c_rows_sizes hv3) nV_X6_size_s6 ml_X8_134 rfl rfl rfl rfl rfl rfl rfl rfl rfl rfl [0, 2, 4, 5, 6, 7, 8, 9, 10, 11] 12 rfl rfl rfl rfl rfl ⟨Nat.le_of_ble_eq_true rfl, Nat.le_of_ble_eq_true rfl⟩ (Nat.le_of_ble_eq_true rfl) dX8_refusedSigns_34 [.int v3] rfl ?_
      refine gg_iconst (2 : Int32) dX8_refusedSigns_37 (by decide) ?_
      refine gg_irem dX8_refusedSigns_38 (by decide) ?_
      refine gg_if_eq 48 dX8_refusedSigns_39 (by decide) (fun hc => ?_) (fun hc => ?_)
      · replace h := gg_th h hc
        refine gg_iconst (0 : Int32) dX8_refusedSigns_48 (by decide) ?_
        refine gg_istore [some (.ref 0), some (.int a0), some (.int a1), some (.int v2_0), some (.int (0 : Int32))] dX8_refusedSigns_49 rfl (Nat.le_of_ble_eq_true rfl) rfl ?_
        refine gg_fg [true, false, true, false, true] [some (.ref 0), none, some (.int a1), none, some (.int (0 : Int32))] rfl ?_
        refine lq_X8_refusedSigns_51 a1 v2_1 c_told c_above c_below c_rows_most c_rows_sizes c_rows_cells c_now_huts c_now_food c_now_due c_now_backs v2_2 _ _ ?_ ?_ gg_fuel (0 : Int32) h
        · intro  h
          refine gg_aload_n dX8_refusedSigns_95 rfl ?_
          refine gg_iconst (3 : Int32) dX8_refusedSigns_96 (by decide) ?_
          obtain ⟨v7_0, v7_1, v7_2, hv7, h⟩ := gg_bd3 h
          refine gg_callV (gg_sg [0]) [0, 11] (wd_X8_refusedSigns v7_1 c_told c_above c_below c_rows_most c_rows_sizes c_rows_cells c_now_huts c_now_food c_now_due c_now_backs v7_2) 0 (C_X8_find (3 : Int32) v2_1 c_told c_above c_below v2_2 hv7) nV_X8_find ml_X8_119 rfl rfl rfl rfl rfl rfl rfl rfl rfl rfl [1, 2, 3, 4, 5, 6, 7, 8, 9, 10] 12 rfl rfl rfl rfl rfl ⟨Nat.le_of_ble_eq_true rfl, Nat.le_of_ble_eq_true rfl⟩ (Nat.le_of_ble_eq_true rfl) dX8_refusedSigns_97 [.int v7_0] rfl ?_
          cases h
          exact gg_iret dX8_refusedSigns_100 rfl
        · intro  h
          refine gg_iconst (0 : Int32) dX8_refusedSigns_107 (by decide) ?_
          cases h
          exact gg_iret dX8_refusedSigns_108 rfl
      · replace h := gg_el h hc
        refine gg_aload_n dX8_refusedSigns_42 rfl ?_
        refine gg_iconst (5 : Int32) dX8_refusedSigns_43 (by decide) ?_
        obtain ⟨v8_0, v8_1, v8_2, hv8, h⟩ := gg_bd3 h
        refine gg_callV (gg_sg [0]) [0, 11] (wd_X8_refusedSigns v8_1 c_told c_above c_below c_rows_most c_rows_sizes c_rows_cells c_now_huts c_now_food c_now_due c_now_backs v8_2) 0 (C_X8_find (5 : Int32) v2_1 c_told c_above c_below v2_2 hv8) nV_X8_find ml_X8_119 rfl rfl rfl rfl rfl rfl rfl rfl rfl rfl [1, 2, 3, 4, 5, 6, 7, 8, 9, 10] 12 rfl rfl rfl rfl rfl ⟨Nat.le_of_ble_eq_true rfl, Nat.le_of_ble_eq_true rfl⟩ (Nat.le_of_ble_eq_true rfl) dX8_refusedSigns_44 [.int v8_0] rfl ?_
        cases h
        exact gg_iret dX8_refusedSigns_47 rfl
    · replace h := gg_el h hc
      refine gg_iload_n dX8_refusedSigns_27 rfl ?_
      cases h
      exact gg_iret dX8_refusedSigns_28 rfl
  · replace h := gg_th h hc
    refine gg_iconst (-1 : Int32) dX8_refusedSigns_11 (by decide) ?_
    cases h
    exact gg_iret dX8_refusedSigns_12 rfl
def wd_X8_fits (c_latestFinding : Int32) (c_told : Int32) (c_above : Int64) (c_below : Int64) (c_rows_most : Int32) (c_rows_sizes : Nat → Int32) (c_rows_cells : Nat → Nat → Int32) : va_W := [(0, .inr (7, [.ref 1, .ref 10, .ref 17, .ref 19, .ref 27, .ref 35, .ref 43, .ref 45, .ref 52, .ref 56, .ref 60, .ref 67, .int c_latestFinding, .int c_told, .long c_above, .long c_below])), (1, .inr (5, [.int c_rows_most, .ref 2, .ref 3])), (2, .inl (4, 6, .inr (.inr (.inr (.inr (gg_rf 2 1)))))), (3, .inl (0, 6, .inl c_rows_sizes)), (4, .inl (0, 40, .inl (c_rows_cells 0))), (5, .inl (0, 40, .inl (c_rows_cells 1))), (6, .inl (0, 40, .inl (c_rows_cells 2))), (7, .inl (0, 40, .inl (c_rows_cells 3))), (8, .inl (0, 40, .inl (c_rows_cells 4))), (9, .inl (0, 40, .inl (c_rows_cells 5)))]
def MD_X8_fits : gg_M := (yX8_fits, cX8_fits, 4, some .boolean, 3, 65)
theorem nV_X8_fits : gg_nV MD_X8_fits 2 := ⟨⟨gg_mem (by decide +kernel) rfl, gg_mem cw_X8_fits rfl, by decide, by decide, by decide +kernel⟩, gg_mem (by decide +kernel) rfl, gg_mem (by decide +kernel) rfl⟩
def lp_X8_fits_2 {β : Type} (y1 : Int32) (y2 : Int32) (c_rows_sizes : Nat → Int32) (c_rows_cells : Nat → Nat → Int32) (k43 : Option β) (k51 : Option β) : Nat → (Int32) → Option β
  | 0, _ => none
  | n + 1, x3_2 => (f_X6_size_s6 y2 c_rows_sizes).bind (fun v1 => (if v1 ≤ (x3_2 + (1 : Int32)) then k51 else (f_X6_get_s6 y2 x3_2 c_rows_sizes c_rows_cells).bind (fun v2 => (f_X3_tiredBy y1 v2).bind (fun v3 => (f_X6_get_s6 y2 (x3_2 + (1 : Int32)) c_rows_sizes c_rows_cells).bind (fun v4 => (if v3 = v4 then (lp_X8_fits_2 y1 y2 c_rows_sizes c_rows_cells k43 k51 n (x3_2 + (2 : Int32))) else k43))))))
def f_X8_fits (a0 : Int32) (a1 : Int32) (c_rows_sizes : Nat → Int32) (c_rows_cells : Nat → Nat → Int32) : Option (Int32) := (lp_X8_fits_2 a0 a1 c_rows_sizes c_rows_cells ((some (0 : Int32))) ((some (1 : Int32))) gg_fuel (0 : Int32))
set_option maxRecDepth 20000 in
set_option maxHeartbeats 4000000 in
theorem lq_X8_fits_2 {β : Type} {res : β} {rr : Option Value} {ww : va_W} (y1 : Int32) (y2 : Int32) (c_latestFinding : Int32) (c_told : Int32) (c_above : Int64) (c_below : Int64) (c_rows_most : Int32) (c_rows_sizes : Nat → Int32) (c_rows_cells : Nat → Nat → Int32) (k43 : Option β) (k51 : Option β) (hk43 : k43 = some res → gg_G MD_X8_fits 43 [none, none, none, none] [] (wd_X8_fits c_latestFinding c_told c_above c_below c_rows_most c_rows_sizes c_rows_cells) rr ww) (hk51 : k51 = some res → gg_G MD_X8_fits 51 [none, none, none, none] [] (wd_X8_fits c_latestFinding c_told c_above c_below c_rows_most c_rows_sizes c_rows_cells) rr ww) : ∀ (n : Nat) (x3_2 : Int32), lp_X8_fits_2 y1 y2 c_rows_sizes c_rows_cells k43 k51 n x3_2 = some res → gg_G MD_X8_fits 2 [some (.ref 0), some (.int y1), some (.int y2), some (.int x3_2)] [] (wd_X8_fits c_latestFinding c_told c_above c_below c_rows_most c_rows_sizes c_rows_cells) rr ww := by
  intro n
  induction n with
  | zero =>
    intro x3_2 h
    exact nomatch (show (none : Option β) = some res from h)
  | succ n ih =>
    intro x3_2 h
    rw [lp_X8_fits_2] at h
    refine gg_iload_n dX8_fits_2 rfl ?_
    refine gg_iconst (1 : Int32) dX8_fits_3 (by decide) ?_
    refine gg_iadd dX8_fits_4 ?_
    refine gg_aload_n dX8_fits_5 rfl ?_
    refine gg_get 0 fl_X8_14 dX8_fits_6 rfl rfl ?_
    refine gg_iload_n dX8_fits_9 rfl ?_
    obtain ⟨v1, hv1, h⟩ := gg_bd h
    refine gg_callV (gg_sg [1]) [1, 3] (wd_X8_fits c_latestFinding c_told c_above c_below c_rows_most c_rows_sizes c_rows_cells) 0 (C_X6_size_s6 y2 c_rows_most c_rows_sizes hv1) nV_X6_size_s6 ml_X8_134 rfl rfl rfl rfl rfl rfl rfl rfl rfl rfl [0, 2, 4, 5, 6, 7, 8, 9] 10 rfl rfl rfl rfl rfl ⟨Nat.le_of_ble_eq_true rfl, Nat.le_of_ble_eq_true rfl⟩ (Nat.le_of_ble_eq_true rfl) dX8_fits_10 [.int v1, .int (x3_2 + (1 : Int32))] rfl ?_
    refine gg_icmp_ge 51 dX8_fits_13 (by decide) (fun hc => ?_) (fun hc => ?_)
    · replace h := gg_th h hc
      refine gg_fg [false, false, false, false] [none, none, none, none] rfl ?_
      exact hk51 h
    · replace h := gg_el h hc
      refine gg_iload_n dX8_fits_16 rfl ?_
      refine gg_aload_n dX8_fits_17 rfl ?_
      refine gg_get 0 fl_X8_14 dX8_fits_18 rfl rfl ?_
      refine gg_iload_n dX8_fits_21 rfl ?_
      refine gg_iload_n dX8_fits_22 rfl ?_
      obtain ⟨v2, hv2, h⟩ := gg_bd h
      refine gg_callV (gg_sg [1]) [1, 2, 3, 4, 5, 6, 7, 8, 9] (wd_X8_fits c_latestFinding c_told c_above c_below c_rows_most c_rows_sizes c_rows_cells) 0 (C_X6_get_s6 y2 x3_2 c_rows_most c_rows_sizes c_rows_cells hv2) nV_X6_get_s6 ml_X8_100 rfl rfl rfl rfl rfl rfl rfl rfl rfl rfl [0] 10 rfl rfl rfl rfl rfl ⟨Nat.le_of_ble_eq_true rfl, Nat.le_of_ble_eq_true rfl⟩ (Nat.le_of_ble_eq_true rfl) dX8_fits_23 [.int v2, .int y1] rfl ?_
      obtain ⟨v3, hv3, h⟩ := gg_bd h
      refine gg_callS (gg_sg []) [] (wd_X8_fits c_latestFinding c_told c_above c_below c_rows_most c_rows_sizes c_rows_cells) (C_X3_tiredBy y1 v2 hv3) nS_X3_tiredBy ml_X8_174 rfl rfl rfl rfl rfl rfl rfl [0, 1, 2, 3, 4, 5, 6, 7, 8, 9] 10 rfl rfl rfl rfl rfl ⟨Nat.le_of_ble_eq_true rfl, Nat.le_of_ble_eq_true rfl⟩ (Nat.le_of_ble_eq_true rfl) dX8_fits_26 [.int v3] rfl ?_
      refine gg_aload_n dX8_fits_29 rfl ?_
      refine gg_get 0 fl_X8_14 dX8_fits_30 rfl rfl ?_
      refine gg_iload_n dX8_fits_33 rfl ?_
      refine gg_iload_n dX8_fits_34 rfl ?_
      refine gg_iconst (1 : Int32) dX8_fits_35 (by decide) ?_
      refine gg_iadd dX8_fits_36 ?_
      obtain ⟨v4, hv4, h⟩ := gg_bd h
      refine gg_callV (gg_sg [1]) [1, 2, 3, 4, 5, 6, 7, 8, 9] (wd_X8_fits c_latestFinding c_told c_above c_below c_rows_most c_rows_sizes c_rows_cells) 0 (C_X6_get_s6 y2 (x3_2 + (1 : Int32)) c_rows_most c_rows_sizes c_rows_cells hv4) nV_X6_get_s6 ml_X8_100 rfl rfl rfl rfl rfl rfl rfl rfl rfl rfl [0] 10 rfl rfl rfl rfl rfl ⟨Nat.le_of_ble_eq_true rfl, Nat.le_of_ble_eq_true rfl⟩ (Nat.le_of_ble_eq_true rfl) dX8_fits_37 [.int v4, .int v3] rfl ?_
      refine gg_icmp_eq 45 dX8_fits_40 (by decide) (fun hc => ?_) (fun hc => ?_)
      · replace h := gg_th h hc
        refine gg_iinc (x3_2 + (2 : Int32)) [some (.ref 0), some (.int y1), some (.int y2), some (.int (x3_2 + (2 : Int32)))] dX8_fits_45 rfl rfl rfl (Nat.le_of_ble_eq_true rfl) rfl ?_
        refine gg_goto 2 dX8_fits_48 (by decide) ?_
        exact ih (x3_2 + (2 : Int32)) h
      · replace h := gg_el h hc
        refine gg_fg [false, false, false, false] [none, none, none, none] rfl ?_
        exact hk43 h
set_option maxRecDepth 20000 in
set_option maxHeartbeats 8000000 in
theorem C_X8_fits (a0 : Int32) (a1 : Int32) (c_latestFinding : Int32) (c_told : Int32) (c_above : Int64) (c_below : Int64) (c_rows_most : Int32) (c_rows_sizes : Nat → Int32) (c_rows_cells : Nat → Nat → Int32) {res : Int32} (h : f_X8_fits a0 a1 c_rows_sizes c_rows_cells = some res) : gg_C MD_X8_fits [.ref 0, .int a0, .int a1] (wd_X8_fits c_latestFinding c_told c_above c_below c_rows_most c_rows_sizes c_rows_cells) (some (.int res)) (wd_X8_fits c_latestFinding c_told c_above c_below c_rows_most c_rows_sizes c_rows_cells) := by
  refine gg_ofG [some (.ref 0), some (.int a0), some (.int a1), none] (plainFor_of_name (by decide)) (Nat.le_of_ble_eq_true rfl) rfl ?_
  unfold f_X8_fits at h
  refine gg_iconst (0 : Int32) dX8_fits_0 (by decide) ?_
  refine gg_istore_n [some (.ref 0), some (.int a0), some (.int a1), some (.int (0 : Int32))] dX8_fits_1 rfl (Nat.le_of_ble_eq_true rfl) rfl ?_
  refine lq_X8_fits_2 a0 a1 c_latestFinding c_told c_above c_below c_rows_most c_rows_sizes c_rows_cells _ _ ?_ ?_ gg_fuel (0 : Int32) h
  · intro  h
    refine gg_iconst (0 : Int32) dX8_fits_43 (by decide) ?_
    cases h
    exact gg_zret dX8_fits_44 rfl rfl
  · intro  h
    refine gg_iconst (1 : Int32) dX8_fits_51 (by decide) ?_
    cases h
    exact gg_zret dX8_fits_52 rfl rfl
def wd_X8_kindsBy (c_latestFinding : Int32) (c_told : Int32) (c_above : Int64) (c_below : Int64) (c_rows_most : Int32) (c_rows_sizes : Nat → Int32) (c_rows_cells : Nat → Nat → Int32) : va_W := [(0, .inr (7, [.ref 1, .ref 10, .ref 17, .ref 19, .ref 27, .ref 35, .ref 43, .ref 45, .ref 52, .ref 56, .ref 60, .ref 67, .int c_latestFinding, .int c_told, .long c_above, .long c_below])), (1, .inr (5, [.int c_rows_most, .ref 2, .ref 3])), (2, .inl (4, 6, .inr (.inr (.inr (.inr (gg_rf 2 1)))))), (3, .inl (0, 6, .inl c_rows_sizes)), (4, .inl (0, 40, .inl (c_rows_cells 0))), (5, .inl (0, 40, .inl (c_rows_cells 1))), (6, .inl (0, 40, .inl (c_rows_cells 2))), (7, .inl (0, 40, .inl (c_rows_cells 3))), (8, .inl (0, 40, .inl (c_rows_cells 4))), (9, .inl (0, 40, .inl (c_rows_cells 5)))]
def MD_X8_kindsBy : gg_M := (yX8_kindsBy, cX8_kindsBy, 4, some .int, 4, 88)
theorem nV_X8_kindsBy : gg_nV MD_X8_kindsBy 1 := ⟨⟨gg_mem (by decide +kernel) rfl, gg_mem cw_X8_kindsBy rfl, by decide, by decide, by decide +kernel⟩, gg_mem (by decide +kernel) rfl, gg_mem (by decide +kernel) rfl⟩
def lp_X8_kindsBy_4 {β : Type} (y1 : Int32) (c_rows_sizes : Nat → Int32) (c_rows_cells : Nat → Nat → Int32) (k31 : (Int32) → Option β) : Nat → (Int32) → (Int32) → Option β
  | 0, _, _ => none
  | n + 1, x2_4, x3_4 => (if (6 : Int32) ≤ x3_4 then (k31 x2_4) else (f_X8_fits x3_4 y1 c_rows_sizes c_rows_cells).bind (fun v1 => gg_lt (fun (x2_25 : Int32) => (lp_X8_kindsBy_4 y1 c_rows_sizes c_rows_cells k31 n x2_25 (x3_4 + (1 : Int32)))) (fun k25 => (if v1 = (0 : Int32) then (k25 x2_4) else (k25 (x2_4 ||| ((1 : Int32) <<< (x3_4 &&& 31))))))))
def f_X8_kindsBy (a0 : Int32) (c_rows_sizes : Nat → Int32) (c_rows_cells : Nat → Nat → Int32) : Option (Int32) := (lp_X8_kindsBy_4 a0 c_rows_sizes c_rows_cells (fun (x2_31 : Int32) => (some x2_31)) gg_fuel (0 : Int32) (0 : Int32))
set_option maxRecDepth 20000 in
set_option maxHeartbeats 4000000 in
theorem lq_X8_kindsBy_4 {β : Type} {res : β} {rr : Option Value} {ww : va_W} (y1 : Int32) (c_latestFinding : Int32) (c_told : Int32) (c_above : Int64) (c_below : Int64) (c_rows_most : Int32) (c_rows_sizes : Nat → Int32) (c_rows_cells : Nat → Nat → Int32) (k31 : (Int32) → Option β) (hk31 : ∀ (x2_31 : Int32), k31 x2_31 = some res → gg_G MD_X8_kindsBy 31 [none, none, some (.int x2_31), none] [] (wd_X8_kindsBy c_latestFinding c_told c_above c_below c_rows_most c_rows_sizes c_rows_cells) rr ww) : ∀ (n : Nat) (x2_4 : Int32) (x3_4 : Int32), lp_X8_kindsBy_4 y1 c_rows_sizes c_rows_cells k31 n x2_4 x3_4 = some res → gg_G MD_X8_kindsBy 4 [some (.ref 0), some (.int y1), some (.int x2_4), some (.int x3_4)] [] (wd_X8_kindsBy c_latestFinding c_told c_above c_below c_rows_most c_rows_sizes c_rows_cells) rr ww := by
  intro n
  induction n with
  | zero =>
    intro x2_4 x3_4 h
    exact nomatch (show (none : Option β) = some res from h)
  | succ n ih =>
    intro x2_4 x3_4 h
    rw [lp_X8_kindsBy_4] at h
    refine gg_iload_n dX8_kindsBy_4 rfl ?_
    refine gg_bipush (6 : Int32) dX8_kindsBy_5 (by decide) ?_
    refine gg_icmp_ge 31 dX8_kindsBy_7 (by decide) (fun hc => ?_) (fun hc => ?_)
    · replace h := gg_th h hc
      refine gg_fg [false, false, true, false] [none, none, some (.int x2_4), none] rfl ?_
      exact hk31 x2_4 h
    · replace h := gg_el h hc
      refine gg_aload_n dX8_kindsBy_10 rfl ?_
      refine gg_iload_n dX8_kindsBy_11 rfl ?_
      refine gg_iload_n dX8_kindsBy_12 rfl ?_
      obtain ⟨v1, hv1, h⟩ := gg_bd h
      refine gg_callV (gg_sg [0]) [0, 1, 2, 3, 4, 5, 6, 7, 8, 9] (wd_X8_kindsBy c_latestFinding c_told c_above c_below c_rows_most c_rows_sizes c_rows_cells) 0 (C_X8_fits x3_4 y1 c_latestFinding c_told c_above c_below c_rows_most c_rows_sizes c_rows_cells hv1) nV_X8_fits ml_X8_359 rfl rfl rfl rfl rfl rfl rfl rfl rfl rfl [] 10 rfl rfl rfl rfl rfl ⟨Nat.le_of_ble_eq_true rfl, Nat.le_of_ble_eq_true rfl⟩ (Nat.le_of_ble_eq_true rfl) dX8_kindsBy_13 [.int v1] rfl ?_
      obtain ⟨k25, hke25, h⟩ := gg_lte h
      have hk25 : ∀ (x2_25 : Int32), k25 x2_25 = some res → gg_G MD_X8_kindsBy 25 [some (.ref 0), some (.int y1), some (.int x2_25), some (.int x3_4)] [] (wd_X8_kindsBy c_latestFinding c_told c_above c_below c_rows_most c_rows_sizes c_rows_cells) rr ww := by
        intro x2_25 h
        subst hke25
        refine gg_iinc (x3_4 + (1 : Int32)) [some (.ref 0), some (.int y1), some (.int x2_25), some (.int (x3_4 + (1 : Int32)))] dX8_kindsBy_25 rfl rfl rfl (Nat.le_of_ble_eq_true rfl) rfl ?_
        refine gg_goto 4 dX8_kindsBy_28 (by decide) ?_
        exact ih x2_25 (x3_4 + (1 : Int32)) h
      clear hke25
      refine gg_if_eq 25 dX8_kindsBy_16 (by decide) (fun hc => ?_) (fun hc => ?_)
      · replace h := gg_th h hc
        exact hk25 x2_4 h
      · replace h := gg_el h hc
        refine gg_iload_n dX8_kindsBy_19 rfl ?_
        refine gg_iconst (1 : Int32) dX8_kindsBy_20 (by decide) ?_
        refine gg_iload_n dX8_kindsBy_21 rfl ?_
        refine gg_ishl dX8_kindsBy_22 ?_
        refine gg_ior dX8_kindsBy_23 ?_
        refine gg_istore_n [some (.ref 0), some (.int y1), some (.int (x2_4 ||| ((1 : Int32) <<< (x3_4 &&& 31)))), some (.int x3_4)] dX8_kindsBy_24 rfl (Nat.le_of_ble_eq_true rfl) rfl ?_
        exact hk25 (x2_4 ||| ((1 : Int32) <<< (x3_4 &&& 31))) h
set_option maxRecDepth 20000 in
set_option maxHeartbeats 8000000 in
theorem C_X8_kindsBy (a0 : Int32) (c_latestFinding : Int32) (c_told : Int32) (c_above : Int64) (c_below : Int64) (c_rows_most : Int32) (c_rows_sizes : Nat → Int32) (c_rows_cells : Nat → Nat → Int32) {res : Int32} (h : f_X8_kindsBy a0 c_rows_sizes c_rows_cells = some res) : gg_C MD_X8_kindsBy [.ref 0, .int a0] (wd_X8_kindsBy c_latestFinding c_told c_above c_below c_rows_most c_rows_sizes c_rows_cells) (some (.int res)) (wd_X8_kindsBy c_latestFinding c_told c_above c_below c_rows_most c_rows_sizes c_rows_cells) := by
  refine gg_ofG [some (.ref 0), some (.int a0), none, none] (plainFor_of_name (by decide)) (Nat.le_of_ble_eq_true rfl) rfl ?_
  unfold f_X8_kindsBy at h
  refine gg_iconst (0 : Int32) dX8_kindsBy_0 (by decide) ?_
  refine gg_istore_n [some (.ref 0), some (.int a0), some (.int (0 : Int32)), none] dX8_kindsBy_1 rfl (Nat.le_of_ble_eq_true rfl) rfl ?_
  refine gg_iconst (0 : Int32) dX8_kindsBy_2 (by decide) ?_
  refine gg_istore_n [some (.ref 0), some (.int a0), some (.int (0 : Int32)), some (.int (0 : Int32))] dX8_kindsBy_3 rfl (Nat.le_of_ble_eq_true rfl) rfl ?_
  refine lq_X8_kindsBy_4 a0 c_latestFinding c_told c_above c_below c_rows_most c_rows_sizes c_rows_cells _ ?_ gg_fuel (0 : Int32) (0 : Int32) h
  intro x2_31 h
  refine gg_iload_n dX8_kindsBy_31 rfl ?_
  cases h
  exact gg_iret dX8_kindsBy_32 rfl
def wd_X8_kinds (c_latestFinding : Int32) (c_told : Int32) (c_above : Int64) (c_below : Int64) (c_rows_most : Int32) (c_rows_sizes : Nat → Int32) (c_rows_cells : Nat → Nat → Int32) (c_now_huts : Int32) (c_now_food : Int32) (c_now_due : Int32) (c_now_backs : Int32) (c_found : Nat → Int32) : va_W := [(0, .inr (7, [.ref 1, .ref 10, .ref 17, .ref 19, .ref 27, .ref 35, .ref 43, .ref 45, .ref 52, .ref 56, .ref 60, .ref 67, .int c_latestFinding, .int c_told, .long c_above, .long c_below])), (1, .inr (5, [.int c_rows_most, .ref 2, .ref 3])), (2, .inl (4, 6, .inr (.inr (.inr (.inr (gg_rf 2 1)))))), (3, .inl (0, 6, .inl c_rows_sizes)), (4, .inl (0, 40, .inl (c_rows_cells 0))), (5, .inl (0, 40, .inl (c_rows_cells 1))), (6, .inl (0, 40, .inl (c_rows_cells 2))), (7, .inl (0, 40, .inl (c_rows_cells 3))), (8, .inl (0, 40, .inl (c_rows_cells 4))), (9, .inl (0, 40, .inl (c_rows_cells 5))), (27, .inr (2, [.int c_now_huts, .int c_now_food, .int c_now_due, .ref 28, .ref 29, .ref 30, .ref 31, .ref 32, .ref 33, .ref 34, .int c_now_backs])), (67, .inl (0, 6, .inl c_found))]
def MD_X8_kinds : gg_M := (yX8_kinds, cX8_kinds, 4, some .int, 5, 111)
theorem nV_X8_kinds : gg_nV MD_X8_kinds 2 := ⟨⟨gg_mem (by decide +kernel) rfl, gg_mem cw_X8_kinds rfl, by decide, by decide, by decide +kernel⟩, gg_mem (by decide +kernel) rfl, gg_mem (by decide +kernel) rfl⟩
def f_X8_kinds (a0 : Int32) (a1 : Int32) (c_latestFinding : Int32) (c_rows_sizes : Nat → Int32) (c_rows_cells : Nat → Nat → Int32) (c_now_huts : Int32) (c_found : Nat → Int32) : Option (Int32 × (Int32) × (Nat → Int32)) := gg_b3 (f_X8_refusedSigns a0 a1 c_latestFinding c_rows_sizes c_rows_cells c_now_huts c_found) (fun v1_0 v1_1 v1_2 => gg_lt (fun (s0_20 : Int32) => (some (s0_20, v1_1, v1_2))) (fun k20 => (if v1_0 = (0 : Int32) then (f_X8_kindsBy a1 c_rows_sizes c_rows_cells).bind (fun v2 => (k20 v2)) else (k20 v1_0))))
set_option maxRecDepth 20000 in
set_option maxHeartbeats 8000000 in
theorem C_X8_kinds (a0 : Int32) (a1 : Int32) (c_latestFinding : Int32) (c_told : Int32) (c_above : Int64) (c_below : Int64) (c_rows_most : Int32) (c_rows_sizes : Nat → Int32) (c_rows_cells : Nat → Nat → Int32) (c_now_huts : Int32) (c_now_food : Int32) (c_now_due : Int32) (c_now_backs : Int32) (c_found : Nat → Int32) {r0 : Int32} {r1 : (Int32)} {r2 : (Nat → Int32)} (h : f_X8_kinds a0 a1 c_latestFinding c_rows_sizes c_rows_cells c_now_huts c_found = some (r0, r1, r2)) : gg_C MD_X8_kinds [.ref 0, .int a0, .int a1] (wd_X8_kinds c_latestFinding c_told c_above c_below c_rows_most c_rows_sizes c_rows_cells c_now_huts c_now_food c_now_due c_now_backs c_found) (some (.int r0)) (wd_X8_kinds r1 c_told c_above c_below c_rows_most c_rows_sizes c_rows_cells c_now_huts c_now_food c_now_due c_now_backs r2) := by
  refine gg_ofG [some (.ref 0), some (.int a0), some (.int a1), none] (plainFor_of_name (by decide)) (Nat.le_of_ble_eq_true rfl) rfl ?_
  unfold f_X8_kinds at h
  refine gg_aload_n dX8_kinds_0 rfl ?_
  refine gg_iload_n dX8_kinds_1 rfl ?_
  refine gg_iload_n dX8_kinds_2 rfl ?_
  obtain ⟨v1_0, v1_1, v1_2, hv1, h⟩ := gg_bd3 h
  refine gg_callV (gg_sg [0]) [0, 1, 2, 3, 4, 5, 6, 7, 8, 9, 10, 11] (wd_X8_kinds v1_1 c_told c_above c_below c_rows_most c_rows_sizes c_rows_cells c_now_huts c_now_food c_now_due c_now_backs v1_2) 0 (C_X8_refusedSigns a0 a1 c_latestFinding c_told c_above c_below c_rows_most c_rows_sizes c_rows_cells c_now_huts c_now_food c_now_due c_now_backs c_found hv1) nV_X8_refusedSigns ml_X8_253 rfl rfl rfl rfl rfl rfl rfl rfl rfl rfl [] 12 rfl rfl rfl rfl rfl ⟨Nat.le_of_ble_eq_true rfl, Nat.le_of_ble_eq_true rfl⟩ (Nat.le_of_ble_eq_true rfl) dX8_kinds_3 [.int v1_0] rfl ?_
  refine gg_istore_n [some (.ref 0), some (.int a0), some (.int a1), some (.int v1_0)] dX8_kinds_6 rfl (Nat.le_of_ble_eq_true rfl) rfl ?_
  refine gg_iload_n dX8_kinds_7 rfl ?_
  obtain ⟨k20, hke20, h⟩ := gg_lte h
  have hk20 : ∀ (s0_20 : Int32), k20 s0_20 = some (r0, r1, r2) → gg_G MD_X8_kinds 20 [none, none, none, none] [.int s0_20] (wd_X8_kinds v1_1 c_told c_above c_below c_rows_most c_rows_sizes c_rows_cells c_now_huts c_now_food c_now_due c_now_backs v1_2) (some (.int r0)) (wd_X8_kinds r1 c_told c_above c_below c_rows_most c_rows_sizes c_rows_cells c_now_huts c_now_food c_now_due c_now_backs r2) := by
    intro s0_20 h
    subst hke20
    cases h
    exact gg_iret dX8_kinds_20 rfl
  clear hke20
  refine gg_if_eq 15 dX8_kinds_8 (by decide) (fun hc => ?_) (fun hc => ?_)
  · replace h := gg_th h hc
    refine gg_aload_n dX8_kinds_15 rfl ?_
    refine gg_iload_n dX8_kinds_16 rfl ?_
    obtain ⟨v2, hv2, h⟩ := gg_bd h
    refine gg_callV (gg_sg [0]) [0, 1, 2, 3, 4, 5, 6, 7, 8, 9] (wd_X8_kinds v1_1 c_told c_above c_below c_rows_most c_rows_sizes c_rows_cells c_now_huts c_now_food c_now_due c_now_backs v1_2) 0 (C_X8_kindsBy a1 v1_1 c_told c_above c_below c_rows_most c_rows_sizes c_rows_cells hv2) nV_X8_kindsBy ml_X8_256 rfl rfl rfl rfl rfl rfl rfl rfl rfl rfl [10, 11] 12 rfl rfl rfl rfl rfl ⟨Nat.le_of_ble_eq_true rfl, Nat.le_of_ble_eq_true rfl⟩ (Nat.le_of_ble_eq_true rfl) dX8_kinds_17 [.int v2] rfl ?_
    refine gg_fg [false, false, false, false] [none, none, none, none] rfl ?_
    exact hk20 v2 h
  · replace h := gg_el h hc
    refine gg_iload_n dX8_kinds_11 rfl ?_
    refine gg_goto 20 dX8_kinds_12 (by decide) ?_
    refine gg_fg [false, false, false, false] [none, none, none, none] rfl ?_
    exact hk20 v1_0 h
