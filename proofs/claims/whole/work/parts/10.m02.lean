def wd_X8_fault (c_latestFinding : Int32) (c_told : Int32) (c_above : Int64) (c_below : Int64) (c_texts_most : Int32) (c_texts_sizes : Nat → Int32) (c_texts_cells : Nat → Nat → Int32) (c_reader_size : Int32) (c_reader_place : Int32) (c_reader_signs : Nat → Int32) (c_aside_huts : Int32) (c_aside_food : Int32) (c_aside_due : Int32) (c_aside_backs : Int32) (c_aside_winds : Nat → Int32) (c_aside_kind : Nat → Int32) (c_aside_home : Nat → Int32) (c_aside_strength : Nat → Int32) (c_aside_brown : Nat → Int32) (c_aside_brick : Nat → Int32) (c_found : Nat → Int32) : va_W := [(0, .inr (7, [.ref 1, .ref 10, .ref 17, .ref 19, .ref 27, .ref 35, .ref 43, .ref 45, .ref 52, .ref 56, .ref 60, .ref 67, .int c_latestFinding, .int c_told, .long c_above, .long c_below])), (10, .inr (5, [.int c_texts_most, .ref 11, .ref 12])), (11, .inl (4, 4, .inr (.inr (.inr (.inr (gg_rf 2 1)))))), (12, .inl (0, 4, .inl c_texts_sizes)), (13, .inl (0, 60, .inl (c_texts_cells 0))), (14, .inl (0, 60, .inl (c_texts_cells 1))), (15, .inl (0, 60, .inl (c_texts_cells 2))), (16, .inl (0, 60, .inl (c_texts_cells 3))), (17, .inr (4, [.ref 18, .int c_reader_size, .int c_reader_place])), (18, .inl (0, 60, .inl c_reader_signs)), (35, .inr (2, [.int c_aside_huts, .int c_aside_food, .int c_aside_due, .ref 36, .ref 37, .ref 38, .ref 39, .ref 40, .ref 41, .ref 42, .int c_aside_backs])), (36, .inl (0, 4, .inl c_aside_winds)), (37, .inl (0, 6, .inl c_aside_kind)), (38, .inl (0, 6, .inl c_aside_home)), (39, .inl (0, 6, .inl c_aside_strength)), (40, .inl (0, 6, .inl c_aside_brown)), (41, .inl (0, 6, .inl c_aside_brick)), (67, .inl (0, 6, .inl c_found))]
def MD_X8_fault : gg_M := (yX8_fault, cX8_fault, 3, some .int, 5, 112)
theorem nV_X8_fault : gg_nV MD_X8_fault 1 := ⟨⟨gg_mem (by decide +kernel) rfl, gg_mem cw_X8_fault rfl, by decide, by decide, by decide +kernel⟩, gg_mem (by decide +kernel) rfl, gg_mem (by decide +kernel) rfl⟩
def f_X8_fault (a0 : Int32) (c_latestFinding : Int32) (c_texts_sizes : Nat → Int32) (c_texts_cells : Nat → Nat → Int32) (c_reader_size : Int32) (c_reader_place : Int32) (c_reader_signs : Nat → Int32) (c_aside_huts : Int32) (c_aside_food : Int32) (c_aside_due : Int32) (c_aside_backs : Int32) (c_aside_winds : Nat → Int32) (c_aside_kind : Nat → Int32) (c_aside_home : Nat → Int32) (c_aside_strength : Nat → Int32) (c_aside_brown : Nat → Int32) (c_aside_brick : Nat → Int32) (c_found : Nat → Int32) : Option (Int32 × (Int32) × (Int32) × (Int32) × (Nat → Int32) × (Int32) × (Int32) × (Int32) × (Int32) × (Nat → Int32) × (Nat → Int32) × (Nat → Int32) × (Nat → Int32) × (Nat → Int32) × (Nat → Int32) × (Nat → Int32)) := gg_b3 (f_X8_refusedMissing_s4 a0 c_latestFinding c_found c_texts_sizes) (fun v1_0 v1_1 v1_2 => gg_lt (fun (s0_34 : Int32) (c_reader_size_34 : Int32) (c_reader_place_34 : Int32) (c_reader_signs_34 : Nat → Int32) (c_aside_huts_34 : Int32) (c_aside_food_34 : Int32) (c_aside_due_34 : Int32) (c_aside_backs_34 : Int32) (c_aside_winds_34 : Nat → Int32) (c_aside_kind_34 : Nat → Int32) (c_aside_home_34 : Nat → Int32) (c_aside_strength_34 : Nat → Int32) (c_aside_brown_34 : Nat → Int32) (c_aside_brick_34 : Nat → Int32) => (some (s0_34, v1_1, c_reader_size_34, c_reader_place_34, c_reader_signs_34, c_aside_huts_34, c_aside_food_34, c_aside_due_34, c_aside_backs_34, c_aside_winds_34, c_aside_kind_34, c_aside_home_34, c_aside_strength_34, c_aside_brown_34, c_aside_brick_34, v1_2))) (fun k34 => (if v1_0 = (0 : Int32) then gg_b14 (f_X5_read_s4 a0 c_reader_size c_reader_place c_reader_signs c_texts_sizes c_texts_cells c_aside_huts c_aside_food c_aside_due c_aside_backs c_aside_winds c_aside_kind c_aside_home c_aside_strength c_aside_brown c_aside_brick) (fun v2_0 v2_1 v2_2 v2_3 v2_4 v2_5 v2_6 v2_7 v2_8 v2_9 v2_10 v2_11 v2_12 v2_13 => (k34 v2_0 v2_1 v2_2 v2_3 v2_4 v2_5 v2_6 v2_7 v2_8 v2_9 v2_10 v2_11 v2_12 v2_13)) else (k34 v1_0 c_reader_size c_reader_place c_reader_signs c_aside_huts c_aside_food c_aside_due c_aside_backs c_aside_winds c_aside_kind c_aside_home c_aside_strength c_aside_brown c_aside_brick))))
set_option maxRecDepth 20000 in
set_option maxHeartbeats 8000000 in
theorem C_X8_fault (a0 : Int32) (c_latestFinding : Int32) (c_told : Int32) (c_above : Int64) (c_below : Int64) (c_texts_most : Int32) (c_texts_sizes : Nat → Int32) (c_texts_cells : Nat → Nat → Int32) (c_reader_size : Int32) (c_reader_place : Int32) (c_reader_signs : Nat → Int32) (c_aside_huts : Int32) (c_aside_food : Int32) (c_aside_due : Int32) (c_aside_backs : Int32) (c_aside_winds : Nat → Int32) (c_aside_kind : Nat → Int32) (c_aside_home : Nat → Int32) (c_aside_strength : Nat → Int32) (c_aside_brown : Nat → Int32) (c_aside_brick : Nat → Int32) (c_found : Nat → Int32) {r0 : Int32} {r1 : (Int32)} {r2 : (Int32)} {r3 : (Int32)} {r4 : (Nat → Int32)} {r5 : (Int32)} {r6 : (Int32)} {r7 : (Int32)} {r8 : (Int32)} {r9 : (Nat → Int32)} {r10 : (Nat → Int32)} {r11 : (Nat → Int32)} {r12 : (Nat → Int32)} {r13 : (Nat → Int32)} {r14 : (Nat → Int32)} {r15 : (Nat → Int32)} (h : f_X8_fault a0 c_latestFinding c_texts_sizes c_texts_cells c_reader_size c_reader_place c_reader_signs c_aside_huts c_aside_food c_aside_due c_aside_backs c_aside_winds c_aside_kind c_aside_home c_aside_strength c_aside_brown c_aside_brick c_found = some (r0, r1, r2, r3, r4, r5, r6, r7, r8, r9, r10, r11, r12, r13, r14, r15)) : gg_C MD_X8_fault [.ref 0, .int a0] (wd_X8_fault c_latestFinding c_told c_above c_below c_texts_most c_texts_sizes c_texts_cells c_reader_size c_reader_place c_reader_signs c_aside_huts c_aside_food c_aside_due c_aside_backs c_aside_winds c_aside_kind c_aside_home c_aside_strength c_aside_brown c_aside_brick c_found) (some (.int r0)) (wd_X8_fault r1 c_told c_above c_below c_texts_most c_texts_sizes c_texts_cells r2 r3 r4 r5 r6 r7 r8 r9 r10 r11 r12 r13 r14 r15) := by
  refine gg_ofG [some (.ref 0), some (.int a0), none] (plainFor_of_name (by decide)) (Nat.le_of_ble_eq_true rfl) rfl ?_
  unfold f_X8_fault at h
  refine gg_aload_n dX8_fault_0 rfl ?_
  refine gg_aload_n dX8_fault_1 rfl ?_
  refine gg_get 0 fl_X8_18 dX8_fault_2 rfl rfl ?_
  refine gg_iload_n dX8_fault_5 rfl ?_
  obtain ⟨v1_0, v1_1, v1_2, hv1, h⟩ := gg_bd3 h
  refine gg_callV (gg_sg [0, 10]) [0, 17, 1, 3] (wd_X8_fault v1_1 c_told c_above c_below c_texts_most c_texts_sizes c_texts_cells c_reader_size c_reader_place c_reader_signs c_aside_huts c_aside_food c_aside_due c_aside_backs c_aside_winds c_aside_kind c_aside_home c_aside_strength c_aside_brown c_aside_brick v1_2) 0 (C_X8_refusedMissing_s4 a0 c_latestFinding c_told c_above c_below c_found c_texts_most c_texts_sizes hv1) nV_X8_refusedMissing_s4 ml_X8_108 rfl rfl rfl rfl rfl rfl rfl rfl rfl rfl [2, 4, 5, 6, 7, 8, 9, 10, 11, 12, 13, 14, 15, 16] 18 rfl rfl rfl rfl rfl ⟨Nat.le_of_ble_eq_true rfl, Nat.le_of_ble_eq_true rfl⟩ (Nat.le_of_ble_eq_true rfl) dX8_fault_6 [.int v1_0] rfl ?_
  refine gg_istore_n [some (.ref 0), some (.int a0), some (.int v1_0)] dX8_fault_9 rfl (Nat.le_of_ble_eq_true rfl) rfl ?_
  refine gg_iload_n dX8_fault_10 rfl ?_
  obtain ⟨k34, hke34, h⟩ := gg_lte h
  have hk34 : ∀ (s0_34 : Int32) (c_reader_size_34 : Int32) (c_reader_place_34 : Int32) (c_reader_signs_34 : Nat → Int32) (c_aside_huts_34 : Int32) (c_aside_food_34 : Int32) (c_aside_due_34 : Int32) (c_aside_backs_34 : Int32) (c_aside_winds_34 : Nat → Int32) (c_aside_kind_34 : Nat → Int32) (c_aside_home_34 : Nat → Int32) (c_aside_strength_34 : Nat → Int32) (c_aside_brown_34 : Nat → Int32) (c_aside_brick_34 : Nat → Int32), k34 s0_34 c_reader_size_34 c_reader_place_34 c_reader_signs_34 c_aside_huts_34 c_aside_food_34 c_aside_due_34 c_aside_backs_34 c_aside_winds_34 c_aside_kind_34 c_aside_home_34 c_aside_strength_34 c_aside_brown_34 c_aside_brick_34 = some (r0, r1, r2, r3, r4, r5, r6, r7, r8, r9, r10, r11, r12, r13, r14, r15) → gg_G MD_X8_fault 34 [none, none, none] [.int s0_34] (wd_X8_fault v1_1 c_told c_above c_below c_texts_most c_texts_sizes c_texts_cells c_reader_size_34 c_reader_place_34 c_reader_signs_34 c_aside_huts_34 c_aside_food_34 c_aside_due_34 c_aside_backs_34 c_aside_winds_34 c_aside_kind_34 c_aside_home_34 c_aside_strength_34 c_aside_brown_34 c_aside_brick_34 v1_2) (some (.int r0)) (wd_X8_fault r1 c_told c_above c_below c_texts_most c_texts_sizes c_texts_cells r2 r3 r4 r5 r6 r7 r8 r9 r10 r11 r12 r13 r14 r15) := by
    intro s0_34 c_reader_size_34 c_reader_place_34 c_reader_signs_34 c_aside_huts_34 c_aside_food_34 c_aside_due_34 c_aside_backs_34 c_aside_winds_34 c_aside_kind_34 c_aside_home_34 c_aside_strength_34 c_aside_brown_34 c_aside_brick_34 h
    subst hke34
    cases h
    exact gg_iret dX8_fault_34 rfl
  clear hke34
  refine gg_if_eq 18 dX8_fault_11 (by decide) (fun hc => ?_) (fun hc => ?_)
  · replace h := gg_th h hc
    refine gg_aload_n dX8_fault_18 rfl ?_
    refine gg_get 0 fl_X8_24 dX8_fault_19 rfl rfl ?_
    refine gg_aload_n dX8_fault_22 rfl ?_
    refine gg_get 0 fl_X8_18 dX8_fault_23 rfl rfl ?_
    refine gg_iload_n dX8_fault_26 rfl ?_
    refine gg_aload_n dX8_fault_27 rfl ?_
    refine gg_get 0 fl_X8_38 dX8_fault_28 rfl rfl ?_
    obtain ⟨v2_0, v2_1, v2_2, v2_3, v2_4, v2_5, v2_6, v2_7, v2_8, v2_9, v2_10, v2_11, v2_12, v2_13, hv2, h⟩ := gg_bd14 h
    refine gg_callV (gg_sg [17, 10, 35]) [8, 9, 1, 2, 3, 4, 5, 6, 7, 10, 11, 12, 13, 14, 15, 16] (wd_X8_fault v1_1 c_told c_above c_below c_texts_most c_texts_sizes c_texts_cells v2_1 v2_2 v2_3 v2_4 v2_5 v2_6 v2_7 v2_8 v2_9 v2_10 v2_11 v2_12 v2_13 v1_2) 0 (C_X5_read_s4 a0 c_reader_size c_reader_place c_reader_signs c_texts_most c_texts_sizes c_texts_cells c_aside_huts c_aside_food c_aside_due c_aside_backs c_aside_winds c_aside_kind c_aside_home c_aside_strength c_aside_brown c_aside_brick hv2) nV_X5_read_s4 ml_X8_141 rfl rfl rfl rfl rfl rfl rfl rfl rfl rfl [0, 17] 18 rfl rfl rfl rfl rfl ⟨Nat.le_of_ble_eq_true rfl, Nat.le_of_ble_eq_true rfl⟩ (Nat.le_of_ble_eq_true rfl) dX8_fault_31 [.int v2_0] rfl ?_
    refine gg_fg [false, false, false] [none, none, none] rfl ?_
    exact hk34 v2_0 v2_1 v2_2 v2_3 v2_4 v2_5 v2_6 v2_7 v2_8 v2_9 v2_10 v2_11 v2_12 v2_13 h
  · replace h := gg_el h hc
    refine gg_iload_n dX8_fault_14 rfl ?_
    refine gg_goto 34 dX8_fault_15 (by decide) ?_
    refine gg_fg [false, false, false] [none, none, none] rfl ?_
    exact hk34 v1_0 c_reader_size c_reader_place c_reader_signs c_aside_huts c_aside_food c_aside_due c_aside_backs c_aside_winds c_aside_kind c_aside_home c_aside_strength c_aside_brown c_aside_brick h
def wd_X2_become (c_huts : Int32) (c_food : Int32) (c_due : Int32) (c_backs : Int32) (c_winds : Nat → Int32) (c_kind : Nat → Int32) (c_home : Nat → Int32) (c_strength : Nat → Int32) (c_brown : Nat → Int32) (c_brick : Nat → Int32) (c_p1_huts : Int32) (c_p1_food : Int32) (c_p1_due : Int32) (c_p1_backs : Int32) (c_p1_winds : Nat → Int32) (c_p1_kind : Nat → Int32) (c_p1_home : Nat → Int32) (c_p1_strength : Nat → Int32) (c_p1_brown : Nat → Int32) (c_p1_brick : Nat → Int32) : va_W := [(0, .inr (2, [.int c_huts, .int c_food, .int c_due, .ref 1, .ref 2, .ref 3, .ref 4, .ref 5, .ref 6, .ref 7, .int c_backs])), (1, .inl (0, 4, .inl c_winds)), (2, .inl (0, 6, .inl c_kind)), (3, .inl (0, 6, .inl c_home)), (4, .inl (0, 6, .inl c_strength)), (5, .inl (0, 6, .inl c_brown)), (6, .inl (0, 6, .inl c_brick)), (100, .inr (2, [.int c_p1_huts, .int c_p1_food, .int c_p1_due, .ref 101, .ref 102, .ref 103, .ref 104, .ref 105, .ref 106, .ref 107, .int c_p1_backs])), (101, .inl (0, 4, .inl c_p1_winds)), (102, .inl (0, 6, .inl c_p1_kind)), (103, .inl (0, 6, .inl c_p1_home)), (104, .inl (0, 6, .inl c_p1_strength)), (105, .inl (0, 6, .inl c_p1_brown)), (106, .inl (0, 6, .inl c_p1_brick))]
def MD_X2_become : gg_M := (yX2_become, cX2_become, 3, none, 0, 0)
theorem nV_X2_become : gg_nV MD_X2_become 1 := ⟨⟨gg_mem (by decide +kernel) rfl, gg_mem cw_X2_become rfl, by decide, by decide, by decide +kernel⟩, gg_mem (by decide +kernel) rfl, gg_mem (by decide +kernel) rfl⟩
def lp_X2_become_31 {β : Type} (c_p1_winds : Nat → Int32) (k58 : (Nat → Int32) → Option β) : Nat → (Int32) → (Nat → Int32) → Option β
  | 0, _, _ => none
  | n + 1, x2_31, c_winds_31 => (if (4 : Int32) ≤ x2_31 then (k58 c_winds_31) else gg_chk (gg_in x2_31 4) (gg_chk (gg_in x2_31 4) ((lp_X2_become_31 c_p1_winds k58 n (x2_31 + (1 : Int32)) (upd c_winds_31 x2_31.toNatClampNeg (c_p1_winds x2_31.toNatClampNeg))))))
def lp_X2_become_60 {β : Type} (c_p1_kind : Nat → Int32) (c_p1_home : Nat → Int32) (c_p1_strength : Nat → Int32) (c_p1_brown : Nat → Int32) (c_p1_brick : Nat → Int32) (k132 : (Nat → Int32) → (Nat → Int32) → (Nat → Int32) → (Nat → Int32) → (Nat → Int32) → Option β) : Nat → (Int32) → (Nat → Int32) → (Nat → Int32) → (Nat → Int32) → (Nat → Int32) → (Nat → Int32) → Option β
  | 0, _, _, _, _, _, _ => none
  | n + 1, x2_60, c_kind_60, c_home_60, c_strength_60, c_brown_60, c_brick_60 => (if (6 : Int32) ≤ x2_60 then (k132 c_kind_60 c_home_60 c_strength_60 c_brown_60 c_brick_60) else gg_chk (gg_in x2_60 6) (gg_chk (gg_in x2_60 6) (gg_chk (gg_in x2_60 6) (gg_chk (gg_in x2_60 6) (gg_chk (gg_in x2_60 6) (gg_chk (gg_in x2_60 6) (gg_chk (gg_in x2_60 6) (gg_chk (gg_in x2_60 6) (gg_chk (gg_in x2_60 6) (gg_chk (gg_in x2_60 6) ((lp_X2_become_60 c_p1_kind c_p1_home c_p1_strength c_p1_brown c_p1_brick k132 n (x2_60 + (1 : Int32)) (upd c_kind_60 x2_60.toNatClampNeg (c_p1_kind x2_60.toNatClampNeg)) (upd c_home_60 x2_60.toNatClampNeg (c_p1_home x2_60.toNatClampNeg)) (upd c_strength_60 x2_60.toNatClampNeg (c_p1_strength x2_60.toNatClampNeg)) (upd c_brown_60 x2_60.toNatClampNeg (c_p1_brown x2_60.toNatClampNeg)) (upd c_brick_60 x2_60.toNatClampNeg (c_p1_brick x2_60.toNatClampNeg))))))))))))))
def f_X2_become  (c_huts : Int32) (c_food : Int32) (c_due : Int32) (c_backs : Int32) (c_winds : Nat → Int32) (c_kind : Nat → Int32) (c_home : Nat → Int32) (c_strength : Nat → Int32) (c_brown : Nat → Int32) (c_brick : Nat → Int32) (c_p1_huts : Int32) (c_p1_food : Int32) (c_p1_due : Int32) (c_p1_winds : Nat → Int32) (c_p1_kind : Nat → Int32) (c_p1_home : Nat → Int32) (c_p1_strength : Nat → Int32) (c_p1_brown : Nat → Int32) (c_p1_brick : Nat → Int32) : Option ((Int32) × (Int32) × (Int32) × (Int32) × (Nat → Int32) × (Nat → Int32) × (Nat → Int32) × (Nat → Int32) × (Nat → Int32) × (Nat → Int32)) := (lp_X2_become_31 c_p1_winds (fun (c_winds_58 : Nat → Int32) => (lp_X2_become_60 c_p1_kind c_p1_home c_p1_strength c_p1_brown c_p1_brick (fun (c_kind_132 : Nat → Int32) (c_home_132 : Nat → Int32) (c_strength_132 : Nat → Int32) (c_brown_132 : Nat → Int32) (c_brick_132 : Nat → Int32) => (some (c_p1_huts, c_p1_food, c_p1_due, (0 : Int32), c_winds_58, c_kind_132, c_home_132, c_strength_132, c_brown_132, c_brick_132))) gg_fuel (0 : Int32) c_kind c_home c_strength c_brown c_brick)) gg_fuel (0 : Int32) c_winds)
set_option maxRecDepth 20000 in
set_option maxHeartbeats 4000000 in
theorem lq_X2_become_31 {β : Type} {res : β} {rr : Option Value} {ww : va_W} (c_huts : Int32) (c_food : Int32) (c_due : Int32) (c_backs : Int32) (c_kind : Nat → Int32) (c_home : Nat → Int32) (c_strength : Nat → Int32) (c_brown : Nat → Int32) (c_brick : Nat → Int32) (c_p1_huts : Int32) (c_p1_food : Int32) (c_p1_due : Int32) (c_p1_backs : Int32) (c_p1_winds : Nat → Int32) (c_p1_kind : Nat → Int32) (c_p1_home : Nat → Int32) (c_p1_strength : Nat → Int32) (c_p1_brown : Nat → Int32) (c_p1_brick : Nat → Int32) (k58 : (Nat → Int32) → Option β) (hk58 : ∀ (c_winds_58 : Nat → Int32), k58 c_winds_58 = some res → gg_G MD_X2_become 58 [some (.ref 0), some (.ref 100), none] [] (wd_X2_become c_huts c_food c_due c_backs c_winds_58 c_kind c_home c_strength c_brown c_brick c_p1_huts c_p1_food c_p1_due c_p1_backs c_p1_winds c_p1_kind c_p1_home c_p1_strength c_p1_brown c_p1_brick) rr ww) : ∀ (n : Nat) (x2_31 : Int32) (c_winds_31 : Nat → Int32), lp_X2_become_31 c_p1_winds k58 n x2_31 c_winds_31 = some res → gg_G MD_X2_become 31 [some (.ref 0), some (.ref 100), some (.int x2_31)] [] (wd_X2_become c_huts c_food c_due c_backs c_winds_31 c_kind c_home c_strength c_brown c_brick c_p1_huts c_p1_food c_p1_due c_p1_backs c_p1_winds c_p1_kind c_p1_home c_p1_strength c_p1_brown c_p1_brick) rr ww := by
  intro n
  induction n with
  | zero =>
    intro x2_31 c_winds_31 h
    exact nomatch (show (none : Option β) = some res from h)
  | succ n ih =>
    intro x2_31 c_winds_31 h
    rw [lp_X2_become_31] at h
    refine gg_iload_n dX2_become_31 rfl ?_
    refine gg_aload_n dX2_become_32 rfl ?_
    refine gg_get 0 fl_X2_21 dX2_become_33 rfl rfl ?_
    refine gg_alen (4 : Int32) 1 dX2_become_36 rfl (by decide) rfl ?_
    refine gg_icmp_ge 58 dX2_become_37 (by decide) (fun hc => ?_) (fun hc => ?_)
    · replace h := gg_th h hc
      refine gg_fg [true, true, false] [some (.ref 0), some (.ref 100), none] rfl ?_
      exact hk58 c_winds_31 h
    · replace h := gg_el h hc
      refine gg_aload_n dX2_become_40 rfl ?_
      refine gg_get 0 fl_X2_21 dX2_become_41 rfl rfl ?_
      refine gg_iload_n dX2_become_44 rfl ?_
      refine gg_aload_n dX2_become_45 rfl ?_
      refine gg_get 7 fl_X2_21 dX2_become_46 rfl rfl ?_
      refine gg_iload_n dX2_become_49 rfl ?_
      obtain ⟨hb50, h⟩ := gg_ck h
      refine gg_iald 8 dX2_become_50 rfl hb50 ?_
      obtain ⟨hb51, h⟩ := gg_ck h
      refine gg_iast 1 (wd_X2_become c_huts c_food c_due c_backs (upd c_winds_31 x2_31.toNatClampNeg (c_p1_winds x2_31.toNatClampNeg)) c_kind c_home c_strength c_brown c_brick c_p1_huts c_p1_food c_p1_due c_p1_backs c_p1_winds c_p1_kind c_p1_home c_p1_strength c_p1_brown c_p1_brick) dX2_become_51 rfl hb51 rfl ?_
      refine gg_iinc (x2_31 + (1 : Int32)) [some (.ref 0), some (.ref 100), some (.int (x2_31 + (1 : Int32)))] dX2_become_52 rfl rfl rfl (Nat.le_of_ble_eq_true rfl) rfl ?_
      refine gg_goto 31 dX2_become_55 (by decide) ?_
      exact ih (x2_31 + (1 : Int32)) (upd c_winds_31 x2_31.toNatClampNeg (c_p1_winds x2_31.toNatClampNeg)) h
set_option maxRecDepth 20000 in
set_option maxHeartbeats 4000000 in
theorem lq_X2_become_60 {β : Type} {res : β} {rr : Option Value} {ww : va_W} (c_huts : Int32) (c_food : Int32) (c_due : Int32) (c_backs : Int32) (c_winds : Nat → Int32) (c_p1_huts : Int32) (c_p1_food : Int32) (c_p1_due : Int32) (c_p1_backs : Int32) (c_p1_winds : Nat → Int32) (c_p1_kind : Nat → Int32) (c_p1_home : Nat → Int32) (c_p1_strength : Nat → Int32) (c_p1_brown : Nat → Int32) (c_p1_brick : Nat → Int32) (k132 : (Nat → Int32) → (Nat → Int32) → (Nat → Int32) → (Nat → Int32) → (Nat → Int32) → Option β) (hk132 : ∀ (c_kind_132 : Nat → Int32) (c_home_132 : Nat → Int32) (c_strength_132 : Nat → Int32) (c_brown_132 : Nat → Int32) (c_brick_132 : Nat → Int32), k132 c_kind_132 c_home_132 c_strength_132 c_brown_132 c_brick_132 = some res → gg_G MD_X2_become 132 [none, none, none] [] (wd_X2_become c_huts c_food c_due c_backs c_winds c_kind_132 c_home_132 c_strength_132 c_brown_132 c_brick_132 c_p1_huts c_p1_food c_p1_due c_p1_backs c_p1_winds c_p1_kind c_p1_home c_p1_strength c_p1_brown c_p1_brick) rr ww) : ∀ (n : Nat) (x2_60 : Int32) (c_kind_60 : Nat → Int32) (c_home_60 : Nat → Int32) (c_strength_60 : Nat → Int32) (c_brown_60 : Nat → Int32) (c_brick_60 : Nat → Int32), lp_X2_become_60 c_p1_kind c_p1_home c_p1_strength c_p1_brown c_p1_brick k132 n x2_60 c_kind_60 c_home_60 c_strength_60 c_brown_60 c_brick_60 = some res → gg_G MD_X2_become 60 [some (.ref 0), some (.ref 100), some (.int x2_60)] [] (wd_X2_become c_huts c_food c_due c_backs c_winds c_kind_60 c_home_60 c_strength_60 c_brown_60 c_brick_60 c_p1_huts c_p1_food c_p1_due c_p1_backs c_p1_winds c_p1_kind c_p1_home c_p1_strength c_p1_brown c_p1_brick) rr ww := by
  intro n
  induction n with
  | zero =>
    intro x2_60 c_kind_60 c_home_60 c_strength_60 c_brown_60 c_brick_60 h
    exact nomatch (show (none : Option β) = some res from h)
  | succ n ih =>
    intro x2_60 c_kind_60 c_home_60 c_strength_60 c_brown_60 c_brick_60 h
    rw [lp_X2_become_60] at h
    refine gg_iload_n dX2_become_60 rfl ?_
    refine gg_bipush (6 : Int32) dX2_become_61 (by decide) ?_
    refine gg_icmp_ge 132 dX2_become_63 (by decide) (fun hc => ?_) (fun hc => ?_)
    · replace h := gg_th h hc
      refine gg_fg [false, false, false] [none, none, none] rfl ?_
      exact hk132 c_kind_60 c_home_60 c_strength_60 c_brown_60 c_brick_60 h
    · replace h := gg_el h hc
      refine gg_aload_n dX2_become_66 rfl ?_
      refine gg_get 0 fl_X2_25 dX2_become_67 rfl rfl ?_
      refine gg_iload_n dX2_become_70 rfl ?_
      refine gg_aload_n dX2_become_71 rfl ?_
      refine gg_get 7 fl_X2_25 dX2_become_72 rfl rfl ?_
      refine gg_iload_n dX2_become_75 rfl ?_
      obtain ⟨hb76, h⟩ := gg_ck h
      refine gg_iald 9 dX2_become_76 rfl hb76 ?_
      obtain ⟨hb77, h⟩ := gg_ck h
      refine gg_iast 2 (wd_X2_become c_huts c_food c_due c_backs c_winds (upd c_kind_60 x2_60.toNatClampNeg (c_p1_kind x2_60.toNatClampNeg)) c_home_60 c_strength_60 c_brown_60 c_brick_60 c_p1_huts c_p1_food c_p1_due c_p1_backs c_p1_winds c_p1_kind c_p1_home c_p1_strength c_p1_brown c_p1_brick) dX2_become_77 rfl hb77 rfl ?_
      refine gg_aload_n dX2_become_78 rfl ?_
      refine gg_get 0 fl_X2_28 dX2_become_79 rfl rfl ?_
      refine gg_iload_n dX2_become_82 rfl ?_
      refine gg_aload_n dX2_become_83 rfl ?_
      refine gg_get 7 fl_X2_28 dX2_become_84 rfl rfl ?_
      refine gg_iload_n dX2_become_87 rfl ?_
      obtain ⟨hb88, h⟩ := gg_ck h
      refine gg_iald 10 dX2_become_88 rfl hb88 ?_
      obtain ⟨hb89, h⟩ := gg_ck h
      refine gg_iast 3 (wd_X2_become c_huts c_food c_due c_backs c_winds (upd c_kind_60 x2_60.toNatClampNeg (c_p1_kind x2_60.toNatClampNeg)) (upd c_home_60 x2_60.toNatClampNeg (c_p1_home x2_60.toNatClampNeg)) c_strength_60 c_brown_60 c_brick_60 c_p1_huts c_p1_food c_p1_due c_p1_backs c_p1_winds c_p1_kind c_p1_home c_p1_strength c_p1_brown c_p1_brick) dX2_become_89 rfl hb89 rfl ?_
      refine gg_aload_n dX2_become_90 rfl ?_
      refine gg_get 0 fl_X2_31 dX2_become_91 rfl rfl ?_
      refine gg_iload_n dX2_become_94 rfl ?_
      refine gg_aload_n dX2_become_95 rfl ?_
      refine gg_get 7 fl_X2_31 dX2_become_96 rfl rfl ?_
      refine gg_iload_n dX2_become_99 rfl ?_
      obtain ⟨hb100, h⟩ := gg_ck h
      refine gg_iald 11 dX2_become_100 rfl hb100 ?_
      obtain ⟨hb101, h⟩ := gg_ck h
      refine gg_iast 4 (wd_X2_become c_huts c_food c_due c_backs c_winds (upd c_kind_60 x2_60.toNatClampNeg (c_p1_kind x2_60.toNatClampNeg)) (upd c_home_60 x2_60.toNatClampNeg (c_p1_home x2_60.toNatClampNeg)) (upd c_strength_60 x2_60.toNatClampNeg (c_p1_strength x2_60.toNatClampNeg)) c_brown_60 c_brick_60 c_p1_huts c_p1_food c_p1_due c_p1_backs c_p1_winds c_p1_kind c_p1_home c_p1_strength c_p1_brown c_p1_brick) dX2_become_101 rfl hb101 rfl ?_
      refine gg_aload_n dX2_become_102 rfl ?_
      refine gg_get 0 fl_X2_34 dX2_become_103 rfl rfl ?_
      refine gg_iload_n dX2_become_106 rfl ?_
      refine gg_aload_n dX2_become_107 rfl ?_
      refine gg_get 7 fl_X2_34 dX2_become_108 rfl rfl ?_
      refine gg_iload_n dX2_become_111 rfl ?_
      obtain ⟨hb112, h⟩ := gg_ck h
      refine gg_iald 12 dX2_become_112 rfl hb112 ?_
      obtain ⟨hb113, h⟩ := gg_ck h
      refine gg_iast 5 (wd_X2_become c_huts c_food c_due c_backs c_winds (upd c_kind_60 x2_60.toNatClampNeg (c_p1_kind x2_60.toNatClampNeg)) (upd c_home_60 x2_60.toNatClampNeg (c_p1_home x2_60.toNatClampNeg)) (upd c_strength_60 x2_60.toNatClampNeg (c_p1_strength x2_60.toNatClampNeg)) (upd c_brown_60 x2_60.toNatClampNeg (c_p1_brown x2_60.toNatClampNeg)) c_brick_60 c_p1_huts c_p1_food c_p1_due c_p1_backs c_p1_winds c_p1_kind c_p1_home c_p1_strength c_p1_brown c_p1_brick) dX2_become_113 rfl hb113 rfl ?_
      refine gg_aload_n dX2_become_114 rfl ?_
      refine gg_get 0 fl_X2_37 dX2_become_115 rfl rfl ?_
      refine gg_iload_n dX2_become_118 rfl ?_
      refine gg_aload_n dX2_become_119 rfl ?_
      refine gg_get 7 fl_X2_37 dX2_become_120 rfl rfl ?_
      refine gg_iload_n dX2_become_123 rfl ?_
      obtain ⟨hb124, h⟩ := gg_ck h
      refine gg_iald 13 dX2_become_124 rfl hb124 ?_
      obtain ⟨hb125, h⟩ := gg_ck h
      refine gg_iast 6 (wd_X2_become c_huts c_food c_due c_backs c_winds (upd c_kind_60 x2_60.toNatClampNeg (c_p1_kind x2_60.toNatClampNeg)) (upd c_home_60 x2_60.toNatClampNeg (c_p1_home x2_60.toNatClampNeg)) (upd c_strength_60 x2_60.toNatClampNeg (c_p1_strength x2_60.toNatClampNeg)) (upd c_brown_60 x2_60.toNatClampNeg (c_p1_brown x2_60.toNatClampNeg)) (upd c_brick_60 x2_60.toNatClampNeg (c_p1_brick x2_60.toNatClampNeg)) c_p1_huts c_p1_food c_p1_due c_p1_backs c_p1_winds c_p1_kind c_p1_home c_p1_strength c_p1_brown c_p1_brick) dX2_become_125 rfl hb125 rfl ?_
      refine gg_iinc (x2_60 + (1 : Int32)) [some (.ref 0), some (.ref 100), some (.int (x2_60 + (1 : Int32)))] dX2_become_126 rfl rfl rfl (Nat.le_of_ble_eq_true rfl) rfl ?_
      refine gg_goto 60 dX2_become_129 (by decide) ?_
      exact ih (x2_60 + (1 : Int32)) (upd c_kind_60 x2_60.toNatClampNeg (c_p1_kind x2_60.toNatClampNeg)) (upd c_home_60 x2_60.toNatClampNeg (c_p1_home x2_60.toNatClampNeg)) (upd c_strength_60 x2_60.toNatClampNeg (c_p1_strength x2_60.toNatClampNeg)) (upd c_brown_60 x2_60.toNatClampNeg (c_p1_brown x2_60.toNatClampNeg)) (upd c_brick_60 x2_60.toNatClampNeg (c_p1_brick x2_60.toNatClampNeg)) h
set_option maxRecDepth 20000 in
set_option maxHeartbeats 8000000 in
theorem C_X2_become  (c_huts : Int32) (c_food : Int32) (c_due : Int32) (c_backs : Int32) (c_winds : Nat → Int32) (c_kind : Nat → Int32) (c_home : Nat → Int32) (c_strength : Nat → Int32) (c_brown : Nat → Int32) (c_brick : Nat → Int32) (c_p1_huts : Int32) (c_p1_food : Int32) (c_p1_due : Int32) (c_p1_backs : Int32) (c_p1_winds : Nat → Int32) (c_p1_kind : Nat → Int32) (c_p1_home : Nat → Int32) (c_p1_strength : Nat → Int32) (c_p1_brown : Nat → Int32) (c_p1_brick : Nat → Int32) {r0 : (Int32)} {r1 : (Int32)} {r2 : (Int32)} {r3 : (Int32)} {r4 : (Nat → Int32)} {r5 : (Nat → Int32)} {r6 : (Nat → Int32)} {r7 : (Nat → Int32)} {r8 : (Nat → Int32)} {r9 : (Nat → Int32)} (h : f_X2_become c_huts c_food c_due c_backs c_winds c_kind c_home c_strength c_brown c_brick c_p1_huts c_p1_food c_p1_due c_p1_winds c_p1_kind c_p1_home c_p1_strength c_p1_brown c_p1_brick = some (r0, r1, r2, r3, r4, r5, r6, r7, r8, r9)) : gg_C MD_X2_become [.ref 0, .ref 100] (wd_X2_become c_huts c_food c_due c_backs c_winds c_kind c_home c_strength c_brown c_brick c_p1_huts c_p1_food c_p1_due c_p1_backs c_p1_winds c_p1_kind c_p1_home c_p1_strength c_p1_brown c_p1_brick) (none) (wd_X2_become r0 r1 r2 r3 r4 r5 r6 r7 r8 r9 c_p1_huts c_p1_food c_p1_due c_p1_backs c_p1_winds c_p1_kind c_p1_home c_p1_strength c_p1_brown c_p1_brick) := by
  refine gg_ofG [some (.ref 0), some (.ref 100), none] (plainFor_of_name (by decide)) (Nat.le_of_ble_eq_true rfl) rfl ?_
  unfold f_X2_become at h
  refine gg_aload_n dX2_become_0 rfl ?_
  refine gg_aload_n dX2_become_1 rfl ?_
  refine gg_get 7 fl_X2_9 dX2_become_2 rfl rfl ?_
  refine gg_putf 0 (wd_X2_become c_p1_huts c_food c_due c_backs c_winds c_kind c_home c_strength c_brown c_brick c_p1_huts c_p1_food c_p1_due c_p1_backs c_p1_winds c_p1_kind c_p1_home c_p1_strength c_p1_brown c_p1_brick) fl_X2_9 dX2_become_5 rfl (Nat.le_of_ble_eq_true rfl) (fun _ => ⟨rfl, rfl⟩) rfl ?_
  refine gg_aload_n dX2_become_8 rfl ?_
  refine gg_aload_n dX2_become_9 rfl ?_
  refine gg_get 7 fl_X2_15 dX2_become_10 rfl rfl ?_
  refine gg_putf 0 (wd_X2_become c_p1_huts c_p1_food c_due c_backs c_winds c_kind c_home c_strength c_brown c_brick c_p1_huts c_p1_food c_p1_due c_p1_backs c_p1_winds c_p1_kind c_p1_home c_p1_strength c_p1_brown c_p1_brick) fl_X2_15 dX2_become_13 rfl (Nat.le_of_ble_eq_true rfl) (fun _ => ⟨rfl, rfl⟩) rfl ?_
  refine gg_aload_n dX2_become_16 rfl ?_
  refine gg_aload_n dX2_become_17 rfl ?_
  refine gg_get 7 fl_X2_18 dX2_become_18 rfl rfl ?_
  refine gg_putf 0 (wd_X2_become c_p1_huts c_p1_food c_p1_due c_backs c_winds c_kind c_home c_strength c_brown c_brick c_p1_huts c_p1_food c_p1_due c_p1_backs c_p1_winds c_p1_kind c_p1_home c_p1_strength c_p1_brown c_p1_brick) fl_X2_18 dX2_become_21 rfl (Nat.le_of_ble_eq_true rfl) (fun _ => ⟨rfl, rfl⟩) rfl ?_
  refine gg_aload_n dX2_become_24 rfl ?_
  refine gg_iconst (0 : Int32) dX2_become_25 (by decide) ?_
  refine gg_putf 0 (wd_X2_become c_p1_huts c_p1_food c_p1_due (0 : Int32) c_winds c_kind c_home c_strength c_brown c_brick c_p1_huts c_p1_food c_p1_due c_p1_backs c_p1_winds c_p1_kind c_p1_home c_p1_strength c_p1_brown c_p1_brick) fl_X2_43 dX2_become_26 rfl (Nat.le_of_ble_eq_true rfl) (fun _ => ⟨rfl, rfl⟩) rfl ?_
  refine gg_iconst (0 : Int32) dX2_become_29 (by decide) ?_
  refine gg_istore_n [some (.ref 0), some (.ref 100), some (.int (0 : Int32))] dX2_become_30 rfl (Nat.le_of_ble_eq_true rfl) rfl ?_
  refine lq_X2_become_31 c_p1_huts c_p1_food c_p1_due (0 : Int32) c_kind c_home c_strength c_brown c_brick c_p1_huts c_p1_food c_p1_due c_p1_backs c_p1_winds c_p1_kind c_p1_home c_p1_strength c_p1_brown c_p1_brick _ ?_ gg_fuel (0 : Int32) c_winds h
  intro c_winds_58 h
  refine gg_iconst (0 : Int32) dX2_become_58 (by decide) ?_
  refine gg_istore_n [some (.ref 0), some (.ref 100), some (.int (0 : Int32))] dX2_become_59 rfl (Nat.le_of_ble_eq_true rfl) rfl ?_
  refine lq_X2_become_60 c_p1_huts c_p1_food c_p1_due (0 : Int32) c_winds_58 c_p1_huts c_p1_food c_p1_due c_p1_backs c_p1_winds c_p1_kind c_p1_home c_p1_strength c_p1_brown c_p1_brick _ ?_ gg_fuel (0 : Int32) c_kind c_home c_strength c_brown c_brick h
  intro c_kind_132 c_home_132 c_strength_132 c_brown_132 c_brick_132 h
  cases h
  exact gg_vret dX2_become_132 rfl
def wd_X8_front (c_latestFinding : Int32) (c_told : Int32) (c_above : Int64) (c_below : Int64) (c_texts_most : Int32) (c_texts_sizes : Nat → Int32) (c_texts_cells : Nat → Nat → Int32) (c_reader_size : Int32) (c_reader_place : Int32) (c_reader_signs : Nat → Int32) (c_first_huts : Int32) (c_first_food : Int32) (c_first_due : Int32) (c_first_backs : Int32) (c_first_winds : Nat → Int32) (c_first_kind : Nat → Int32) (c_first_home : Nat → Int32) (c_first_strength : Nat → Int32) (c_first_brown : Nat → Int32) (c_first_brick : Nat → Int32) (c_now_huts : Int32) (c_now_food : Int32) (c_now_due : Int32) (c_now_backs : Int32) (c_now_winds : Nat → Int32) (c_now_kind : Nat → Int32) (c_now_home : Nat → Int32) (c_now_strength : Nat → Int32) (c_now_brown : Nat → Int32) (c_now_brick : Nat → Int32) (c_aside_huts : Int32) (c_aside_food : Int32) (c_aside_due : Int32) (c_aside_backs : Int32) (c_aside_winds : Nat → Int32) (c_aside_kind : Nat → Int32) (c_aside_home : Nat → Int32) (c_aside_strength : Nat → Int32) (c_aside_brown : Nat → Int32) (c_aside_brick : Nat → Int32) (c_log_size : Int32) (c_kept_size : Nat → Int32) (c_found : Nat → Int32) : va_W := [(0, .inr (7, [.ref 1, .ref 10, .ref 17, .ref 19, .ref 27, .ref 35, .ref 43, .ref 45, .ref 52, .ref 56, .ref 60, .ref 67, .int c_latestFinding, .int c_told, .long c_above, .long c_below])), (10, .inr (5, [.int c_texts_most, .ref 11, .ref 12])), (11, .inl (4, 4, .inr (.inr (.inr (.inr (gg_rf 2 1)))))), (12, .inl (0, 4, .inl c_texts_sizes)), (13, .inl (0, 60, .inl (c_texts_cells 0))), (14, .inl (0, 60, .inl (c_texts_cells 1))), (15, .inl (0, 60, .inl (c_texts_cells 2))), (16, .inl (0, 60, .inl (c_texts_cells 3))), (17, .inr (4, [.ref 18, .int c_reader_size, .int c_reader_place])), (18, .inl (0, 60, .inl c_reader_signs)), (19, .inr (2, [.int c_first_huts, .int c_first_food, .int c_first_due, .ref 20, .ref 21, .ref 22, .ref 23, .ref 24, .ref 25, .ref 26, .int c_first_backs])), (20, .inl (0, 4, .inl c_first_winds)), (21, .inl (0, 6, .inl c_first_kind)), (22, .inl (0, 6, .inl c_first_home)), (23, .inl (0, 6, .inl c_first_strength)), (24, .inl (0, 6, .inl c_first_brown)), (25, .inl (0, 6, .inl c_first_brick)), (27, .inr (2, [.int c_now_huts, .int c_now_food, .int c_now_due, .ref 28, .ref 29, .ref 30, .ref 31, .ref 32, .ref 33, .ref 34, .int c_now_backs])), (28, .inl (0, 4, .inl c_now_winds)), (29, .inl (0, 6, .inl c_now_kind)), (30, .inl (0, 6, .inl c_now_home)), (31, .inl (0, 6, .inl c_now_strength)), (32, .inl (0, 6, .inl c_now_brown)), (33, .inl (0, 6, .inl c_now_brick)), (35, .inr (2, [.int c_aside_huts, .int c_aside_food, .int c_aside_due, .ref 36, .ref 37, .ref 38, .ref 39, .ref 40, .ref 41, .ref 42, .int c_aside_backs])), (36, .inl (0, 4, .inl c_aside_winds)), (37, .inl (0, 6, .inl c_aside_kind)), (38, .inl (0, 6, .inl c_aside_home)), (39, .inl (0, 6, .inl c_aside_strength)), (40, .inl (0, 6, .inl c_aside_brown)), (41, .inl (0, 6, .inl c_aside_brick)), (43, .inr (3, [.int c_log_size, .ref 44])), (45, .inl (3, 3, .inr (.inr (.inr (.inr (gg_rf 1 2)))))), (46, .inr (3, [.int (c_kept_size 0), .ref 47])), (48, .inr (3, [.int (c_kept_size 1), .ref 49])), (50, .inr (3, [.int (c_kept_size 2), .ref 51])), (67, .inl (0, 6, .inl c_found))]
def MD_X8_front : gg_M := (yX8_front, cX8_front, 4, some .int, 5, 112)
theorem nV_X8_front : gg_nV MD_X8_front 1 := ⟨⟨gg_mem (by decide +kernel) rfl, gg_mem cw_X8_front rfl, by decide, by decide, by decide +kernel⟩, gg_mem (by decide +kernel) rfl, gg_mem (by decide +kernel) rfl⟩
def lp_X8_front_72 {β : Type}  (k97 : (Nat → Int32) → Option β) : Nat → (Int32) → (Nat → Int32) → Option β
  | 0, _, _ => none
  | n + 1, x3_72, c_kept_size_72 => (if (3 : Int32) ≤ x3_72 then (k97 c_kept_size_72) else (gg_k3 x3_72 ((lp_X8_front_72 k97 n (x3_72 + (1 : Int32)) (gg_up c_kept_size_72 0 (-1 : Int32)))) ((lp_X8_front_72 k97 n (x3_72 + (1 : Int32)) (gg_up c_kept_size_72 1 (-1 : Int32)))) ((lp_X8_front_72 k97 n (x3_72 + (1 : Int32)) (gg_up c_kept_size_72 2 (-1 : Int32))))))
def f_X8_front (a0 : Int32) (c_latestFinding : Int32) (c_texts_sizes : Nat → Int32) (c_texts_cells : Nat → Nat → Int32) (c_reader_size : Int32) (c_reader_place : Int32) (c_reader_signs : Nat → Int32) (c_first_huts : Int32) (c_first_food : Int32) (c_first_due : Int32) (c_first_backs : Int32) (c_first_winds : Nat → Int32) (c_first_kind : Nat → Int32) (c_first_home : Nat → Int32) (c_first_strength : Nat → Int32) (c_first_brown : Nat → Int32) (c_first_brick : Nat → Int32) (c_now_huts : Int32) (c_now_food : Int32) (c_now_due : Int32) (c_now_backs : Int32) (c_now_winds : Nat → Int32) (c_now_kind : Nat → Int32) (c_now_home : Nat → Int32) (c_now_strength : Nat → Int32) (c_now_brown : Nat → Int32) (c_now_brick : Nat → Int32) (c_aside_huts : Int32) (c_aside_food : Int32) (c_aside_due : Int32) (c_aside_backs : Int32) (c_aside_winds : Nat → Int32) (c_aside_kind : Nat → Int32) (c_aside_home : Nat → Int32) (c_aside_strength : Nat → Int32) (c_aside_brown : Nat → Int32) (c_aside_brick : Nat → Int32) (c_log_size : Int32) (c_kept_size : Nat → Int32) (c_found : Nat → Int32) : Option (Int32 × (Int32) × (Int32) × (Int32) × (Nat → Int32) × (Int32) × (Int32) × (Int32) × (Int32) × (Nat → Int32) × (Nat → Int32) × (Nat → Int32) × (Nat → Int32) × (Nat → Int32) × (Nat → Int32) × (Int32) × (Int32) × (Int32) × (Int32) × (Nat → Int32) × (Nat → Int32) × (Nat → Int32) × (Nat → Int32) × (Nat → Int32) × (Nat → Int32) × (Int32) × (Int32) × (Int32) × (Int32) × (Nat → Int32) × (Nat → Int32) × (Nat → Int32) × (Nat → Int32) × (Nat → Int32) × (Nat → Int32) × (Int32) × (Nat → Int32) × (Nat → Int32)) := gg_b3 (f_X8_refusedMissing_s4 a0 c_latestFinding c_found c_texts_sizes) (fun v1_0 v1_1 v1_2 => (if v1_0 = (0 : Int32) then gg_b14 (f_X5_read_s4 a0 c_reader_size c_reader_place c_reader_signs c_texts_sizes c_texts_cells c_aside_huts c_aside_food c_aside_due c_aside_backs c_aside_winds c_aside_kind c_aside_home c_aside_strength c_aside_brown c_aside_brick) (fun v2_0 v2_1 v2_2 v2_3 v2_4 v2_5 v2_6 v2_7 v2_8 v2_9 v2_10 v2_11 v2_12 v2_13 => (if v2_0 = (-9 : Int32) then gg_b10 (f_X2_become c_first_huts c_first_food c_first_due c_first_backs c_first_winds c_first_kind c_first_home c_first_strength c_first_brown c_first_brick v2_4 v2_5 v2_6 v2_8 v2_9 v2_10 v2_11 v2_12 v2_13) (fun v3_0 v3_1 v3_2 v3_3 v3_4 v3_5 v3_6 v3_7 v3_8 v3_9 => gg_b10 (f_X2_become c_now_huts c_now_food c_now_due c_now_backs c_now_winds c_now_kind c_now_home c_now_strength c_now_brown c_now_brick v3_0 v3_1 v3_2 v3_4 v3_5 v3_6 v3_7 v3_8 v3_9) (fun v4_0 v4_1 v4_2 v4_3 v4_4 v4_5 v4_6 v4_7 v4_8 v4_9 => (lp_X8_front_72 (fun (c_kept_size_97 : Nat → Int32) => (some (v4_0, v1_1, v2_1, v2_2, v2_3, v3_0, v3_1, v3_2, v3_3, v3_4, v3_5, v3_6, v3_7, v3_8, v3_9, v4_0, v4_1, v4_2, v4_3, v4_4, v4_5, v4_6, v4_7, v4_8, v4_9, v2_4, v2_5, v2_6, v2_7, v2_8, v2_9, v2_10, v2_11, v2_12, v2_13, (0 : Int32), c_kept_size_97, v1_2))) gg_fuel (0 : Int32) c_kept_size))) else (some ((-4 : Int32), v1_1, v2_1, v2_2, v2_3, c_first_huts, c_first_food, c_first_due, c_first_backs, c_first_winds, c_first_kind, c_first_home, c_first_strength, c_first_brown, c_first_brick, c_now_huts, c_now_food, c_now_due, c_now_backs, c_now_winds, c_now_kind, c_now_home, c_now_strength, c_now_brown, c_now_brick, v2_4, v2_5, v2_6, v2_7, v2_8, v2_9, v2_10, v2_11, v2_12, v2_13, c_log_size, c_kept_size, v1_2)))) else (some (v1_0, v1_1, c_reader_size, c_reader_place, c_reader_signs, c_first_huts, c_first_food, c_first_due, c_first_backs, c_first_winds, c_first_kind, c_first_home, c_first_strength, c_first_brown, c_first_brick, c_now_huts, c_now_food, c_now_due, c_now_backs, c_now_winds, c_now_kind, c_now_home, c_now_strength, c_now_brown, c_now_brick, c_aside_huts, c_aside_food, c_aside_due, c_aside_backs, c_aside_winds, c_aside_kind, c_aside_home, c_aside_strength, c_aside_brown, c_aside_brick, c_log_size, c_kept_size, v1_2))))
set_option maxRecDepth 20000 in
set_option maxHeartbeats 4000000 in
theorem lq_X8_front_72 {β : Type} {res : β} {rr : Option Value} {ww : va_W} (c_latestFinding : Int32) (c_told : Int32) (c_above : Int64) (c_below : Int64) (c_texts_most : Int32) (c_texts_sizes : Nat → Int32) (c_texts_cells : Nat → Nat → Int32) (c_reader_size : Int32) (c_reader_place : Int32) (c_reader_signs : Nat → Int32) (c_first_huts : Int32) (c_first_food : Int32) (c_first_due : Int32) (c_first_backs : Int32) (c_first_winds : Nat → Int32) (c_first_kind : Nat → Int32) (c_first_home : Nat → Int32) (c_first_strength : Nat → Int32) (c_first_brown : Nat → Int32) (c_first_brick : Nat → Int32) (c_now_huts : Int32) (c_now_food : Int32) (c_now_due : Int32) (c_now_backs : Int32) (c_now_winds : Nat → Int32) (c_now_kind : Nat → Int32) (c_now_home : Nat → Int32) (c_now_strength : Nat → Int32) (c_now_brown : Nat → Int32) (c_now_brick : Nat → Int32) (c_aside_huts : Int32) (c_aside_food : Int32) (c_aside_due : Int32) (c_aside_backs : Int32) (c_aside_winds : Nat → Int32) (c_aside_kind : Nat → Int32) (c_aside_home : Nat → Int32) (c_aside_strength : Nat → Int32) (c_aside_brown : Nat → Int32) (c_aside_brick : Nat → Int32) (c_log_size : Int32) (c_found : Nat → Int32) (k97 : (Nat → Int32) → Option β) (hk97 : ∀ (c_kept_size_97 : Nat → Int32), k97 c_kept_size_97 = some res → gg_G MD_X8_front 97 [some (.ref 0), none, none, none] [] (wd_X8_front c_latestFinding c_told c_above c_below c_texts_most c_texts_sizes c_texts_cells c_reader_size c_reader_place c_reader_signs c_first_huts c_first_food c_first_due c_first_backs c_first_winds c_first_kind c_first_home c_first_strength c_first_brown c_first_brick c_now_huts c_now_food c_now_due c_now_backs c_now_winds c_now_kind c_now_home c_now_strength c_now_brown c_now_brick c_aside_huts c_aside_food c_aside_due c_aside_backs c_aside_winds c_aside_kind c_aside_home c_aside_strength c_aside_brown c_aside_brick c_log_size c_kept_size_97 c_found) rr ww) : ∀ (n : Nat) (x3_72 : Int32) (c_kept_size_72 : Nat → Int32), lp_X8_front_72 k97 n x3_72 c_kept_size_72 = some res → gg_G MD_X8_front 72 [some (.ref 0), none, none, some (.int x3_72)] [] (wd_X8_front c_latestFinding c_told c_above c_below c_texts_most c_texts_sizes c_texts_cells c_reader_size c_reader_place c_reader_signs c_first_huts c_first_food c_first_due c_first_backs c_first_winds c_first_kind c_first_home c_first_strength c_first_brown c_first_brick c_now_huts c_now_food c_now_due c_now_backs c_now_winds c_now_kind c_now_home c_now_strength c_now_brown c_now_brick c_aside_huts c_aside_food c_aside_due c_aside_backs c_aside_winds c_aside_kind c_aside_home c_aside_strength c_aside_brown c_aside_brick c_log_size c_kept_size_72 c_found) rr ww := by
  intro n
  induction n with
  | zero =>
    intro x3_72 c_kept_size_72 h
    exact nomatch (show (none : Option β) = some res from h)
  | succ n ih =>
    intro x3_72 c_kept_size_72 h
    rw [lp_X8_front_72] at h
    refine gg_iload_n dX8_front_72 rfl ?_
    refine gg_aload_n dX8_front_73 rfl ?_
    refine gg_get 0 fl_X8_50 dX8_front_74 rfl rfl ?_
    refine gg_alen (3 : Int32) 32 dX8_front_77 rfl (by decide) rfl ?_
    refine gg_icmp_ge 97 dX8_front_78 (by decide) (fun hc => ?_) (fun hc => ?_)
    · replace h := gg_th h hc
      refine gg_fg [true, false, false, false] [some (.ref 0), none, none, none] rfl ?_
      exact hk97 c_kept_size_72 h
    · replace h := gg_el h hc
      refine gg_aload_n dX8_front_81 rfl ?_
      refine gg_get 0 fl_X8_50 dX8_front_82 rfl rfl ?_
      refine gg_iload_n dX8_front_85 rfl ?_
      rcases gg_k3c h with ⟨hk, h⟩ | ⟨hk, h⟩ | ⟨hk, h⟩
      · refine gg_aldq (d := 1) 32 46 dX8_front_86 rfl (by rw [hk]; rfl) (by rw [hk]; rfl) rfl ?_
        refine gg_iconst (-1 : Int32) dX8_front_87 (by decide) ?_
        refine gg_putf 33 (wd_X8_front c_latestFinding c_told c_above c_below c_texts_most c_texts_sizes c_texts_cells c_reader_size c_reader_place c_reader_signs c_first_huts c_first_food c_first_due c_first_backs c_first_winds c_first_kind c_first_home c_first_strength c_first_brown c_first_brick c_now_huts c_now_food c_now_due c_now_backs c_now_winds c_now_kind c_now_home c_now_strength c_now_brown c_now_brick c_aside_huts c_aside_food c_aside_due c_aside_backs c_aside_winds c_aside_kind c_aside_home c_aside_strength c_aside_brown c_aside_brick c_log_size (gg_up c_kept_size_72 0 (-1 : Int32)) c_found) fl_X8_149 dX8_front_88 rfl (Nat.le_of_ble_eq_true rfl) (fun _ => ⟨rfl, rfl⟩) rfl ?_
        refine gg_iinc (x3_72 + (1 : Int32)) [some (.ref 0), none, none, some (.int (x3_72 + (1 : Int32)))] dX8_front_91 rfl rfl rfl (Nat.le_of_ble_eq_true rfl) rfl ?_
        refine gg_goto 72 dX8_front_94 (by decide) ?_
        exact ih (x3_72 + (1 : Int32)) (gg_up c_kept_size_72 0 (-1 : Int32)) h
      · refine gg_aldq (d := 3) 32 48 dX8_front_86 rfl (by rw [hk]; rfl) (by rw [hk]; rfl) rfl ?_
        refine gg_iconst (-1 : Int32) dX8_front_87 (by decide) ?_
        refine gg_putf 34 (wd_X8_front c_latestFinding c_told c_above c_below c_texts_most c_texts_sizes c_texts_cells c_reader_size c_reader_place c_reader_signs c_first_huts c_first_food c_first_due c_first_backs c_first_winds c_first_kind c_first_home c_first_strength c_first_brown c_first_brick c_now_huts c_now_food c_now_due c_now_backs c_now_winds c_now_kind c_now_home c_now_strength c_now_brown c_now_brick c_aside_huts c_aside_food c_aside_due c_aside_backs c_aside_winds c_aside_kind c_aside_home c_aside_strength c_aside_brown c_aside_brick c_log_size (gg_up c_kept_size_72 1 (-1 : Int32)) c_found) fl_X8_149 dX8_front_88 rfl (Nat.le_of_ble_eq_true rfl) (fun _ => ⟨rfl, rfl⟩) rfl ?_
        refine gg_iinc (x3_72 + (1 : Int32)) [some (.ref 0), none, none, some (.int (x3_72 + (1 : Int32)))] dX8_front_91 rfl rfl rfl (Nat.le_of_ble_eq_true rfl) rfl ?_
        refine gg_goto 72 dX8_front_94 (by decide) ?_
        exact ih (x3_72 + (1 : Int32)) (gg_up c_kept_size_72 1 (-1 : Int32)) h
      · refine gg_aldq (d := 5) 32 50 dX8_front_86 rfl (by rw [hk]; rfl) (by rw [hk]; rfl) rfl ?_
        refine gg_iconst (-1 : Int32) dX8_front_87 (by decide) ?_
        refine gg_putf 35 (wd_X8_front c_latestFinding c_told c_above c_below c_texts_most c_texts_sizes c_texts_cells c_reader_size c_reader_place c_reader_signs c_first_huts c_first_food c_first_due c_first_backs c_first_winds c_first_kind c_first_home c_first_strength c_first_brown c_first_brick c_now_huts c_now_food c_now_due c_now_backs c_now_winds c_now_kind c_now_home c_now_strength c_now_brown c_now_brick c_aside_huts c_aside_food c_aside_due c_aside_backs c_aside_winds c_aside_kind c_aside_home c_aside_strength c_aside_brown c_aside_brick c_log_size (gg_up c_kept_size_72 2 (-1 : Int32)) c_found) fl_X8_149 dX8_front_88 rfl (Nat.le_of_ble_eq_true rfl) (fun _ => ⟨rfl, rfl⟩) rfl ?_
        refine gg_iinc (x3_72 + (1 : Int32)) [some (.ref 0), none, none, some (.int (x3_72 + (1 : Int32)))] dX8_front_91 rfl rfl rfl (Nat.le_of_ble_eq_true rfl) rfl ?_
        refine gg_goto 72 dX8_front_94 (by decide) ?_
        exact ih (x3_72 + (1 : Int32)) (gg_up c_kept_size_72 2 (-1 : Int32)) h
set_option maxRecDepth 20000 in
set_option maxHeartbeats 8000000 in
theorem C_X8_front (a0 : Int32) (c_latestFinding : Int32) (c_told : Int32) (c_above : Int64) (c_below : Int64) (c_texts_most : Int32) (c_texts_sizes : Nat → Int32) (c_texts_cells : Nat → Nat → Int32) (c_reader_size : Int32) (c_reader_place : Int32) (c_reader_signs : Nat → Int32) (c_first_huts : Int32) (c_first_food : Int32) (c_first_due : Int32) (c_first_backs : Int32) (c_first_winds : Nat → Int32) (c_first_kind : Nat → Int32) (c_first_home : Nat → Int32) (c_first_strength : Nat → Int32) (c_first_brown : Nat → Int32) (c_first_brick : Nat → Int32) (c_now_huts : Int32) (c_now_food : Int32) (c_now_due : Int32) (c_now_backs : Int32) (c_now_winds : Nat → Int32) (c_now_kind : Nat → Int32) (c_now_home : Nat → Int32) (c_now_strength : Nat → Int32) (c_now_brown : Nat → Int32) (c_now_brick : Nat → Int32) (c_aside_huts : Int32) (c_aside_food : Int32) (c_aside_due : Int32) (c_aside_backs : Int32) (c_aside_winds : Nat → Int32) (c_aside_kind : Nat → Int32) (c_aside_home : Nat → Int32) (c_aside_strength : Nat → Int32) (c_aside_brown : Nat → Int32) (c_aside_brick : Nat → Int32) (c_log_size : Int32) (c_kept_size : Nat → Int32) (c_found : Nat → Int32) {r0 : Int32} {r1 : (Int32)} {r2 : (Int32)} {r3 : (Int32)} {r4 : (Nat → Int32)} {r5 : (Int32)} {r6 : (Int32)} {r7 : (Int32)} {r8 : (Int32)} {r9 : (Nat → Int32)} {r10 : (Nat → Int32)} {r11 : (Nat → Int32)} {r12 : (Nat → Int32)} {r13 : (Nat → Int32)} {r14 : (Nat → Int32)} {r15 : (Int32)} {r16 : (Int32)} {r17 : (Int32)} {r18 : (Int32)} {r19 : (Nat → Int32)} {r20 : (Nat → Int32)} {r21 : (Nat → Int32)} {r22 : (Nat → Int32)} {r23 : (Nat → Int32)} {r24 : (Nat → Int32)} {r25 : (Int32)} {r26 : (Int32)} {r27 : (Int32)} {r28 : (Int32)} {r29 : (Nat → Int32)} {r30 : (Nat → Int32)} {r31 : (Nat → Int32)} {r32 : (Nat → Int32)} {r33 : (Nat → Int32)} {r34 : (Nat → Int32)} {r35 : (Int32)} {r36 : (Nat → Int32)} {r37 : (Nat → Int32)} (h : f_X8_front a0 c_latestFinding c_texts_sizes c_texts_cells c_reader_size c_reader_place c_reader_signs c_first_huts c_first_food c_first_due c_first_backs c_first_winds c_first_kind c_first_home c_first_strength c_first_brown c_first_brick c_now_huts c_now_food c_now_due c_now_backs c_now_winds c_now_kind c_now_home c_now_strength c_now_brown c_now_brick c_aside_huts c_aside_food c_aside_due c_aside_backs c_aside_winds c_aside_kind c_aside_home c_aside_strength c_aside_brown c_aside_brick c_log_size c_kept_size c_found = some (r0, r1, r2, r3, r4, r5, r6, r7, r8, r9, r10, r11, r12, r13, r14, r15, r16, r17, r18, r19, r20, r21, r22, r23, r24, r25, r26, r27, r28, r29, r30, r31, r32, r33, r34, r35, r36, r37)) : gg_C MD_X8_front [.ref 0, .int a0] (wd_X8_front c_latestFinding c_told c_above c_below c_texts_most c_texts_sizes c_texts_cells c_reader_size c_reader_place c_reader_signs c_first_huts c_first_food c_first_due c_first_backs c_first_winds c_first_kind c_first_home c_first_strength c_first_brown c_first_brick c_now_huts c_now_food c_now_due c_now_backs c_now_winds c_now_kind c_now_home c_now_strength c_now_brown c_now_brick c_aside_huts c_aside_food c_aside_due c_aside_backs c_aside_winds c_aside_kind c_aside_home c_aside_strength c_aside_brown c_aside_brick c_log_size c_kept_size c_found) (some (.int r0)) (wd_X8_front r1 c_told c_above c_below c_texts_most c_texts_sizes c_texts_cells r2 r3 r4 r5 r6 r7 r8 r9 r10 r11 r12 r13 r14 r15 r16 r17 r18 r19 r20 r21 r22 r23 r24 r25 r26 r27 r28 r29 r30 r31 r32 r33 r34 r35 r36 r37) := by
  refine gg_ofG [some (.ref 0), some (.int a0), none, none] (plainFor_of_name (by decide)) (Nat.le_of_ble_eq_true rfl) rfl ?_
  unfold f_X8_front at h
  refine gg_aload_n dX8_front_0 rfl ?_
  refine gg_aload_n dX8_front_1 rfl ?_
  refine gg_get 0 fl_X8_18 dX8_front_2 rfl rfl ?_
  refine gg_iload_n dX8_front_5 rfl ?_
  obtain ⟨v1_0, v1_1, v1_2, hv1, h⟩ := gg_bd3 h
  refine gg_callV (gg_sg [0, 10]) [0, 36, 1, 3] (wd_X8_front v1_1 c_told c_above c_below c_texts_most c_texts_sizes c_texts_cells c_reader_size c_reader_place c_reader_signs c_first_huts c_first_food c_first_due c_first_backs c_first_winds c_first_kind c_first_home c_first_strength c_first_brown c_first_brick c_now_huts c_now_food c_now_due c_now_backs c_now_winds c_now_kind c_now_home c_now_strength c_now_brown c_now_brick c_aside_huts c_aside_food c_aside_due c_aside_backs c_aside_winds c_aside_kind c_aside_home c_aside_strength c_aside_brown c_aside_brick c_log_size c_kept_size v1_2) 0 (C_X8_refusedMissing_s4 a0 c_latestFinding c_told c_above c_below c_found c_texts_most c_texts_sizes hv1) nV_X8_refusedMissing_s4 ml_X8_108 rfl rfl rfl rfl rfl rfl rfl rfl rfl rfl [2, 4, 5, 6, 7, 8, 9, 10, 11, 12, 13, 14, 15, 16, 17, 18, 19, 20, 21, 22, 23, 24, 25, 26, 27, 28, 29, 30, 31, 32, 33, 34, 35] 37 rfl rfl rfl rfl rfl ⟨Nat.le_of_ble_eq_true rfl, Nat.le_of_ble_eq_true rfl⟩ (Nat.le_of_ble_eq_true rfl) dX8_front_6 [.int v1_0] rfl ?_
  refine gg_istore_n [some (.ref 0), some (.int a0), some (.int v1_0), none] dX8_front_9 rfl (Nat.le_of_ble_eq_true rfl) rfl ?_
  refine gg_iload_n dX8_front_10 rfl ?_
  refine gg_if_eq 16 dX8_front_11 (by decide) (fun hc => ?_) (fun hc => ?_)
  · replace h := gg_th h hc
    refine gg_aload_n dX8_front_16 rfl ?_
    refine gg_get 0 fl_X8_24 dX8_front_17 rfl rfl ?_
    refine gg_aload_n dX8_front_20 rfl ?_
    refine gg_get 0 fl_X8_18 dX8_front_21 rfl rfl ?_
    refine gg_iload_n dX8_front_24 rfl ?_
    refine gg_aload_n dX8_front_25 rfl ?_
    refine gg_get 0 fl_X8_38 dX8_front_26 rfl rfl ?_
    obtain ⟨v2_0, v2_1, v2_2, v2_3, v2_4, v2_5, v2_6, v2_7, v2_8, v2_9, v2_10, v2_11, v2_12, v2_13, hv2, h⟩ := gg_bd14 h
    refine gg_callV (gg_sg [17, 10, 35]) [8, 9, 1, 2, 3, 4, 5, 6, 7, 24, 25, 26, 27, 28, 29, 30] (wd_X8_front v1_1 c_told c_above c_below c_texts_most c_texts_sizes c_texts_cells v2_1 v2_2 v2_3 c_first_huts c_first_food c_first_due c_first_backs c_first_winds c_first_kind c_first_home c_first_strength c_first_brown c_first_brick c_now_huts c_now_food c_now_due c_now_backs c_now_winds c_now_kind c_now_home c_now_strength c_now_brown c_now_brick v2_4 v2_5 v2_6 v2_7 v2_8 v2_9 v2_10 v2_11 v2_12 v2_13 c_log_size c_kept_size v1_2) 0 (C_X5_read_s4 a0 c_reader_size c_reader_place c_reader_signs c_texts_most c_texts_sizes c_texts_cells c_aside_huts c_aside_food c_aside_due c_aside_backs c_aside_winds c_aside_kind c_aside_home c_aside_strength c_aside_brown c_aside_brick hv2) nV_X5_read_s4 ml_X8_141 rfl rfl rfl rfl rfl rfl rfl rfl rfl rfl [0, 10, 11, 12, 13, 14, 15, 16, 17, 18, 19, 20, 21, 22, 23, 31, 32, 33, 34, 35, 36] 37 rfl rfl rfl rfl rfl ⟨Nat.le_of_ble_eq_true rfl, Nat.le_of_ble_eq_true rfl⟩ (Nat.le_of_ble_eq_true rfl) dX8_front_29 [.int v2_0] rfl ?_
    refine gg_bipush (-9 : Int32) dX8_front_32 (by decide) ?_
    refine gg_icmp_eq 40 dX8_front_34 (by decide) (fun hc => ?_) (fun hc => ?_)
    · replace h := gg_th h hc
      refine gg_aload_n dX8_front_40 rfl ?_
      refine gg_get 0 fl_X8_31 dX8_front_41 rfl rfl ?_
      refine gg_aload_n dX8_front_44 rfl ?_
      refine gg_get 0 fl_X8_38 dX8_front_45 rfl rfl ?_
      obtain ⟨v3_0, v3_1, v3_2, v3_3, v3_4, v3_5, v3_6, v3_7, v3_8, v3_9, hv3, h⟩ := gg_bd10 h
      refine gg_callV (gg_sg [19, 35]) [10, 11, 12, 13, 14, 15, 16, 24, 25, 26, 27, 28, 29, 30] (wd_X8_front v1_1 c_told c_above c_below c_texts_most c_texts_sizes c_texts_cells v2_1 v2_2 v2_3 v3_0 v3_1 v3_2 v3_3 v3_4 v3_5 v3_6 v3_7 v3_8 v3_9 c_now_huts c_now_food c_now_due c_now_backs c_now_winds c_now_kind c_now_home c_now_strength c_now_brown c_now_brick v2_4 v2_5 v2_6 v2_7 v2_8 v2_9 v2_10 v2_11 v2_12 v2_13 c_log_size c_kept_size v1_2) 0 (C_X2_become c_first_huts c_first_food c_first_due c_first_backs c_first_winds c_first_kind c_first_home c_first_strength c_first_brown c_first_brick v2_4 v2_5 v2_6 v2_7 v2_8 v2_9 v2_10 v2_11 v2_12 v2_13 hv3) nV_X2_become ml_X8_145 rfl rfl rfl rfl rfl rfl rfl rfl rfl rfl [0, 1, 2, 3, 4, 5, 6, 7, 8, 9, 17, 18, 19, 20, 21, 22, 23, 31, 32, 33, 34, 35, 36] 37 rfl rfl rfl rfl rfl ⟨Nat.le_of_ble_eq_true rfl, Nat.le_of_ble_eq_true rfl⟩ (Nat.le_of_ble_eq_true rfl) dX8_front_48 [] rfl ?_
      refine gg_aload_n dX8_front_51 rfl ?_
      refine gg_get 0 fl_X8_35 dX8_front_52 rfl rfl ?_
      refine gg_aload_n dX8_front_55 rfl ?_
      refine gg_get 0 fl_X8_31 dX8_front_56 rfl rfl ?_
      obtain ⟨v4_0, v4_1, v4_2, v4_3, v4_4, v4_5, v4_6, v4_7, v4_8, v4_9, hv4, h⟩ := gg_bd10 h
      refine gg_callV (gg_sg [27, 19]) [17, 18, 19, 20, 21, 22, 23, 10, 11, 12, 13, 14, 15, 16] (wd_X8_front v1_1 c_told c_above c_below c_texts_most c_texts_sizes c_texts_cells v2_1 v2_2 v2_3 v3_0 v3_1 v3_2 v3_3 v3_4 v3_5 v3_6 v3_7 v3_8 v3_9 v4_0 v4_1 v4_2 v4_3 v4_4 v4_5 v4_6 v4_7 v4_8 v4_9 v2_4 v2_5 v2_6 v2_7 v2_8 v2_9 v2_10 v2_11 v2_12 v2_13 c_log_size c_kept_size v1_2) 0 (C_X2_become c_now_huts c_now_food c_now_due c_now_backs c_now_winds c_now_kind c_now_home c_now_strength c_now_brown c_now_brick v3_0 v3_1 v3_2 v3_3 v3_4 v3_5 v3_6 v3_7 v3_8 v3_9 hv4) nV_X2_become ml_X8_145 rfl rfl rfl rfl rfl rfl rfl rfl rfl rfl [0, 1, 2, 3, 4, 5, 6, 7, 8, 9, 24, 25, 26, 27, 28, 29, 30, 31, 32, 33, 34, 35, 36] 37 rfl rfl rfl rfl rfl ⟨Nat.le_of_ble_eq_true rfl, Nat.le_of_ble_eq_true rfl⟩ (Nat.le_of_ble_eq_true rfl) dX8_front_59 [] rfl ?_
      refine gg_aload_n dX8_front_62 rfl ?_
      refine gg_get 0 fl_X8_46 dX8_front_63 rfl rfl ?_
      refine gg_iconst (0 : Int32) dX8_front_66 (by decide) ?_
      refine gg_putf 31 (wd_X8_front v1_1 c_told c_above c_below c_texts_most c_texts_sizes c_texts_cells v2_1 v2_2 v2_3 v3_0 v3_1 v3_2 v3_3 v3_4 v3_5 v3_6 v3_7 v3_8 v3_9 v4_0 v4_1 v4_2 v4_3 v4_4 v4_5 v4_6 v4_7 v4_8 v4_9 v2_4 v2_5 v2_6 v2_7 v2_8 v2_9 v2_10 v2_11 v2_12 v2_13 (0 : Int32) c_kept_size v1_2) fl_X8_149 dX8_front_67 rfl (Nat.le_of_ble_eq_true rfl) (fun _ => ⟨rfl, rfl⟩) rfl ?_
      refine gg_iconst (0 : Int32) dX8_front_70 (by decide) ?_
      refine gg_istore_n [some (.ref 0), some (.int a0), some (.int v1_0), some (.int (0 : Int32))] dX8_front_71 rfl (Nat.le_of_ble_eq_true rfl) rfl ?_
      refine gg_fg [true, false, false, true] [some (.ref 0), none, none, some (.int (0 : Int32))] rfl ?_
      refine lq_X8_front_72 v1_1 c_told c_above c_below c_texts_most c_texts_sizes c_texts_cells v2_1 v2_2 v2_3 v3_0 v3_1 v3_2 v3_3 v3_4 v3_5 v3_6 v3_7 v3_8 v3_9 v4_0 v4_1 v4_2 v4_3 v4_4 v4_5 v4_6 v4_7 v4_8 v4_9 v2_4 v2_5 v2_6 v2_7 v2_8 v2_9 v2_10 v2_11 v2_12 v2_13 (0 : Int32) v1_2 _ ?_ gg_fuel (0 : Int32) c_kept_size h
      intro c_kept_size_97 h
      refine gg_aload_n dX8_front_97 rfl ?_
      refine gg_get 0 fl_X8_35 dX8_front_98 rfl rfl ?_
      refine gg_get 17 fl_X8_151 dX8_front_101 rfl rfl ?_
      cases h
      exact gg_iret dX8_front_104 rfl
    · replace h := gg_el h hc
      refine gg_bipush (-4 : Int32) dX8_front_37 (by decide) ?_
      cases h
      exact gg_iret dX8_front_39 rfl
  · replace h := gg_el h hc
    refine gg_iload_n dX8_front_14 rfl ?_
    cases h
    exact gg_iret dX8_front_15 rfl
def wd_X2_knows (c_huts : Int32) (c_food : Int32) (c_due : Int32) (c_backs : Int32) : va_W := [(0, .inr (2, [.int c_huts, .int c_food, .int c_due, .ref 1, .ref 2, .ref 3, .ref 4, .ref 5, .ref 6, .ref 7, .int c_backs]))]
def MD_X2_knows : gg_M := (yX2_knows, cX2_knows, 2, some .boolean, 0, 0)
theorem nV_X2_knows : gg_nV MD_X2_knows 1 := ⟨⟨gg_mem (by decide +kernel) rfl, gg_mem cw_X2_knows rfl, by decide, by decide, by decide +kernel⟩, gg_mem (by decide +kernel) rfl, gg_mem (by decide +kernel) rfl⟩
def f_X2_knows (a0 : Int32) (c_huts : Int32) : Option (Int32) := gg_lt (fun (s0_18 : Int32) => gg_chk (gg_isb s0_18) (some s0_18)) (fun k18 => gg_lt ((k18 (0 : Int32))) (fun k17 => (if a0 < (0 : Int32) then k17 else (if c_huts ≤ a0 then k17 else (k18 (1 : Int32))))))
set_option maxRecDepth 20000 in
set_option maxHeartbeats 8000000 in
theorem C_X2_knows (a0 : Int32) (c_huts : Int32) (c_food : Int32) (c_due : Int32) (c_backs : Int32) {res : Int32} (h : f_X2_knows a0 c_huts = some res) : gg_C MD_X2_knows [.ref 0, .int a0] (wd_X2_knows c_huts c_food c_due c_backs) (some (.int res)) (wd_X2_knows c_huts c_food c_due c_backs) := by
  refine gg_ofG [some (.ref 0), some (.int a0)] (plainFor_of_name (by decide)) (Nat.le_of_ble_eq_true rfl) rfl ?_
  unfold f_X2_knows at h
  refine gg_iconst (0 : Int32) dX2_knows_0 (by decide) ?_
  refine gg_iload_n dX2_knows_1 rfl ?_
  obtain ⟨k18, hke18, h⟩ := gg_lte h
  have hk18 : ∀ (s0_18 : Int32), k18 s0_18 = some res → gg_G MD_X2_knows 18 [none, none] [.int s0_18] (wd_X2_knows c_huts c_food c_due c_backs) (some (.int res)) (wd_X2_knows c_huts c_food c_due c_backs) := by
    intro s0_18 h
    subst hke18
    obtain ⟨hz, h⟩ := gg_ck h
    cases h
    exact gg_zret dX2_knows_18 rfl hz
  clear hke18
  obtain ⟨k17, hke17, h⟩ := gg_lte h
  have hk17 : k17 = some res → gg_G MD_X2_knows 17 [none, none] [] (wd_X2_knows c_huts c_food c_due c_backs) (some (.int res)) (wd_X2_knows c_huts c_food c_due c_backs) := by
    intro  h
    subst hke17
    refine gg_iconst (0 : Int32) dX2_knows_17 (by decide) ?_
    exact hk18 (0 : Int32) h
  clear hke17
  refine gg_icmp_gt 17 dX2_knows_2 (by decide) (fun hc => ?_) (fun hc => ?_)
  · replace h := gg_th h hc
    refine gg_fg [false, false] [none, none] rfl ?_
    exact hk17 h
  · replace h := gg_el h hc
    refine gg_iload_n dX2_knows_5 rfl ?_
    refine gg_aload_n dX2_knows_6 rfl ?_
    refine gg_get 0 fl_X2_9 dX2_knows_7 rfl rfl ?_
    refine gg_icmp_ge 17 dX2_knows_10 (by decide) (fun hc => ?_) (fun hc => ?_)
    · replace h := gg_th h hc
      refine gg_fg [false, false] [none, none] rfl ?_
      exact hk17 h
    · replace h := gg_el h hc
      refine gg_iconst (1 : Int32) dX2_knows_13 (by decide) ?_
      refine gg_goto 18 dX2_knows_14 (by decide) ?_
      refine gg_fg [false, false] [none, none] rfl ?_
      exact hk18 (1 : Int32) h
def wd_X8_within  : va_W := []
def MD_X8_within : gg_M := (yX8_within, cX8_within, 3, some .boolean, 0, 0)
theorem nS_X8_within : gg_nS MD_X8_within 3 := ⟨⟨gg_mem (by decide +kernel) rfl, gg_mem cw_X8_within rfl, by decide, by decide, by decide +kernel⟩, gg_mem (by decide +kernel) rfl⟩
def f_X8_within (a0 : Int32) (a1 : Int32) (a2 : Int32)  : Option (Int32) := gg_lt (fun (s0_15 : Int32) => gg_chk (gg_isb s0_15) (some s0_15)) (fun k15 => gg_lt ((k15 (0 : Int32))) (fun k14 => (if a0 < a1 then k14 else (if a2 < a0 then k14 else (k15 (1 : Int32))))))
set_option maxRecDepth 20000 in
set_option maxHeartbeats 8000000 in
theorem C_X8_within (a0 : Int32) (a1 : Int32) (a2 : Int32)  {res : Int32} (h : f_X8_within a0 a1 a2 = some res) : gg_C MD_X8_within [.int a0, .int a1, .int a2] (wd_X8_within) (some (.int res)) (wd_X8_within) := by
  refine gg_ofG [some (.int a0), some (.int a1), some (.int a2)] (plainFor_of_name (by decide)) (Nat.le_of_ble_eq_true rfl) rfl ?_
  unfold f_X8_within at h
  refine gg_iload_n dX8_within_0 rfl ?_
  refine gg_iload_n dX8_within_1 rfl ?_
  obtain ⟨k15, hke15, h⟩ := gg_lte h
  have hk15 : ∀ (s0_15 : Int32), k15 s0_15 = some res → gg_G MD_X8_within 15 [none, none, none] [.int s0_15] (wd_X8_within) (some (.int res)) (wd_X8_within) := by
    intro s0_15 h
    subst hke15
    obtain ⟨hz, h⟩ := gg_ck h
    cases h
    exact gg_zret dX8_within_15 rfl hz
  clear hke15
  obtain ⟨k14, hke14, h⟩ := gg_lte h
  have hk14 : k14 = some res → gg_G MD_X8_within 14 [none, none, none] [] (wd_X8_within) (some (.int res)) (wd_X8_within) := by
    intro  h
    subst hke14
    refine gg_iconst (0 : Int32) dX8_within_14 (by decide) ?_
    exact hk15 (0 : Int32) h
  clear hke14
  refine gg_icmp_gt 14 dX8_within_2 (by decide) (fun hc => ?_) (fun hc => ?_)
  · replace h := gg_th h hc
    refine gg_fg [false, false, false] [none, none, none] rfl ?_
    exact hk14 h
  · replace h := gg_el h hc
    refine gg_iload_n dX8_within_5 rfl ?_
    refine gg_iload_n dX8_within_6 rfl ?_
    refine gg_icmp_gt 14 dX8_within_7 (by decide) (fun hc => ?_) (fun hc => ?_)
    · replace h := gg_th h hc
      refine gg_fg [false, false, false] [none, none, none] rfl ?_
      exact hk14 h
    · replace h := gg_el h hc
      refine gg_iconst (1 : Int32) dX8_within_10 (by decide) ?_
      refine gg_goto 15 dX8_within_11 (by decide) ?_
      refine gg_fg [false, false, false] [none, none, none] rfl ?_
      exact hk15 (1 : Int32) h
def wd_X3_lateBy  : va_W := []
def MD_X3_lateBy : gg_M := (yX3_lateBy, cX3_lateBy, 1, some .int, 0, 0)
theorem nS_X3_lateBy : gg_nS MD_X3_lateBy 1 := ⟨⟨gg_mem (by decide +kernel) rfl, gg_mem cw_X3_lateBy rfl, by decide, by decide, by decide +kernel⟩, gg_mem (by decide +kernel) rfl⟩
def f_X3_lateBy (a0 : Int32)  : Option (Int32) := gg_lt ((some (1 : Int32))) (fun k42 => gg_lt ((some (2 : Int32))) (fun k40 => ((if a0 = (1 : Int32) then (some (3 : Int32)) else (if a0 = (2 : Int32) then k42 else (if a0 = (3 : Int32) then (some (0 : Int32)) else (if a0 = (4 : Int32) then k40 else (if a0 = (5 : Int32) then k40 else k42))))))))
set_option maxRecDepth 20000 in
set_option maxHeartbeats 8000000 in
theorem C_X3_lateBy (a0 : Int32)  {res : Int32} (h : f_X3_lateBy a0 = some res) : gg_C MD_X3_lateBy [.int a0] (wd_X3_lateBy) (some (.int res)) (wd_X3_lateBy) := by
  refine gg_ofG [some (.int a0)] (plainFor_of_name (by decide)) (Nat.le_of_ble_eq_true rfl) rfl ?_
  unfold f_X3_lateBy at h
  refine gg_iload_n dX3_lateBy_0 rfl ?_
  obtain ⟨k42, hke42, h⟩ := gg_lte h
  have hk42 : k42 = some res → gg_G MD_X3_lateBy 42 [none] [] (wd_X3_lateBy) (some (.int res)) (wd_X3_lateBy) := by
    intro  h
    subst hke42
    refine gg_iconst (1 : Int32) dX3_lateBy_42 (by decide) ?_
    cases h
    exact gg_iret dX3_lateBy_43 rfl
  clear hke42
  obtain ⟨k40, hke40, h⟩ := gg_lte h
  have hk40 : k40 = some res → gg_G MD_X3_lateBy 40 [none] [] (wd_X3_lateBy) (some (.int res)) (wd_X3_lateBy) := by
    intro  h
    subst hke40
    refine gg_iconst (2 : Int32) dX3_lateBy_40 (by decide) ?_
    cases h
    exact gg_iret dX3_lateBy_41 rfl
  clear hke40
  by_cases hs0 : a0 = (1 : Int32)
  · replace h := gg_th h hs0
    refine gg_swIn 36 dX3_lateBy_1 (by rw [hs0]; decide) (by rw [hs0]; decide) (off := (35)) (by rw [hs0]; decide) (by decide) ?_
    refine gg_iconst (3 : Int32) dX3_lateBy_36 (by decide) ?_
    cases h
    exact gg_iret dX3_lateBy_37 rfl
  replace h := gg_el h hs0
  by_cases hs1 : a0 = (2 : Int32)
  · replace h := gg_th h hs1
    refine gg_swIn 42 dX3_lateBy_1 (by rw [hs1]; decide) (by rw [hs1]; decide) (off := (41)) (by rw [hs1]; decide) (by decide) ?_
    refine gg_fg [false] [none] rfl ?_
    exact hk42 h
  replace h := gg_el h hs1
  by_cases hs2 : a0 = (3 : Int32)
  · replace h := gg_th h hs2
    refine gg_swIn 38 dX3_lateBy_1 (by rw [hs2]; decide) (by rw [hs2]; decide) (off := (37)) (by rw [hs2]; decide) (by decide) ?_
    refine gg_iconst (0 : Int32) dX3_lateBy_38 (by decide) ?_
    cases h
    exact gg_iret dX3_lateBy_39 rfl
  replace h := gg_el h hs2
  by_cases hs3 : a0 = (4 : Int32)
  · replace h := gg_th h hs3
    refine gg_swIn 40 dX3_lateBy_1 (by rw [hs3]; decide) (by rw [hs3]; decide) (off := (39)) (by rw [hs3]; decide) (by decide) ?_
    refine gg_fg [false] [none] rfl ?_
    exact hk40 h
  replace h := gg_el h hs3
  by_cases hs4 : a0 = (5 : Int32)
  · replace h := gg_th h hs4
    refine gg_swIn 40 dX3_lateBy_1 (by rw [hs4]; decide) (by rw [hs4]; decide) (off := (39)) (by rw [hs4]; decide) (by decide) ?_
    refine gg_fg [false] [none] rfl ?_
    exact hk40 h
  replace h := gg_el h hs4
  refine gg_swOut 42 dX3_lateBy_1 ?_ (by decide) ?_
  · have q0 := gg_ne32 hs0 (by decide : ((1 : Int32)).toInt = 1); have q1 := gg_ne32 hs1 (by decide : ((2 : Int32)).toInt = 2); have q2 := gg_ne32 hs2 (by decide : ((3 : Int32)).toInt = 3); have q3 := gg_ne32 hs3 (by decide : ((4 : Int32)).toInt = 4); have q4 := gg_ne32 hs4 (by decide : ((5 : Int32)).toInt = 5); omega
  refine gg_fg [false] [none] rfl ?_
  exact hk42 h
def wd_J9_floorMod_7cf53  : va_W := []
def MD_J9_floorMod_7cf53 : gg_M := (yJ9_floorMod_7cf53, cJ9_floorMod_7cf53, 3, some .int, 0, 0)
theorem nS_J9_floorMod_7cf53 : gg_nS MD_J9_floorMod_7cf53 2 := ⟨⟨gg_mem (by decide +kernel) rfl, gg_mem cw_J9_floorMod_7cf53 rfl, by decide, by decide, by decide +kernel⟩, gg_mem (by decide +kernel) rfl⟩
def f_J9_floorMod_7cf53 (a0 : Int32) (a1 : Int32)  : Option (Int32) := gg_chk (!decide (a1 = 0)) (gg_lt ((some (a0 - a0 / a1 * a1))) (fun k18 => (if (0 : Int32) ≤ (a0 ^^^ a1) then k18 else (if (a0 - a0 / a1 * a1) = (0 : Int32) then k18 else (some ((a0 - a0 / a1 * a1) + a1))))))
set_option maxRecDepth 20000 in
set_option maxHeartbeats 8000000 in
theorem C_J9_floorMod_7cf53 (a0 : Int32) (a1 : Int32)  {res : Int32} (h : f_J9_floorMod_7cf53 a0 a1 = some res) : gg_C MD_J9_floorMod_7cf53 [.int a0, .int a1] (wd_J9_floorMod_7cf53) (some (.int res)) (wd_J9_floorMod_7cf53) := by
  refine gg_ofG [some (.int a0), some (.int a1), none] (by decide +kernel) (Nat.le_of_ble_eq_true rfl) rfl ?_
  unfold f_J9_floorMod_7cf53 at h
  refine gg_iload_n dJ9_floorMod_7cf53_0 rfl ?_
  refine gg_iload_n dJ9_floorMod_7cf53_1 rfl ?_
  obtain ⟨hz2, h⟩ := gg_ck h
  refine gg_irem dJ9_floorMod_7cf53_2 (gg_nz hz2) ?_
  refine gg_istore_n [some (.int a0), some (.int a1), some (.int (a0 - a0 / a1 * a1))] dJ9_floorMod_7cf53_3 rfl (Nat.le_of_ble_eq_true rfl) rfl ?_
  refine gg_iload_n dJ9_floorMod_7cf53_4 rfl ?_
  refine gg_iload_n dJ9_floorMod_7cf53_5 rfl ?_
  refine gg_ixor dJ9_floorMod_7cf53_6 ?_
  obtain ⟨k18, hke18, h⟩ := gg_lte h
  have hk18 : k18 = some res → gg_G MD_J9_floorMod_7cf53 18 [none, none, some (.int (a0 - a0 / a1 * a1))] [] (wd_J9_floorMod_7cf53) (some (.int res)) (wd_J9_floorMod_7cf53) := by
    intro  h
    subst hke18
    refine gg_iload_n dJ9_floorMod_7cf53_18 rfl ?_
    cases h
    exact gg_iret dJ9_floorMod_7cf53_19 rfl
  clear hke18
  refine gg_if_ge 18 dJ9_floorMod_7cf53_7 (by decide) (fun hc => ?_) (fun hc => ?_)
  · replace h := gg_th h hc
    refine gg_fg [false, false, true] [none, none, some (.int (a0 - a0 / a1 * a1))] rfl ?_
    exact hk18 h
  · replace h := gg_el h hc
    refine gg_iload_n dJ9_floorMod_7cf53_10 rfl ?_
    refine gg_if_eq 18 dJ9_floorMod_7cf53_11 (by decide) (fun hc => ?_) (fun hc => ?_)
    · replace h := gg_th h hc
      refine gg_fg [false, false, true] [none, none, some (.int (a0 - a0 / a1 * a1))] rfl ?_
      exact hk18 h
    · replace h := gg_el h hc
      refine gg_iload_n dJ9_floorMod_7cf53_14 rfl ?_
      refine gg_iload_n dJ9_floorMod_7cf53_15 rfl ?_
      refine gg_iadd dJ9_floorMod_7cf53_16 ?_
      cases h
      exact gg_iret dJ9_floorMod_7cf53_17 rfl
def wd_X2_windDue (c_huts : Int32) (c_food : Int32) (c_due : Int32) (c_backs : Int32) (c_winds : Nat → Int32) : va_W := [(0, .inr (2, [.int c_huts, .int c_food, .int c_due, .ref 1, .ref 2, .ref 3, .ref 4, .ref 5, .ref 6, .ref 7, .int c_backs])), (1, .inl (0, 4, .inl c_winds))]
def MD_X2_windDue : gg_M := (yX2_windDue, cX2_windDue, 1, some .int, 1, 22)
theorem nV_X2_windDue : gg_nV MD_X2_windDue 0 := ⟨⟨gg_mem (by decide +kernel) rfl, gg_mem cw_X2_windDue rfl, by decide, by decide, by decide +kernel⟩, gg_mem (by decide +kernel) rfl, gg_mem (by decide +kernel) rfl⟩
def f_X2_windDue  (c_due : Int32) (c_winds : Nat → Int32) : Option (Int32) := (f_J9_floorMod_7cf53 c_due (4 : Int32)).bind (fun v1 => gg_chk (gg_in v1 4) ((some (c_winds v1.toNatClampNeg))))
set_option maxRecDepth 20000 in
set_option maxHeartbeats 8000000 in
theorem C_X2_windDue  (c_huts : Int32) (c_food : Int32) (c_due : Int32) (c_backs : Int32) (c_winds : Nat → Int32) {res : Int32} (h : f_X2_windDue c_due c_winds = some res) : gg_C MD_X2_windDue [.ref 0] (wd_X2_windDue c_huts c_food c_due c_backs c_winds) (some (.int res)) (wd_X2_windDue c_huts c_food c_due c_backs c_winds) := by
  refine gg_ofG [some (.ref 0)] (plainFor_of_name (by decide)) (Nat.le_of_ble_eq_true rfl) rfl ?_
  unfold f_X2_windDue at h
  refine gg_aload_n dX2_windDue_0 rfl ?_
  refine gg_get 0 fl_X2_21 dX2_windDue_1 rfl rfl ?_
  refine gg_aload_n dX2_windDue_4 rfl ?_
  refine gg_get 0 fl_X2_18 dX2_windDue_5 rfl rfl ?_
  refine gg_aload_n dX2_windDue_8 rfl ?_
  refine gg_get 0 fl_X2_21 dX2_windDue_9 rfl rfl ?_
  refine gg_alen (4 : Int32) 1 dX2_windDue_12 rfl (by decide) rfl ?_
  obtain ⟨v1, hv1, h⟩ := gg_bd h
  refine gg_callS (gg_sg []) [] (wd_X2_windDue c_huts c_food c_due c_backs c_winds) (C_J9_floorMod_7cf53 c_due (4 : Int32) hv1) nS_J9_floorMod_7cf53 ml_X2_53 rfl rfl rfl rfl rfl rfl rfl [0, 1] 2 rfl rfl rfl rfl rfl ⟨Nat.le_of_ble_eq_true rfl, Nat.le_of_ble_eq_true rfl⟩ (Nat.le_of_ble_eq_true rfl) dX2_windDue_13 [.int v1, .ref 1] rfl ?_
  obtain ⟨hb16, h⟩ := gg_ck h
  refine gg_iald 1 dX2_windDue_16 rfl hb16 ?_
  cases h
  exact gg_iret dX2_windDue_17 rfl
def wd_X3_stays  : va_W := []
def MD_X3_stays : gg_M := (yX3_stays, cX3_stays, 2, some .boolean, 0, 0)
theorem nS_X3_stays : gg_nS MD_X3_stays 2 := ⟨⟨gg_mem (by decide +kernel) rfl, gg_mem cw_X3_stays rfl, by decide, by decide, by decide +kernel⟩, gg_mem (by decide +kernel) rfl⟩
def f_X3_stays (a0 : Int32) (a1 : Int32)  : Option (Int32) := gg_lt (fun (s0_15 : Int32) => gg_chk (gg_isb s0_15) (some s0_15)) (fun k15 => gg_lt ((k15 (0 : Int32))) (fun k14 => (if a0 = (2 : Int32) then (if a1 < (5 : Int32) then k14 else (k15 (1 : Int32))) else k14)))
set_option maxRecDepth 20000 in
set_option maxHeartbeats 8000000 in
theorem C_X3_stays (a0 : Int32) (a1 : Int32)  {res : Int32} (h : f_X3_stays a0 a1 = some res) : gg_C MD_X3_stays [.int a0, .int a1] (wd_X3_stays) (some (.int res)) (wd_X3_stays) := by
  refine gg_ofG [some (.int a0), some (.int a1)] (plainFor_of_name (by decide)) (Nat.le_of_ble_eq_true rfl) rfl ?_
  unfold f_X3_stays at h
  refine gg_iload_n dX3_stays_0 rfl ?_
  refine gg_iconst (2 : Int32) dX3_stays_1 (by decide) ?_
  obtain ⟨k15, hke15, h⟩ := gg_lte h
  have hk15 : ∀ (s0_15 : Int32), k15 s0_15 = some res → gg_G MD_X3_stays 15 [none, none] [.int s0_15] (wd_X3_stays) (some (.int res)) (wd_X3_stays) := by
    intro s0_15 h
    subst hke15
    obtain ⟨hz, h⟩ := gg_ck h
    cases h
    exact gg_zret dX3_stays_15 rfl hz
  clear hke15
  obtain ⟨k14, hke14, h⟩ := gg_lte h
  have hk14 : k14 = some res → gg_G MD_X3_stays 14 [none, none] [] (wd_X3_stays) (some (.int res)) (wd_X3_stays) := by
    intro  h
    subst hke14
    refine gg_iconst (0 : Int32) dX3_stays_14 (by decide) ?_
    exact hk15 (0 : Int32) h
  clear hke14
  refine gg_icmp_ne 14 dX3_stays_2 (by decide) (fun hc => ?_) (fun hc => ?_)
  · replace h := gg_el h hc
    refine gg_fg [false, false] [none, none] rfl ?_
    exact hk14 h
  · replace h := gg_th h hc
    refine gg_iload_n dX3_stays_5 rfl ?_
    refine gg_iconst (5 : Int32) dX3_stays_6 (by decide) ?_
    refine gg_icmp_lt 14 dX3_stays_7 (by decide) (fun hc => ?_) (fun hc => ?_)
    · replace h := gg_th h hc
      refine gg_fg [false, false] [none, none] rfl ?_
      exact hk14 h
    · replace h := gg_el h hc
      refine gg_iconst (1 : Int32) dX3_stays_10 (by decide) ?_
      refine gg_goto 15 dX3_stays_11 (by decide) ?_
      refine gg_fg [false, false] [none, none] rfl ?_
      exact hk15 (1 : Int32) h
def wd_X3_tiredInFlight  : va_W := []
def MD_X3_tiredInFlight : gg_M := (yX3_tiredInFlight, cX3_tiredInFlight, 2, some .int, 0, 0)
theorem nS_X3_tiredInFlight : gg_nS MD_X3_tiredInFlight 2 := ⟨⟨gg_mem (by decide +kernel) rfl, gg_mem cw_X3_tiredInFlight rfl, by decide, by decide, by decide +kernel⟩, gg_mem (by decide +kernel) rfl⟩
def f_X3_tiredInFlight (a0 : Int32) (a1 : Int32)  : Option (Int32) := gg_lt ((some (a1 + (1 : Int32)))) (fun k36 => gg_lt ((some a1)) (fun k50 => ((if a0 = (1 : Int32) then k36 else (if a0 = (2 : Int32) then k50 else (if a0 = (3 : Int32) then (some (a1 / (2 : Int32))) else (if a0 = (4 : Int32) then k36 else (if a0 = (5 : Int32) then (some ((a1 / (2 : Int32)) + (1 : Int32))) else k50))))))))
set_option maxRecDepth 20000 in
set_option maxHeartbeats 8000000 in
theorem C_X3_tiredInFlight (a0 : Int32) (a1 : Int32)  {res : Int32} (h : f_X3_tiredInFlight a0 a1 = some res) : gg_C MD_X3_tiredInFlight [.int a0, .int a1] (wd_X3_tiredInFlight) (some (.int res)) (wd_X3_tiredInFlight) := by
  refine gg_ofG [some (.int a0), some (.int a1)] (plainFor_of_name (by decide)) (Nat.le_of_ble_eq_true rfl) rfl ?_
  unfold f_X3_tiredInFlight at h
  refine gg_iload_n dX3_tiredInFlight_0 rfl ?_
  obtain ⟨k36, hke36, h⟩ := gg_lte h
  have hk36 : k36 = some res → gg_G MD_X3_tiredInFlight 36 [none, some (.int a1)] [] (wd_X3_tiredInFlight) (some (.int res)) (wd_X3_tiredInFlight) := by
    intro  h
    subst hke36
    refine gg_iload_n dX3_tiredInFlight_36 rfl ?_
    refine gg_iconst (1 : Int32) dX3_tiredInFlight_37 (by decide) ?_
    refine gg_iadd dX3_tiredInFlight_38 ?_
    cases h
    exact gg_iret dX3_tiredInFlight_39 rfl
  clear hke36
  obtain ⟨k50, hke50, h⟩ := gg_lte h
  have hk50 : k50 = some res → gg_G MD_X3_tiredInFlight 50 [none, some (.int a1)] [] (wd_X3_tiredInFlight) (some (.int res)) (wd_X3_tiredInFlight) := by
    intro  h
    subst hke50
    refine gg_iload_n dX3_tiredInFlight_50 rfl ?_
    cases h
    exact gg_iret dX3_tiredInFlight_51 rfl
  clear hke50
  by_cases hs0 : a0 = (1 : Int32)
  · replace h := gg_th h hs0
    refine gg_swIn 36 dX3_tiredInFlight_1 (by rw [hs0]; decide) (by rw [hs0]; decide) (off := (35)) (by rw [hs0]; decide) (by decide) ?_
    refine gg_fg [false, true] [none, some (.int a1)] rfl ?_
    exact hk36 h
  replace h := gg_el h hs0
  by_cases hs1 : a0 = (2 : Int32)
  · replace h := gg_th h hs1
    refine gg_swIn 50 dX3_tiredInFlight_1 (by rw [hs1]; decide) (by rw [hs1]; decide) (off := (49)) (by rw [hs1]; decide) (by decide) ?_
    refine gg_fg [false, true] [none, some (.int a1)] rfl ?_
    exact hk50 h
  replace h := gg_el h hs1
  by_cases hs2 : a0 = (3 : Int32)
  · replace h := gg_th h hs2
    refine gg_swIn 40 dX3_tiredInFlight_1 (by rw [hs2]; decide) (by rw [hs2]; decide) (off := (39)) (by rw [hs2]; decide) (by decide) ?_
    refine gg_iload_n dX3_tiredInFlight_40 rfl ?_
    refine gg_iconst (2 : Int32) dX3_tiredInFlight_41 (by decide) ?_
    refine gg_idiv dX3_tiredInFlight_42 (by decide) ?_
    cases h
    exact gg_iret dX3_tiredInFlight_43 rfl
  replace h := gg_el h hs2
  by_cases hs3 : a0 = (4 : Int32)
  · replace h := gg_th h hs3
    refine gg_swIn 36 dX3_tiredInFlight_1 (by rw [hs3]; decide) (by rw [hs3]; decide) (off := (35)) (by rw [hs3]; decide) (by decide) ?_
    refine gg_fg [false, true] [none, some (.int a1)] rfl ?_
    exact hk36 h
  replace h := gg_el h hs3
  by_cases hs4 : a0 = (5 : Int32)
  · replace h := gg_th h hs4
    refine gg_swIn 44 dX3_tiredInFlight_1 (by rw [hs4]; decide) (by rw [hs4]; decide) (off := (43)) (by rw [hs4]; decide) (by decide) ?_
    refine gg_iload_n dX3_tiredInFlight_44 rfl ?_
    refine gg_iconst (2 : Int32) dX3_tiredInFlight_45 (by decide) ?_
    refine gg_idiv dX3_tiredInFlight_46 (by decide) ?_
    refine gg_iconst (1 : Int32) dX3_tiredInFlight_47 (by decide) ?_
    refine gg_iadd dX3_tiredInFlight_48 ?_
    cases h
    exact gg_iret dX3_tiredInFlight_49 rfl
  replace h := gg_el h hs4
  refine gg_swOut 50 dX3_tiredInFlight_1 ?_ (by decide) ?_
  · have q0 := gg_ne32 hs0 (by decide : ((1 : Int32)).toInt = 1); have q1 := gg_ne32 hs1 (by decide : ((2 : Int32)).toInt = 2); have q2 := gg_ne32 hs2 (by decide : ((3 : Int32)).toInt = 3); have q3 := gg_ne32 hs3 (by decide : ((4 : Int32)).toInt = 4); have q4 := gg_ne32 hs4 (by decide : ((5 : Int32)).toInt = 5); omega
  refine gg_fg [false, true] [none, some (.int a1)] rfl ?_
  exact hk50 h
def wd_X3_tiredBy  : va_W := []
def MD_X3_tiredBy : gg_M := (yX3_tiredBy, cX3_tiredBy, 2, some .int, 1, 21)
theorem nS_X3_tiredBy : gg_nS MD_X3_tiredBy 2 := ⟨⟨gg_mem (by decide +kernel) rfl, gg_mem cw_X3_tiredBy rfl, by decide, by decide, by decide +kernel⟩, gg_mem (by decide +kernel) rfl⟩
def f_X3_tiredBy (a0 : Int32) (a1 : Int32)  : Option (Int32) := (f_X3_stays a0 a1).bind (fun v1 => gg_lt (fun (s0_17 : Int32) => (some s0_17)) (fun k17 => (if v1 = (0 : Int32) then (f_X3_tiredInFlight a0 a1).bind (fun v2 => (k17 v2)) else (k17 (0 : Int32)))))
set_option maxRecDepth 20000 in
set_option maxHeartbeats 8000000 in
theorem C_X3_tiredBy (a0 : Int32) (a1 : Int32)  {res : Int32} (h : f_X3_tiredBy a0 a1 = some res) : gg_C MD_X3_tiredBy [.int a0, .int a1] (wd_X3_tiredBy) (some (.int res)) (wd_X3_tiredBy) := by
  refine gg_ofG [some (.int a0), some (.int a1)] (plainFor_of_name (by decide)) (Nat.le_of_ble_eq_true rfl) rfl ?_
  unfold f_X3_tiredBy at h
  refine gg_iload_n dX3_tiredBy_0 rfl ?_
  refine gg_iload_n dX3_tiredBy_1 rfl ?_
  obtain ⟨v1, hv1, h⟩ := gg_bd h
  refine gg_callS (gg_sg []) [] (wd_X3_tiredBy) (C_X3_stays a0 a1 hv1) nS_X3_stays ml_X3_15 rfl rfl rfl rfl rfl rfl rfl [] 0 rfl rfl rfl rfl rfl ⟨Nat.le_of_ble_eq_true rfl, Nat.le_of_ble_eq_true rfl⟩ (Nat.le_of_ble_eq_true rfl) dX3_tiredBy_2 [.int v1] rfl ?_
  obtain ⟨k17, hke17, h⟩ := gg_lte h
  have hk17 : ∀ (s0_17 : Int32), k17 s0_17 = some res → gg_G MD_X3_tiredBy 17 [none, none] [.int s0_17] (wd_X3_tiredBy) (some (.int res)) (wd_X3_tiredBy) := by
    intro s0_17 h
    subst hke17
    cases h
    exact gg_iret dX3_tiredBy_17 rfl
  clear hke17
  refine gg_if_eq 12 dX3_tiredBy_5 (by decide) (fun hc => ?_) (fun hc => ?_)
  · replace h := gg_th h hc
    refine gg_iload_n dX3_tiredBy_12 rfl ?_
    refine gg_iload_n dX3_tiredBy_13 rfl ?_
    obtain ⟨v2, hv2, h⟩ := gg_bd h
    refine gg_callS (gg_sg []) [] (wd_X3_tiredBy) (C_X3_tiredInFlight a0 a1 hv2) nS_X3_tiredInFlight ml_X3_19 rfl rfl rfl rfl rfl rfl rfl [] 0 rfl rfl rfl rfl rfl ⟨Nat.le_of_ble_eq_true rfl, Nat.le_of_ble_eq_true rfl⟩ (Nat.le_of_ble_eq_true rfl) dX3_tiredBy_14 [.int v2] rfl ?_
    refine gg_fg [false, false] [none, none] rfl ?_
    exact hk17 v2 h
  · replace h := gg_el h hc
    refine gg_iconst (0 : Int32) dX3_tiredBy_8 (by decide) ?_
    refine gg_goto 17 dX3_tiredBy_9 (by decide) ?_
    refine gg_fg [false, false] [none, none] rfl ?_
    exact hk17 (0 : Int32) h
def wd_X2_ofHut (c_huts : Int32) (c_food : Int32) (c_due : Int32) (c_backs : Int32) (c_winds : Nat → Int32) (c_kind : Nat → Int32) (c_home : Nat → Int32) (c_strength : Nat → Int32) (c_brown : Nat → Int32) (c_brick : Nat → Int32) : va_W := [(0, .inr (2, [.int c_huts, .int c_food, .int c_due, .ref 1, .ref 2, .ref 3, .ref 4, .ref 5, .ref 6, .ref 7, .int c_backs])), (1, .inl (0, 4, .inl c_winds)), (2, .inl (0, 6, .inl c_kind)), (3, .inl (0, 6, .inl c_home)), (4, .inl (0, 6, .inl c_strength)), (5, .inl (0, 6, .inl c_brown)), (6, .inl (0, 6, .inl c_brick))]
def MD_X2_ofHut : gg_M := (yX2_ofHut, cX2_ofHut, 3, some .int, 2, 42)
theorem nV_X2_ofHut : gg_nV MD_X2_ofHut 2 := ⟨⟨gg_mem (by decide +kernel) rfl, gg_mem cw_X2_ofHut rfl, by decide, by decide, by decide +kernel⟩, gg_mem (by decide +kernel) rfl, gg_mem (by decide +kernel) rfl⟩
def f_X2_ofHut (a0 : Int32) (a1 : Int32) (c_due : Int32) (c_winds : Nat → Int32) (c_kind : Nat → Int32) (c_home : Nat → Int32) (c_strength : Nat → Int32) (c_brown : Nat → Int32) (c_brick : Nat → Int32) : Option (Int32) := ((if a1 = (0 : Int32) then gg_chk (gg_in a0 6) ((some (c_kind a0.toNatClampNeg))) else (if a1 = (1 : Int32) then gg_chk (gg_in a0 6) ((some (c_home a0.toNatClampNeg))) else (if a1 = (2 : Int32) then gg_chk (gg_in a0 6) ((some (c_strength a0.toNatClampNeg))) else (if a1 = (3 : Int32) then gg_chk (gg_in a0 6) ((some (c_brown a0.toNatClampNeg))) else (if a1 = (4 : Int32) then gg_chk (gg_in a0 6) ((some (c_brick a0.toNatClampNeg))) else (if a1 = (5 : Int32) then gg_chk (gg_in a0 6) ((f_X2_windDue c_due c_winds).bind (fun v1 => (f_X3_tiredBy (c_kind a0.toNatClampNeg) v1).bind (fun v2 => (some v2)))) else gg_chk (gg_in a0 6) ((f_X3_lateBy (c_kind a0.toNatClampNeg)).bind (fun v3 => (some v3))))))))))
set_option maxRecDepth 20000 in
set_option maxHeartbeats 8000000 in
theorem C_X2_ofHut (a0 : Int32) (a1 : Int32) (c_huts : Int32) (c_food : Int32) (c_due : Int32) (c_backs : Int32) (c_winds : Nat → Int32) (c_kind : Nat → Int32) (c_home : Nat → Int32) (c_strength : Nat → Int32) (c_brown : Nat → Int32) (c_brick : Nat → Int32) {res : Int32} (h : f_X2_ofHut a0 a1 c_due c_winds c_kind c_home c_strength c_brown c_brick = some res) : gg_C MD_X2_ofHut [.ref 0, .int a0, .int a1] (wd_X2_ofHut c_huts c_food c_due c_backs c_winds c_kind c_home c_strength c_brown c_brick) (some (.int res)) (wd_X2_ofHut c_huts c_food c_due c_backs c_winds c_kind c_home c_strength c_brown c_brick) := by
  refine gg_ofG [some (.ref 0), some (.int a0), some (.int a1)] (plainFor_of_name (by decide)) (Nat.le_of_ble_eq_true rfl) rfl ?_
  unfold f_X2_ofHut at h
  refine gg_iload_n dX2_ofHut_0 rfl ?_
  by_cases hs0 : a1 = (0 : Int32)
  · replace h := gg_th h hs0
    refine gg_swIn 40 dX2_ofHut_1 (by rw [hs0]; decide) (by rw [hs0]; decide) (off := (39)) (by rw [hs0]; decide) (by decide) ?_
    refine gg_aload_n dX2_ofHut_40 rfl ?_
    refine gg_get 0 fl_X2_25 dX2_ofHut_41 rfl rfl ?_
    refine gg_iload_n dX2_ofHut_44 rfl ?_
    obtain ⟨hb45, h⟩ := gg_ck h
    refine gg_iald 2 dX2_ofHut_45 rfl hb45 ?_
    cases h
    exact gg_iret dX2_ofHut_46 rfl
  replace h := gg_el h hs0
  by_cases hs1 : a1 = (1 : Int32)
  · replace h := gg_th h hs1
    refine gg_swIn 47 dX2_ofHut_1 (by rw [hs1]; decide) (by rw [hs1]; decide) (off := (46)) (by rw [hs1]; decide) (by decide) ?_
    refine gg_aload_n dX2_ofHut_47 rfl ?_
    refine gg_get 0 fl_X2_28 dX2_ofHut_48 rfl rfl ?_
    refine gg_iload_n dX2_ofHut_51 rfl ?_
    obtain ⟨hb52, h⟩ := gg_ck h
    refine gg_iald 3 dX2_ofHut_52 rfl hb52 ?_
    cases h
    exact gg_iret dX2_ofHut_53 rfl
  replace h := gg_el h hs1
  by_cases hs2 : a1 = (2 : Int32)
  · replace h := gg_th h hs2
    refine gg_swIn 54 dX2_ofHut_1 (by rw [hs2]; decide) (by rw [hs2]; decide) (off := (53)) (by rw [hs2]; decide) (by decide) ?_
    refine gg_aload_n dX2_ofHut_54 rfl ?_
    refine gg_get 0 fl_X2_31 dX2_ofHut_55 rfl rfl ?_
    refine gg_iload_n dX2_ofHut_58 rfl ?_
    obtain ⟨hb59, h⟩ := gg_ck h
    refine gg_iald 4 dX2_ofHut_59 rfl hb59 ?_
    cases h
    exact gg_iret dX2_ofHut_60 rfl
  replace h := gg_el h hs2
  by_cases hs3 : a1 = (3 : Int32)
  · replace h := gg_th h hs3
    refine gg_swIn 61 dX2_ofHut_1 (by rw [hs3]; decide) (by rw [hs3]; decide) (off := (60)) (by rw [hs3]; decide) (by decide) ?_
    refine gg_aload_n dX2_ofHut_61 rfl ?_
    refine gg_get 0 fl_X2_34 dX2_ofHut_62 rfl rfl ?_
    refine gg_iload_n dX2_ofHut_65 rfl ?_
    obtain ⟨hb66, h⟩ := gg_ck h
    refine gg_iald 5 dX2_ofHut_66 rfl hb66 ?_
    cases h
    exact gg_iret dX2_ofHut_67 rfl
  replace h := gg_el h hs3
  by_cases hs4 : a1 = (4 : Int32)
  · replace h := gg_th h hs4
    refine gg_swIn 68 dX2_ofHut_1 (by rw [hs4]; decide) (by rw [hs4]; decide) (off := (67)) (by rw [hs4]; decide) (by decide) ?_
    refine gg_aload_n dX2_ofHut_68 rfl ?_
    refine gg_get 0 fl_X2_37 dX2_ofHut_69 rfl rfl ?_
    refine gg_iload_n dX2_ofHut_72 rfl ?_
    obtain ⟨hb73, h⟩ := gg_ck h
    refine gg_iald 6 dX2_ofHut_73 rfl hb73 ?_
    cases h
    exact gg_iret dX2_ofHut_74 rfl
  replace h := gg_el h hs4
  by_cases hs5 : a1 = (5 : Int32)
  · replace h := gg_th h hs5
    refine gg_swIn 75 dX2_ofHut_1 (by rw [hs5]; decide) (by rw [hs5]; decide) (off := (74)) (by rw [hs5]; decide) (by decide) ?_
    refine gg_aload_n dX2_ofHut_75 rfl ?_
    refine gg_get 0 fl_X2_25 dX2_ofHut_76 rfl rfl ?_
    refine gg_iload_n dX2_ofHut_79 rfl ?_
    obtain ⟨hb80, h⟩ := gg_ck h
    refine gg_iald 2 dX2_ofHut_80 rfl hb80 ?_
    refine gg_aload_n dX2_ofHut_81 rfl ?_
    obtain ⟨v1, hv1, h⟩ := gg_bd h
    refine gg_callV (gg_sg [0]) [0, 1] (wd_X2_ofHut c_huts c_food c_due c_backs c_winds c_kind c_home c_strength c_brown c_brick) 0 (C_X2_windDue c_huts c_food c_due c_backs c_winds hv1) nV_X2_windDue ml_X2_64 rfl rfl rfl rfl rfl rfl rfl rfl rfl rfl [2, 3, 4, 5, 6] 7 rfl rfl rfl rfl rfl ⟨Nat.le_of_ble_eq_true rfl, Nat.le_of_ble_eq_true rfl⟩ (Nat.le_of_ble_eq_true rfl) dX2_ofHut_82 [.int v1, .int (c_kind a0.toNatClampNeg)] rfl ?_
    obtain ⟨v2, hv2, h⟩ := gg_bd h
    refine gg_callS (gg_sg []) [] (wd_X2_ofHut c_huts c_food c_due c_backs c_winds c_kind c_home c_strength c_brown c_brick) (C_X3_tiredBy (c_kind a0.toNatClampNeg) v1 hv2) nS_X3_tiredBy ml_X2_68 rfl rfl rfl rfl rfl rfl rfl [0, 1, 2, 3, 4, 5, 6] 7 rfl rfl rfl rfl rfl ⟨Nat.le_of_ble_eq_true rfl, Nat.le_of_ble_eq_true rfl⟩ (Nat.le_of_ble_eq_true rfl) dX2_ofHut_85 [.int v2] rfl ?_
    cases h
    exact gg_iret dX2_ofHut_88 rfl
  replace h := gg_el h hs5
  refine gg_swOut 89 dX2_ofHut_1 ?_ (by decide) ?_
  · have q0 := gg_ne32 hs0 (by decide : ((0 : Int32)).toInt = 0); have q1 := gg_ne32 hs1 (by decide : ((1 : Int32)).toInt = 1); have q2 := gg_ne32 hs2 (by decide : ((2 : Int32)).toInt = 2); have q3 := gg_ne32 hs3 (by decide : ((3 : Int32)).toInt = 3); have q4 := gg_ne32 hs4 (by decide : ((4 : Int32)).toInt = 4); have q5 := gg_ne32 hs5 (by decide : ((5 : Int32)).toInt = 5); omega
  refine gg_aload_n dX2_ofHut_89 rfl ?_
  refine gg_get 0 fl_X2_25 dX2_ofHut_90 rfl rfl ?_
  refine gg_iload_n dX2_ofHut_93 rfl ?_
  obtain ⟨hb94, h⟩ := gg_ck h
  refine gg_iald 2 dX2_ofHut_94 rfl hb94 ?_
  obtain ⟨v3, hv3, h⟩ := gg_bd h
  refine gg_callS (gg_sg []) [] (wd_X2_ofHut c_huts c_food c_due c_backs c_winds c_kind c_home c_strength c_brown c_brick) (C_X3_lateBy (c_kind a0.toNatClampNeg) hv3) nS_X3_lateBy ml_X2_71 rfl rfl rfl rfl rfl rfl rfl [0, 1, 2, 3, 4, 5, 6] 7 rfl rfl rfl rfl rfl ⟨Nat.le_of_ble_eq_true rfl, Nat.le_of_ble_eq_true rfl⟩ (Nat.le_of_ble_eq_true rfl) dX2_ofHut_95 [.int v3] rfl ?_
  cases h
  exact gg_iret dX2_ofHut_98 rfl
def wd_X8_hut (c_latestFinding : Int32) (c_told : Int32) (c_above : Int64) (c_below : Int64) (c_now_huts : Int32) (c_now_food : Int32) (c_now_due : Int32) (c_now_backs : Int32) (c_now_winds : Nat → Int32) (c_now_kind : Nat → Int32) (c_now_home : Nat → Int32) (c_now_strength : Nat → Int32) (c_now_brown : Nat → Int32) (c_now_brick : Nat → Int32) : va_W := [(0, .inr (7, [.ref 1, .ref 10, .ref 17, .ref 19, .ref 27, .ref 35, .ref 43, .ref 45, .ref 52, .ref 56, .ref 60, .ref 67, .int c_latestFinding, .int c_told, .long c_above, .long c_below])), (27, .inr (2, [.int c_now_huts, .int c_now_food, .int c_now_due, .ref 28, .ref 29, .ref 30, .ref 31, .ref 32, .ref 33, .ref 34, .int c_now_backs])), (28, .inl (0, 4, .inl c_now_winds)), (29, .inl (0, 6, .inl c_now_kind)), (30, .inl (0, 6, .inl c_now_home)), (31, .inl (0, 6, .inl c_now_strength)), (32, .inl (0, 6, .inl c_now_brown)), (33, .inl (0, 6, .inl c_now_brick))]
def MD_X8_hut : gg_M := (yX8_hut, cX8_hut, 3, some .int, 3, 64)
theorem nV_X8_hut : gg_nV MD_X8_hut 2 := ⟨⟨gg_mem (by decide +kernel) rfl, gg_mem cw_X8_hut rfl, by decide, by decide, by decide +kernel⟩, gg_mem (by decide +kernel) rfl, gg_mem (by decide +kernel) rfl⟩
def f_X8_hut (a0 : Int32) (a1 : Int32) (c_told : Int32) (c_now_huts : Int32) (c_now_due : Int32) (c_now_winds : Nat → Int32) (c_now_kind : Nat → Int32) (c_now_home : Nat → Int32) (c_now_strength : Nat → Int32) (c_now_brown : Nat → Int32) (c_now_brick : Nat → Int32) : Option (Int32 × (Int32)) := (f_X2_knows a0 c_now_huts).bind (fun v1 => gg_lt ((some ((-1 : Int32), c_told))) (fun k21 => (if v1 = (0 : Int32) then k21 else (f_X8_within a1 (0 : Int32) (6 : Int32)).bind (fun v2 => (if v2 = (0 : Int32) then k21 else (f_X2_ofHut a0 a1 c_now_due c_now_winds c_now_kind c_now_home c_now_strength c_now_brown c_now_brick).bind (fun v3 => (some ((1 : Int32), v3))))))))
set_option maxRecDepth 20000 in
set_option maxHeartbeats 8000000 in
theorem C_X8_hut (a0 : Int32) (a1 : Int32) (c_latestFinding : Int32) (c_told : Int32) (c_above : Int64) (c_below : Int64) (c_now_huts : Int32) (c_now_food : Int32) (c_now_due : Int32) (c_now_backs : Int32) (c_now_winds : Nat → Int32) (c_now_kind : Nat → Int32) (c_now_home : Nat → Int32) (c_now_strength : Nat → Int32) (c_now_brown : Nat → Int32) (c_now_brick : Nat → Int32) {r0 : Int32} {r1 : (Int32)} (h : f_X8_hut a0 a1 c_told c_now_huts c_now_due c_now_winds c_now_kind c_now_home c_now_strength c_now_brown c_now_brick = some (r0, r1)) : gg_C MD_X8_hut [.ref 0, .int a0, .int a1] (wd_X8_hut c_latestFinding c_told c_above c_below c_now_huts c_now_food c_now_due c_now_backs c_now_winds c_now_kind c_now_home c_now_strength c_now_brown c_now_brick) (some (.int r0)) (wd_X8_hut c_latestFinding r1 c_above c_below c_now_huts c_now_food c_now_due c_now_backs c_now_winds c_now_kind c_now_home c_now_strength c_now_brown c_now_brick) := by
  refine gg_ofG [some (.ref 0), some (.int a0), some (.int a1)] (plainFor_of_name (by decide)) (Nat.le_of_ble_eq_true rfl) rfl ?_
  unfold f_X8_hut at h
  refine gg_aload_n dX8_hut_0 rfl ?_
  refine gg_get 0 fl_X8_35 dX8_hut_1 rfl rfl ?_
  refine gg_iload_n dX8_hut_4 rfl ?_
  obtain ⟨v1, hv1, h⟩ := gg_bd h
  refine gg_callV (gg_sg [27]) [1] (wd_X8_hut c_latestFinding c_told c_above c_below c_now_huts c_now_food c_now_due c_now_backs c_now_winds c_now_kind c_now_home c_now_strength c_now_brown c_now_brick) 0 (C_X2_knows a0 c_now_huts c_now_food c_now_due c_now_backs hv1) nV_X2_knows ml_X8_154 rfl rfl rfl rfl rfl rfl rfl rfl rfl rfl [0, 2, 3, 4, 5, 6, 7] 8 rfl rfl rfl rfl rfl ⟨Nat.le_of_ble_eq_true rfl, Nat.le_of_ble_eq_true rfl⟩ (Nat.le_of_ble_eq_true rfl) dX8_hut_5 [.int v1] rfl ?_
  obtain ⟨k21, hke21, h⟩ := gg_lte h
  have hk21 : k21 = some (r0, r1) → gg_G MD_X8_hut 21 [none, none, none] [] (wd_X8_hut c_latestFinding c_told c_above c_below c_now_huts c_now_food c_now_due c_now_backs c_now_winds c_now_kind c_now_home c_now_strength c_now_brown c_now_brick) (some (.int r0)) (wd_X8_hut c_latestFinding r1 c_above c_below c_now_huts c_now_food c_now_due c_now_backs c_now_winds c_now_kind c_now_home c_now_strength c_now_brown c_now_brick) := by
    intro  h
    subst hke21
    refine gg_iconst (-1 : Int32) dX8_hut_21 (by decide) ?_
    cases h
    exact gg_iret dX8_hut_22 rfl
  clear hke21
  refine gg_if_eq 21 dX8_hut_8 (by decide) (fun hc => ?_) (fun hc => ?_)
  · replace h := gg_th h hc
    refine gg_fg [false, false, false] [none, none, none] rfl ?_
    exact hk21 h
  · replace h := gg_el h hc
    refine gg_iload_n dX8_hut_11 rfl ?_
    refine gg_iconst (0 : Int32) dX8_hut_12 (by decide) ?_
    refine gg_bipush (6 : Int32) dX8_hut_13 (by decide) ?_
    obtain ⟨v2, hv2, h⟩ := gg_bd h
    refine gg_callS (gg_sg []) [] (wd_X8_hut c_latestFinding c_told c_above c_below c_now_huts c_now_food c_now_due c_now_backs c_now_winds c_now_kind c_now_home c_now_strength c_now_brown c_now_brick) (C_X8_within a1 (0 : Int32) (6 : Int32) hv2) nS_X8_within ml_X8_155 rfl rfl rfl rfl rfl rfl rfl [0, 1, 2, 3, 4, 5, 6, 7] 8 rfl rfl rfl rfl rfl ⟨Nat.le_of_ble_eq_true rfl, Nat.le_of_ble_eq_true rfl⟩ (Nat.le_of_ble_eq_true rfl) dX8_hut_15 [.int v2] rfl ?_
    refine gg_if_ne 23 dX8_hut_18 (by decide) (fun hc => ?_) (fun hc => ?_)
    · replace h := gg_el h hc
      refine gg_aload_n dX8_hut_23 rfl ?_
      refine gg_aload_n dX8_hut_24 rfl ?_
      refine gg_get 0 fl_X8_35 dX8_hut_25 rfl rfl ?_
      refine gg_iload_n dX8_hut_28 rfl ?_
      refine gg_iload_n dX8_hut_29 rfl ?_
      obtain ⟨v3, hv3, h⟩ := gg_bd h
      refine gg_callV (gg_sg [27]) [1, 2, 3, 4, 5, 6, 7] (wd_X8_hut c_latestFinding c_told c_above c_below c_now_huts c_now_food c_now_due c_now_backs c_now_winds c_now_kind c_now_home c_now_strength c_now_brown c_now_brick) 0 (C_X2_ofHut a0 a1 c_now_huts c_now_food c_now_due c_now_backs c_now_winds c_now_kind c_now_home c_now_strength c_now_brown c_now_brick hv3) nV_X2_ofHut ml_X8_158 rfl rfl rfl rfl rfl rfl rfl rfl rfl rfl [0] 8 rfl rfl rfl rfl rfl ⟨Nat.le_of_ble_eq_true rfl, Nat.le_of_ble_eq_true rfl⟩ (Nat.le_of_ble_eq_true rfl) dX8_hut_30 [.int v3, .ref 0] rfl ?_
      refine gg_putf 0 (wd_X8_hut c_latestFinding v3 c_above c_below c_now_huts c_now_food c_now_due c_now_backs c_now_winds c_now_kind c_now_home c_now_strength c_now_brown c_now_brick) fl_X8_83 dX8_hut_33 rfl (Nat.le_of_ble_eq_true rfl) (fun _ => ⟨rfl, rfl⟩) rfl ?_
      refine gg_iconst (1 : Int32) dX8_hut_36 (by decide) ?_
      cases h
      exact gg_iret dX8_hut_37 rfl
    · replace h := gg_th h hc
      refine gg_fg [false, false, false] [none, none, none] rfl ?_
      exact hk21 h
def wd_X3_isOf  : va_W := []
def MD_X3_isOf : gg_M := (yX3_isOf, cX3_isOf, 2, some .boolean, 0, 0)
theorem nS_X3_isOf : gg_nS MD_X3_isOf 2 := ⟨⟨gg_mem (by decide +kernel) rfl, gg_mem cw_X3_isOf rfl, by decide, by decide, by decide +kernel⟩, gg_mem (by decide +kernel) rfl⟩
def f_X3_isOf (a0 : Int32) (a1 : Int32)  : Option (Int32) := gg_lt (fun (s0_34 : Int32) => gg_chk (gg_isb s0_34) (some s0_34)) (fun k34 => gg_lt ((k34 (1 : Int32))) (fun k29 => (if a1 = a0 then k29 else (if a1 = (0 : Int32) then k29 else gg_lt (gg_lt ((k34 (0 : Int32))) (fun k33 => (if a1 = (3 : Int32) then (if a0 = (5 : Int32) then k29 else k33) else k33))) (fun k19 => (if a1 = (1 : Int32) then (if a0 = (4 : Int32) then k29 else k19) else k19))))))
set_option maxRecDepth 20000 in
set_option maxHeartbeats 8000000 in
theorem C_X3_isOf (a0 : Int32) (a1 : Int32)  {res : Int32} (h : f_X3_isOf a0 a1 = some res) : gg_C MD_X3_isOf [.int a0, .int a1] (wd_X3_isOf) (some (.int res)) (wd_X3_isOf) := by
  refine gg_ofG [some (.int a0), some (.int a1)] (plainFor_of_name (by decide)) (Nat.le_of_ble_eq_true rfl) rfl ?_
  unfold f_X3_isOf at h
  refine gg_iload_n dX3_isOf_0 rfl ?_
  refine gg_iload_n dX3_isOf_1 rfl ?_
  obtain ⟨k34, hke34, h⟩ := gg_lte h
  have hk34 : ∀ (s0_34 : Int32), k34 s0_34 = some res → gg_G MD_X3_isOf 34 [none, none] [.int s0_34] (wd_X3_isOf) (some (.int res)) (wd_X3_isOf) := by
    intro s0_34 h
    subst hke34
    obtain ⟨hz, h⟩ := gg_ck h
    cases h
    exact gg_zret dX3_isOf_34 rfl hz
  clear hke34
  obtain ⟨k29, hke29, h⟩ := gg_lte h
  have hk29 : k29 = some res → gg_G MD_X3_isOf 29 [none, none] [] (wd_X3_isOf) (some (.int res)) (wd_X3_isOf) := by
    intro  h
    subst hke29
    refine gg_iconst (1 : Int32) dX3_isOf_29 (by decide) ?_
    refine gg_goto 34 dX3_isOf_30 (by decide) ?_
    exact hk34 (1 : Int32) h
  clear hke29
  refine gg_icmp_eq 29 dX3_isOf_2 (by decide) (fun hc => ?_) (fun hc => ?_)
  · replace h := gg_th h hc
    refine gg_fg [false, false] [none, none] rfl ?_
    exact hk29 h
  · replace h := gg_el h hc
    refine gg_iload_n dX3_isOf_5 rfl ?_
    refine gg_if_eq 29 dX3_isOf_6 (by decide) (fun hc => ?_) (fun hc => ?_)
    · replace h := gg_th h hc
      refine gg_fg [false, false] [none, none] rfl ?_
      exact hk29 h
    · replace h := gg_el h hc
      refine gg_iload_n dX3_isOf_9 rfl ?_
      refine gg_iconst (1 : Int32) dX3_isOf_10 (by decide) ?_
      obtain ⟨k19, hke19, h⟩ := gg_lte h
      have hk19 : k19 = some res → gg_G MD_X3_isOf 19 [some (.int a0), some (.int a1)] [] (wd_X3_isOf) (some (.int res)) (wd_X3_isOf) := by
        intro  h
        subst hke19
        refine gg_iload_n dX3_isOf_19 rfl ?_
        refine gg_iconst (3 : Int32) dX3_isOf_20 (by decide) ?_
        obtain ⟨k33, hke33, h⟩ := gg_lte h
        have hk33 : k33 = some res → gg_G MD_X3_isOf 33 [none, none] [] (wd_X3_isOf) (some (.int res)) (wd_X3_isOf) := by
          intro  h
          subst hke33
          refine gg_iconst (0 : Int32) dX3_isOf_33 (by decide) ?_
          exact hk34 (0 : Int32) h
        clear hke33
        refine gg_icmp_ne 33 dX3_isOf_21 (by decide) (fun hc => ?_) (fun hc => ?_)
        · replace h := gg_el h hc
          refine gg_fg [false, false] [none, none] rfl ?_
          exact hk33 h
        · replace h := gg_th h hc
          refine gg_iload_n dX3_isOf_24 rfl ?_
          refine gg_iconst (5 : Int32) dX3_isOf_25 (by decide) ?_
          refine gg_icmp_ne 33 dX3_isOf_26 (by decide) (fun hc => ?_) (fun hc => ?_)
          · replace h := gg_el h hc
            refine gg_fg [false, false] [none, none] rfl ?_
            exact hk33 h
          · replace h := gg_th h hc
            refine gg_fg [false, false] [none, none] rfl ?_
            exact hk29 h
      clear hke19
      refine gg_icmp_ne 19 dX3_isOf_11 (by decide) (fun hc => ?_) (fun hc => ?_)
      · replace h := gg_el h hc
        exact hk19 h
      · replace h := gg_th h hc
        refine gg_iload_n dX3_isOf_14 rfl ?_
        refine gg_iconst (4 : Int32) dX3_isOf_15 (by decide) ?_
        refine gg_icmp_eq 29 dX3_isOf_16 (by decide) (fun hc => ?_) (fun hc => ?_)
        · replace h := gg_th h hc
          refine gg_fg [false, false] [none, none] rfl ?_
          exact hk29 h
        · replace h := gg_el h hc
          exact hk19 h
def wd_X2_howManyLessLate (c_huts : Int32) (c_food : Int32) (c_due : Int32) (c_backs : Int32) (c_kind : Nat → Int32) : va_W := [(0, .inr (2, [.int c_huts, .int c_food, .int c_due, .ref 1, .ref 2, .ref 3, .ref 4, .ref 5, .ref 6, .ref 7, .int c_backs])), (2, .inl (0, 6, .inl c_kind))]
def MD_X2_howManyLessLate : gg_M := (yX2_howManyLessLate, cX2_howManyLessLate, 4, some .int, 1, 20)
theorem nV_X2_howManyLessLate : gg_nV MD_X2_howManyLessLate 1 := ⟨⟨gg_mem (by decide +kernel) rfl, gg_mem cw_X2_howManyLessLate rfl, by decide, by decide, by decide +kernel⟩, gg_mem (by decide +kernel) rfl, gg_mem (by decide +kernel) rfl⟩
def lp_X2_howManyLessLate_4 {β : Type} (y1 : Int32) (c_huts : Int32) (c_kind : Nat → Int32) (k42 : (Int32) → Option β) : Nat → (Int32) → (Int32) → Option β
  | 0, _, _ => none
  | n + 1, x2_4, x3_4 => (if c_huts ≤ x3_4 then (k42 x2_4) else gg_chk (gg_in x3_4 6) ((f_X3_lateBy (c_kind x3_4.toNatClampNeg)).bind (fun v1 => gg_chk (gg_in y1 6) ((f_X3_lateBy (c_kind y1.toNatClampNeg)).bind (fun v2 => gg_lt (fun (x2_36 : Int32) => (lp_X2_howManyLessLate_4 y1 c_huts c_kind k42 n x2_36 (x3_4 + (1 : Int32)))) (fun k36 => (if v2 ≤ v1 then (k36 x2_4) else (k36 (x2_4 + (1 : Int32))))))))))
def f_X2_howManyLessLate (a0 : Int32) (c_huts : Int32) (c_kind : Nat → Int32) : Option (Int32) := (lp_X2_howManyLessLate_4 a0 c_huts c_kind (fun (x2_42 : Int32) => (some x2_42)) gg_fuel (0 : Int32) (0 : Int32))
set_option maxRecDepth 20000 in
set_option maxHeartbeats 4000000 in
theorem lq_X2_howManyLessLate_4 {β : Type} {res : β} {rr : Option Value} {ww : va_W} (y1 : Int32) (c_huts : Int32) (c_food : Int32) (c_due : Int32) (c_backs : Int32) (c_kind : Nat → Int32) (k42 : (Int32) → Option β) (hk42 : ∀ (x2_42 : Int32), k42 x2_42 = some res → gg_G MD_X2_howManyLessLate 42 [none, none, some (.int x2_42), none] [] (wd_X2_howManyLessLate c_huts c_food c_due c_backs c_kind) rr ww) : ∀ (n : Nat) (x2_4 : Int32) (x3_4 : Int32), lp_X2_howManyLessLate_4 y1 c_huts c_kind k42 n x2_4 x3_4 = some res → gg_G MD_X2_howManyLessLate 4 [some (.ref 0), some (.int y1), some (.int x2_4), some (.int x3_4)] [] (wd_X2_howManyLessLate c_huts c_food c_due c_backs c_kind) rr ww := by
  intro n
  induction n with
  | zero =>
    intro x2_4 x3_4 h
    exact nomatch (show (none : Option β) = some res from h)
  | succ n ih =>
    intro x2_4 x3_4 h
    rw [lp_X2_howManyLessLate_4] at h
    refine gg_iload_n dX2_howManyLessLate_4 rfl ?_
    refine gg_aload_n dX2_howManyLessLate_5 rfl ?_
    refine gg_get 0 fl_X2_9 dX2_howManyLessLate_6 rfl rfl ?_
    refine gg_icmp_ge 42 dX2_howManyLessLate_9 (by decide) (fun hc => ?_) (fun hc => ?_)
    · replace h := gg_th h hc
      refine gg_fg [false, false, true, false] [none, none, some (.int x2_4), none] rfl ?_
      exact hk42 x2_4 h
    · replace h := gg_el h hc
      refine gg_aload_n dX2_howManyLessLate_12 rfl ?_
      refine gg_get 0 fl_X2_25 dX2_howManyLessLate_13 rfl rfl ?_
      refine gg_iload_n dX2_howManyLessLate_16 rfl ?_
      obtain ⟨hb17, h⟩ := gg_ck h
      refine gg_iald 1 dX2_howManyLessLate_17 rfl hb17 ?_
      obtain ⟨v1, hv1, h⟩ := gg_bd h
      refine gg_callS (gg_sg []) [] (wd_X2_howManyLessLate c_huts c_food c_due c_backs c_kind) (C_X3_lateBy (c_kind x3_4.toNatClampNeg) hv1) nS_X3_lateBy ml_X2_71 rfl rfl rfl rfl rfl rfl rfl [0, 1] 2 rfl rfl rfl rfl rfl ⟨Nat.le_of_ble_eq_true rfl, Nat.le_of_ble_eq_true rfl⟩ (Nat.le_of_ble_eq_true rfl) dX2_howManyLessLate_18 [.int v1] rfl ?_
      refine gg_aload_n dX2_howManyLessLate_21 rfl ?_
      refine gg_get 0 fl_X2_25 dX2_howManyLessLate_22 rfl rfl ?_
      refine gg_iload_n dX2_howManyLessLate_25 rfl ?_
      obtain ⟨hb26, h⟩ := gg_ck h
      refine gg_iald 1 dX2_howManyLessLate_26 rfl hb26 ?_
      obtain ⟨v2, hv2, h⟩ := gg_bd h
      refine gg_callS (gg_sg []) [] (wd_X2_howManyLessLate c_huts c_food c_due c_backs c_kind) (C_X3_lateBy (c_kind y1.toNatClampNeg) hv2) nS_X3_lateBy ml_X2_71 rfl rfl rfl rfl rfl rfl rfl [0, 1] 2 rfl rfl rfl rfl rfl ⟨Nat.le_of_ble_eq_true rfl, Nat.le_of_ble_eq_true rfl⟩ (Nat.le_of_ble_eq_true rfl) dX2_howManyLessLate_27 [.int v2, .int v1] rfl ?_
      obtain ⟨k36, hke36, h⟩ := gg_lte h
      have hk36 : ∀ (x2_36 : Int32), k36 x2_36 = some res → gg_G MD_X2_howManyLessLate 36 [some (.ref 0), some (.int y1), some (.int x2_36), some (.int x3_4)] [] (wd_X2_howManyLessLate c_huts c_food c_due c_backs c_kind) rr ww := by
        intro x2_36 h
        subst hke36
        refine gg_iinc (x3_4 + (1 : Int32)) [some (.ref 0), some (.int y1), some (.int x2_36), some (.int (x3_4 + (1 : Int32)))] dX2_howManyLessLate_36 rfl rfl rfl (Nat.le_of_ble_eq_true rfl) rfl ?_
        refine gg_goto 4 dX2_howManyLessLate_39 (by decide) ?_
        exact ih x2_36 (x3_4 + (1 : Int32)) h
      clear hke36
      refine gg_icmp_ge 36 dX2_howManyLessLate_30 (by decide) (fun hc => ?_) (fun hc => ?_)
      · replace h := gg_th h hc
        exact hk36 x2_4 h
      · replace h := gg_el h hc
        refine gg_iinc (x2_4 + (1 : Int32)) [some (.ref 0), some (.int y1), some (.int (x2_4 + (1 : Int32))), some (.int x3_4)] dX2_howManyLessLate_33 rfl rfl rfl (Nat.le_of_ble_eq_true rfl) rfl ?_
        exact hk36 (x2_4 + (1 : Int32)) h
set_option maxRecDepth 20000 in
set_option maxHeartbeats 8000000 in
theorem C_X2_howManyLessLate (a0 : Int32) (c_huts : Int32) (c_food : Int32) (c_due : Int32) (c_backs : Int32) (c_kind : Nat → Int32) {res : Int32} (h : f_X2_howManyLessLate a0 c_huts c_kind = some res) : gg_C MD_X2_howManyLessLate [.ref 0, .int a0] (wd_X2_howManyLessLate c_huts c_food c_due c_backs c_kind) (some (.int res)) (wd_X2_howManyLessLate c_huts c_food c_due c_backs c_kind) := by
  refine gg_ofG [some (.ref 0), some (.int a0), none, none] (plainFor_of_name (by decide)) (Nat.le_of_ble_eq_true rfl) rfl ?_
  unfold f_X2_howManyLessLate at h
  refine gg_iconst (0 : Int32) dX2_howManyLessLate_0 (by decide) ?_
  refine gg_istore_n [some (.ref 0), some (.int a0), some (.int (0 : Int32)), none] dX2_howManyLessLate_1 rfl (Nat.le_of_ble_eq_true rfl) rfl ?_
  refine gg_iconst (0 : Int32) dX2_howManyLessLate_2 (by decide) ?_
  refine gg_istore_n [some (.ref 0), some (.int a0), some (.int (0 : Int32)), some (.int (0 : Int32))] dX2_howManyLessLate_3 rfl (Nat.le_of_ble_eq_true rfl) rfl ?_
  refine lq_X2_howManyLessLate_4 a0 c_huts c_food c_due c_backs c_kind _ ?_ gg_fuel (0 : Int32) (0 : Int32) h
  intro x2_42 h
  refine gg_iload_n dX2_howManyLessLate_42 rfl ?_
  cases h
  exact gg_iret dX2_howManyLessLate_43 rfl
def wd_X3_wants  : va_W := []
def MD_X3_wants : gg_M := (yX3_wants, cX3_wants, 2, some .int, 0, 0)
theorem nS_X3_wants : gg_nS MD_X3_wants 2 := ⟨⟨gg_mem (by decide +kernel) rfl, gg_mem cw_X3_wants rfl, by decide, by decide, by decide +kernel⟩, gg_mem (by decide +kernel) rfl⟩
def f_X3_wants (a0 : Int32) (a1 : Int32)  : Option (Int32) := (if a0 = (4 : Int32) then gg_lt (fun (s0_20 : Int32) => (some s0_20)) (fun k20 => (if a1 < (9 : Int32) then (k20 (a1 + (1 : Int32))) else (k20 (0 : Int32)))) else (some a1))
set_option maxRecDepth 20000 in
set_option maxHeartbeats 8000000 in
theorem C_X3_wants (a0 : Int32) (a1 : Int32)  {res : Int32} (h : f_X3_wants a0 a1 = some res) : gg_C MD_X3_wants [.int a0, .int a1] (wd_X3_wants) (some (.int res)) (wd_X3_wants) := by
  refine gg_ofG [some (.int a0), some (.int a1)] (plainFor_of_name (by decide)) (Nat.le_of_ble_eq_true rfl) rfl ?_
  unfold f_X3_wants at h
  refine gg_iload_n dX3_wants_0 rfl ?_
  refine gg_iconst (4 : Int32) dX3_wants_1 (by decide) ?_
  refine gg_icmp_eq 7 dX3_wants_2 (by decide) (fun hc => ?_) (fun hc => ?_)
  · replace h := gg_th h hc
    refine gg_iload_n dX3_wants_7 rfl ?_
    refine gg_bipush (9 : Int32) dX3_wants_8 (by decide) ?_
    obtain ⟨k20, hke20, h⟩ := gg_lte h
    have hk20 : ∀ (s0_20 : Int32), k20 s0_20 = some res → gg_G MD_X3_wants 20 [none, none] [.int s0_20] (wd_X3_wants) (some (.int res)) (wd_X3_wants) := by
      intro s0_20 h
      subst hke20
      cases h
      exact gg_iret dX3_wants_20 rfl
    clear hke20
    refine gg_icmp_lt 17 dX3_wants_10 (by decide) (fun hc => ?_) (fun hc => ?_)
    · replace h := gg_th h hc
      refine gg_iload_n dX3_wants_17 rfl ?_
      refine gg_iconst (1 : Int32) dX3_wants_18 (by decide) ?_
      refine gg_iadd dX3_wants_19 ?_
      refine gg_fg [false, false] [none, none] rfl ?_
      exact hk20 (a1 + (1 : Int32)) h
    · replace h := gg_el h hc
      refine gg_iconst (0 : Int32) dX3_wants_13 (by decide) ?_
      refine gg_goto 20 dX3_wants_14 (by decide) ?_
      refine gg_fg [false, false] [none, none] rfl ?_
      exact hk20 (0 : Int32) h
  · replace h := gg_el h hc
    refine gg_iload_n dX3_wants_5 rfl ?_
    cases h
    exact gg_iret dX3_wants_6 rfl
def wd_X2_wanted (c_huts : Int32) (c_food : Int32) (c_due : Int32) (c_backs : Int32) (c_kind : Nat → Int32) (c_home : Nat → Int32) : va_W := [(0, .inr (2, [.int c_huts, .int c_food, .int c_due, .ref 1, .ref 2, .ref 3, .ref 4, .ref 5, .ref 6, .ref 7, .int c_backs])), (2, .inl (0, 6, .inl c_kind)), (3, .inl (0, 6, .inl c_home))]
def MD_X2_wanted : gg_M := (yX2_wanted, cX2_wanted, 2, some .int, 1, 21)
theorem nV_X2_wanted : gg_nV MD_X2_wanted 1 := ⟨⟨gg_mem (by decide +kernel) rfl, gg_mem cw_X2_wanted rfl, by decide, by decide, by decide +kernel⟩, gg_mem (by decide +kernel) rfl, gg_mem (by decide +kernel) rfl⟩
def f_X2_wanted (a0 : Int32) (c_kind : Nat → Int32) (c_home : Nat → Int32) : Option (Int32) := gg_chk (gg_in a0 6) (gg_chk (gg_in a0 6) ((f_X3_wants (c_kind a0.toNatClampNeg) (c_home a0.toNatClampNeg)).bind (fun v1 => (some v1))))
set_option maxRecDepth 20000 in
set_option maxHeartbeats 8000000 in
theorem C_X2_wanted (a0 : Int32) (c_huts : Int32) (c_food : Int32) (c_due : Int32) (c_backs : Int32) (c_kind : Nat → Int32) (c_home : Nat → Int32) {res : Int32} (h : f_X2_wanted a0 c_kind c_home = some res) : gg_C MD_X2_wanted [.ref 0, .int a0] (wd_X2_wanted c_huts c_food c_due c_backs c_kind c_home) (some (.int res)) (wd_X2_wanted c_huts c_food c_due c_backs c_kind c_home) := by
  refine gg_ofG [some (.ref 0), some (.int a0)] (plainFor_of_name (by decide)) (Nat.le_of_ble_eq_true rfl) rfl ?_
  unfold f_X2_wanted at h
  refine gg_aload_n dX2_wanted_0 rfl ?_
  refine gg_get 0 fl_X2_25 dX2_wanted_1 rfl rfl ?_
  refine gg_iload_n dX2_wanted_4 rfl ?_
  obtain ⟨hb5, h⟩ := gg_ck h
  refine gg_iald 1 dX2_wanted_5 rfl hb5 ?_
  refine gg_aload_n dX2_wanted_6 rfl ?_
  refine gg_get 0 fl_X2_28 dX2_wanted_7 rfl rfl ?_
  refine gg_iload_n dX2_wanted_10 rfl ?_
  obtain ⟨hb11, h⟩ := gg_ck h
  refine gg_iald 2 dX2_wanted_11 rfl hb11 ?_
  obtain ⟨v1, hv1, h⟩ := gg_bd h
  refine gg_callS (gg_sg []) [] (wd_X2_wanted c_huts c_food c_due c_backs c_kind c_home) (C_X3_wants (c_kind a0.toNatClampNeg) (c_home a0.toNatClampNeg) hv1) nS_X3_wants ml_X2_59 rfl rfl rfl rfl rfl rfl rfl [0, 1, 2] 3 rfl rfl rfl rfl rfl ⟨Nat.le_of_ble_eq_true rfl, Nat.le_of_ble_eq_true rfl⟩ (Nat.le_of_ble_eq_true rfl) dX2_wanted_12 [.int v1] rfl ?_
  cases h
  exact gg_iret dX2_wanted_15 rfl
def wd_X2_hostOf (c_huts : Int32) (c_food : Int32) (c_due : Int32) (c_backs : Int32) (c_kind : Nat → Int32) (c_home : Nat → Int32) (c_brick : Nat → Int32) : va_W := [(0, .inr (2, [.int c_huts, .int c_food, .int c_due, .ref 1, .ref 2, .ref 3, .ref 4, .ref 5, .ref 6, .ref 7, .int c_backs])), (2, .inl (0, 6, .inl c_kind)), (3, .inl (0, 6, .inl c_home)), (6, .inl (0, 6, .inl c_brick))]
def MD_X2_hostOf : gg_M := (yX2_hostOf, cX2_hostOf, 3, some .int, 2, 42)
theorem nV_X2_hostOf : gg_nV MD_X2_hostOf 1 := ⟨⟨gg_mem (by decide +kernel) rfl, gg_mem cw_X2_hostOf rfl, by decide, by decide, by decide +kernel⟩, gg_mem (by decide +kernel) rfl, gg_mem (by decide +kernel) rfl⟩
def lp_X2_hostOf_2 {β : Type} (y1 : Int32) (c_huts : Int32) (c_kind : Nat → Int32) (c_home : Nat → Int32) (c_brick : Nat → Int32) (k24 : (Int32) → Option β) (k32 : Option β) : Nat → (Int32) → Option β
  | 0, _ => none
  | n + 1, x2_2 => (if c_huts ≤ x2_2 then k32 else gg_chk (gg_in x2_2 6) ((f_X2_wanted y1 c_kind c_home).bind (fun v1 => (if (c_brick x2_2.toNatClampNeg) = v1 then (k24 x2_2) else (lp_X2_hostOf_2 y1 c_huts c_kind c_home c_brick k24 k32 n (x2_2 + (1 : Int32)))))))
def f_X2_hostOf (a0 : Int32) (c_huts : Int32) (c_kind : Nat → Int32) (c_home : Nat → Int32) (c_brick : Nat → Int32) : Option (Int32) := (lp_X2_hostOf_2 a0 c_huts c_kind c_home c_brick (fun (x2_24 : Int32) => (some x2_24)) ((some (10 : Int32))) gg_fuel (0 : Int32))
set_option maxRecDepth 20000 in
set_option maxHeartbeats 4000000 in
theorem lq_X2_hostOf_2 {β : Type} {res : β} {rr : Option Value} {ww : va_W} (y1 : Int32) (c_huts : Int32) (c_food : Int32) (c_due : Int32) (c_backs : Int32) (c_kind : Nat → Int32) (c_home : Nat → Int32) (c_brick : Nat → Int32) (k24 : (Int32) → Option β) (k32 : Option β) (hk24 : ∀ (x2_24 : Int32), k24 x2_24 = some res → gg_G MD_X2_hostOf 24 [none, none, some (.int x2_24)] [] (wd_X2_hostOf c_huts c_food c_due c_backs c_kind c_home c_brick) rr ww) (hk32 : k32 = some res → gg_G MD_X2_hostOf 32 [none, none, none] [] (wd_X2_hostOf c_huts c_food c_due c_backs c_kind c_home c_brick) rr ww) : ∀ (n : Nat) (x2_2 : Int32), lp_X2_hostOf_2 y1 c_huts c_kind c_home c_brick k24 k32 n x2_2 = some res → gg_G MD_X2_hostOf 2 [some (.ref 0), some (.int y1), some (.int x2_2)] [] (wd_X2_hostOf c_huts c_food c_due c_backs c_kind c_home c_brick) rr ww := by
  intro n
  induction n with
  | zero =>
    intro x2_2 h
    exact nomatch (show (none : Option β) = some res from h)
  | succ n ih =>
    intro x2_2 h
    rw [lp_X2_hostOf_2] at h
    refine gg_iload_n dX2_hostOf_2 rfl ?_
    refine gg_aload_n dX2_hostOf_3 rfl ?_
    refine gg_get 0 fl_X2_9 dX2_hostOf_4 rfl rfl ?_
    refine gg_icmp_ge 32 dX2_hostOf_7 (by decide) (fun hc => ?_) (fun hc => ?_)
    · replace h := gg_th h hc
      refine gg_fg [false, false, false] [none, none, none] rfl ?_
      exact hk32 h
    · replace h := gg_el h hc
      refine gg_aload_n dX2_hostOf_10 rfl ?_
      refine gg_get 0 fl_X2_37 dX2_hostOf_11 rfl rfl ?_
      refine gg_iload_n dX2_hostOf_14 rfl ?_
      obtain ⟨hb15, h⟩ := gg_ck h
      refine gg_iald 3 dX2_hostOf_15 rfl hb15 ?_
      refine gg_aload_n dX2_hostOf_16 rfl ?_
      refine gg_iload_n dX2_hostOf_17 rfl ?_
      obtain ⟨v1, hv1, h⟩ := gg_bd h
      refine gg_callV (gg_sg [0]) [0, 1, 2] (wd_X2_hostOf c_huts c_food c_due c_backs c_kind c_home c_brick) 0 (C_X2_wanted y1 c_huts c_food c_due c_backs c_kind c_home hv1) nV_X2_wanted ml_X2_75 rfl rfl rfl rfl rfl rfl rfl rfl rfl rfl [3] 4 rfl rfl rfl rfl rfl ⟨Nat.le_of_ble_eq_true rfl, Nat.le_of_ble_eq_true rfl⟩ (Nat.le_of_ble_eq_true rfl) dX2_hostOf_18 [.int v1, .int (c_brick x2_2.toNatClampNeg)] rfl ?_
      refine gg_icmp_ne 26 dX2_hostOf_21 (by decide) (fun hc => ?_) (fun hc => ?_)
      · replace h := gg_el h hc
        refine gg_iinc (x2_2 + (1 : Int32)) [some (.ref 0), some (.int y1), some (.int (x2_2 + (1 : Int32)))] dX2_hostOf_26 rfl rfl rfl (Nat.le_of_ble_eq_true rfl) rfl ?_
        refine gg_goto 2 dX2_hostOf_29 (by decide) ?_
        exact ih (x2_2 + (1 : Int32)) h
      · replace h := gg_th h hc
        refine gg_fg [false, false, true] [none, none, some (.int x2_2)] rfl ?_
        exact hk24 x2_2 h
set_option maxRecDepth 20000 in
set_option maxHeartbeats 8000000 in
theorem C_X2_hostOf (a0 : Int32) (c_huts : Int32) (c_food : Int32) (c_due : Int32) (c_backs : Int32) (c_kind : Nat → Int32) (c_home : Nat → Int32) (c_brick : Nat → Int32) {res : Int32} (h : f_X2_hostOf a0 c_huts c_kind c_home c_brick = some res) : gg_C MD_X2_hostOf [.ref 0, .int a0] (wd_X2_hostOf c_huts c_food c_due c_backs c_kind c_home c_brick) (some (.int res)) (wd_X2_hostOf c_huts c_food c_due c_backs c_kind c_home c_brick) := by
  refine gg_ofG [some (.ref 0), some (.int a0), none] (plainFor_of_name (by decide)) (Nat.le_of_ble_eq_true rfl) rfl ?_
  unfold f_X2_hostOf at h
  refine gg_iconst (0 : Int32) dX2_hostOf_0 (by decide) ?_
  refine gg_istore_n [some (.ref 0), some (.int a0), some (.int (0 : Int32))] dX2_hostOf_1 rfl (Nat.le_of_ble_eq_true rfl) rfl ?_
  refine lq_X2_hostOf_2 a0 c_huts c_food c_due c_backs c_kind c_home c_brick _ _ ?_ ?_ gg_fuel (0 : Int32) h
  · intro x2_24 h
    refine gg_iload_n dX2_hostOf_24 rfl ?_
    cases h
    exact gg_iret dX2_hostOf_25 rfl
  · intro  h
    refine gg_bipush (10 : Int32) dX2_hostOf_32 (by decide) ?_
    cases h
    exact gg_iret dX2_hostOf_34 rfl
def wd_X8_mark (c_latestFinding : Int32) (c_told : Int32) (c_above : Int64) (c_below : Int64) (c_now_huts : Int32) (c_now_food : Int32) (c_now_due : Int32) (c_now_backs : Int32) (c_now_winds : Nat → Int32) (c_now_kind : Nat → Int32) (c_now_home : Nat → Int32) (c_now_brick : Nat → Int32) (c_found : Nat → Int32) : va_W := [(0, .inr (7, [.ref 1, .ref 10, .ref 17, .ref 19, .ref 27, .ref 35, .ref 43, .ref 45, .ref 52, .ref 56, .ref 60, .ref 67, .int c_latestFinding, .int c_told, .long c_above, .long c_below])), (27, .inr (2, [.int c_now_huts, .int c_now_food, .int c_now_due, .ref 28, .ref 29, .ref 30, .ref 31, .ref 32, .ref 33, .ref 34, .int c_now_backs])), (28, .inl (0, 4, .inl c_now_winds)), (29, .inl (0, 6, .inl c_now_kind)), (30, .inl (0, 6, .inl c_now_home)), (33, .inl (0, 6, .inl c_now_brick)), (67, .inl (0, 6, .inl c_found))]
def MD_X8_mark : gg_M := (yX8_mark, cX8_mark, 5, some .int, 3, 64)
theorem nV_X8_mark : gg_nV MD_X8_mark 2 := ⟨⟨gg_mem (by decide +kernel) rfl, gg_mem cw_X8_mark rfl, by decide, by decide, by decide +kernel⟩, gg_mem (by decide +kernel) rfl, gg_mem (by decide +kernel) rfl⟩
def f_X8_mark (a0 : Int32) (a1 : Int32) (c_latestFinding : Int32) (c_now_huts : Int32) (c_now_due : Int32) (c_now_winds : Nat → Int32) (c_now_kind : Nat → Int32) (c_now_home : Nat → Int32) (c_now_brick : Nat → Int32) (c_found : Nat → Int32) : Option (Int32 × (Int32) × (Nat → Int32)) := (f_X2_knows a0 c_now_huts).bind (fun v1 => gg_lt ((some ((-1 : Int32), c_latestFinding, c_found))) (fun k20 => (if v1 = (0 : Int32) then k20 else (f_X8_within a1 (1 : Int32) (5 : Int32)).bind (fun v2 => (if v2 = (0 : Int32) then k20 else gg_chk (gg_in a0 6) ((f_X3_isOf (c_now_kind a0.toNatClampNeg) a1).bind (fun v3 => (if v3 = (0 : Int32) then gg_b3 (f_X8_find (3 : Int32) c_latestFinding c_found) (fun v11_0 v11_1 v11_2 => (some (v11_0, v11_1, v11_2))) else (f_X2_windDue c_now_due c_now_winds).bind (fun v4 => gg_chk (gg_in a0 6) ((f_X3_tiredBy (c_now_kind a0.toNatClampNeg) v4).bind (fun v5 => ((if a1 = (1 : Int32) then (f_X3_tiredBy (0 : Int32) v4).bind (fun v6 => (some ((v5 - v6), c_latestFinding, c_found))) else (if a1 = (2 : Int32) then gg_chk (gg_in a0 6) ((f_X3_stays (c_now_kind a0.toNatClampNeg) v4).bind (fun v7 => gg_lt (fun (s0_130 : Int32) => (some (s0_130, c_latestFinding, c_found))) (fun k130 => (if v7 = (0 : Int32) then (k130 (0 : Int32)) else (k130 (1 : Int32)))))) else (if a1 = (3 : Int32) then (f_X3_tiredBy (0 : Int32) v4).bind (fun v8 => (some (((v8 - v5) + (10 : Int32)), c_latestFinding, c_found))) else (if a1 = (4 : Int32) then (f_X2_hostOf a0 c_now_huts c_now_kind c_now_home c_now_brick).bind (fun v9 => (some (v9, c_latestFinding, c_found))) else (f_X2_howManyLessLate a0 c_now_huts c_now_kind).bind (fun v10 => (some (v10, c_latestFinding, c_found)))))))))))))))))))
set_option maxRecDepth 20000 in
set_option maxHeartbeats 8000000 in
theorem C_X8_mark (a0 : Int32) (a1 : Int32) (c_latestFinding : Int32) (c_told : Int32) (c_above : Int64) (c_below : Int64) (c_now_huts : Int32) (c_now_food : Int32) (c_now_due : Int32) (c_now_backs : Int32) (c_now_winds : Nat → Int32) (c_now_kind : Nat → Int32) (c_now_home : Nat → Int32) (c_now_brick : Nat → Int32) (c_found : Nat → Int32) {r0 : Int32} {r1 : (Int32)} {r2 : (Nat → Int32)} (h : f_X8_mark a0 a1 c_latestFinding c_now_huts c_now_due c_now_winds c_now_kind c_now_home c_now_brick c_found = some (r0, r1, r2)) : gg_C MD_X8_mark [.ref 0, .int a0, .int a1] (wd_X8_mark c_latestFinding c_told c_above c_below c_now_huts c_now_food c_now_due c_now_backs c_now_winds c_now_kind c_now_home c_now_brick c_found) (some (.int r0)) (wd_X8_mark r1 c_told c_above c_below c_now_huts c_now_food c_now_due c_now_backs c_now_winds c_now_kind c_now_home c_now_brick r2) := by
  refine gg_ofG [some (.ref 0), some (.int a0), some (.int a1), none, none] (plainFor_of_name (by decide)) (Nat.le_of_ble_eq_true rfl) rfl ?_
  unfold f_X8_mark at h
  refine gg_aload_n dX8_mark_0 rfl ?_
  refine gg_get 0 fl_X8_35 dX8_mark_1 rfl rfl ?_
  refine gg_iload_n dX8_mark_4 rfl ?_
  obtain ⟨v1, hv1, h⟩ := gg_bd h
  refine gg_callV (gg_sg [27]) [1] (wd_X8_mark c_latestFinding c_told c_above c_below c_now_huts c_now_food c_now_due c_now_backs c_now_winds c_now_kind c_now_home c_now_brick c_found) 0 (C_X2_knows a0 c_now_huts c_now_food c_now_due c_now_backs hv1) nV_X2_knows ml_X8_154 rfl rfl rfl rfl rfl rfl rfl rfl rfl rfl [0, 2, 3, 4, 5, 6] 7 rfl rfl rfl rfl rfl ⟨Nat.le_of_ble_eq_true rfl, Nat.le_of_ble_eq_true rfl⟩ (Nat.le_of_ble_eq_true rfl) dX8_mark_5 [.int v1] rfl ?_
  obtain ⟨k20, hke20, h⟩ := gg_lte h
  have hk20 : k20 = some (r0, r1, r2) → gg_G MD_X8_mark 20 [none, none, none, none, none] [] (wd_X8_mark c_latestFinding c_told c_above c_below c_now_huts c_now_food c_now_due c_now_backs c_now_winds c_now_kind c_now_home c_now_brick c_found) (some (.int r0)) (wd_X8_mark r1 c_told c_above c_below c_now_huts c_now_food c_now_due c_now_backs c_now_winds c_now_kind c_now_home c_now_brick r2) := by
    intro  h
    subst hke20
    refine gg_iconst (-1 : Int32) dX8_mark_20 (by decide) ?_
    cases h
    exact gg_iret dX8_mark_21 rfl
  clear hke20
  refine gg_if_eq 20 dX8_mark_8 (by decide) (fun hc => ?_) (fun hc => ?_)
  · replace h := gg_th h hc
    refine gg_fg [false, false, false, false, false] [none, none, none, none, none] rfl ?_
    exact hk20 h
  · replace h := gg_el h hc
    refine gg_iload_n dX8_mark_11 rfl ?_
    refine gg_iconst (1 : Int32) dX8_mark_12 (by decide) ?_
    refine gg_iconst (5 : Int32) dX8_mark_13 (by decide) ?_
    obtain ⟨v2, hv2, h⟩ := gg_bd h
    refine gg_callS (gg_sg []) [] (wd_X8_mark c_latestFinding c_told c_above c_below c_now_huts c_now_food c_now_due c_now_backs c_now_winds c_now_kind c_now_home c_now_brick c_found) (C_X8_within a1 (1 : Int32) (5 : Int32) hv2) nS_X8_within ml_X8_155 rfl rfl rfl rfl rfl rfl rfl [0, 1, 2, 3, 4, 5, 6] 7 rfl rfl rfl rfl rfl ⟨Nat.le_of_ble_eq_true rfl, Nat.le_of_ble_eq_true rfl⟩ (Nat.le_of_ble_eq_true rfl) dX8_mark_14 [.int v2] rfl ?_
    refine gg_if_ne 22 dX8_mark_17 (by decide) (fun hc => ?_) (fun hc => ?_)
    · replace h := gg_el h hc
      refine gg_aload_n dX8_mark_22 rfl ?_
      refine gg_get 0 fl_X8_35 dX8_mark_23 rfl rfl ?_
      refine gg_get 1 fl_X8_163 dX8_mark_26 rfl rfl ?_
      refine gg_iload_n dX8_mark_29 rfl ?_
      obtain ⟨hb30, h⟩ := gg_ck h
      refine gg_iald 3 dX8_mark_30 rfl hb30 ?_
      refine gg_iload_n dX8_mark_31 rfl ?_
      obtain ⟨v3, hv3, h⟩ := gg_bd h
      refine gg_callS (gg_sg []) [] (wd_X8_mark c_latestFinding c_told c_above c_below c_now_huts c_now_food c_now_due c_now_backs c_now_winds c_now_kind c_now_home c_now_brick c_found) (C_X3_isOf (c_now_kind a0.toNatClampNeg) a1 hv3) nS_X3_isOf ml_X8_166 rfl rfl rfl rfl rfl rfl rfl [0, 1, 2, 3, 4, 5, 6] 7 rfl rfl rfl rfl rfl ⟨Nat.le_of_ble_eq_true rfl, Nat.le_of_ble_eq_true rfl⟩ (Nat.le_of_ble_eq_true rfl) dX8_mark_32 [.int v3] rfl ?_
      refine gg_if_ne 44 dX8_mark_35 (by decide) (fun hc => ?_) (fun hc => ?_)
      · replace h := gg_el h hc
        refine gg_aload_n dX8_mark_44 rfl ?_
        refine gg_get 0 fl_X8_35 dX8_mark_45 rfl rfl ?_
        obtain ⟨v4, hv4, h⟩ := gg_bd h
        refine gg_callV (gg_sg [27]) [1, 2] (wd_X8_mark c_latestFinding c_told c_above c_below c_now_huts c_now_food c_now_due c_now_backs c_now_winds c_now_kind c_now_home c_now_brick c_found) 0 (C_X2_windDue c_now_huts c_now_food c_now_due c_now_backs c_now_winds hv4) nV_X2_windDue ml_X8_170 rfl rfl rfl rfl rfl rfl rfl rfl rfl rfl [0, 3, 4, 5, 6] 7 rfl rfl rfl rfl rfl ⟨Nat.le_of_ble_eq_true rfl, Nat.le_of_ble_eq_true rfl⟩ (Nat.le_of_ble_eq_true rfl) dX8_mark_48 [.int v4] rfl ?_
        refine gg_istore_n [some (.ref 0), some (.int a0), some (.int a1), some (.int v4), none] dX8_mark_51 rfl (Nat.le_of_ble_eq_true rfl) rfl ?_
        refine gg_aload_n dX8_mark_52 rfl ?_
        refine gg_get 0 fl_X8_35 dX8_mark_53 rfl rfl ?_
        refine gg_get 1 fl_X8_163 dX8_mark_56 rfl rfl ?_
        refine gg_iload_n dX8_mark_59 rfl ?_
        obtain ⟨hb60, h⟩ := gg_ck h
        refine gg_iald 3 dX8_mark_60 rfl hb60 ?_
        refine gg_iload_n dX8_mark_61 rfl ?_
        obtain ⟨v5, hv5, h⟩ := gg_bd h
        refine gg_callS (gg_sg []) [] (wd_X8_mark c_latestFinding c_told c_above c_below c_now_huts c_now_food c_now_due c_now_backs c_now_winds c_now_kind c_now_home c_now_brick c_found) (C_X3_tiredBy (c_now_kind a0.toNatClampNeg) v4 hv5) nS_X3_tiredBy ml_X8_174 rfl rfl rfl rfl rfl rfl rfl [0, 1, 2, 3, 4, 5, 6] 7 rfl rfl rfl rfl rfl ⟨Nat.le_of_ble_eq_true rfl, Nat.le_of_ble_eq_true rfl⟩ (Nat.le_of_ble_eq_true rfl) dX8_mark_62 [.int v5] rfl ?_
        refine gg_istore [some (.ref 0), some (.int a0), some (.int a1), some (.int v4), some (.int v5)] dX8_mark_65 rfl (Nat.le_of_ble_eq_true rfl) rfl ?_
        refine gg_iload_n dX8_mark_67 rfl ?_
        by_cases hs0 : a1 = (1 : Int32)
        · replace h := gg_th h hs0
          refine gg_swIn 100 dX8_mark_68 (by rw [hs0]; decide) (by rw [hs0]; decide) (off := (32)) (by rw [hs0]; decide) (by decide) ?_
          refine gg_iload dX8_mark_100 rfl ?_
          refine gg_iconst (0 : Int32) dX8_mark_102 (by decide) ?_
          refine gg_iload_n dX8_mark_103 rfl ?_
          obtain ⟨v6, hv6, h⟩ := gg_bd h
          refine gg_callS (gg_sg []) [] (wd_X8_mark c_latestFinding c_told c_above c_below c_now_huts c_now_food c_now_due c_now_backs c_now_winds c_now_kind c_now_home c_now_brick c_found) (C_X3_tiredBy (0 : Int32) v4 hv6) nS_X3_tiredBy ml_X8_174 rfl rfl rfl rfl rfl rfl rfl [0, 1, 2, 3, 4, 5, 6] 7 rfl rfl rfl rfl rfl ⟨Nat.le_of_ble_eq_true rfl, Nat.le_of_ble_eq_true rfl⟩ (Nat.le_of_ble_eq_true rfl) dX8_mark_104 [.int v6, .int v5] rfl ?_
          refine gg_isub dX8_mark_107 ?_
          cases h
          exact gg_iret dX8_mark_108 rfl
        replace h := gg_el h hs0
        by_cases hs1 : a1 = (2 : Int32)
        · replace h := gg_th h hs1
          refine gg_swIn 109 dX8_mark_68 (by rw [hs1]; decide) (by rw [hs1]; decide) (off := (41)) (by rw [hs1]; decide) (by decide) ?_
          refine gg_aload_n dX8_mark_109 rfl ?_
          refine gg_get 0 fl_X8_35 dX8_mark_110 rfl rfl ?_
          refine gg_get 1 fl_X8_163 dX8_mark_113 rfl rfl ?_
          refine gg_iload_n dX8_mark_116 rfl ?_
          obtain ⟨hb117, h⟩ := gg_ck h
          refine gg_iald 3 dX8_mark_117 rfl hb117 ?_
          refine gg_iload_n dX8_mark_118 rfl ?_
          obtain ⟨v7, hv7, h⟩ := gg_bd h
          refine gg_callS (gg_sg []) [] (wd_X8_mark c_latestFinding c_told c_above c_below c_now_huts c_now_food c_now_due c_now_backs c_now_winds c_now_kind c_now_home c_now_brick c_found) (C_X3_stays (c_now_kind a0.toNatClampNeg) v4 hv7) nS_X3_stays ml_X8_177 rfl rfl rfl rfl rfl rfl rfl [0, 1, 2, 3, 4, 5, 6] 7 rfl rfl rfl rfl rfl ⟨Nat.le_of_ble_eq_true rfl, Nat.le_of_ble_eq_true rfl⟩ (Nat.le_of_ble_eq_true rfl) dX8_mark_119 [.int v7] rfl ?_
          obtain ⟨k130, hke130, h⟩ := gg_lte h
          have hk130 : ∀ (s0_130 : Int32), k130 s0_130 = some (r0, r1, r2) → gg_G MD_X8_mark 130 [none, none, none, none, none] [.int s0_130] (wd_X8_mark c_latestFinding c_told c_above c_below c_now_huts c_now_food c_now_due c_now_backs c_now_winds c_now_kind c_now_home c_now_brick c_found) (some (.int r0)) (wd_X8_mark r1 c_told c_above c_below c_now_huts c_now_food c_now_due c_now_backs c_now_winds c_now_kind c_now_home c_now_brick r2) := by
            intro s0_130 h
            subst hke130
            cases h
            exact gg_iret dX8_mark_130 rfl
          clear hke130
          refine gg_if_eq 129 dX8_mark_122 (by decide) (fun hc => ?_) (fun hc => ?_)
          · replace h := gg_th h hc
            refine gg_iconst (0 : Int32) dX8_mark_129 (by decide) ?_
            refine gg_fg [false, false, false, false, false] [none, none, none, none, none] rfl ?_
            exact hk130 (0 : Int32) h
          · replace h := gg_el h hc
            refine gg_iconst (1 : Int32) dX8_mark_125 (by decide) ?_
            refine gg_goto 130 dX8_mark_126 (by decide) ?_
            refine gg_fg [false, false, false, false, false] [none, none, none, none, none] rfl ?_
            exact hk130 (1 : Int32) h
        replace h := gg_el h hs1
        by_cases hs2 : a1 = (3 : Int32)
        · replace h := gg_th h hs2
          refine gg_swIn 131 dX8_mark_68 (by rw [hs2]; decide) (by rw [hs2]; decide) (off := (63)) (by rw [hs2]; decide) (by decide) ?_
          refine gg_iconst (0 : Int32) dX8_mark_131 (by decide) ?_
          refine gg_iload_n dX8_mark_132 rfl ?_
          obtain ⟨v8, hv8, h⟩ := gg_bd h
          refine gg_callS (gg_sg []) [] (wd_X8_mark c_latestFinding c_told c_above c_below c_now_huts c_now_food c_now_due c_now_backs c_now_winds c_now_kind c_now_home c_now_brick c_found) (C_X3_tiredBy (0 : Int32) v4 hv8) nS_X3_tiredBy ml_X8_174 rfl rfl rfl rfl rfl rfl rfl [0, 1, 2, 3, 4, 5, 6] 7 rfl rfl rfl rfl rfl ⟨Nat.le_of_ble_eq_true rfl, Nat.le_of_ble_eq_true rfl⟩ (Nat.le_of_ble_eq_true rfl) dX8_mark_133 [.int v8] rfl ?_
          refine gg_iload dX8_mark_136 rfl ?_
          refine gg_isub dX8_mark_138 ?_
          refine gg_bipush (10 : Int32) dX8_mark_139 (by decide) ?_
          refine gg_iadd dX8_mark_141 ?_
          cases h
          exact gg_iret dX8_mark_142 rfl
        replace h := gg_el h hs2
        by_cases hs3 : a1 = (4 : Int32)
        · replace h := gg_th h hs3
          refine gg_swIn 143 dX8_mark_68 (by rw [hs3]; decide) (by rw [hs3]; decide) (off := (75)) (by rw [hs3]; decide) (by decide) ?_
          refine gg_aload_n dX8_mark_143 rfl ?_
          refine gg_get 0 fl_X8_35 dX8_mark_144 rfl rfl ?_
          refine gg_iload_n dX8_mark_147 rfl ?_
          obtain ⟨v9, hv9, h⟩ := gg_bd h
          refine gg_callV (gg_sg [27]) [1, 3, 4, 5] (wd_X8_mark c_latestFinding c_told c_above c_below c_now_huts c_now_food c_now_due c_now_backs c_now_winds c_now_kind c_now_home c_now_brick c_found) 0 (C_X2_hostOf a0 c_now_huts c_now_food c_now_due c_now_backs c_now_kind c_now_home c_now_brick hv9) nV_X2_hostOf ml_X8_180 rfl rfl rfl rfl rfl rfl rfl rfl rfl rfl [0, 2, 6] 7 rfl rfl rfl rfl rfl ⟨Nat.le_of_ble_eq_true rfl, Nat.le_of_ble_eq_true rfl⟩ (Nat.le_of_ble_eq_true rfl) dX8_mark_148 [.int v9] rfl ?_
          cases h
          exact gg_iret dX8_mark_151 rfl
        replace h := gg_el h hs3
        refine gg_swOut 152 dX8_mark_68 ?_ (by decide) ?_
        · have q0 := gg_ne32 hs0 (by decide : ((1 : Int32)).toInt = 1); have q1 := gg_ne32 hs1 (by decide : ((2 : Int32)).toInt = 2); have q2 := gg_ne32 hs2 (by decide : ((3 : Int32)).toInt = 3); have q3 := gg_ne32 hs3 (by decide : ((4 : Int32)).toInt = 4); omega
        refine gg_aload_n dX8_mark_152 rfl ?_
        refine gg_get 0 fl_X8_35 dX8_mark_153 rfl rfl ?_
        refine gg_iload_n dX8_mark_156 rfl ?_
        obtain ⟨v10, hv10, h⟩ := gg_bd h
        refine gg_callV (gg_sg [27]) [1, 3] (wd_X8_mark c_latestFinding c_told c_above c_below c_now_huts c_now_food c_now_due c_now_backs c_now_winds c_now_kind c_now_home c_now_brick c_found) 0 (C_X2_howManyLessLate a0 c_now_huts c_now_food c_now_due c_now_backs c_now_kind hv10) nV_X2_howManyLessLate ml_X8_183 rfl rfl rfl rfl rfl rfl rfl rfl rfl rfl [0, 2, 4, 5, 6] 7 rfl rfl rfl rfl rfl ⟨Nat.le_of_ble_eq_true rfl, Nat.le_of_ble_eq_true rfl⟩ (Nat.le_of_ble_eq_true rfl) dX8_mark_157 [.int v10] rfl ?_
        cases h
        exact gg_iret dX8_mark_160 rfl
      · replace h := gg_th h hc
        refine gg_aload_n dX8_mark_38 rfl ?_
        refine gg_iconst (3 : Int32) dX8_mark_39 (by decide) ?_
        obtain ⟨v11_0, v11_1, v11_2, hv11, h⟩ := gg_bd3 h
        refine gg_callV (gg_sg [0]) [0, 6] (wd_X8_mark v11_1 c_told c_above c_below c_now_huts c_now_food c_now_due c_now_backs c_now_winds c_now_kind c_now_home c_now_brick v11_2) 0 (C_X8_find (3 : Int32) c_latestFinding c_told c_above c_below c_found hv11) nV_X8_find ml_X8_119 rfl rfl rfl rfl rfl rfl rfl rfl rfl rfl [1, 2, 3, 4, 5] 7 rfl rfl rfl rfl rfl ⟨Nat.le_of_ble_eq_true rfl, Nat.le_of_ble_eq_true rfl⟩ (Nat.le_of_ble_eq_true rfl) dX8_mark_40 [.int v11_0] rfl ?_
        cases h
        exact gg_iret dX8_mark_43 rfl
    · replace h := gg_th h hc
      refine gg_fg [false, false, false, false, false] [none, none, none, none, none] rfl ?_
      exact hk20 h
