def wd_X8_then (c_latestFinding : Int32) (c_told : Int32) (c_above : Int64) (c_below : Int64) (c_now_huts : Int32) (c_now_food : Int32) (c_now_due : Int32) (c_now_backs : Int32) (c_now_winds : Nat → Int32) (c_now_kind : Nat → Int32) (c_now_home : Nat → Int32) (c_now_strength : Nat → Int32) (c_now_brown : Nat → Int32) (c_now_brick : Nat → Int32) (c_aside_huts : Int32) (c_aside_food : Int32) (c_aside_due : Int32) (c_aside_backs : Int32) (c_aside_winds : Nat → Int32) (c_aside_kind : Nat → Int32) (c_aside_home : Nat → Int32) (c_aside_strength : Nat → Int32) (c_aside_brown : Nat → Int32) (c_aside_brick : Nat → Int32) (c_aside_back : Nat → Int32) : va_W := [(0, .inr (7, [.ref 1, .ref 10, .ref 17, .ref 19, .ref 27, .ref 35, .ref 43, .ref 45, .ref 52, .ref 56, .ref 60, .ref 67, .int c_latestFinding, .int c_told, .long c_above, .long c_below])), (27, .inr (2, [.int c_now_huts, .int c_now_food, .int c_now_due, .ref 28, .ref 29, .ref 30, .ref 31, .ref 32, .ref 33, .ref 34, .int c_now_backs])), (28, .inl (0, 4, .inl c_now_winds)), (29, .inl (0, 6, .inl c_now_kind)), (30, .inl (0, 6, .inl c_now_home)), (31, .inl (0, 6, .inl c_now_strength)), (32, .inl (0, 6, .inl c_now_brown)), (33, .inl (0, 6, .inl c_now_brick)), (35, .inr (2, [.int c_aside_huts, .int c_aside_food, .int c_aside_due, .ref 36, .ref 37, .ref 38, .ref 39, .ref 40, .ref 41, .ref 42, .int c_aside_backs])), (36, .inl (0, 4, .inl c_aside_winds)), (37, .inl (0, 6, .inl c_aside_kind)), (38, .inl (0, 6, .inl c_aside_home)), (39, .inl (0, 6, .inl c_aside_strength)), (40, .inl (0, 6, .inl c_aside_brown)), (41, .inl (0, 6, .inl c_aside_brick)), (42, .inl (0, 6, .inl c_aside_back))]
def MD_X8_then : gg_M := (yX8_then, cX8_then, 3, some .int, 5, 112)
theorem nV_X8_then : gg_nV MD_X8_then 2 := ⟨⟨gg_mem (by decide +kernel) rfl, gg_mem cw_X8_then rfl, by decide, by decide, by decide +kernel⟩, gg_mem (by decide +kernel) rfl, gg_mem (by decide +kernel) rfl⟩
def f_X8_then (a0 : Int32) (a1 : Int32) (c_told : Int32) (c_now_huts : Int32) (c_now_food : Int32) (c_now_due : Int32) (c_now_winds : Nat → Int32) (c_now_kind : Nat → Int32) (c_now_home : Nat → Int32) (c_now_strength : Nat → Int32) (c_now_brown : Nat → Int32) (c_now_brick : Nat → Int32) (c_aside_huts : Int32) (c_aside_food : Int32) (c_aside_due : Int32) (c_aside_backs : Int32) (c_aside_winds : Nat → Int32) (c_aside_kind : Nat → Int32) (c_aside_home : Nat → Int32) (c_aside_strength : Nat → Int32) (c_aside_brown : Nat → Int32) (c_aside_brick : Nat → Int32) (c_aside_back : Nat → Int32) : Option (Int32 × (Int32) × (Int32) × (Int32) × (Int32) × (Int32) × (Nat → Int32) × (Nat → Int32) × (Nat → Int32) × (Nat → Int32) × (Nat → Int32) × (Nat → Int32) × (Nat → Int32)) := (f_X2_knows a0 c_now_huts).bind (fun v1 => gg_lt ((some ((-1 : Int32), c_told, c_aside_huts, c_aside_food, c_aside_due, c_aside_backs, c_aside_winds, c_aside_kind, c_aside_home, c_aside_strength, c_aside_brown, c_aside_brick, c_aside_back))) (fun k21 => (if v1 = (0 : Int32) then k21 else (f_X8_within a1 (0 : Int32) (40 : Int32)).bind (fun v2 => (if v2 = (0 : Int32) then k21 else gg_b10 (f_X2_become c_aside_huts c_aside_food c_aside_due c_aside_backs c_aside_winds c_aside_kind c_aside_home c_aside_strength c_aside_brown c_aside_brick c_now_huts c_now_food c_now_due c_now_winds c_now_kind c_now_home c_now_strength c_now_brown c_now_brick) (fun v3_0 v3_1 v3_2 v3_3 v3_4 v3_5 v3_6 v3_7 v3_8 v3_9 => gg_b7 (f_X2_passWinters a1 v3_0 v3_1 v3_2 v3_3 v3_4 v3_5 v3_6 v3_7 v3_8 v3_9 c_aside_back) (fun v4_0 v4_1 v4_2 v4_3 v4_4 v4_5 v4_6 => (f_X2_isThere a0 v3_0 v4_5).bind (fun v5 => gg_lt (fun (c_told_66 : Int32) => gg_chk (gg_in a0 6) ((some ((v4_5 a0.toNatClampNeg), c_told_66, v3_0, v4_0, v4_1, v4_2, v3_4, v3_5, v3_6, v4_3, v4_4, v4_5, v4_6)))) (fun k66 => (if v5 = (0 : Int32) then (k66 c_told) else gg_chk (gg_in a0 6) ((k66 (v4_3 a0.toNatClampNeg)))))))))))))
set_option maxRecDepth 20000 in
set_option maxHeartbeats 8000000 in
theorem C_X8_then (a0 : Int32) (a1 : Int32) (c_latestFinding : Int32) (c_told : Int32) (c_above : Int64) (c_below : Int64) (c_now_huts : Int32) (c_now_food : Int32) (c_now_due : Int32) (c_now_backs : Int32) (c_now_winds : Nat → Int32) (c_now_kind : Nat → Int32) (c_now_home : Nat → Int32) (c_now_strength : Nat → Int32) (c_now_brown : Nat → Int32) (c_now_brick : Nat → Int32) (c_aside_huts : Int32) (c_aside_food : Int32) (c_aside_due : Int32) (c_aside_backs : Int32) (c_aside_winds : Nat → Int32) (c_aside_kind : Nat → Int32) (c_aside_home : Nat → Int32) (c_aside_strength : Nat → Int32) (c_aside_brown : Nat → Int32) (c_aside_brick : Nat → Int32) (c_aside_back : Nat → Int32) {r0 : Int32} {r1 : (Int32)} {r2 : (Int32)} {r3 : (Int32)} {r4 : (Int32)} {r5 : (Int32)} {r6 : (Nat → Int32)} {r7 : (Nat → Int32)} {r8 : (Nat → Int32)} {r9 : (Nat → Int32)} {r10 : (Nat → Int32)} {r11 : (Nat → Int32)} {r12 : (Nat → Int32)} (h : f_X8_then a0 a1 c_told c_now_huts c_now_food c_now_due c_now_winds c_now_kind c_now_home c_now_strength c_now_brown c_now_brick c_aside_huts c_aside_food c_aside_due c_aside_backs c_aside_winds c_aside_kind c_aside_home c_aside_strength c_aside_brown c_aside_brick c_aside_back = some (r0, r1, r2, r3, r4, r5, r6, r7, r8, r9, r10, r11, r12)) : gg_C MD_X8_then [.ref 0, .int a0, .int a1] (wd_X8_then c_latestFinding c_told c_above c_below c_now_huts c_now_food c_now_due c_now_backs c_now_winds c_now_kind c_now_home c_now_strength c_now_brown c_now_brick c_aside_huts c_aside_food c_aside_due c_aside_backs c_aside_winds c_aside_kind c_aside_home c_aside_strength c_aside_brown c_aside_brick c_aside_back) (some (.int r0)) (wd_X8_then c_latestFinding r1 c_above c_below c_now_huts c_now_food c_now_due c_now_backs c_now_winds c_now_kind c_now_home c_now_strength c_now_brown c_now_brick r2 r3 r4 r5 r6 r7 r8 r9 r10 r11 r12) := by
  refine gg_ofG [some (.ref 0), some (.int a0), some (.int a1)] (plainFor_of_name (by decide)) (Nat.le_of_ble_eq_true rfl) rfl ?_
  unfold f_X8_then at h
  refine gg_aload_n dX8_then_0 rfl ?_
  refine gg_get 0 fl_X8_35 dX8_then_1 rfl rfl ?_
  refine gg_iload_n dX8_then_4 rfl ?_
  obtain ⟨v1, hv1, h⟩ := gg_bd h
  refine gg_callV (gg_sg [27]) [1] (wd_X8_then c_latestFinding c_told c_above c_below c_now_huts c_now_food c_now_due c_now_backs c_now_winds c_now_kind c_now_home c_now_strength c_now_brown c_now_brick c_aside_huts c_aside_food c_aside_due c_aside_backs c_aside_winds c_aside_kind c_aside_home c_aside_strength c_aside_brown c_aside_brick c_aside_back) 0 (C_X2_knows a0 c_now_huts c_now_food c_now_due c_now_backs hv1) nV_X2_knows ml_X8_154 rfl rfl rfl rfl rfl rfl rfl rfl rfl rfl [0, 2, 3, 4, 5, 6, 7, 8, 9, 10, 11, 12, 13, 14, 15] 16 rfl rfl rfl rfl rfl ⟨Nat.le_of_ble_eq_true rfl, Nat.le_of_ble_eq_true rfl⟩ (Nat.le_of_ble_eq_true rfl) dX8_then_5 [.int v1] rfl ?_
  obtain ⟨k21, hke21, h⟩ := gg_lte h
  have hk21 : k21 = some (r0, r1, r2, r3, r4, r5, r6, r7, r8, r9, r10, r11, r12) → gg_G MD_X8_then 21 [none, none, none] [] (wd_X8_then c_latestFinding c_told c_above c_below c_now_huts c_now_food c_now_due c_now_backs c_now_winds c_now_kind c_now_home c_now_strength c_now_brown c_now_brick c_aside_huts c_aside_food c_aside_due c_aside_backs c_aside_winds c_aside_kind c_aside_home c_aside_strength c_aside_brown c_aside_brick c_aside_back) (some (.int r0)) (wd_X8_then c_latestFinding r1 c_above c_below c_now_huts c_now_food c_now_due c_now_backs c_now_winds c_now_kind c_now_home c_now_strength c_now_brown c_now_brick r2 r3 r4 r5 r6 r7 r8 r9 r10 r11 r12) := by
    intro  h
    subst hke21
    refine gg_iconst (-1 : Int32) dX8_then_21 (by decide) ?_
    cases h
    exact gg_iret dX8_then_22 rfl
  clear hke21
  refine gg_if_eq 21 dX8_then_8 (by decide) (fun hc => ?_) (fun hc => ?_)
  · replace h := gg_th h hc
    refine gg_fg [false, false, false] [none, none, none] rfl ?_
    exact hk21 h
  · replace h := gg_el h hc
    refine gg_iload_n dX8_then_11 rfl ?_
    refine gg_iconst (0 : Int32) dX8_then_12 (by decide) ?_
    refine gg_bipush (40 : Int32) dX8_then_13 (by decide) ?_
    obtain ⟨v2, hv2, h⟩ := gg_bd h
    refine gg_callS (gg_sg []) [] (wd_X8_then c_latestFinding c_told c_above c_below c_now_huts c_now_food c_now_due c_now_backs c_now_winds c_now_kind c_now_home c_now_strength c_now_brown c_now_brick c_aside_huts c_aside_food c_aside_due c_aside_backs c_aside_winds c_aside_kind c_aside_home c_aside_strength c_aside_brown c_aside_brick c_aside_back) (C_X8_within a1 (0 : Int32) (40 : Int32) hv2) nS_X8_within ml_X8_155 rfl rfl rfl rfl rfl rfl rfl [0, 1, 2, 3, 4, 5, 6, 7, 8, 9, 10, 11, 12, 13, 14, 15] 16 rfl rfl rfl rfl rfl ⟨Nat.le_of_ble_eq_true rfl, Nat.le_of_ble_eq_true rfl⟩ (Nat.le_of_ble_eq_true rfl) dX8_then_15 [.int v2] rfl ?_
    refine gg_if_ne 23 dX8_then_18 (by decide) (fun hc => ?_) (fun hc => ?_)
    · replace h := gg_el h hc
      refine gg_aload_n dX8_then_23 rfl ?_
      refine gg_get 0 fl_X8_38 dX8_then_24 rfl rfl ?_
      refine gg_aload_n dX8_then_27 rfl ?_
      refine gg_get 0 fl_X8_35 dX8_then_28 rfl rfl ?_
      obtain ⟨v3_0, v3_1, v3_2, v3_3, v3_4, v3_5, v3_6, v3_7, v3_8, v3_9, hv3, h⟩ := gg_bd10 h
      refine gg_callV (gg_sg [35, 27]) [8, 9, 10, 11, 12, 13, 14, 1, 2, 3, 4, 5, 6, 7] (wd_X8_then c_latestFinding c_told c_above c_below c_now_huts c_now_food c_now_due c_now_backs c_now_winds c_now_kind c_now_home c_now_strength c_now_brown c_now_brick v3_0 v3_1 v3_2 v3_3 v3_4 v3_5 v3_6 v3_7 v3_8 v3_9 c_aside_back) 0 (C_X2_become c_aside_huts c_aside_food c_aside_due c_aside_backs c_aside_winds c_aside_kind c_aside_home c_aside_strength c_aside_brown c_aside_brick c_now_huts c_now_food c_now_due c_now_backs c_now_winds c_now_kind c_now_home c_now_strength c_now_brown c_now_brick hv3) nV_X2_become ml_X8_145 rfl rfl rfl rfl rfl rfl rfl rfl rfl rfl [0, 15] 16 rfl rfl rfl rfl rfl ⟨Nat.le_of_ble_eq_true rfl, Nat.le_of_ble_eq_true rfl⟩ (Nat.le_of_ble_eq_true rfl) dX8_then_31 [] rfl ?_
      refine gg_aload_n dX8_then_34 rfl ?_
      refine gg_get 0 fl_X8_38 dX8_then_35 rfl rfl ?_
      refine gg_iload_n dX8_then_38 rfl ?_
      obtain ⟨v4_0, v4_1, v4_2, v4_3, v4_4, v4_5, v4_6, hv4, h⟩ := gg_bd7 h
      refine gg_callV (gg_sg [35]) [8, 9, 10, 11, 12, 13, 14, 15] (wd_X8_then c_latestFinding c_told c_above c_below c_now_huts c_now_food c_now_due c_now_backs c_now_winds c_now_kind c_now_home c_now_strength c_now_brown c_now_brick v3_0 v4_0 v4_1 v4_2 v3_4 v3_5 v3_6 v4_3 v4_4 v4_5 v4_6) 0 (C_X2_passWinters a1 v3_0 v3_1 v3_2 v3_3 v3_4 v3_5 v3_6 v3_7 v3_8 v3_9 c_aside_back hv4) nV_X2_passWinters ml_X8_217 rfl rfl rfl rfl rfl rfl rfl rfl rfl rfl [0, 1, 2, 3, 4, 5, 6, 7] 16 rfl rfl rfl rfl rfl ⟨Nat.le_of_ble_eq_true rfl, Nat.le_of_ble_eq_true rfl⟩ (Nat.le_of_ble_eq_true rfl) dX8_then_39 [] rfl ?_
      refine gg_aload_n dX8_then_42 rfl ?_
      refine gg_get 0 fl_X8_38 dX8_then_43 rfl rfl ?_
      refine gg_iload_n dX8_then_46 rfl ?_
      obtain ⟨v5, hv5, h⟩ := gg_bd h
      refine gg_callV (gg_sg [35]) [8, 14] (wd_X8_then c_latestFinding c_told c_above c_below c_now_huts c_now_food c_now_due c_now_backs c_now_winds c_now_kind c_now_home c_now_strength c_now_brown c_now_brick v3_0 v4_0 v4_1 v4_2 v3_4 v3_5 v3_6 v4_3 v4_4 v4_5 v4_6) 0 (C_X2_isThere a0 v3_0 v4_0 v4_1 v4_2 v4_5 hv5) nV_X2_isThere ml_X8_199 rfl rfl rfl rfl rfl rfl rfl rfl rfl rfl [0, 1, 2, 3, 4, 5, 6, 7, 9, 10, 11, 12, 13, 15] 16 rfl rfl rfl rfl rfl ⟨Nat.le_of_ble_eq_true rfl, Nat.le_of_ble_eq_true rfl⟩ (Nat.le_of_ble_eq_true rfl) dX8_then_47 [.int v5] rfl ?_
      obtain ⟨k66, hke66, h⟩ := gg_lte h
      have hk66 : ∀ (c_told_66 : Int32), k66 c_told_66 = some (r0, r1, r2, r3, r4, r5, r6, r7, r8, r9, r10, r11, r12) → gg_G MD_X8_then 66 [some (.ref 0), some (.int a0), none] [] (wd_X8_then c_latestFinding c_told_66 c_above c_below c_now_huts c_now_food c_now_due c_now_backs c_now_winds c_now_kind c_now_home c_now_strength c_now_brown c_now_brick v3_0 v4_0 v4_1 v4_2 v3_4 v3_5 v3_6 v4_3 v4_4 v4_5 v4_6) (some (.int r0)) (wd_X8_then c_latestFinding r1 c_above c_below c_now_huts c_now_food c_now_due c_now_backs c_now_winds c_now_kind c_now_home c_now_strength c_now_brown c_now_brick r2 r3 r4 r5 r6 r7 r8 r9 r10 r11 r12) := by
        intro c_told_66 h
        subst hke66
        refine gg_aload_n dX8_then_66 rfl ?_
        refine gg_get 0 fl_X8_38 dX8_then_67 rfl rfl ?_
        refine gg_get 8 fl_X8_220 dX8_then_70 rfl rfl ?_
        refine gg_iload_n dX8_then_73 rfl ?_
        obtain ⟨hb74, h⟩ := gg_ck h
        refine gg_iald 14 dX8_then_74 rfl hb74 ?_
        cases h
        exact gg_iret dX8_then_75 rfl
      clear hke66
      refine gg_if_eq 66 dX8_then_50 (by decide) (fun hc => ?_) (fun hc => ?_)
      · replace h := gg_th h hc
        refine gg_fg [true, true, false] [some (.ref 0), some (.int a0), none] rfl ?_
        exact hk66 c_told h
      · replace h := gg_el h hc
        refine gg_aload_n dX8_then_53 rfl ?_
        refine gg_aload_n dX8_then_54 rfl ?_
        refine gg_get 0 fl_X8_38 dX8_then_55 rfl rfl ?_
        refine gg_get 8 fl_X8_205 dX8_then_58 rfl rfl ?_
        refine gg_iload_n dX8_then_61 rfl ?_
        obtain ⟨hb62, h⟩ := gg_ck h
        refine gg_iald 12 dX8_then_62 rfl hb62 ?_
        refine gg_putf 0 (wd_X8_then c_latestFinding (v4_3 a0.toNatClampNeg) c_above c_below c_now_huts c_now_food c_now_due c_now_backs c_now_winds c_now_kind c_now_home c_now_strength c_now_brown c_now_brick v3_0 v4_0 v4_1 v4_2 v3_4 v3_5 v3_6 v4_3 v4_4 v4_5 v4_6) fl_X8_83 dX8_then_63 rfl (Nat.le_of_ble_eq_true rfl) (fun _ => ⟨rfl, rfl⟩) rfl ?_
        refine gg_fg [true, true, false] [some (.ref 0), some (.int a0), none] rfl ?_
        exact hk66 (v4_3 a0.toNatClampNeg) h
    · replace h := gg_th h hc
      refine gg_fg [false, false, false] [none, none, none] rfl ?_
      exact hk21 h
def wd_X8_lost (c_latestFinding : Int32) (c_told : Int32) (c_above : Int64) (c_below : Int64) (c_now_huts : Int32) (c_now_food : Int32) (c_now_due : Int32) (c_now_backs : Int32) (c_now_winds : Nat → Int32) (c_now_kind : Nat → Int32) (c_now_home : Nat → Int32) (c_now_strength : Nat → Int32) (c_now_brown : Nat → Int32) (c_now_brick : Nat → Int32) (c_aside_huts : Int32) (c_aside_food : Int32) (c_aside_due : Int32) (c_aside_backs : Int32) (c_aside_winds : Nat → Int32) (c_aside_kind : Nat → Int32) (c_aside_home : Nat → Int32) (c_aside_strength : Nat → Int32) (c_aside_brown : Nat → Int32) (c_aside_brick : Nat → Int32) (c_aside_back : Nat → Int32) : va_W := [(0, .inr (7, [.ref 1, .ref 10, .ref 17, .ref 19, .ref 27, .ref 35, .ref 43, .ref 45, .ref 52, .ref 56, .ref 60, .ref 67, .int c_latestFinding, .int c_told, .long c_above, .long c_below])), (27, .inr (2, [.int c_now_huts, .int c_now_food, .int c_now_due, .ref 28, .ref 29, .ref 30, .ref 31, .ref 32, .ref 33, .ref 34, .int c_now_backs])), (28, .inl (0, 4, .inl c_now_winds)), (29, .inl (0, 6, .inl c_now_kind)), (30, .inl (0, 6, .inl c_now_home)), (31, .inl (0, 6, .inl c_now_strength)), (32, .inl (0, 6, .inl c_now_brown)), (33, .inl (0, 6, .inl c_now_brick)), (35, .inr (2, [.int c_aside_huts, .int c_aside_food, .int c_aside_due, .ref 36, .ref 37, .ref 38, .ref 39, .ref 40, .ref 41, .ref 42, .int c_aside_backs])), (36, .inl (0, 4, .inl c_aside_winds)), (37, .inl (0, 6, .inl c_aside_kind)), (38, .inl (0, 6, .inl c_aside_home)), (39, .inl (0, 6, .inl c_aside_strength)), (40, .inl (0, 6, .inl c_aside_brown)), (41, .inl (0, 6, .inl c_aside_brick)), (42, .inl (0, 6, .inl c_aside_back))]
def MD_X8_lost : gg_M := (yX8_lost, cX8_lost, 3, some .int, 4, 90)
theorem nV_X8_lost : gg_nV MD_X8_lost 1 := ⟨⟨gg_mem (by decide +kernel) rfl, gg_mem cw_X8_lost rfl, by decide, by decide, by decide +kernel⟩, gg_mem (by decide +kernel) rfl, gg_mem (by decide +kernel) rfl⟩
def lp_X8_lost_26 {β : Type} (y1 : Int32) (c_aside_huts : Int32) (c_aside_winds : Nat → Int32) (c_aside_kind : Nat → Int32) (c_aside_home : Nat → Int32) (k43 : (Int32) → (Int32) → (Int32) → (Int32) → (Nat → Int32) → (Nat → Int32) → (Nat → Int32) → (Nat → Int32) → Option β) (k58 : (Int32) → (Int32) → (Int32) → (Nat → Int32) → (Nat → Int32) → (Nat → Int32) → (Nat → Int32) → Option β) : Nat → (Int32) → (Int32) → (Int32) → (Int32) → (Nat → Int32) → (Nat → Int32) → (Nat → Int32) → (Nat → Int32) → Option β
  | 0, _, _, _, _, _, _, _, _ => none
  | n + 1, x2_26, c_aside_food_26, c_aside_due_26, c_aside_backs_26, c_aside_strength_26, c_aside_brown_26, c_aside_brick_26, c_aside_back_26 => (if (40 : Int32) < x2_26 then (k58 c_aside_food_26 c_aside_due_26 c_aside_backs_26 c_aside_strength_26 c_aside_brown_26 c_aside_brick_26 c_aside_back_26) else (f_X2_isThere y1 c_aside_huts c_aside_brick_26).bind (fun v3 => (if v3 = (0 : Int32) then (k43 x2_26 c_aside_food_26 c_aside_due_26 c_aside_backs_26 c_aside_strength_26 c_aside_brown_26 c_aside_brick_26 c_aside_back_26) else gg_b7 (f_X2_passWinter c_aside_huts c_aside_food_26 c_aside_due_26 c_aside_backs_26 c_aside_winds c_aside_kind c_aside_home c_aside_strength_26 c_aside_brown_26 c_aside_brick_26 c_aside_back_26) (fun v4_0 v4_1 v4_2 v4_3 v4_4 v4_5 v4_6 => (lp_X8_lost_26 y1 c_aside_huts c_aside_winds c_aside_kind c_aside_home k43 k58 n (x2_26 + (1 : Int32)) v4_0 v4_1 v4_2 v4_3 v4_4 v4_5 v4_6)))))
def f_X8_lost (a0 : Int32) (c_now_huts : Int32) (c_now_food : Int32) (c_now_due : Int32) (c_now_winds : Nat → Int32) (c_now_kind : Nat → Int32) (c_now_home : Nat → Int32) (c_now_strength : Nat → Int32) (c_now_brown : Nat → Int32) (c_now_brick : Nat → Int32) (c_aside_huts : Int32) (c_aside_food : Int32) (c_aside_due : Int32) (c_aside_backs : Int32) (c_aside_winds : Nat → Int32) (c_aside_kind : Nat → Int32) (c_aside_home : Nat → Int32) (c_aside_strength : Nat → Int32) (c_aside_brown : Nat → Int32) (c_aside_brick : Nat → Int32) (c_aside_back : Nat → Int32) : Option (Int32 × (Int32) × (Int32) × (Int32) × (Int32) × (Nat → Int32) × (Nat → Int32) × (Nat → Int32) × (Nat → Int32) × (Nat → Int32) × (Nat → Int32) × (Nat → Int32)) := (f_X2_knows a0 c_now_huts).bind (fun v1 => (if v1 = (0 : Int32) then (some ((-1 : Int32), c_aside_huts, c_aside_food, c_aside_due, c_aside_backs, c_aside_winds, c_aside_kind, c_aside_home, c_aside_strength, c_aside_brown, c_aside_brick, c_aside_back)) else gg_b10 (f_X2_become c_aside_huts c_aside_food c_aside_due c_aside_backs c_aside_winds c_aside_kind c_aside_home c_aside_strength c_aside_brown c_aside_brick c_now_huts c_now_food c_now_due c_now_winds c_now_kind c_now_home c_now_strength c_now_brown c_now_brick) (fun v2_0 v2_1 v2_2 v2_3 v2_4 v2_5 v2_6 v2_7 v2_8 v2_9 => (lp_X8_lost_26 a0 v2_0 v2_4 v2_5 v2_6 (fun (x2_43 : Int32) (c_aside_food_43 : Int32) (c_aside_due_43 : Int32) (c_aside_backs_43 : Int32) (c_aside_strength_43 : Nat → Int32) (c_aside_brown_43 : Nat → Int32) (c_aside_brick_43 : Nat → Int32) (c_aside_back_43 : Nat → Int32) => (some (x2_43, v2_0, c_aside_food_43, c_aside_due_43, c_aside_backs_43, v2_4, v2_5, v2_6, c_aside_strength_43, c_aside_brown_43, c_aside_brick_43, c_aside_back_43))) (fun (c_aside_food_58 : Int32) (c_aside_due_58 : Int32) (c_aside_backs_58 : Int32) (c_aside_strength_58 : Nat → Int32) (c_aside_brown_58 : Nat → Int32) (c_aside_brick_58 : Nat → Int32) (c_aside_back_58 : Nat → Int32) => (some ((-9 : Int32), v2_0, c_aside_food_58, c_aside_due_58, c_aside_backs_58, v2_4, v2_5, v2_6, c_aside_strength_58, c_aside_brown_58, c_aside_brick_58, c_aside_back_58))) gg_fuel (0 : Int32) v2_1 v2_2 v2_3 v2_7 v2_8 v2_9 c_aside_back))))
set_option maxRecDepth 20000 in
set_option maxHeartbeats 4000000 in
theorem lq_X8_lost_26 {β : Type} {res : β} {rr : Option Value} {ww : va_W} (y1 : Int32) (c_latestFinding : Int32) (c_told : Int32) (c_above : Int64) (c_below : Int64) (c_now_huts : Int32) (c_now_food : Int32) (c_now_due : Int32) (c_now_backs : Int32) (c_now_winds : Nat → Int32) (c_now_kind : Nat → Int32) (c_now_home : Nat → Int32) (c_now_strength : Nat → Int32) (c_now_brown : Nat → Int32) (c_now_brick : Nat → Int32) (c_aside_huts : Int32) (c_aside_winds : Nat → Int32) (c_aside_kind : Nat → Int32) (c_aside_home : Nat → Int32) (k43 : (Int32) → (Int32) → (Int32) → (Int32) → (Nat → Int32) → (Nat → Int32) → (Nat → Int32) → (Nat → Int32) → Option β) (k58 : (Int32) → (Int32) → (Int32) → (Nat → Int32) → (Nat → Int32) → (Nat → Int32) → (Nat → Int32) → Option β) (hk43 : ∀ (x2_43 : Int32) (c_aside_food_43 : Int32) (c_aside_due_43 : Int32) (c_aside_backs_43 : Int32) (c_aside_strength_43 : Nat → Int32) (c_aside_brown_43 : Nat → Int32) (c_aside_brick_43 : Nat → Int32) (c_aside_back_43 : Nat → Int32), k43 x2_43 c_aside_food_43 c_aside_due_43 c_aside_backs_43 c_aside_strength_43 c_aside_brown_43 c_aside_brick_43 c_aside_back_43 = some res → gg_G MD_X8_lost 43 [none, none, some (.int x2_43)] [] (wd_X8_lost c_latestFinding c_told c_above c_below c_now_huts c_now_food c_now_due c_now_backs c_now_winds c_now_kind c_now_home c_now_strength c_now_brown c_now_brick c_aside_huts c_aside_food_43 c_aside_due_43 c_aside_backs_43 c_aside_winds c_aside_kind c_aside_home c_aside_strength_43 c_aside_brown_43 c_aside_brick_43 c_aside_back_43) rr ww) (hk58 : ∀ (c_aside_food_58 : Int32) (c_aside_due_58 : Int32) (c_aside_backs_58 : Int32) (c_aside_strength_58 : Nat → Int32) (c_aside_brown_58 : Nat → Int32) (c_aside_brick_58 : Nat → Int32) (c_aside_back_58 : Nat → Int32), k58 c_aside_food_58 c_aside_due_58 c_aside_backs_58 c_aside_strength_58 c_aside_brown_58 c_aside_brick_58 c_aside_back_58 = some res → gg_G MD_X8_lost 58 [none, none, none] [] (wd_X8_lost c_latestFinding c_told c_above c_below c_now_huts c_now_food c_now_due c_now_backs c_now_winds c_now_kind c_now_home c_now_strength c_now_brown c_now_brick c_aside_huts c_aside_food_58 c_aside_due_58 c_aside_backs_58 c_aside_winds c_aside_kind c_aside_home c_aside_strength_58 c_aside_brown_58 c_aside_brick_58 c_aside_back_58) rr ww) : ∀ (n : Nat) (x2_26 : Int32) (c_aside_food_26 : Int32) (c_aside_due_26 : Int32) (c_aside_backs_26 : Int32) (c_aside_strength_26 : Nat → Int32) (c_aside_brown_26 : Nat → Int32) (c_aside_brick_26 : Nat → Int32) (c_aside_back_26 : Nat → Int32), lp_X8_lost_26 y1 c_aside_huts c_aside_winds c_aside_kind c_aside_home k43 k58 n x2_26 c_aside_food_26 c_aside_due_26 c_aside_backs_26 c_aside_strength_26 c_aside_brown_26 c_aside_brick_26 c_aside_back_26 = some res → gg_G MD_X8_lost 26 [some (.ref 0), some (.int y1), some (.int x2_26)] [] (wd_X8_lost c_latestFinding c_told c_above c_below c_now_huts c_now_food c_now_due c_now_backs c_now_winds c_now_kind c_now_home c_now_strength c_now_brown c_now_brick c_aside_huts c_aside_food_26 c_aside_due_26 c_aside_backs_26 c_aside_winds c_aside_kind c_aside_home c_aside_strength_26 c_aside_brown_26 c_aside_brick_26 c_aside_back_26) rr ww := by
  intro n
  induction n with
  | zero =>
    intro x2_26 c_aside_food_26 c_aside_due_26 c_aside_backs_26 c_aside_strength_26 c_aside_brown_26 c_aside_brick_26 c_aside_back_26 h
    exact nomatch (show (none : Option β) = some res from h)
  | succ n ih =>
    intro x2_26 c_aside_food_26 c_aside_due_26 c_aside_backs_26 c_aside_strength_26 c_aside_brown_26 c_aside_brick_26 c_aside_back_26 h
    rw [lp_X8_lost_26] at h
    refine gg_iload_n dX8_lost_26 rfl ?_
    refine gg_bipush (40 : Int32) dX8_lost_27 (by decide) ?_
    refine gg_icmp_gt 58 dX8_lost_29 (by decide) (fun hc => ?_) (fun hc => ?_)
    · replace h := gg_th h hc
      refine gg_fg [false, false, false] [none, none, none] rfl ?_
      exact hk58 c_aside_food_26 c_aside_due_26 c_aside_backs_26 c_aside_strength_26 c_aside_brown_26 c_aside_brick_26 c_aside_back_26 h
    · replace h := gg_el h hc
      refine gg_aload_n dX8_lost_32 rfl ?_
      refine gg_get 0 fl_X8_38 dX8_lost_33 rfl rfl ?_
      refine gg_iload_n dX8_lost_36 rfl ?_
      obtain ⟨v3, hv3, h⟩ := gg_bd h
      refine gg_callV (gg_sg [35]) [8, 14] (wd_X8_lost c_latestFinding c_told c_above c_below c_now_huts c_now_food c_now_due c_now_backs c_now_winds c_now_kind c_now_home c_now_strength c_now_brown c_now_brick c_aside_huts c_aside_food_26 c_aside_due_26 c_aside_backs_26 c_aside_winds c_aside_kind c_aside_home c_aside_strength_26 c_aside_brown_26 c_aside_brick_26 c_aside_back_26) 0 (C_X2_isThere y1 c_aside_huts c_aside_food_26 c_aside_due_26 c_aside_backs_26 c_aside_brick_26 hv3) nV_X2_isThere ml_X8_199 rfl rfl rfl rfl rfl rfl rfl rfl rfl rfl [0, 1, 2, 3, 4, 5, 6, 7, 9, 10, 11, 12, 13, 15] 16 rfl rfl rfl rfl rfl ⟨Nat.le_of_ble_eq_true rfl, Nat.le_of_ble_eq_true rfl⟩ (Nat.le_of_ble_eq_true rfl) dX8_lost_37 [.int v3] rfl ?_
      refine gg_if_ne 45 dX8_lost_40 (by decide) (fun hc => ?_) (fun hc => ?_)
      · replace h := gg_el h hc
        refine gg_aload_n dX8_lost_45 rfl ?_
        refine gg_get 0 fl_X8_38 dX8_lost_46 rfl rfl ?_
        obtain ⟨v4_0, v4_1, v4_2, v4_3, v4_4, v4_5, v4_6, hv4, h⟩ := gg_bd7 h
        refine gg_callV (gg_sg [35]) [8, 9, 10, 11, 12, 13, 14, 15] (wd_X8_lost c_latestFinding c_told c_above c_below c_now_huts c_now_food c_now_due c_now_backs c_now_winds c_now_kind c_now_home c_now_strength c_now_brown c_now_brick c_aside_huts v4_0 v4_1 v4_2 c_aside_winds c_aside_kind c_aside_home v4_3 v4_4 v4_5 v4_6) 0 (C_X2_passWinter c_aside_huts c_aside_food_26 c_aside_due_26 c_aside_backs_26 c_aside_winds c_aside_kind c_aside_home c_aside_strength_26 c_aside_brown_26 c_aside_brick_26 c_aside_back_26 hv4) nV_X2_passWinter ml_X8_223 rfl rfl rfl rfl rfl rfl rfl rfl rfl rfl [0, 1, 2, 3, 4, 5, 6, 7] 16 rfl rfl rfl rfl rfl ⟨Nat.le_of_ble_eq_true rfl, Nat.le_of_ble_eq_true rfl⟩ (Nat.le_of_ble_eq_true rfl) dX8_lost_49 [] rfl ?_
        refine gg_iinc (x2_26 + (1 : Int32)) [some (.ref 0), some (.int y1), some (.int (x2_26 + (1 : Int32)))] dX8_lost_52 rfl rfl rfl (Nat.le_of_ble_eq_true rfl) rfl ?_
        refine gg_goto 26 dX8_lost_55 (by decide) ?_
        exact ih (x2_26 + (1 : Int32)) v4_0 v4_1 v4_2 v4_3 v4_4 v4_5 v4_6 h
      · replace h := gg_th h hc
        refine gg_fg [false, false, true] [none, none, some (.int x2_26)] rfl ?_
        exact hk43 x2_26 c_aside_food_26 c_aside_due_26 c_aside_backs_26 c_aside_strength_26 c_aside_brown_26 c_aside_brick_26 c_aside_back_26 h
set_option maxRecDepth 20000 in
set_option maxHeartbeats 8000000 in
theorem C_X8_lost (a0 : Int32) (c_latestFinding : Int32) (c_told : Int32) (c_above : Int64) (c_below : Int64) (c_now_huts : Int32) (c_now_food : Int32) (c_now_due : Int32) (c_now_backs : Int32) (c_now_winds : Nat → Int32) (c_now_kind : Nat → Int32) (c_now_home : Nat → Int32) (c_now_strength : Nat → Int32) (c_now_brown : Nat → Int32) (c_now_brick : Nat → Int32) (c_aside_huts : Int32) (c_aside_food : Int32) (c_aside_due : Int32) (c_aside_backs : Int32) (c_aside_winds : Nat → Int32) (c_aside_kind : Nat → Int32) (c_aside_home : Nat → Int32) (c_aside_strength : Nat → Int32) (c_aside_brown : Nat → Int32) (c_aside_brick : Nat → Int32) (c_aside_back : Nat → Int32) {r0 : Int32} {r1 : (Int32)} {r2 : (Int32)} {r3 : (Int32)} {r4 : (Int32)} {r5 : (Nat → Int32)} {r6 : (Nat → Int32)} {r7 : (Nat → Int32)} {r8 : (Nat → Int32)} {r9 : (Nat → Int32)} {r10 : (Nat → Int32)} {r11 : (Nat → Int32)} (h : f_X8_lost a0 c_now_huts c_now_food c_now_due c_now_winds c_now_kind c_now_home c_now_strength c_now_brown c_now_brick c_aside_huts c_aside_food c_aside_due c_aside_backs c_aside_winds c_aside_kind c_aside_home c_aside_strength c_aside_brown c_aside_brick c_aside_back = some (r0, r1, r2, r3, r4, r5, r6, r7, r8, r9, r10, r11)) : gg_C MD_X8_lost [.ref 0, .int a0] (wd_X8_lost c_latestFinding c_told c_above c_below c_now_huts c_now_food c_now_due c_now_backs c_now_winds c_now_kind c_now_home c_now_strength c_now_brown c_now_brick c_aside_huts c_aside_food c_aside_due c_aside_backs c_aside_winds c_aside_kind c_aside_home c_aside_strength c_aside_brown c_aside_brick c_aside_back) (some (.int r0)) (wd_X8_lost c_latestFinding c_told c_above c_below c_now_huts c_now_food c_now_due c_now_backs c_now_winds c_now_kind c_now_home c_now_strength c_now_brown c_now_brick r1 r2 r3 r4 r5 r6 r7 r8 r9 r10 r11) := by
  refine gg_ofG [some (.ref 0), some (.int a0), none] (plainFor_of_name (by decide)) (Nat.le_of_ble_eq_true rfl) rfl ?_
  unfold f_X8_lost at h
  refine gg_aload_n dX8_lost_0 rfl ?_
  refine gg_get 0 fl_X8_35 dX8_lost_1 rfl rfl ?_
  refine gg_iload_n dX8_lost_4 rfl ?_
  obtain ⟨v1, hv1, h⟩ := gg_bd h
  refine gg_callV (gg_sg [27]) [1] (wd_X8_lost c_latestFinding c_told c_above c_below c_now_huts c_now_food c_now_due c_now_backs c_now_winds c_now_kind c_now_home c_now_strength c_now_brown c_now_brick c_aside_huts c_aside_food c_aside_due c_aside_backs c_aside_winds c_aside_kind c_aside_home c_aside_strength c_aside_brown c_aside_brick c_aside_back) 0 (C_X2_knows a0 c_now_huts c_now_food c_now_due c_now_backs hv1) nV_X2_knows ml_X8_154 rfl rfl rfl rfl rfl rfl rfl rfl rfl rfl [0, 2, 3, 4, 5, 6, 7, 8, 9, 10, 11, 12, 13, 14, 15] 16 rfl rfl rfl rfl rfl ⟨Nat.le_of_ble_eq_true rfl, Nat.le_of_ble_eq_true rfl⟩ (Nat.le_of_ble_eq_true rfl) dX8_lost_5 [.int v1] rfl ?_
  refine gg_if_ne 13 dX8_lost_8 (by decide) (fun hc => ?_) (fun hc => ?_)
  · replace h := gg_el h hc
    refine gg_aload_n dX8_lost_13 rfl ?_
    refine gg_get 0 fl_X8_38 dX8_lost_14 rfl rfl ?_
    refine gg_aload_n dX8_lost_17 rfl ?_
    refine gg_get 0 fl_X8_35 dX8_lost_18 rfl rfl ?_
    obtain ⟨v2_0, v2_1, v2_2, v2_3, v2_4, v2_5, v2_6, v2_7, v2_8, v2_9, hv2, h⟩ := gg_bd10 h
    refine gg_callV (gg_sg [35, 27]) [8, 9, 10, 11, 12, 13, 14, 1, 2, 3, 4, 5, 6, 7] (wd_X8_lost c_latestFinding c_told c_above c_below c_now_huts c_now_food c_now_due c_now_backs c_now_winds c_now_kind c_now_home c_now_strength c_now_brown c_now_brick v2_0 v2_1 v2_2 v2_3 v2_4 v2_5 v2_6 v2_7 v2_8 v2_9 c_aside_back) 0 (C_X2_become c_aside_huts c_aside_food c_aside_due c_aside_backs c_aside_winds c_aside_kind c_aside_home c_aside_strength c_aside_brown c_aside_brick c_now_huts c_now_food c_now_due c_now_backs c_now_winds c_now_kind c_now_home c_now_strength c_now_brown c_now_brick hv2) nV_X2_become ml_X8_145 rfl rfl rfl rfl rfl rfl rfl rfl rfl rfl [0, 15] 16 rfl rfl rfl rfl rfl ⟨Nat.le_of_ble_eq_true rfl, Nat.le_of_ble_eq_true rfl⟩ (Nat.le_of_ble_eq_true rfl) dX8_lost_21 [] rfl ?_
    refine gg_iconst (0 : Int32) dX8_lost_24 (by decide) ?_
    refine gg_istore_n [some (.ref 0), some (.int a0), some (.int (0 : Int32))] dX8_lost_25 rfl (Nat.le_of_ble_eq_true rfl) rfl ?_
    refine lq_X8_lost_26 a0 c_latestFinding c_told c_above c_below c_now_huts c_now_food c_now_due c_now_backs c_now_winds c_now_kind c_now_home c_now_strength c_now_brown c_now_brick v2_0 v2_4 v2_5 v2_6 _ _ ?_ ?_ gg_fuel (0 : Int32) v2_1 v2_2 v2_3 v2_7 v2_8 v2_9 c_aside_back h
    · intro x2_43 c_aside_food_43 c_aside_due_43 c_aside_backs_43 c_aside_strength_43 c_aside_brown_43 c_aside_brick_43 c_aside_back_43 h
      refine gg_iload_n dX8_lost_43 rfl ?_
      cases h
      exact gg_iret dX8_lost_44 rfl
    · intro c_aside_food_58 c_aside_due_58 c_aside_backs_58 c_aside_strength_58 c_aside_brown_58 c_aside_brick_58 c_aside_back_58 h
      refine gg_bipush (-9 : Int32) dX8_lost_58 (by decide) ?_
      cases h
      exact gg_iret dX8_lost_60 rfl
  · replace h := gg_th h hc
    refine gg_iconst (-1 : Int32) dX8_lost_11 (by decide) ?_
    cases h
    exact gg_iret dX8_lost_12 rfl
def wd_X6_write_s6_a6 (c_most : Int32) (c_sizes : Nat → Int32) (c_cells : Nat → Nat → Int32) (c_p1_a : Nat → Int32) : va_W := [(0, .inr (5, [.int c_most, .ref 1, .ref 2])), (1, .inl (4, 6, .inr (.inr (.inr (.inr (gg_rf 2 1)))))), (2, .inl (0, 6, .inl c_sizes)), (3, .inl (0, 40, .inl (c_cells 0))), (4, .inl (0, 40, .inl (c_cells 1))), (5, .inl (0, 40, .inl (c_cells 2))), (6, .inl (0, 40, .inl (c_cells 3))), (7, .inl (0, 40, .inl (c_cells 4))), (8, .inl (0, 40, .inl (c_cells 5))), (100, .inl (0, 6, .inl c_p1_a))]
def MD_X6_write_s6_a6 : gg_M := (yX6_write, cX6_write, 5, none, 3, 66)
theorem nV_X6_write_s6_a6 : gg_nV MD_X6_write_s6_a6 3 := ⟨⟨gg_mem (by decide +kernel) rfl, gg_mem cw_X6_write rfl, by decide, by decide, by decide +kernel⟩, gg_mem (by decide +kernel) rfl, gg_mem (by decide +kernel) rfl⟩
def lp_X6_write_s6_a6_9 {β : Type} (y1 : Int32) (y3 : Int32) (c_sizes : Nat → Int32) (c_p1_a : Nat → Int32) (k39 : (Nat → Nat → Int32) → Option β) : Nat → (Int32) → (Nat → Nat → Int32) → Option β
  | 0, _, _ => none
  | n + 1, x4_9, c_cells_9 => (if y3 ≤ x4_9 then (k39 c_cells_9) else (if (6 : Int32) ≤ x4_9 then (k39 c_cells_9) else gg_chk (gg_in x4_9 6) ((f_X6_set_s6 y1 x4_9 (c_p1_a x4_9.toNatClampNeg) c_sizes c_cells_9).bind (fun v2 => (lp_X6_write_s6_a6_9 y1 y3 c_sizes c_p1_a k39 n (x4_9 + (1 : Int32)) v2)))))
def f_X6_write_s6_a6 (a0 : Int32) (a1 : Int32) (c_most : Int32) (c_sizes : Nat → Int32) (c_cells : Nat → Nat → Int32) (c_p1_a : Nat → Int32) : Option ((Nat → Int32) × (Nat → Nat → Int32)) := gg_b2 (f_X6_make_s6 a0 a1 c_most c_sizes c_cells) (fun v1_0 v1_1 => (lp_X6_write_s6_a6_9 a0 a1 v1_0 c_p1_a (fun (c_cells_39 : Nat → Nat → Int32) => (some (v1_0, c_cells_39))) gg_fuel (0 : Int32) v1_1))
set_option maxRecDepth 20000 in
set_option maxHeartbeats 4000000 in
theorem lq_X6_write_s6_a6_9 {β : Type} {res : β} {rr : Option Value} {ww : va_W} (y1 : Int32) (y3 : Int32) (c_most : Int32) (c_sizes : Nat → Int32) (c_p1_a : Nat → Int32) (k39 : (Nat → Nat → Int32) → Option β) (hk39 : ∀ (c_cells_39 : Nat → Nat → Int32), k39 c_cells_39 = some res → gg_G MD_X6_write_s6_a6 39 [none, none, none, none, none] [] (wd_X6_write_s6_a6 c_most c_sizes c_cells_39 c_p1_a) rr ww) : ∀ (n : Nat) (x4_9 : Int32) (c_cells_9 : Nat → Nat → Int32), lp_X6_write_s6_a6_9 y1 y3 c_sizes c_p1_a k39 n x4_9 c_cells_9 = some res → gg_G MD_X6_write_s6_a6 9 [some (.ref 0), some (.int y1), some (.ref 100), some (.int y3), some (.int x4_9)] [] (wd_X6_write_s6_a6 c_most c_sizes c_cells_9 c_p1_a) rr ww := by
  intro n
  induction n with
  | zero =>
    intro x4_9 c_cells_9 h
    exact nomatch (show (none : Option β) = some res from h)
  | succ n ih =>
    intro x4_9 c_cells_9 h
    rw [lp_X6_write_s6_a6_9] at h
    refine gg_iload dX6_write_9 rfl ?_
    refine gg_iload_n dX6_write_11 rfl ?_
    refine gg_icmp_ge 39 dX6_write_12 (by decide) (fun hc => ?_) (fun hc => ?_)
    · replace h := gg_th h hc
      refine gg_fg [false, false, false, false, false] [none, none, none, none, none] rfl ?_
      exact hk39 c_cells_9 h
    · replace h := gg_el h hc
      refine gg_iload dX6_write_15 rfl ?_
      refine gg_aload_n dX6_write_17 rfl ?_
      refine gg_alen (6 : Int32) 9 dX6_write_18 rfl (by decide) rfl ?_
      refine gg_icmp_ge 39 dX6_write_19 (by decide) (fun hc => ?_) (fun hc => ?_)
      · replace h := gg_th h hc
        refine gg_fg [false, false, false, false, false] [none, none, none, none, none] rfl ?_
        exact hk39 c_cells_9 h
      · replace h := gg_el h hc
        refine gg_aload_n dX6_write_22 rfl ?_
        refine gg_iload_n dX6_write_23 rfl ?_
        refine gg_iload dX6_write_24 rfl ?_
        refine gg_aload_n dX6_write_26 rfl ?_
        refine gg_iload dX6_write_27 rfl ?_
        obtain ⟨hb29, h⟩ := gg_ck h
        refine gg_iald 9 dX6_write_29 rfl hb29 ?_
        obtain ⟨v2, hv2, h⟩ := gg_bd h
        refine gg_callV (gg_sg [0]) [0, 1, 2, 3, 4, 5, 6, 7, 8] (wd_X6_write_s6_a6 c_most c_sizes v2 c_p1_a) 0 (C_X6_set_s6 y1 x4_9 (c_p1_a x4_9.toNatClampNeg) c_most c_sizes c_cells_9 hv2) nV_X6_set_s6 ml_X6_37 rfl rfl rfl rfl rfl rfl rfl rfl rfl rfl [9] 10 rfl rfl rfl rfl rfl ⟨Nat.le_of_ble_eq_true rfl, Nat.le_of_ble_eq_true rfl⟩ (Nat.le_of_ble_eq_true rfl) dX6_write_30 [] rfl ?_
        refine gg_iinc (x4_9 + (1 : Int32)) [some (.ref 0), some (.int y1), some (.ref 100), some (.int y3), some (.int (x4_9 + (1 : Int32)))] dX6_write_33 rfl rfl rfl (Nat.le_of_ble_eq_true rfl) rfl ?_
        refine gg_goto 9 dX6_write_36 (by decide) ?_
        exact ih (x4_9 + (1 : Int32)) v2 h
set_option maxRecDepth 20000 in
set_option maxHeartbeats 8000000 in
theorem C_X6_write_s6_a6 (a0 : Int32) (a1 : Int32) (c_most : Int32) (c_sizes : Nat → Int32) (c_cells : Nat → Nat → Int32) (c_p1_a : Nat → Int32) {r0 : (Nat → Int32)} {r1 : (Nat → Nat → Int32)} (h : f_X6_write_s6_a6 a0 a1 c_most c_sizes c_cells c_p1_a = some (r0, r1)) : gg_C MD_X6_write_s6_a6 [.ref 0, .int a0, .ref 100, .int a1] (wd_X6_write_s6_a6 c_most c_sizes c_cells c_p1_a) (none) (wd_X6_write_s6_a6 c_most r0 r1 c_p1_a) := by
  refine gg_ofG [some (.ref 0), some (.int a0), some (.ref 100), some (.int a1), none] (plainFor_of_name (by decide)) (Nat.le_of_ble_eq_true rfl) rfl ?_
  unfold f_X6_write_s6_a6 at h
  refine gg_aload_n dX6_write_0 rfl ?_
  refine gg_iload_n dX6_write_1 rfl ?_
  refine gg_iload_n dX6_write_2 rfl ?_
  obtain ⟨v1_0, v1_1, hv1, h⟩ := gg_bd2 h
  refine gg_callV (gg_sg [0]) [0, 1, 2, 3, 4, 5, 6, 7, 8] (wd_X6_write_s6_a6 c_most v1_0 v1_1 c_p1_a) 0 (C_X6_make_s6 a0 a1 c_most c_sizes c_cells hv1) nV_X6_make_s6 ml_X6_33 rfl rfl rfl rfl rfl rfl rfl rfl rfl rfl [9] 10 rfl rfl rfl rfl rfl ⟨Nat.le_of_ble_eq_true rfl, Nat.le_of_ble_eq_true rfl⟩ (Nat.le_of_ble_eq_true rfl) dX6_write_3 [] rfl ?_
  refine gg_iconst (0 : Int32) dX6_write_6 (by decide) ?_
  refine gg_istore [some (.ref 0), some (.int a0), some (.ref 100), some (.int a1), some (.int (0 : Int32))] dX6_write_7 rfl (Nat.le_of_ble_eq_true rfl) rfl ?_
  refine lq_X6_write_s6_a6_9 a0 a1 c_most v1_0 c_p1_a _ ?_ gg_fuel (0 : Int32) v1_1 h
  intro c_cells_39 h
  cases h
  exact gg_vret dX6_write_39 rfl
def wd_X8_order (c_latestFinding : Int32) (c_told : Int32) (c_above : Int64) (c_below : Int64) (c_rows_most : Int32) (c_rows_sizes : Nat → Int32) (c_rows_cells : Nat → Nat → Int32) (c_now_huts : Int32) (c_now_food : Int32) (c_now_due : Int32) (c_now_backs : Int32) (c_now_winds : Nat → Int32) (c_now_kind : Nat → Int32) (c_now_home : Nat → Int32) (c_now_strength : Nat → Int32) (c_now_brown : Nat → Int32) (c_now_brick : Nat → Int32) (c_aside_huts : Int32) (c_aside_food : Int32) (c_aside_due : Int32) (c_aside_backs : Int32) (c_aside_winds : Nat → Int32) (c_aside_kind : Nat → Int32) (c_aside_home : Nat → Int32) (c_aside_strength : Nat → Int32) (c_aside_brown : Nat → Int32) (c_aside_brick : Nat → Int32) (c_aside_back : Nat → Int32) : va_W := [(0, .inr (7, [.ref 1, .ref 10, .ref 17, .ref 19, .ref 27, .ref 35, .ref 43, .ref 45, .ref 52, .ref 56, .ref 60, .ref 67, .int c_latestFinding, .int c_told, .long c_above, .long c_below])), (1, .inr (5, [.int c_rows_most, .ref 2, .ref 3])), (2, .inl (4, 6, .inr (.inr (.inr (.inr (gg_rf 2 1)))))), (3, .inl (0, 6, .inl c_rows_sizes)), (4, .inl (0, 40, .inl (c_rows_cells 0))), (5, .inl (0, 40, .inl (c_rows_cells 1))), (6, .inl (0, 40, .inl (c_rows_cells 2))), (7, .inl (0, 40, .inl (c_rows_cells 3))), (8, .inl (0, 40, .inl (c_rows_cells 4))), (9, .inl (0, 40, .inl (c_rows_cells 5))), (27, .inr (2, [.int c_now_huts, .int c_now_food, .int c_now_due, .ref 28, .ref 29, .ref 30, .ref 31, .ref 32, .ref 33, .ref 34, .int c_now_backs])), (28, .inl (0, 4, .inl c_now_winds)), (29, .inl (0, 6, .inl c_now_kind)), (30, .inl (0, 6, .inl c_now_home)), (31, .inl (0, 6, .inl c_now_strength)), (32, .inl (0, 6, .inl c_now_brown)), (33, .inl (0, 6, .inl c_now_brick)), (35, .inr (2, [.int c_aside_huts, .int c_aside_food, .int c_aside_due, .ref 36, .ref 37, .ref 38, .ref 39, .ref 40, .ref 41, .ref 42, .int c_aside_backs])), (36, .inl (0, 4, .inl c_aside_winds)), (37, .inl (0, 6, .inl c_aside_kind)), (38, .inl (0, 6, .inl c_aside_home)), (39, .inl (0, 6, .inl c_aside_strength)), (40, .inl (0, 6, .inl c_aside_brown)), (41, .inl (0, 6, .inl c_aside_brick)), (42, .inl (0, 6, .inl c_aside_back))]
def MD_X8_order : gg_M := (yX8_order, cX8_order, 2, some .int, 4, 90)
theorem nV_X8_order : gg_nV MD_X8_order 1 := ⟨⟨gg_mem (by decide +kernel) rfl, gg_mem cw_X8_order rfl, by decide, by decide, by decide +kernel⟩, gg_mem (by decide +kernel) rfl, gg_mem (by decide +kernel) rfl⟩
def f_X8_order (a0 : Int32) (c_rows_most : Int32) (c_rows_sizes : Nat → Int32) (c_rows_cells : Nat → Nat → Int32) (c_now_huts : Int32) (c_now_food : Int32) (c_now_due : Int32) (c_now_winds : Nat → Int32) (c_now_kind : Nat → Int32) (c_now_home : Nat → Int32) (c_now_strength : Nat → Int32) (c_now_brown : Nat → Int32) (c_now_brick : Nat → Int32) (c_aside_huts : Int32) (c_aside_food : Int32) (c_aside_due : Int32) (c_aside_backs : Int32) (c_aside_winds : Nat → Int32) (c_aside_kind : Nat → Int32) (c_aside_home : Nat → Int32) (c_aside_strength : Nat → Int32) (c_aside_brown : Nat → Int32) (c_aside_brick : Nat → Int32) (c_aside_back : Nat → Int32) : Option (Int32 × (Nat → Int32) × (Nat → Nat → Int32) × (Int32) × (Int32) × (Int32) × (Int32) × (Nat → Int32) × (Nat → Int32) × (Nat → Int32) × (Nat → Int32) × (Nat → Int32) × (Nat → Int32) × (Nat → Int32)) := (f_X6_knows_s6 a0).bind (fun v1 => (if v1 = (0 : Int32) then (some ((-1 : Int32), c_rows_sizes, c_rows_cells, c_aside_huts, c_aside_food, c_aside_due, c_aside_backs, c_aside_winds, c_aside_kind, c_aside_home, c_aside_strength, c_aside_brown, c_aside_brick, c_aside_back)) else (if c_now_huts = (0 : Int32) then (some ((-4 : Int32), c_rows_sizes, c_rows_cells, c_aside_huts, c_aside_food, c_aside_due, c_aside_backs, c_aside_winds, c_aside_kind, c_aside_home, c_aside_strength, c_aside_brown, c_aside_brick, c_aside_back)) else gg_b10 (f_X2_become c_aside_huts c_aside_food c_aside_due c_aside_backs c_aside_winds c_aside_kind c_aside_home c_aside_strength c_aside_brown c_aside_brick c_now_huts c_now_food c_now_due c_now_winds c_now_kind c_now_home c_now_strength c_now_brown c_now_brick) (fun v2_0 v2_1 v2_2 v2_3 v2_4 v2_5 v2_6 v2_7 v2_8 v2_9 => gg_b7 (f_X2_passWinter v2_0 v2_1 v2_2 v2_3 v2_4 v2_5 v2_6 v2_7 v2_8 v2_9 c_aside_back) (fun v3_0 v3_1 v3_2 v3_3 v3_4 v3_5 v3_6 => gg_b2 (f_X6_write_s6_a6 a0 v3_2 c_rows_most c_rows_sizes c_rows_cells v3_6) (fun v4_0 v4_1 => (some (v3_2, v4_0, v4_1, v2_0, v3_0, v3_1, v3_2, v2_4, v2_5, v2_6, v3_3, v3_4, v3_5, v3_6))))))))
set_option maxRecDepth 20000 in
set_option maxHeartbeats 8000000 in
theorem C_X8_order (a0 : Int32) (c_latestFinding : Int32) (c_told : Int32) (c_above : Int64) (c_below : Int64) (c_rows_most : Int32) (c_rows_sizes : Nat → Int32) (c_rows_cells : Nat → Nat → Int32) (c_now_huts : Int32) (c_now_food : Int32) (c_now_due : Int32) (c_now_backs : Int32) (c_now_winds : Nat → Int32) (c_now_kind : Nat → Int32) (c_now_home : Nat → Int32) (c_now_strength : Nat → Int32) (c_now_brown : Nat → Int32) (c_now_brick : Nat → Int32) (c_aside_huts : Int32) (c_aside_food : Int32) (c_aside_due : Int32) (c_aside_backs : Int32) (c_aside_winds : Nat → Int32) (c_aside_kind : Nat → Int32) (c_aside_home : Nat → Int32) (c_aside_strength : Nat → Int32) (c_aside_brown : Nat → Int32) (c_aside_brick : Nat → Int32) (c_aside_back : Nat → Int32) {r0 : Int32} {r1 : (Nat → Int32)} {r2 : (Nat → Nat → Int32)} {r3 : (Int32)} {r4 : (Int32)} {r5 : (Int32)} {r6 : (Int32)} {r7 : (Nat → Int32)} {r8 : (Nat → Int32)} {r9 : (Nat → Int32)} {r10 : (Nat → Int32)} {r11 : (Nat → Int32)} {r12 : (Nat → Int32)} {r13 : (Nat → Int32)} (h : f_X8_order a0 c_rows_most c_rows_sizes c_rows_cells c_now_huts c_now_food c_now_due c_now_winds c_now_kind c_now_home c_now_strength c_now_brown c_now_brick c_aside_huts c_aside_food c_aside_due c_aside_backs c_aside_winds c_aside_kind c_aside_home c_aside_strength c_aside_brown c_aside_brick c_aside_back = some (r0, r1, r2, r3, r4, r5, r6, r7, r8, r9, r10, r11, r12, r13)) : gg_C MD_X8_order [.ref 0, .int a0] (wd_X8_order c_latestFinding c_told c_above c_below c_rows_most c_rows_sizes c_rows_cells c_now_huts c_now_food c_now_due c_now_backs c_now_winds c_now_kind c_now_home c_now_strength c_now_brown c_now_brick c_aside_huts c_aside_food c_aside_due c_aside_backs c_aside_winds c_aside_kind c_aside_home c_aside_strength c_aside_brown c_aside_brick c_aside_back) (some (.int r0)) (wd_X8_order c_latestFinding c_told c_above c_below c_rows_most r1 r2 c_now_huts c_now_food c_now_due c_now_backs c_now_winds c_now_kind c_now_home c_now_strength c_now_brown c_now_brick r3 r4 r5 r6 r7 r8 r9 r10 r11 r12 r13) := by
  refine gg_ofG [some (.ref 0), some (.int a0)] (plainFor_of_name (by decide)) (Nat.le_of_ble_eq_true rfl) rfl ?_
  unfold f_X8_order at h
  refine gg_aload_n dX8_order_0 rfl ?_
  refine gg_get 0 fl_X8_14 dX8_order_1 rfl rfl ?_
  refine gg_iload_n dX8_order_4 rfl ?_
  obtain ⟨v1, hv1, h⟩ := gg_bd h
  refine gg_callV (gg_sg [1]) [1, 3] (wd_X8_order c_latestFinding c_told c_above c_below c_rows_most c_rows_sizes c_rows_cells c_now_huts c_now_food c_now_due c_now_backs c_now_winds c_now_kind c_now_home c_now_strength c_now_brown c_now_brick c_aside_huts c_aside_food c_aside_due c_aside_backs c_aside_winds c_aside_kind c_aside_home c_aside_strength c_aside_brown c_aside_brick c_aside_back) 0 (C_X6_knows_s6 a0 c_rows_most c_rows_sizes hv1) nV_X6_knows_s6 ml_X8_115 rfl rfl rfl rfl rfl rfl rfl rfl rfl rfl [0, 2, 4, 5, 6, 7, 8, 9, 10, 11, 12, 13, 14, 15, 16, 17, 18, 19, 20, 21, 22, 23, 24] 25 rfl rfl rfl rfl rfl ⟨Nat.le_of_ble_eq_true rfl, Nat.le_of_ble_eq_true rfl⟩ (Nat.le_of_ble_eq_true rfl) dX8_order_5 [.int v1] rfl ?_
  refine gg_if_ne 13 dX8_order_8 (by decide) (fun hc => ?_) (fun hc => ?_)
  · replace h := gg_el h hc
    refine gg_aload_n dX8_order_13 rfl ?_
    refine gg_get 0 fl_X8_35 dX8_order_14 rfl rfl ?_
    refine gg_get 10 fl_X8_151 dX8_order_17 rfl rfl ?_
    refine gg_if_ne 26 dX8_order_20 (by decide) (fun hc => ?_) (fun hc => ?_)
    · replace h := gg_el h hc
      refine gg_aload_n dX8_order_26 rfl ?_
      refine gg_get 0 fl_X8_38 dX8_order_27 rfl rfl ?_
      refine gg_aload_n dX8_order_30 rfl ?_
      refine gg_get 0 fl_X8_35 dX8_order_31 rfl rfl ?_
      obtain ⟨v2_0, v2_1, v2_2, v2_3, v2_4, v2_5, v2_6, v2_7, v2_8, v2_9, hv2, h⟩ := gg_bd10 h
      refine gg_callV (gg_sg [35, 27]) [17, 18, 19, 20, 21, 22, 23, 10, 11, 12, 13, 14, 15, 16] (wd_X8_order c_latestFinding c_told c_above c_below c_rows_most c_rows_sizes c_rows_cells c_now_huts c_now_food c_now_due c_now_backs c_now_winds c_now_kind c_now_home c_now_strength c_now_brown c_now_brick v2_0 v2_1 v2_2 v2_3 v2_4 v2_5 v2_6 v2_7 v2_8 v2_9 c_aside_back) 0 (C_X2_become c_aside_huts c_aside_food c_aside_due c_aside_backs c_aside_winds c_aside_kind c_aside_home c_aside_strength c_aside_brown c_aside_brick c_now_huts c_now_food c_now_due c_now_backs c_now_winds c_now_kind c_now_home c_now_strength c_now_brown c_now_brick hv2) nV_X2_become ml_X8_145 rfl rfl rfl rfl rfl rfl rfl rfl rfl rfl [0, 1, 2, 3, 4, 5, 6, 7, 8, 9, 24] 25 rfl rfl rfl rfl rfl ⟨Nat.le_of_ble_eq_true rfl, Nat.le_of_ble_eq_true rfl⟩ (Nat.le_of_ble_eq_true rfl) dX8_order_34 [] rfl ?_
      refine gg_aload_n dX8_order_37 rfl ?_
      refine gg_get 0 fl_X8_38 dX8_order_38 rfl rfl ?_
      obtain ⟨v3_0, v3_1, v3_2, v3_3, v3_4, v3_5, v3_6, hv3, h⟩ := gg_bd7 h
      refine gg_callV (gg_sg [35]) [17, 18, 19, 20, 21, 22, 23, 24] (wd_X8_order c_latestFinding c_told c_above c_below c_rows_most c_rows_sizes c_rows_cells c_now_huts c_now_food c_now_due c_now_backs c_now_winds c_now_kind c_now_home c_now_strength c_now_brown c_now_brick v2_0 v3_0 v3_1 v3_2 v2_4 v2_5 v2_6 v3_3 v3_4 v3_5 v3_6) 0 (C_X2_passWinter v2_0 v2_1 v2_2 v2_3 v2_4 v2_5 v2_6 v2_7 v2_8 v2_9 c_aside_back hv3) nV_X2_passWinter ml_X8_223 rfl rfl rfl rfl rfl rfl rfl rfl rfl rfl [0, 1, 2, 3, 4, 5, 6, 7, 8, 9, 10, 11, 12, 13, 14, 15, 16] 25 rfl rfl rfl rfl rfl ⟨Nat.le_of_ble_eq_true rfl, Nat.le_of_ble_eq_true rfl⟩ (Nat.le_of_ble_eq_true rfl) dX8_order_41 [] rfl ?_
      refine gg_aload_n dX8_order_44 rfl ?_
      refine gg_get 0 fl_X8_14 dX8_order_45 rfl rfl ?_
      refine gg_iload_n dX8_order_48 rfl ?_
      refine gg_aload_n dX8_order_49 rfl ?_
      refine gg_get 0 fl_X8_38 dX8_order_50 rfl rfl ?_
      refine gg_get 17 fl_X8_226 dX8_order_53 rfl rfl ?_
      refine gg_aload_n dX8_order_56 rfl ?_
      refine gg_get 0 fl_X8_38 dX8_order_57 rfl rfl ?_
      refine gg_get 17 fl_X8_229 dX8_order_60 rfl rfl ?_
      obtain ⟨v4_0, v4_1, hv4, h⟩ := gg_bd2 h
      refine gg_callV (gg_sg [1, 42]) [1, 2, 3, 4, 5, 6, 7, 8, 9, 24] (wd_X8_order c_latestFinding c_told c_above c_below c_rows_most v4_0 v4_1 c_now_huts c_now_food c_now_due c_now_backs c_now_winds c_now_kind c_now_home c_now_strength c_now_brown c_now_brick v2_0 v3_0 v3_1 v3_2 v2_4 v2_5 v2_6 v3_3 v3_4 v3_5 v3_6) 0 (C_X6_write_s6_a6 a0 v3_2 c_rows_most c_rows_sizes c_rows_cells v3_6 hv4) nV_X6_write_s6_a6 ml_X8_232 rfl rfl rfl rfl rfl rfl rfl rfl rfl rfl [0, 10, 11, 12, 13, 14, 15, 16, 17, 18, 19, 20, 21, 22, 23] 25 rfl rfl rfl rfl rfl ⟨Nat.le_of_ble_eq_true rfl, Nat.le_of_ble_eq_true rfl⟩ (Nat.le_of_ble_eq_true rfl) dX8_order_63 [] rfl ?_
      refine gg_aload_n dX8_order_66 rfl ?_
      refine gg_get 0 fl_X8_38 dX8_order_67 rfl rfl ?_
      refine gg_get 17 fl_X8_229 dX8_order_70 rfl rfl ?_
      cases h
      exact gg_iret dX8_order_73 rfl
    · replace h := gg_th h hc
      refine gg_bipush (-4 : Int32) dX8_order_23 (by decide) ?_
      cases h
      exact gg_iret dX8_order_25 rfl
  · replace h := gg_th h hc
    refine gg_iconst (-1 : Int32) dX8_order_11 (by decide) ?_
    cases h
    exact gg_iret dX8_order_12 rfl
def wd_X8_least (c_latestFinding : Int32) (c_told : Int32) (c_above : Int64) (c_below : Int64) (c_now_huts : Int32) (c_now_food : Int32) (c_now_due : Int32) (c_now_backs : Int32) (c_now_winds : Nat → Int32) (c_now_kind : Nat → Int32) (c_now_home : Nat → Int32) (c_now_strength : Nat → Int32) (c_now_brown : Nat → Int32) (c_now_brick : Nat → Int32) (c_aside_huts : Int32) (c_aside_food : Int32) (c_aside_due : Int32) (c_aside_backs : Int32) (c_aside_winds : Nat → Int32) (c_aside_kind : Nat → Int32) (c_aside_home : Nat → Int32) (c_aside_strength : Nat → Int32) (c_aside_brown : Nat → Int32) (c_aside_brick : Nat → Int32) (c_aside_back : Nat → Int32) : va_W := [(0, .inr (7, [.ref 1, .ref 10, .ref 17, .ref 19, .ref 27, .ref 35, .ref 43, .ref 45, .ref 52, .ref 56, .ref 60, .ref 67, .int c_latestFinding, .int c_told, .long c_above, .long c_below])), (27, .inr (2, [.int c_now_huts, .int c_now_food, .int c_now_due, .ref 28, .ref 29, .ref 30, .ref 31, .ref 32, .ref 33, .ref 34, .int c_now_backs])), (28, .inl (0, 4, .inl c_now_winds)), (29, .inl (0, 6, .inl c_now_kind)), (30, .inl (0, 6, .inl c_now_home)), (31, .inl (0, 6, .inl c_now_strength)), (32, .inl (0, 6, .inl c_now_brown)), (33, .inl (0, 6, .inl c_now_brick)), (35, .inr (2, [.int c_aside_huts, .int c_aside_food, .int c_aside_due, .ref 36, .ref 37, .ref 38, .ref 39, .ref 40, .ref 41, .ref 42, .int c_aside_backs])), (36, .inl (0, 4, .inl c_aside_winds)), (37, .inl (0, 6, .inl c_aside_kind)), (38, .inl (0, 6, .inl c_aside_home)), (39, .inl (0, 6, .inl c_aside_strength)), (40, .inl (0, 6, .inl c_aside_brown)), (41, .inl (0, 6, .inl c_aside_brick)), (42, .inl (0, 6, .inl c_aside_back))]
def MD_X8_least : gg_M := (yX8_least, cX8_least, 4, some .int, 5, 112)
theorem nV_X8_least : gg_nV MD_X8_least 2 := ⟨⟨gg_mem (by decide +kernel) rfl, gg_mem cw_X8_least rfl, by decide, by decide, by decide +kernel⟩, gg_mem (by decide +kernel) rfl, gg_mem (by decide +kernel) rfl⟩
def lp_X8_least_25 {β : Type} (y1 : Int32) (y2 : Int32) (c_now_huts : Int32) (c_now_food : Int32) (c_now_due : Int32) (c_now_winds : Nat → Int32) (c_now_kind : Nat → Int32) (c_now_home : Nat → Int32) (c_now_strength : Nat → Int32) (c_now_brown : Nat → Int32) (c_now_brick : Nat → Int32) (k74 : (Int32) → (Int32) → (Int32) → (Int32) → (Int32) → (Nat → Int32) → (Nat → Int32) → (Nat → Int32) → (Nat → Int32) → (Nat → Int32) → (Nat → Int32) → (Nat → Int32) → Option β) (k82 : (Int32) → (Int32) → (Int32) → (Int32) → (Nat → Int32) → (Nat → Int32) → (Nat → Int32) → (Nat → Int32) → (Nat → Int32) → (Nat → Int32) → (Nat → Int32) → Option β) : Nat → (Int32) → (Int32) → (Int32) → (Int32) → (Int32) → (Nat → Int32) → (Nat → Int32) → (Nat → Int32) → (Nat → Int32) → (Nat → Int32) → (Nat → Int32) → (Nat → Int32) → Option β
  | 0, _, _, _, _, _, _, _, _, _, _, _, _ => none
  | n + 1, x3_25, c_aside_huts_25, c_aside_food_25, c_aside_due_25, c_aside_backs_25, c_aside_winds_25, c_aside_kind_25, c_aside_home_25, c_aside_strength_25, c_aside_brown_25, c_aside_brick_25, c_aside_back_25 => (if (20 : Int32) < x3_25 then (k82 c_aside_huts_25 c_aside_food_25 c_aside_due_25 c_aside_backs_25 c_aside_winds_25 c_aside_kind_25 c_aside_home_25 c_aside_strength_25 c_aside_brown_25 c_aside_brick_25 c_aside_back_25) else gg_b10 (f_X2_become c_aside_huts_25 c_aside_food_25 c_aside_due_25 c_aside_backs_25 c_aside_winds_25 c_aside_kind_25 c_aside_home_25 c_aside_strength_25 c_aside_brown_25 c_aside_brick_25 c_now_huts c_now_food c_now_due c_now_winds c_now_kind c_now_home c_now_strength c_now_brown c_now_brick) (fun v3_0 v3_1 v3_2 v3_3 v3_4 v3_5 v3_6 v3_7 v3_8 v3_9 => gg_chk (gg_in y1 6) (gg_chk (gg_in y1 6) (gg_b7 (f_X2_passWinters y2 v3_0 v3_1 v3_2 v3_3 v3_4 v3_5 v3_6 (upd v3_7 y1.toNatClampNeg ((v3_7 y1.toNatClampNeg) + x3_25)) v3_8 v3_9 c_aside_back_25) (fun v4_0 v4_1 v4_2 v4_3 v4_4 v4_5 v4_6 => (f_X2_isThere y1 v3_0 v4_5).bind (fun v5 => (if v5 = (0 : Int32) then (lp_X8_least_25 y1 y2 c_now_huts c_now_food c_now_due c_now_winds c_now_kind c_now_home c_now_strength c_now_brown c_now_brick k74 k82 n (x3_25 + (1 : Int32)) v3_0 v4_0 v4_1 v4_2 v3_4 v3_5 v3_6 v4_3 v4_4 v4_5 v4_6) else (k74 x3_25 v3_0 v4_0 v4_1 v4_2 v3_4 v3_5 v3_6 v4_3 v4_4 v4_5 v4_6))))))))
def f_X8_least (a0 : Int32) (a1 : Int32) (c_now_huts : Int32) (c_now_food : Int32) (c_now_due : Int32) (c_now_winds : Nat → Int32) (c_now_kind : Nat → Int32) (c_now_home : Nat → Int32) (c_now_strength : Nat → Int32) (c_now_brown : Nat → Int32) (c_now_brick : Nat → Int32) (c_aside_huts : Int32) (c_aside_food : Int32) (c_aside_due : Int32) (c_aside_backs : Int32) (c_aside_winds : Nat → Int32) (c_aside_kind : Nat → Int32) (c_aside_home : Nat → Int32) (c_aside_strength : Nat → Int32) (c_aside_brown : Nat → Int32) (c_aside_brick : Nat → Int32) (c_aside_back : Nat → Int32) : Option (Int32 × (Int32) × (Int32) × (Int32) × (Int32) × (Nat → Int32) × (Nat → Int32) × (Nat → Int32) × (Nat → Int32) × (Nat → Int32) × (Nat → Int32) × (Nat → Int32)) := (f_X2_knows a0 c_now_huts).bind (fun v1 => gg_lt ((some ((-1 : Int32), c_aside_huts, c_aside_food, c_aside_due, c_aside_backs, c_aside_winds, c_aside_kind, c_aside_home, c_aside_strength, c_aside_brown, c_aside_brick, c_aside_back))) (fun k21 => (if v1 = (0 : Int32) then k21 else (f_X8_within a1 (0 : Int32) (40 : Int32)).bind (fun v2 => (if v2 = (0 : Int32) then k21 else (lp_X8_least_25 a0 a1 c_now_huts c_now_food c_now_due c_now_winds c_now_kind c_now_home c_now_strength c_now_brown c_now_brick (fun (x3_74 : Int32) (c_aside_huts_74 : Int32) (c_aside_food_74 : Int32) (c_aside_due_74 : Int32) (c_aside_backs_74 : Int32) (c_aside_winds_74 : Nat → Int32) (c_aside_kind_74 : Nat → Int32) (c_aside_home_74 : Nat → Int32) (c_aside_strength_74 : Nat → Int32) (c_aside_brown_74 : Nat → Int32) (c_aside_brick_74 : Nat → Int32) (c_aside_back_74 : Nat → Int32) => (some (x3_74, c_aside_huts_74, c_aside_food_74, c_aside_due_74, c_aside_backs_74, c_aside_winds_74, c_aside_kind_74, c_aside_home_74, c_aside_strength_74, c_aside_brown_74, c_aside_brick_74, c_aside_back_74))) (fun (c_aside_huts_82 : Int32) (c_aside_food_82 : Int32) (c_aside_due_82 : Int32) (c_aside_backs_82 : Int32) (c_aside_winds_82 : Nat → Int32) (c_aside_kind_82 : Nat → Int32) (c_aside_home_82 : Nat → Int32) (c_aside_strength_82 : Nat → Int32) (c_aside_brown_82 : Nat → Int32) (c_aside_brick_82 : Nat → Int32) (c_aside_back_82 : Nat → Int32) => (some ((-9 : Int32), c_aside_huts_82, c_aside_food_82, c_aside_due_82, c_aside_backs_82, c_aside_winds_82, c_aside_kind_82, c_aside_home_82, c_aside_strength_82, c_aside_brown_82, c_aside_brick_82, c_aside_back_82))) gg_fuel (0 : Int32) c_aside_huts c_aside_food c_aside_due c_aside_backs c_aside_winds c_aside_kind c_aside_home c_aside_strength c_aside_brown c_aside_brick c_aside_back))))))
set_option maxRecDepth 20000 in
set_option maxHeartbeats 4000000 in
theorem lq_X8_least_25 {β : Type} {res : β} {rr : Option Value} {ww : va_W} (y1 : Int32) (y2 : Int32) (c_latestFinding : Int32) (c_told : Int32) (c_above : Int64) (c_below : Int64) (c_now_huts : Int32) (c_now_food : Int32) (c_now_due : Int32) (c_now_backs : Int32) (c_now_winds : Nat → Int32) (c_now_kind : Nat → Int32) (c_now_home : Nat → Int32) (c_now_strength : Nat → Int32) (c_now_brown : Nat → Int32) (c_now_brick : Nat → Int32) (k74 : (Int32) → (Int32) → (Int32) → (Int32) → (Int32) → (Nat → Int32) → (Nat → Int32) → (Nat → Int32) → (Nat → Int32) → (Nat → Int32) → (Nat → Int32) → (Nat → Int32) → Option β) (k82 : (Int32) → (Int32) → (Int32) → (Int32) → (Nat → Int32) → (Nat → Int32) → (Nat → Int32) → (Nat → Int32) → (Nat → Int32) → (Nat → Int32) → (Nat → Int32) → Option β) (hk74 : ∀ (x3_74 : Int32) (c_aside_huts_74 : Int32) (c_aside_food_74 : Int32) (c_aside_due_74 : Int32) (c_aside_backs_74 : Int32) (c_aside_winds_74 : Nat → Int32) (c_aside_kind_74 : Nat → Int32) (c_aside_home_74 : Nat → Int32) (c_aside_strength_74 : Nat → Int32) (c_aside_brown_74 : Nat → Int32) (c_aside_brick_74 : Nat → Int32) (c_aside_back_74 : Nat → Int32), k74 x3_74 c_aside_huts_74 c_aside_food_74 c_aside_due_74 c_aside_backs_74 c_aside_winds_74 c_aside_kind_74 c_aside_home_74 c_aside_strength_74 c_aside_brown_74 c_aside_brick_74 c_aside_back_74 = some res → gg_G MD_X8_least 74 [none, none, none, some (.int x3_74)] [] (wd_X8_least c_latestFinding c_told c_above c_below c_now_huts c_now_food c_now_due c_now_backs c_now_winds c_now_kind c_now_home c_now_strength c_now_brown c_now_brick c_aside_huts_74 c_aside_food_74 c_aside_due_74 c_aside_backs_74 c_aside_winds_74 c_aside_kind_74 c_aside_home_74 c_aside_strength_74 c_aside_brown_74 c_aside_brick_74 c_aside_back_74) rr ww) (hk82 : ∀ (c_aside_huts_82 : Int32) (c_aside_food_82 : Int32) (c_aside_due_82 : Int32) (c_aside_backs_82 : Int32) (c_aside_winds_82 : Nat → Int32) (c_aside_kind_82 : Nat → Int32) (c_aside_home_82 : Nat → Int32) (c_aside_strength_82 : Nat → Int32) (c_aside_brown_82 : Nat → Int32) (c_aside_brick_82 : Nat → Int32) (c_aside_back_82 : Nat → Int32), k82 c_aside_huts_82 c_aside_food_82 c_aside_due_82 c_aside_backs_82 c_aside_winds_82 c_aside_kind_82 c_aside_home_82 c_aside_strength_82 c_aside_brown_82 c_aside_brick_82 c_aside_back_82 = some res → gg_G MD_X8_least 82 [none, none, none, none] [] (wd_X8_least c_latestFinding c_told c_above c_below c_now_huts c_now_food c_now_due c_now_backs c_now_winds c_now_kind c_now_home c_now_strength c_now_brown c_now_brick c_aside_huts_82 c_aside_food_82 c_aside_due_82 c_aside_backs_82 c_aside_winds_82 c_aside_kind_82 c_aside_home_82 c_aside_strength_82 c_aside_brown_82 c_aside_brick_82 c_aside_back_82) rr ww) : ∀ (n : Nat) (x3_25 : Int32) (c_aside_huts_25 : Int32) (c_aside_food_25 : Int32) (c_aside_due_25 : Int32) (c_aside_backs_25 : Int32) (c_aside_winds_25 : Nat → Int32) (c_aside_kind_25 : Nat → Int32) (c_aside_home_25 : Nat → Int32) (c_aside_strength_25 : Nat → Int32) (c_aside_brown_25 : Nat → Int32) (c_aside_brick_25 : Nat → Int32) (c_aside_back_25 : Nat → Int32), lp_X8_least_25 y1 y2 c_now_huts c_now_food c_now_due c_now_winds c_now_kind c_now_home c_now_strength c_now_brown c_now_brick k74 k82 n x3_25 c_aside_huts_25 c_aside_food_25 c_aside_due_25 c_aside_backs_25 c_aside_winds_25 c_aside_kind_25 c_aside_home_25 c_aside_strength_25 c_aside_brown_25 c_aside_brick_25 c_aside_back_25 = some res → gg_G MD_X8_least 25 [some (.ref 0), some (.int y1), some (.int y2), some (.int x3_25)] [] (wd_X8_least c_latestFinding c_told c_above c_below c_now_huts c_now_food c_now_due c_now_backs c_now_winds c_now_kind c_now_home c_now_strength c_now_brown c_now_brick c_aside_huts_25 c_aside_food_25 c_aside_due_25 c_aside_backs_25 c_aside_winds_25 c_aside_kind_25 c_aside_home_25 c_aside_strength_25 c_aside_brown_25 c_aside_brick_25 c_aside_back_25) rr ww := by
  intro n
  induction n with
  | zero =>
    intro x3_25 c_aside_huts_25 c_aside_food_25 c_aside_due_25 c_aside_backs_25 c_aside_winds_25 c_aside_kind_25 c_aside_home_25 c_aside_strength_25 c_aside_brown_25 c_aside_brick_25 c_aside_back_25 h
    exact nomatch (show (none : Option β) = some res from h)
  | succ n ih =>
    intro x3_25 c_aside_huts_25 c_aside_food_25 c_aside_due_25 c_aside_backs_25 c_aside_winds_25 c_aside_kind_25 c_aside_home_25 c_aside_strength_25 c_aside_brown_25 c_aside_brick_25 c_aside_back_25 h
    rw [lp_X8_least_25] at h
    refine gg_iload_n dX8_least_25 rfl ?_
    refine gg_bipush (20 : Int32) dX8_least_26 (by decide) ?_
    refine gg_icmp_gt 82 dX8_least_28 (by decide) (fun hc => ?_) (fun hc => ?_)
    · replace h := gg_th h hc
      refine gg_fg [false, false, false, false] [none, none, none, none] rfl ?_
      exact hk82 c_aside_huts_25 c_aside_food_25 c_aside_due_25 c_aside_backs_25 c_aside_winds_25 c_aside_kind_25 c_aside_home_25 c_aside_strength_25 c_aside_brown_25 c_aside_brick_25 c_aside_back_25 h
    · replace h := gg_el h hc
      refine gg_aload_n dX8_least_31 rfl ?_
      refine gg_get 0 fl_X8_38 dX8_least_32 rfl rfl ?_
      refine gg_aload_n dX8_least_35 rfl ?_
      refine gg_get 0 fl_X8_35 dX8_least_36 rfl rfl ?_
      obtain ⟨v3_0, v3_1, v3_2, v3_3, v3_4, v3_5, v3_6, v3_7, v3_8, v3_9, hv3, h⟩ := gg_bd10 h
      refine gg_callV (gg_sg [35, 27]) [8, 9, 10, 11, 12, 13, 14, 1, 2, 3, 4, 5, 6, 7] (wd_X8_least c_latestFinding c_told c_above c_below c_now_huts c_now_food c_now_due c_now_backs c_now_winds c_now_kind c_now_home c_now_strength c_now_brown c_now_brick v3_0 v3_1 v3_2 v3_3 v3_4 v3_5 v3_6 v3_7 v3_8 v3_9 c_aside_back_25) 0 (C_X2_become c_aside_huts_25 c_aside_food_25 c_aside_due_25 c_aside_backs_25 c_aside_winds_25 c_aside_kind_25 c_aside_home_25 c_aside_strength_25 c_aside_brown_25 c_aside_brick_25 c_now_huts c_now_food c_now_due c_now_backs c_now_winds c_now_kind c_now_home c_now_strength c_now_brown c_now_brick hv3) nV_X2_become ml_X8_145 rfl rfl rfl rfl rfl rfl rfl rfl rfl rfl [0, 15] 16 rfl rfl rfl rfl rfl ⟨Nat.le_of_ble_eq_true rfl, Nat.le_of_ble_eq_true rfl⟩ (Nat.le_of_ble_eq_true rfl) dX8_least_39 [] rfl ?_
      refine gg_aload_n dX8_least_42 rfl ?_
      refine gg_get 0 fl_X8_38 dX8_least_43 rfl rfl ?_
      refine gg_get 8 fl_X8_205 dX8_least_46 rfl rfl ?_
      refine gg_iload_n dX8_least_49 rfl ?_
      refine gg_dup2 dX8_least_50 rfl rfl ?_
      obtain ⟨hb51, h⟩ := gg_ck h
      refine gg_iald 12 dX8_least_51 rfl hb51 ?_
      refine gg_iload_n dX8_least_52 rfl ?_
      refine gg_iadd dX8_least_53 ?_
      obtain ⟨hb54, h⟩ := gg_ck h
      refine gg_iast 12 (wd_X8_least c_latestFinding c_told c_above c_below c_now_huts c_now_food c_now_due c_now_backs c_now_winds c_now_kind c_now_home c_now_strength c_now_brown c_now_brick v3_0 v3_1 v3_2 v3_3 v3_4 v3_5 v3_6 (upd v3_7 y1.toNatClampNeg ((v3_7 y1.toNatClampNeg) + x3_25)) v3_8 v3_9 c_aside_back_25) dX8_least_54 rfl hb54 rfl ?_
      refine gg_aload_n dX8_least_55 rfl ?_
      refine gg_get 0 fl_X8_38 dX8_least_56 rfl rfl ?_
      refine gg_iload_n dX8_least_59 rfl ?_
      obtain ⟨v4_0, v4_1, v4_2, v4_3, v4_4, v4_5, v4_6, hv4, h⟩ := gg_bd7 h
      refine gg_callV (gg_sg [35]) [8, 9, 10, 11, 12, 13, 14, 15] (wd_X8_least c_latestFinding c_told c_above c_below c_now_huts c_now_food c_now_due c_now_backs c_now_winds c_now_kind c_now_home c_now_strength c_now_brown c_now_brick v3_0 v4_0 v4_1 v4_2 v3_4 v3_5 v3_6 v4_3 v4_4 v4_5 v4_6) 0 (C_X2_passWinters y2 v3_0 v3_1 v3_2 v3_3 v3_4 v3_5 v3_6 (upd v3_7 y1.toNatClampNeg ((v3_7 y1.toNatClampNeg) + x3_25)) v3_8 v3_9 c_aside_back_25 hv4) nV_X2_passWinters ml_X8_217 rfl rfl rfl rfl rfl rfl rfl rfl rfl rfl [0, 1, 2, 3, 4, 5, 6, 7] 16 rfl rfl rfl rfl rfl ⟨Nat.le_of_ble_eq_true rfl, Nat.le_of_ble_eq_true rfl⟩ (Nat.le_of_ble_eq_true rfl) dX8_least_60 [] rfl ?_
      refine gg_aload_n dX8_least_63 rfl ?_
      refine gg_get 0 fl_X8_38 dX8_least_64 rfl rfl ?_
      refine gg_iload_n dX8_least_67 rfl ?_
      obtain ⟨v5, hv5, h⟩ := gg_bd h
      refine gg_callV (gg_sg [35]) [8, 14] (wd_X8_least c_latestFinding c_told c_above c_below c_now_huts c_now_food c_now_due c_now_backs c_now_winds c_now_kind c_now_home c_now_strength c_now_brown c_now_brick v3_0 v4_0 v4_1 v4_2 v3_4 v3_5 v3_6 v4_3 v4_4 v4_5 v4_6) 0 (C_X2_isThere y1 v3_0 v4_0 v4_1 v4_2 v4_5 hv5) nV_X2_isThere ml_X8_199 rfl rfl rfl rfl rfl rfl rfl rfl rfl rfl [0, 1, 2, 3, 4, 5, 6, 7, 9, 10, 11, 12, 13, 15] 16 rfl rfl rfl rfl rfl ⟨Nat.le_of_ble_eq_true rfl, Nat.le_of_ble_eq_true rfl⟩ (Nat.le_of_ble_eq_true rfl) dX8_least_68 [.int v5] rfl ?_
      refine gg_if_eq 76 dX8_least_71 (by decide) (fun hc => ?_) (fun hc => ?_)
      · replace h := gg_th h hc
        refine gg_iinc (x3_25 + (1 : Int32)) [some (.ref 0), some (.int y1), some (.int y2), some (.int (x3_25 + (1 : Int32)))] dX8_least_76 rfl rfl rfl (Nat.le_of_ble_eq_true rfl) rfl ?_
        refine gg_goto 25 dX8_least_79 (by decide) ?_
        exact ih (x3_25 + (1 : Int32)) v3_0 v4_0 v4_1 v4_2 v3_4 v3_5 v3_6 v4_3 v4_4 v4_5 v4_6 h
      · replace h := gg_el h hc
        refine gg_fg [false, false, false, true] [none, none, none, some (.int x3_25)] rfl ?_
        exact hk74 x3_25 v3_0 v4_0 v4_1 v4_2 v3_4 v3_5 v3_6 v4_3 v4_4 v4_5 v4_6 h
set_option maxRecDepth 20000 in
set_option maxHeartbeats 8000000 in
theorem C_X8_least (a0 : Int32) (a1 : Int32) (c_latestFinding : Int32) (c_told : Int32) (c_above : Int64) (c_below : Int64) (c_now_huts : Int32) (c_now_food : Int32) (c_now_due : Int32) (c_now_backs : Int32) (c_now_winds : Nat → Int32) (c_now_kind : Nat → Int32) (c_now_home : Nat → Int32) (c_now_strength : Nat → Int32) (c_now_brown : Nat → Int32) (c_now_brick : Nat → Int32) (c_aside_huts : Int32) (c_aside_food : Int32) (c_aside_due : Int32) (c_aside_backs : Int32) (c_aside_winds : Nat → Int32) (c_aside_kind : Nat → Int32) (c_aside_home : Nat → Int32) (c_aside_strength : Nat → Int32) (c_aside_brown : Nat → Int32) (c_aside_brick : Nat → Int32) (c_aside_back : Nat → Int32) {r0 : Int32} {r1 : (Int32)} {r2 : (Int32)} {r3 : (Int32)} {r4 : (Int32)} {r5 : (Nat → Int32)} {r6 : (Nat → Int32)} {r7 : (Nat → Int32)} {r8 : (Nat → Int32)} {r9 : (Nat → Int32)} {r10 : (Nat → Int32)} {r11 : (Nat → Int32)} (h : f_X8_least a0 a1 c_now_huts c_now_food c_now_due c_now_winds c_now_kind c_now_home c_now_strength c_now_brown c_now_brick c_aside_huts c_aside_food c_aside_due c_aside_backs c_aside_winds c_aside_kind c_aside_home c_aside_strength c_aside_brown c_aside_brick c_aside_back = some (r0, r1, r2, r3, r4, r5, r6, r7, r8, r9, r10, r11)) : gg_C MD_X8_least [.ref 0, .int a0, .int a1] (wd_X8_least c_latestFinding c_told c_above c_below c_now_huts c_now_food c_now_due c_now_backs c_now_winds c_now_kind c_now_home c_now_strength c_now_brown c_now_brick c_aside_huts c_aside_food c_aside_due c_aside_backs c_aside_winds c_aside_kind c_aside_home c_aside_strength c_aside_brown c_aside_brick c_aside_back) (some (.int r0)) (wd_X8_least c_latestFinding c_told c_above c_below c_now_huts c_now_food c_now_due c_now_backs c_now_winds c_now_kind c_now_home c_now_strength c_now_brown c_now_brick r1 r2 r3 r4 r5 r6 r7 r8 r9 r10 r11) := by
  refine gg_ofG [some (.ref 0), some (.int a0), some (.int a1), none] (plainFor_of_name (by decide)) (Nat.le_of_ble_eq_true rfl) rfl ?_
  unfold f_X8_least at h
  refine gg_aload_n dX8_least_0 rfl ?_
  refine gg_get 0 fl_X8_35 dX8_least_1 rfl rfl ?_
  refine gg_iload_n dX8_least_4 rfl ?_
  obtain ⟨v1, hv1, h⟩ := gg_bd h
  refine gg_callV (gg_sg [27]) [1] (wd_X8_least c_latestFinding c_told c_above c_below c_now_huts c_now_food c_now_due c_now_backs c_now_winds c_now_kind c_now_home c_now_strength c_now_brown c_now_brick c_aside_huts c_aside_food c_aside_due c_aside_backs c_aside_winds c_aside_kind c_aside_home c_aside_strength c_aside_brown c_aside_brick c_aside_back) 0 (C_X2_knows a0 c_now_huts c_now_food c_now_due c_now_backs hv1) nV_X2_knows ml_X8_154 rfl rfl rfl rfl rfl rfl rfl rfl rfl rfl [0, 2, 3, 4, 5, 6, 7, 8, 9, 10, 11, 12, 13, 14, 15] 16 rfl rfl rfl rfl rfl ⟨Nat.le_of_ble_eq_true rfl, Nat.le_of_ble_eq_true rfl⟩ (Nat.le_of_ble_eq_true rfl) dX8_least_5 [.int v1] rfl ?_
  obtain ⟨k21, hke21, h⟩ := gg_lte h
  have hk21 : k21 = some (r0, r1, r2, r3, r4, r5, r6, r7, r8, r9, r10, r11) → gg_G MD_X8_least 21 [none, none, none, none] [] (wd_X8_least c_latestFinding c_told c_above c_below c_now_huts c_now_food c_now_due c_now_backs c_now_winds c_now_kind c_now_home c_now_strength c_now_brown c_now_brick c_aside_huts c_aside_food c_aside_due c_aside_backs c_aside_winds c_aside_kind c_aside_home c_aside_strength c_aside_brown c_aside_brick c_aside_back) (some (.int r0)) (wd_X8_least c_latestFinding c_told c_above c_below c_now_huts c_now_food c_now_due c_now_backs c_now_winds c_now_kind c_now_home c_now_strength c_now_brown c_now_brick r1 r2 r3 r4 r5 r6 r7 r8 r9 r10 r11) := by
    intro  h
    subst hke21
    refine gg_iconst (-1 : Int32) dX8_least_21 (by decide) ?_
    cases h
    exact gg_iret dX8_least_22 rfl
  clear hke21
  refine gg_if_eq 21 dX8_least_8 (by decide) (fun hc => ?_) (fun hc => ?_)
  · replace h := gg_th h hc
    refine gg_fg [false, false, false, false] [none, none, none, none] rfl ?_
    exact hk21 h
  · replace h := gg_el h hc
    refine gg_iload_n dX8_least_11 rfl ?_
    refine gg_iconst (0 : Int32) dX8_least_12 (by decide) ?_
    refine gg_bipush (40 : Int32) dX8_least_13 (by decide) ?_
    obtain ⟨v2, hv2, h⟩ := gg_bd h
    refine gg_callS (gg_sg []) [] (wd_X8_least c_latestFinding c_told c_above c_below c_now_huts c_now_food c_now_due c_now_backs c_now_winds c_now_kind c_now_home c_now_strength c_now_brown c_now_brick c_aside_huts c_aside_food c_aside_due c_aside_backs c_aside_winds c_aside_kind c_aside_home c_aside_strength c_aside_brown c_aside_brick c_aside_back) (C_X8_within a1 (0 : Int32) (40 : Int32) hv2) nS_X8_within ml_X8_155 rfl rfl rfl rfl rfl rfl rfl [0, 1, 2, 3, 4, 5, 6, 7, 8, 9, 10, 11, 12, 13, 14, 15] 16 rfl rfl rfl rfl rfl ⟨Nat.le_of_ble_eq_true rfl, Nat.le_of_ble_eq_true rfl⟩ (Nat.le_of_ble_eq_true rfl) dX8_least_15 [.int v2] rfl ?_
    refine gg_if_ne 23 dX8_least_18 (by decide) (fun hc => ?_) (fun hc => ?_)
    · replace h := gg_el h hc
      refine gg_iconst (0 : Int32) dX8_least_23 (by decide) ?_
      refine gg_istore_n [some (.ref 0), some (.int a0), some (.int a1), some (.int (0 : Int32))] dX8_least_24 rfl (Nat.le_of_ble_eq_true rfl) rfl ?_
      refine lq_X8_least_25 a0 a1 c_latestFinding c_told c_above c_below c_now_huts c_now_food c_now_due c_now_backs c_now_winds c_now_kind c_now_home c_now_strength c_now_brown c_now_brick _ _ ?_ ?_ gg_fuel (0 : Int32) c_aside_huts c_aside_food c_aside_due c_aside_backs c_aside_winds c_aside_kind c_aside_home c_aside_strength c_aside_brown c_aside_brick c_aside_back h
      · intro x3_74 c_aside_huts_74 c_aside_food_74 c_aside_due_74 c_aside_backs_74 c_aside_winds_74 c_aside_kind_74 c_aside_home_74 c_aside_strength_74 c_aside_brown_74 c_aside_brick_74 c_aside_back_74 h
        refine gg_iload_n dX8_least_74 rfl ?_
        cases h
        exact gg_iret dX8_least_75 rfl
      · intro c_aside_huts_82 c_aside_food_82 c_aside_due_82 c_aside_backs_82 c_aside_winds_82 c_aside_kind_82 c_aside_home_82 c_aside_strength_82 c_aside_brown_82 c_aside_brick_82 c_aside_back_82 h
        refine gg_bipush (-9 : Int32) dX8_least_82 (by decide) ?_
        cases h
        exact gg_iret dX8_least_84 rfl
    · replace h := gg_th h hc
      refine gg_fg [false, false, false, false] [none, none, none, none] rfl ?_
      exact hk21 h
def wd_X7_takeAsBest (c_size : Int32) (c_legs : Int32) (c_who : Nat → Int32) (c_fronts : Nat → Int32) (c_best : Nat → Int32) : va_W := [(0, .inr (6, [.ref 1, .ref 2, .ref 3, .int c_size, .int c_legs])), (1, .inl (0, 6, .inl c_who)), (2, .inl (0, 4, .inl c_fronts)), (3, .inl (0, 4, .inl c_best))]
def MD_X7_takeAsBest : gg_M := (yX7_takeAsBest, cX7_takeAsBest, 2, none, 0, 0)
theorem nV_X7_takeAsBest : gg_nV MD_X7_takeAsBest 0 := ⟨⟨gg_mem (by decide +kernel) rfl, gg_mem cw_X7_takeAsBest rfl, by decide, by decide, by decide +kernel⟩, gg_mem (by decide +kernel) rfl, gg_mem (by decide +kernel) rfl⟩
def lp_X7_takeAsBest_2 {β : Type} (c_legs : Int32) (c_who : Nat → Int32) (c_fronts : Nat → Int32) (k33 : (Nat → Int32) → Option β) : Nat → (Int32) → (Nat → Int32) → Option β
  | 0, _, _ => none
  | n + 1, x1_2, c_best_2 => (if c_legs ≤ x1_2 then (k33 c_best_2) else gg_chk (gg_in x1_2 4) (gg_chk (gg_in (c_fronts x1_2.toNatClampNeg) 6) (gg_chk (gg_in x1_2 4) ((lp_X7_takeAsBest_2 c_legs c_who c_fronts k33 n (x1_2 + (1 : Int32)) (upd c_best_2 x1_2.toNatClampNeg (c_who (c_fronts x1_2.toNatClampNeg).toNatClampNeg)))))))
def f_X7_takeAsBest  (c_legs : Int32) (c_who : Nat → Int32) (c_fronts : Nat → Int32) (c_best : Nat → Int32) : Option ((Nat → Int32)) := (lp_X7_takeAsBest_2 c_legs c_who c_fronts (fun (c_best_33 : Nat → Int32) => (some c_best_33)) gg_fuel (0 : Int32) c_best)
set_option maxRecDepth 20000 in
set_option maxHeartbeats 4000000 in
theorem lq_X7_takeAsBest_2 {β : Type} {res : β} {rr : Option Value} {ww : va_W} (c_size : Int32) (c_legs : Int32) (c_who : Nat → Int32) (c_fronts : Nat → Int32) (k33 : (Nat → Int32) → Option β) (hk33 : ∀ (c_best_33 : Nat → Int32), k33 c_best_33 = some res → gg_G MD_X7_takeAsBest 33 [none, none] [] (wd_X7_takeAsBest c_size c_legs c_who c_fronts c_best_33) rr ww) : ∀ (n : Nat) (x1_2 : Int32) (c_best_2 : Nat → Int32), lp_X7_takeAsBest_2 c_legs c_who c_fronts k33 n x1_2 c_best_2 = some res → gg_G MD_X7_takeAsBest 2 [some (.ref 0), some (.int x1_2)] [] (wd_X7_takeAsBest c_size c_legs c_who c_fronts c_best_2) rr ww := by
  intro n
  induction n with
  | zero =>
    intro x1_2 c_best_2 h
    exact nomatch (show (none : Option β) = some res from h)
  | succ n ih =>
    intro x1_2 c_best_2 h
    rw [lp_X7_takeAsBest_2] at h
    refine gg_iload_n dX7_takeAsBest_2 rfl ?_
    refine gg_aload_n dX7_takeAsBest_3 rfl ?_
    refine gg_get 0 fl_X7_25 dX7_takeAsBest_4 rfl rfl ?_
    refine gg_icmp_ge 33 dX7_takeAsBest_7 (by decide) (fun hc => ?_) (fun hc => ?_)
    · replace h := gg_th h hc
      refine gg_fg [false, false] [none, none] rfl ?_
      exact hk33 c_best_2 h
    · replace h := gg_el h hc
      refine gg_aload_n dX7_takeAsBest_10 rfl ?_
      refine gg_get 0 fl_X7_18 dX7_takeAsBest_11 rfl rfl ?_
      refine gg_iload_n dX7_takeAsBest_14 rfl ?_
      refine gg_aload_n dX7_takeAsBest_15 rfl ?_
      refine gg_get 0 fl_X7_9 dX7_takeAsBest_16 rfl rfl ?_
      refine gg_aload_n dX7_takeAsBest_19 rfl ?_
      refine gg_get 0 fl_X7_15 dX7_takeAsBest_20 rfl rfl ?_
      refine gg_iload_n dX7_takeAsBest_23 rfl ?_
      obtain ⟨hb24, h⟩ := gg_ck h
      refine gg_iald 2 dX7_takeAsBest_24 rfl hb24 ?_
      obtain ⟨hb25, h⟩ := gg_ck h
      refine gg_iald 1 dX7_takeAsBest_25 rfl hb25 ?_
      obtain ⟨hb26, h⟩ := gg_ck h
      refine gg_iast 3 (wd_X7_takeAsBest c_size c_legs c_who c_fronts (upd c_best_2 x1_2.toNatClampNeg (c_who (c_fronts x1_2.toNatClampNeg).toNatClampNeg))) dX7_takeAsBest_26 rfl hb26 rfl ?_
      refine gg_iinc (x1_2 + (1 : Int32)) [some (.ref 0), some (.int (x1_2 + (1 : Int32)))] dX7_takeAsBest_27 rfl rfl rfl (Nat.le_of_ble_eq_true rfl) rfl ?_
      refine gg_goto 2 dX7_takeAsBest_30 (by decide) ?_
      exact ih (x1_2 + (1 : Int32)) (upd c_best_2 x1_2.toNatClampNeg (c_who (c_fronts x1_2.toNatClampNeg).toNatClampNeg)) h
set_option maxRecDepth 20000 in
set_option maxHeartbeats 8000000 in
theorem C_X7_takeAsBest  (c_size : Int32) (c_legs : Int32) (c_who : Nat → Int32) (c_fronts : Nat → Int32) (c_best : Nat → Int32) {res : (Nat → Int32)} (h : f_X7_takeAsBest c_legs c_who c_fronts c_best = some res) : gg_C MD_X7_takeAsBest [.ref 0] (wd_X7_takeAsBest c_size c_legs c_who c_fronts c_best) (none) (wd_X7_takeAsBest c_size c_legs c_who c_fronts res) := by
  refine gg_ofG [some (.ref 0), none] (plainFor_of_name (by decide)) (Nat.le_of_ble_eq_true rfl) rfl ?_
  unfold f_X7_takeAsBest at h
  refine gg_iconst (0 : Int32) dX7_takeAsBest_0 (by decide) ?_
  refine gg_istore_n [some (.ref 0), some (.int (0 : Int32))] dX7_takeAsBest_1 rfl (Nat.le_of_ble_eq_true rfl) rfl ?_
  refine lq_X7_takeAsBest_2 c_size c_legs c_who c_fronts _ ?_ gg_fuel (0 : Int32) c_best h
  intro c_best_33 h
  cases h
  exact gg_vret dX7_takeAsBest_33 rfl
def wd_X7_begin (c_size : Int32) (c_legs : Int32) (c_who : Nat → Int32) (c_fronts : Nat → Int32) (c_best : Nat → Int32) (c_p1_huts : Int32) (c_p1_food : Int32) (c_p1_due : Int32) (c_p1_backs : Int32) (c_p1_brick : Nat → Int32) : va_W := [(0, .inr (6, [.ref 1, .ref 2, .ref 3, .int c_size, .int c_legs])), (1, .inl (0, 6, .inl c_who)), (2, .inl (0, 4, .inl c_fronts)), (3, .inl (0, 4, .inl c_best)), (100, .inr (2, [.int c_p1_huts, .int c_p1_food, .int c_p1_due, .ref 101, .ref 102, .ref 103, .ref 104, .ref 105, .ref 106, .ref 107, .int c_p1_backs])), (106, .inl (0, 6, .inl c_p1_brick))]
def MD_X7_begin : gg_M := (yX7_begin, cX7_begin, 4, none, 2, 42)
theorem nV_X7_begin : gg_nV MD_X7_begin 2 := ⟨⟨gg_mem (by decide +kernel) rfl, gg_mem cw_X7_begin rfl, by decide, by decide, by decide +kernel⟩, gg_mem (by decide +kernel) rfl, gg_mem (by decide +kernel) rfl⟩
def lp_X7_begin_16 {β : Type} (c_p1_huts : Int32) (c_p1_brick : Nat → Int32) (k58 : (Int32) → (Nat → Int32) → Option β) : Nat → (Int32) → (Int32) → (Nat → Int32) → Option β
  | 0, _, _, _ => none
  | n + 1, x3_16, c_size_16, c_who_16 => (if c_p1_huts ≤ x3_16 then (k58 c_size_16 c_who_16) else (f_X2_isThere x3_16 c_p1_huts c_p1_brick).bind (fun v2 => gg_lt (fun (c_size_52 : Int32) (c_who_52 : Nat → Int32) => (lp_X7_begin_16 c_p1_huts c_p1_brick k58 n (x3_16 + (1 : Int32)) c_size_52 c_who_52)) (fun k52 => (if v2 = (0 : Int32) then (k52 c_size_16 c_who_16) else gg_chk (gg_in c_size_16 6) ((k52 (c_size_16 + (1 : Int32)) (upd c_who_16 c_size_16.toNatClampNeg x3_16)))))))
def lp_X7_begin_60 {β : Type} (c_legs : Int32) (k81 : (Nat → Int32) → Option β) : Nat → (Int32) → (Nat → Int32) → Option β
  | 0, _, _ => none
  | n + 1, x3_60, c_fronts_60 => (if c_legs ≤ x3_60 then (k81 c_fronts_60) else gg_chk (gg_in x3_60 4) ((lp_X7_begin_60 c_legs k81 n (x3_60 + (1 : Int32)) (upd c_fronts_60 x3_60.toNatClampNeg (0 : Int32)))))
def f_X7_begin (a0 : Int32) (c_size : Int32) (c_legs : Int32) (c_who : Nat → Int32) (c_fronts : Nat → Int32) (c_best : Nat → Int32) (c_p1_huts : Int32) (c_p1_brick : Nat → Int32) : Option ((Int32) × (Int32) × (Nat → Int32) × (Nat → Int32) × (Nat → Int32)) := (f_J9_min_7cf53 a0 (4 : Int32)).bind (fun v1 => (lp_X7_begin_16 c_p1_huts c_p1_brick (fun (c_size_58 : Int32) (c_who_58 : Nat → Int32) => (lp_X7_begin_60 v1 (fun (c_fronts_81 : Nat → Int32) => (f_X7_takeAsBest v1 c_who_58 c_fronts_81 c_best).bind (fun v3 => (some (c_size_58, v1, c_who_58, c_fronts_81, v3)))) gg_fuel (0 : Int32) c_fronts)) gg_fuel (0 : Int32) (0 : Int32) c_who))
set_option maxRecDepth 20000 in
set_option maxHeartbeats 4000000 in
theorem lq_X7_begin_16 {β : Type} {res : β} {rr : Option Value} {ww : va_W} (c_legs : Int32) (c_fronts : Nat → Int32) (c_best : Nat → Int32) (c_p1_huts : Int32) (c_p1_food : Int32) (c_p1_due : Int32) (c_p1_backs : Int32) (c_p1_brick : Nat → Int32) (k58 : (Int32) → (Nat → Int32) → Option β) (hk58 : ∀ (c_size_58 : Int32) (c_who_58 : Nat → Int32), k58 c_size_58 c_who_58 = some res → gg_G MD_X7_begin 58 [some (.ref 0), none, none, none] [] (wd_X7_begin c_size_58 c_legs c_who_58 c_fronts c_best c_p1_huts c_p1_food c_p1_due c_p1_backs c_p1_brick) rr ww) : ∀ (n : Nat) (x3_16 : Int32) (c_size_16 : Int32) (c_who_16 : Nat → Int32), lp_X7_begin_16 c_p1_huts c_p1_brick k58 n x3_16 c_size_16 c_who_16 = some res → gg_G MD_X7_begin 16 [some (.ref 0), some (.ref 100), none, some (.int x3_16)] [] (wd_X7_begin c_size_16 c_legs c_who_16 c_fronts c_best c_p1_huts c_p1_food c_p1_due c_p1_backs c_p1_brick) rr ww := by
  intro n
  induction n with
  | zero =>
    intro x3_16 c_size_16 c_who_16 h
    exact nomatch (show (none : Option β) = some res from h)
  | succ n ih =>
    intro x3_16 c_size_16 c_who_16 h
    rw [lp_X7_begin_16] at h
    refine gg_iload_n dX7_begin_16 rfl ?_
    refine gg_aload_n dX7_begin_17 rfl ?_
    refine gg_get 4 fl_X7_49 dX7_begin_18 rfl rfl ?_
    refine gg_icmp_ge 58 dX7_begin_21 (by decide) (fun hc => ?_) (fun hc => ?_)
    · replace h := gg_th h hc
      refine gg_fg [true, false, false, false] [some (.ref 0), none, none, none] rfl ?_
      exact hk58 c_size_16 c_who_16 h
    · replace h := gg_el h hc
      refine gg_aload_n dX7_begin_24 rfl ?_
      refine gg_iload_n dX7_begin_25 rfl ?_
      obtain ⟨v2, hv2, h⟩ := gg_bd h
      refine gg_callV (gg_sg [100]) [4, 5] (wd_X7_begin c_size_16 c_legs c_who_16 c_fronts c_best c_p1_huts c_p1_food c_p1_due c_p1_backs c_p1_brick) 0 (C_X2_isThere x3_16 c_p1_huts c_p1_food c_p1_due c_p1_backs c_p1_brick hv2) nV_X2_isThere ml_X7_54 rfl rfl rfl rfl rfl rfl rfl rfl rfl rfl [0, 1, 2, 3] 6 rfl rfl rfl rfl rfl ⟨Nat.le_of_ble_eq_true rfl, Nat.le_of_ble_eq_true rfl⟩ (Nat.le_of_ble_eq_true rfl) dX7_begin_26 [.int v2] rfl ?_
      obtain ⟨k52, hke52, h⟩ := gg_lte h
      have hk52 : ∀ (c_size_52 : Int32) (c_who_52 : Nat → Int32), k52 c_size_52 c_who_52 = some res → gg_G MD_X7_begin 52 [some (.ref 0), some (.ref 100), none, some (.int x3_16)] [] (wd_X7_begin c_size_52 c_legs c_who_52 c_fronts c_best c_p1_huts c_p1_food c_p1_due c_p1_backs c_p1_brick) rr ww := by
        intro c_size_52 c_who_52 h
        subst hke52
        refine gg_iinc (x3_16 + (1 : Int32)) [some (.ref 0), some (.ref 100), none, some (.int (x3_16 + (1 : Int32)))] dX7_begin_52 rfl rfl rfl (Nat.le_of_ble_eq_true rfl) rfl ?_
        refine gg_goto 16 dX7_begin_55 (by decide) ?_
        exact ih (x3_16 + (1 : Int32)) c_size_52 c_who_52 h
      clear hke52
      refine gg_if_eq 52 dX7_begin_29 (by decide) (fun hc => ?_) (fun hc => ?_)
      · replace h := gg_th h hc
        exact hk52 c_size_16 c_who_16 h
      · replace h := gg_el h hc
        refine gg_aload_n dX7_begin_32 rfl ?_
        refine gg_get 0 fl_X7_9 dX7_begin_33 rfl rfl ?_
        refine gg_aload_n dX7_begin_36 rfl ?_
        refine gg_get 0 fl_X7_21 dX7_begin_37 rfl rfl ?_
        refine gg_iload_n dX7_begin_40 rfl ?_
        obtain ⟨hb41, h⟩ := gg_ck h
        refine gg_iast 1 (wd_X7_begin c_size_16 c_legs (upd c_who_16 c_size_16.toNatClampNeg x3_16) c_fronts c_best c_p1_huts c_p1_food c_p1_due c_p1_backs c_p1_brick) dX7_begin_41 rfl hb41 rfl ?_
        refine gg_aload_n dX7_begin_42 rfl ?_
        refine gg_dup dX7_begin_43 rfl ?_
        refine gg_get 0 fl_X7_21 dX7_begin_44 rfl rfl ?_
        refine gg_iconst (1 : Int32) dX7_begin_47 (by decide) ?_
        refine gg_iadd dX7_begin_48 ?_
        refine gg_putf 0 (wd_X7_begin (c_size_16 + (1 : Int32)) c_legs (upd c_who_16 c_size_16.toNatClampNeg x3_16) c_fronts c_best c_p1_huts c_p1_food c_p1_due c_p1_backs c_p1_brick) fl_X7_21 dX7_begin_49 rfl (Nat.le_of_ble_eq_true rfl) (fun _ => ⟨rfl, rfl⟩) rfl ?_
        exact hk52 (c_size_16 + (1 : Int32)) (upd c_who_16 c_size_16.toNatClampNeg x3_16) h
set_option maxRecDepth 20000 in
set_option maxHeartbeats 4000000 in
theorem lq_X7_begin_60 {β : Type} {res : β} {rr : Option Value} {ww : va_W} (c_size : Int32) (c_legs : Int32) (c_who : Nat → Int32) (c_best : Nat → Int32) (c_p1_huts : Int32) (c_p1_food : Int32) (c_p1_due : Int32) (c_p1_backs : Int32) (c_p1_brick : Nat → Int32) (k81 : (Nat → Int32) → Option β) (hk81 : ∀ (c_fronts_81 : Nat → Int32), k81 c_fronts_81 = some res → gg_G MD_X7_begin 81 [some (.ref 0), none, none, none] [] (wd_X7_begin c_size c_legs c_who c_fronts_81 c_best c_p1_huts c_p1_food c_p1_due c_p1_backs c_p1_brick) rr ww) : ∀ (n : Nat) (x3_60 : Int32) (c_fronts_60 : Nat → Int32), lp_X7_begin_60 c_legs k81 n x3_60 c_fronts_60 = some res → gg_G MD_X7_begin 60 [some (.ref 0), none, none, some (.int x3_60)] [] (wd_X7_begin c_size c_legs c_who c_fronts_60 c_best c_p1_huts c_p1_food c_p1_due c_p1_backs c_p1_brick) rr ww := by
  intro n
  induction n with
  | zero =>
    intro x3_60 c_fronts_60 h
    exact nomatch (show (none : Option β) = some res from h)
  | succ n ih =>
    intro x3_60 c_fronts_60 h
    rw [lp_X7_begin_60] at h
    refine gg_iload_n dX7_begin_60 rfl ?_
    refine gg_aload_n dX7_begin_61 rfl ?_
    refine gg_get 0 fl_X7_25 dX7_begin_62 rfl rfl ?_
    refine gg_icmp_ge 81 dX7_begin_65 (by decide) (fun hc => ?_) (fun hc => ?_)
    · replace h := gg_th h hc
      refine gg_fg [true, false, false, false] [some (.ref 0), none, none, none] rfl ?_
      exact hk81 c_fronts_60 h
    · replace h := gg_el h hc
      refine gg_aload_n dX7_begin_68 rfl ?_
      refine gg_get 0 fl_X7_15 dX7_begin_69 rfl rfl ?_
      refine gg_iload_n dX7_begin_72 rfl ?_
      refine gg_iconst (0 : Int32) dX7_begin_73 (by decide) ?_
      obtain ⟨hb74, h⟩ := gg_ck h
      refine gg_iast 2 (wd_X7_begin c_size c_legs c_who (upd c_fronts_60 x3_60.toNatClampNeg (0 : Int32)) c_best c_p1_huts c_p1_food c_p1_due c_p1_backs c_p1_brick) dX7_begin_74 rfl hb74 rfl ?_
      refine gg_iinc (x3_60 + (1 : Int32)) [some (.ref 0), none, none, some (.int (x3_60 + (1 : Int32)))] dX7_begin_75 rfl rfl rfl (Nat.le_of_ble_eq_true rfl) rfl ?_
      refine gg_goto 60 dX7_begin_78 (by decide) ?_
      exact ih (x3_60 + (1 : Int32)) (upd c_fronts_60 x3_60.toNatClampNeg (0 : Int32)) h
set_option maxRecDepth 20000 in
set_option maxHeartbeats 8000000 in
theorem C_X7_begin (a0 : Int32) (c_size : Int32) (c_legs : Int32) (c_who : Nat → Int32) (c_fronts : Nat → Int32) (c_best : Nat → Int32) (c_p1_huts : Int32) (c_p1_food : Int32) (c_p1_due : Int32) (c_p1_backs : Int32) (c_p1_brick : Nat → Int32) {r0 : (Int32)} {r1 : (Int32)} {r2 : (Nat → Int32)} {r3 : (Nat → Int32)} {r4 : (Nat → Int32)} (h : f_X7_begin a0 c_size c_legs c_who c_fronts c_best c_p1_huts c_p1_brick = some (r0, r1, r2, r3, r4)) : gg_C MD_X7_begin [.ref 0, .ref 100, .int a0] (wd_X7_begin c_size c_legs c_who c_fronts c_best c_p1_huts c_p1_food c_p1_due c_p1_backs c_p1_brick) (none) (wd_X7_begin r0 r1 r2 r3 r4 c_p1_huts c_p1_food c_p1_due c_p1_backs c_p1_brick) := by
  refine gg_ofG [some (.ref 0), some (.ref 100), some (.int a0), none] (plainFor_of_name (by decide)) (Nat.le_of_ble_eq_true rfl) rfl ?_
  unfold f_X7_begin at h
  refine gg_aload_n dX7_begin_0 rfl ?_
  refine gg_iload_n dX7_begin_1 rfl ?_
  refine gg_iconst (4 : Int32) dX7_begin_2 (by decide) ?_
  obtain ⟨v1, hv1, h⟩ := gg_bd h
  refine gg_callS (gg_sg []) [] (wd_X7_begin c_size c_legs c_who c_fronts c_best c_p1_huts c_p1_food c_p1_due c_p1_backs c_p1_brick) (C_J9_min_7cf53 a0 (4 : Int32) hv1) nS_J9_min_7cf53 ml_X7_43 rfl rfl rfl rfl rfl rfl rfl [0, 1, 2, 3, 4, 5] 6 rfl rfl rfl rfl rfl ⟨Nat.le_of_ble_eq_true rfl, Nat.le_of_ble_eq_true rfl⟩ (Nat.le_of_ble_eq_true rfl) dX7_begin_3 [.int v1, .ref 0] rfl ?_
  refine gg_putf 0 (wd_X7_begin c_size v1 c_who c_fronts c_best c_p1_huts c_p1_food c_p1_due c_p1_backs c_p1_brick) fl_X7_25 dX7_begin_6 rfl (Nat.le_of_ble_eq_true rfl) (fun _ => ⟨rfl, rfl⟩) rfl ?_
  refine gg_aload_n dX7_begin_9 rfl ?_
  refine gg_iconst (0 : Int32) dX7_begin_10 (by decide) ?_
  refine gg_putf 0 (wd_X7_begin (0 : Int32) v1 c_who c_fronts c_best c_p1_huts c_p1_food c_p1_due c_p1_backs c_p1_brick) fl_X7_21 dX7_begin_11 rfl (Nat.le_of_ble_eq_true rfl) (fun _ => ⟨rfl, rfl⟩) rfl ?_
  refine gg_iconst (0 : Int32) dX7_begin_14 (by decide) ?_
  refine gg_istore_n [some (.ref 0), some (.ref 100), some (.int a0), some (.int (0 : Int32))] dX7_begin_15 rfl (Nat.le_of_ble_eq_true rfl) rfl ?_
  refine gg_fg [true, true, false, true] [some (.ref 0), some (.ref 100), none, some (.int (0 : Int32))] rfl ?_
  refine lq_X7_begin_16 v1 c_fronts c_best c_p1_huts c_p1_food c_p1_due c_p1_backs c_p1_brick _ ?_ gg_fuel (0 : Int32) (0 : Int32) c_who h
  intro c_size_58 c_who_58 h
  refine gg_iconst (0 : Int32) dX7_begin_58 (by decide) ?_
  refine gg_istore_n [some (.ref 0), none, none, some (.int (0 : Int32))] dX7_begin_59 rfl (Nat.le_of_ble_eq_true rfl) rfl ?_
  refine lq_X7_begin_60 c_size_58 v1 c_who_58 c_best c_p1_huts c_p1_food c_p1_due c_p1_backs c_p1_brick _ ?_ gg_fuel (0 : Int32) c_fronts h
  intro c_fronts_81 h
  refine gg_aload_n dX7_begin_81 rfl ?_
  obtain ⟨v3, hv3, h⟩ := gg_bd h
  refine gg_callV (gg_sg [0]) [0, 1, 2, 3] (wd_X7_begin c_size_58 v1 c_who_58 c_fronts_81 v3 c_p1_huts c_p1_food c_p1_due c_p1_backs c_p1_brick) 0 (C_X7_takeAsBest c_size_58 v1 c_who_58 c_fronts_81 c_best hv3) nV_X7_takeAsBest ml_X7_40 rfl rfl rfl rfl rfl rfl rfl rfl rfl rfl [4, 5] 6 rfl rfl rfl rfl rfl ⟨Nat.le_of_ble_eq_true rfl, Nat.le_of_ble_eq_true rfl⟩ (Nat.le_of_ble_eq_true rfl) dX7_begin_82 [] rfl ?_
  cases h
  exact gg_vret dX7_begin_85 rfl
def wd_X7_leastStrength (c_size : Int32) (c_legs : Int32) (c_who : Nat → Int32) (c_fronts : Nat → Int32) (c_p1_huts : Int32) (c_p1_food : Int32) (c_p1_due : Int32) (c_p1_backs : Int32) (c_p1_winds : Nat → Int32) (c_p1_kind : Nat → Int32) (c_p1_strength : Nat → Int32) : va_W := [(0, .inr (6, [.ref 1, .ref 2, .ref 3, .int c_size, .int c_legs])), (1, .inl (0, 6, .inl c_who)), (2, .inl (0, 4, .inl c_fronts)), (100, .inr (2, [.int c_p1_huts, .int c_p1_food, .int c_p1_due, .ref 101, .ref 102, .ref 103, .ref 104, .ref 105, .ref 106, .ref 107, .int c_p1_backs])), (101, .inl (0, 4, .inl c_p1_winds)), (102, .inl (0, 6, .inl c_p1_kind)), (104, .inl (0, 6, .inl c_p1_strength))]
def MD_X7_leastStrength : gg_M := (yX7_leastStrength, cX7_leastStrength, 7, some .int, 2, 42)
theorem nV_X7_leastStrength : gg_nV MD_X7_leastStrength 1 := ⟨⟨gg_mem (by decide +kernel) rfl, gg_mem cw_X7_leastStrength rfl, by decide, by decide, by decide +kernel⟩, gg_mem (by decide +kernel) rfl, gg_mem (by decide +kernel) rfl⟩
def lp_X7_leastStrength_48 {β : Type} (y3 : Int32) (y4 : Int32) (c_legs : Int32) (c_fronts : Nat → Int32) (k88 : (Int32) → Option β) : Nat → (Int32) → (Int32) → Option β
  | 0, _, _ => none
  | n + 1, x5_48, x6_48 => (if c_legs ≤ x6_48 then (k88 x5_48) else gg_chk (gg_in x6_48 4) (gg_lt (fun (s1_79 : Int32) => (lp_X7_leastStrength_48 y3 y4 c_legs c_fronts k88 n (x5_48 - s1_79) (x6_48 + (1 : Int32)))) (fun k79 => (if (c_fronts x6_48.toNatClampNeg) = y3 then (k79 y4) else (k79 (y4 / (2 : Int32)))))))
def lp_X7_leastStrength_4 {β : Type} (c_size : Int32) (c_legs : Int32) (c_who : Nat → Int32) (c_fronts : Nat → Int32) (c_p1_due : Int32) (c_p1_winds : Nat → Int32) (c_p1_kind : Nat → Int32) (c_p1_strength : Nat → Int32) (k110 : (Int32) → Option β) : Nat → (Int32) → (Int32) → Option β
  | 0, _, _ => none
  | n + 1, x2_4, x3_4 => (if c_size ≤ x3_4 then (k110 x2_4) else gg_chk (gg_in x3_4 6) (gg_chk (gg_in (c_who x3_4.toNatClampNeg) 6) ((f_X2_windDue c_p1_due c_p1_winds).bind (fun v1 => (f_X3_tiredInFlight (c_p1_kind (c_who x3_4.toNatClampNeg).toNatClampNeg) v1).bind (fun v2 => gg_chk (gg_in x3_4 6) (gg_chk (gg_in (c_who x3_4.toNatClampNeg) 6) ((lp_X7_leastStrength_48 x3_4 v2 c_legs c_fronts (fun (x5_88 : Int32) => gg_lt (fun (s0_103 : Int32) => (lp_X7_leastStrength_4 c_size c_legs c_who c_fronts c_p1_due c_p1_winds c_p1_kind c_p1_strength k110 n s0_103 (x3_4 + (1 : Int32)))) (fun k103 => (if x3_4 = (0 : Int32) then (k103 x5_88) else (f_J9_min_7cf53 x2_4 x5_88).bind (fun v3 => (k103 v3))))) gg_fuel (c_p1_strength (c_who x3_4.toNatClampNeg).toNatClampNeg) (0 : Int32)))))))))
def f_X7_leastStrength  (c_size : Int32) (c_legs : Int32) (c_who : Nat → Int32) (c_fronts : Nat → Int32) (c_p1_due : Int32) (c_p1_winds : Nat → Int32) (c_p1_kind : Nat → Int32) (c_p1_strength : Nat → Int32) : Option (Int32) := (lp_X7_leastStrength_4 c_size c_legs c_who c_fronts c_p1_due c_p1_winds c_p1_kind c_p1_strength (fun (x2_110 : Int32) => (some x2_110)) gg_fuel (0 : Int32) (0 : Int32))
set_option maxRecDepth 20000 in
set_option maxHeartbeats 4000000 in
theorem lq_X7_leastStrength_48 {β : Type} {res : β} {rr : Option Value} {ww : va_W} (y2 : Int32) (y3 : Int32) (y4 : Int32) (c_size : Int32) (c_legs : Int32) (c_who : Nat → Int32) (c_fronts : Nat → Int32) (c_p1_huts : Int32) (c_p1_food : Int32) (c_p1_due : Int32) (c_p1_backs : Int32) (c_p1_winds : Nat → Int32) (c_p1_kind : Nat → Int32) (c_p1_strength : Nat → Int32) (k88 : (Int32) → Option β) (hk88 : ∀ (x5_88 : Int32), k88 x5_88 = some res → gg_G MD_X7_leastStrength 88 [some (.ref 0), some (.ref 100), some (.int y2), some (.int y3), none, some (.int x5_88), none] [] (wd_X7_leastStrength c_size c_legs c_who c_fronts c_p1_huts c_p1_food c_p1_due c_p1_backs c_p1_winds c_p1_kind c_p1_strength) rr ww) : ∀ (n : Nat) (x5_48 : Int32) (x6_48 : Int32), lp_X7_leastStrength_48 y3 y4 c_legs c_fronts k88 n x5_48 x6_48 = some res → gg_G MD_X7_leastStrength 48 [some (.ref 0), some (.ref 100), some (.int y2), some (.int y3), some (.int y4), some (.int x5_48), some (.int x6_48)] [] (wd_X7_leastStrength c_size c_legs c_who c_fronts c_p1_huts c_p1_food c_p1_due c_p1_backs c_p1_winds c_p1_kind c_p1_strength) rr ww := by
  intro n
  induction n with
  | zero =>
    intro x5_48 x6_48 h
    exact nomatch (show (none : Option β) = some res from h)
  | succ n ih =>
    intro x5_48 x6_48 h
    rw [lp_X7_leastStrength_48] at h
    refine gg_iload dX7_leastStrength_48 rfl ?_
    refine gg_aload_n dX7_leastStrength_50 rfl ?_
    refine gg_get 0 fl_X7_25 dX7_leastStrength_51 rfl rfl ?_
    refine gg_icmp_ge 88 dX7_leastStrength_54 (by decide) (fun hc => ?_) (fun hc => ?_)
    · replace h := gg_th h hc
      refine gg_fg [true, true, true, true, false, true, false] [some (.ref 0), some (.ref 100), some (.int y2), some (.int y3), none, some (.int x5_48), none] rfl ?_
      exact hk88 x5_48 h
    · replace h := gg_el h hc
      refine gg_iload dX7_leastStrength_57 rfl ?_
      refine gg_aload_n dX7_leastStrength_59 rfl ?_
      refine gg_get 0 fl_X7_15 dX7_leastStrength_60 rfl rfl ?_
      refine gg_iload dX7_leastStrength_63 rfl ?_
      obtain ⟨hb65, h⟩ := gg_ck h
      refine gg_iald 2 dX7_leastStrength_65 rfl hb65 ?_
      refine gg_iload_n dX7_leastStrength_66 rfl ?_
      obtain ⟨k79, hke79, h⟩ := gg_lte h
      have hk79 : ∀ (s1_79 : Int32), k79 s1_79 = some res → gg_G MD_X7_leastStrength 79 [some (.ref 0), some (.ref 100), some (.int y2), some (.int y3), some (.int y4), none, some (.int x6_48)] [.int s1_79, .int x5_48] (wd_X7_leastStrength c_size c_legs c_who c_fronts c_p1_huts c_p1_food c_p1_due c_p1_backs c_p1_winds c_p1_kind c_p1_strength) rr ww := by
        intro s1_79 h
        subst hke79
        refine gg_isub dX7_leastStrength_79 ?_
        refine gg_istore [some (.ref 0), some (.ref 100), some (.int y2), some (.int y3), some (.int y4), some (.int (x5_48 - s1_79)), some (.int x6_48)] dX7_leastStrength_80 rfl (Nat.le_of_ble_eq_true rfl) rfl ?_
        refine gg_iinc (x6_48 + (1 : Int32)) [some (.ref 0), some (.ref 100), some (.int y2), some (.int y3), some (.int y4), some (.int (x5_48 - s1_79)), some (.int (x6_48 + (1 : Int32)))] dX7_leastStrength_82 rfl rfl rfl (Nat.le_of_ble_eq_true rfl) rfl ?_
        refine gg_goto 48 dX7_leastStrength_85 (by decide) ?_
        exact ih (x5_48 - s1_79) (x6_48 + (1 : Int32)) h
      clear hke79
      refine gg_icmp_ne 75 dX7_leastStrength_67 (by decide) (fun hc => ?_) (fun hc => ?_)
      · replace h := gg_el h hc
        refine gg_iload dX7_leastStrength_75 rfl ?_
        refine gg_iconst (2 : Int32) dX7_leastStrength_77 (by decide) ?_
        refine gg_idiv dX7_leastStrength_78 (by decide) ?_
        refine gg_fg [true, true, true, true, true, false, true] [some (.ref 0), some (.ref 100), some (.int y2), some (.int y3), some (.int y4), none, some (.int x6_48)] rfl ?_
        exact hk79 (y4 / (2 : Int32)) h
      · replace h := gg_th h hc
        refine gg_iload dX7_leastStrength_70 rfl ?_
        refine gg_goto 79 dX7_leastStrength_72 (by decide) ?_
        refine gg_fg [true, true, true, true, true, false, true] [some (.ref 0), some (.ref 100), some (.int y2), some (.int y3), some (.int y4), none, some (.int x6_48)] rfl ?_
        exact hk79 y4 h
set_option maxRecDepth 20000 in
set_option maxHeartbeats 4000000 in
theorem lq_X7_leastStrength_4 {β : Type} {res : β} {rr : Option Value} {ww : va_W} (c_size : Int32) (c_legs : Int32) (c_who : Nat → Int32) (c_fronts : Nat → Int32) (c_p1_huts : Int32) (c_p1_food : Int32) (c_p1_due : Int32) (c_p1_backs : Int32) (c_p1_winds : Nat → Int32) (c_p1_kind : Nat → Int32) (c_p1_strength : Nat → Int32) (k110 : (Int32) → Option β) (hk110 : ∀ (x2_110 : Int32), k110 x2_110 = some res → gg_G MD_X7_leastStrength 110 [none, none, some (.int x2_110), none, none, none, none] [] (wd_X7_leastStrength c_size c_legs c_who c_fronts c_p1_huts c_p1_food c_p1_due c_p1_backs c_p1_winds c_p1_kind c_p1_strength) rr ww) : ∀ (n : Nat) (x2_4 : Int32) (x3_4 : Int32), lp_X7_leastStrength_4 c_size c_legs c_who c_fronts c_p1_due c_p1_winds c_p1_kind c_p1_strength k110 n x2_4 x3_4 = some res → gg_G MD_X7_leastStrength 4 [some (.ref 0), some (.ref 100), some (.int x2_4), some (.int x3_4), none, none, none] [] (wd_X7_leastStrength c_size c_legs c_who c_fronts c_p1_huts c_p1_food c_p1_due c_p1_backs c_p1_winds c_p1_kind c_p1_strength) rr ww := by
  intro n
  induction n with
  | zero =>
    intro x2_4 x3_4 h
    exact nomatch (show (none : Option β) = some res from h)
  | succ n ih =>
    intro x2_4 x3_4 h
    rw [lp_X7_leastStrength_4] at h
    refine gg_iload_n dX7_leastStrength_4 rfl ?_
    refine gg_aload_n dX7_leastStrength_5 rfl ?_
    refine gg_get 0 fl_X7_21 dX7_leastStrength_6 rfl rfl ?_
    refine gg_icmp_ge 110 dX7_leastStrength_9 (by decide) (fun hc => ?_) (fun hc => ?_)
    · replace h := gg_th h hc
      refine gg_fg [false, false, true, false, false, false, false] [none, none, some (.int x2_4), none, none, none, none] rfl ?_
      exact hk110 x2_4 h
    · replace h := gg_el h hc
      refine gg_aload_n dX7_leastStrength_12 rfl ?_
      refine gg_get 3 fl_X7_58 dX7_leastStrength_13 rfl rfl ?_
      refine gg_aload_n dX7_leastStrength_16 rfl ?_
      refine gg_get 0 fl_X7_9 dX7_leastStrength_17 rfl rfl ?_
      refine gg_iload_n dX7_leastStrength_20 rfl ?_
      obtain ⟨hb21, h⟩ := gg_ck h
      refine gg_iald 1 dX7_leastStrength_21 rfl hb21 ?_
      obtain ⟨hb22, h⟩ := gg_ck h
      refine gg_iald 5 dX7_leastStrength_22 rfl hb22 ?_
      refine gg_aload_n dX7_leastStrength_23 rfl ?_
      obtain ⟨v1, hv1, h⟩ := gg_bd h
      refine gg_callV (gg_sg [100]) [3, 4] (wd_X7_leastStrength c_size c_legs c_who c_fronts c_p1_huts c_p1_food c_p1_due c_p1_backs c_p1_winds c_p1_kind c_p1_strength) 0 (C_X2_windDue c_p1_huts c_p1_food c_p1_due c_p1_backs c_p1_winds hv1) nV_X2_windDue ml_X7_61 rfl rfl rfl rfl rfl rfl rfl rfl rfl rfl [0, 1, 2, 5, 6] 7 rfl rfl rfl rfl rfl ⟨Nat.le_of_ble_eq_true rfl, Nat.le_of_ble_eq_true rfl⟩ (Nat.le_of_ble_eq_true rfl) dX7_leastStrength_24 [.int v1, .int (c_p1_kind (c_who x3_4.toNatClampNeg).toNatClampNeg)] rfl ?_
      obtain ⟨v2, hv2, h⟩ := gg_bd h
      refine gg_callS (gg_sg []) [] (wd_X7_leastStrength c_size c_legs c_who c_fronts c_p1_huts c_p1_food c_p1_due c_p1_backs c_p1_winds c_p1_kind c_p1_strength) (C_X3_tiredInFlight (c_p1_kind (c_who x3_4.toNatClampNeg).toNatClampNeg) v1 hv2) nS_X3_tiredInFlight ml_X7_65 rfl rfl rfl rfl rfl rfl rfl [0, 1, 2, 3, 4, 5, 6] 7 rfl rfl rfl rfl rfl ⟨Nat.le_of_ble_eq_true rfl, Nat.le_of_ble_eq_true rfl⟩ (Nat.le_of_ble_eq_true rfl) dX7_leastStrength_27 [.int v2] rfl ?_
      refine gg_istore [some (.ref 0), some (.ref 100), some (.int x2_4), some (.int x3_4), some (.int v2), none, none] dX7_leastStrength_30 rfl (Nat.le_of_ble_eq_true rfl) rfl ?_
      refine gg_aload_n dX7_leastStrength_32 rfl ?_
      refine gg_get 3 fl_X7_70 dX7_leastStrength_33 rfl rfl ?_
      refine gg_aload_n dX7_leastStrength_36 rfl ?_
      refine gg_get 0 fl_X7_9 dX7_leastStrength_37 rfl rfl ?_
      refine gg_iload_n dX7_leastStrength_40 rfl ?_
      obtain ⟨hb41, h⟩ := gg_ck h
      refine gg_iald 1 dX7_leastStrength_41 rfl hb41 ?_
      obtain ⟨hb42, h⟩ := gg_ck h
      refine gg_iald 6 dX7_leastStrength_42 rfl hb42 ?_
      refine gg_istore [some (.ref 0), some (.ref 100), some (.int x2_4), some (.int x3_4), some (.int v2), some (.int (c_p1_strength (c_who x3_4.toNatClampNeg).toNatClampNeg)), none] dX7_leastStrength_43 rfl (Nat.le_of_ble_eq_true rfl) rfl ?_
      refine gg_iconst (0 : Int32) dX7_leastStrength_45 (by decide) ?_
      refine gg_istore [some (.ref 0), some (.ref 100), some (.int x2_4), some (.int x3_4), some (.int v2), some (.int (c_p1_strength (c_who x3_4.toNatClampNeg).toNatClampNeg)), some (.int (0 : Int32))] dX7_leastStrength_46 rfl (Nat.le_of_ble_eq_true rfl) rfl ?_
      refine lq_X7_leastStrength_48 x2_4 x3_4 v2 c_size c_legs c_who c_fronts c_p1_huts c_p1_food c_p1_due c_p1_backs c_p1_winds c_p1_kind c_p1_strength _ ?_ gg_fuel (c_p1_strength (c_who x3_4.toNatClampNeg).toNatClampNeg) (0 : Int32) h
      intro x5_88 h
      refine gg_iload_n dX7_leastStrength_88 rfl ?_
      obtain ⟨k103, hke103, h⟩ := gg_lte h
      have hk103 : ∀ (s0_103 : Int32), k103 s0_103 = some res → gg_G MD_X7_leastStrength 103 [some (.ref 0), some (.ref 100), none, some (.int x3_4), none, none, none] [.int s0_103] (wd_X7_leastStrength c_size c_legs c_who c_fronts c_p1_huts c_p1_food c_p1_due c_p1_backs c_p1_winds c_p1_kind c_p1_strength) rr ww := by
        intro s0_103 h
        subst hke103
        refine gg_istore_n [some (.ref 0), some (.ref 100), some (.int s0_103), some (.int x3_4), none, none, none] dX7_leastStrength_103 rfl (Nat.le_of_ble_eq_true rfl) rfl ?_
        refine gg_iinc (x3_4 + (1 : Int32)) [some (.ref 0), some (.ref 100), some (.int s0_103), some (.int (x3_4 + (1 : Int32))), none, none, none] dX7_leastStrength_104 rfl rfl rfl (Nat.le_of_ble_eq_true rfl) rfl ?_
        refine gg_goto 4 dX7_leastStrength_107 (by decide) ?_
        exact ih s0_103 (x3_4 + (1 : Int32)) h
      clear hke103
      refine gg_if_ne 97 dX7_leastStrength_89 (by decide) (fun hc => ?_) (fun hc => ?_)
      · replace h := gg_el h hc
        refine gg_iload_n dX7_leastStrength_97 rfl ?_
        refine gg_iload dX7_leastStrength_98 rfl ?_
        obtain ⟨v3, hv3, h⟩ := gg_bd h
        refine gg_callS (gg_sg []) [] (wd_X7_leastStrength c_size c_legs c_who c_fronts c_p1_huts c_p1_food c_p1_due c_p1_backs c_p1_winds c_p1_kind c_p1_strength) (C_J9_min_7cf53 x2_4 x5_88 hv3) nS_J9_min_7cf53 ml_X7_43 rfl rfl rfl rfl rfl rfl rfl [0, 1, 2, 3, 4, 5, 6] 7 rfl rfl rfl rfl rfl ⟨Nat.le_of_ble_eq_true rfl, Nat.le_of_ble_eq_true rfl⟩ (Nat.le_of_ble_eq_true rfl) dX7_leastStrength_100 [.int v3] rfl ?_
        refine gg_fg [true, true, false, true, false, false, false] [some (.ref 0), some (.ref 100), none, some (.int x3_4), none, none, none] rfl ?_
        exact hk103 v3 h
      · replace h := gg_th h hc
        refine gg_iload dX7_leastStrength_92 rfl ?_
        refine gg_goto 103 dX7_leastStrength_94 (by decide) ?_
        refine gg_fg [true, true, false, true, false, false, false] [some (.ref 0), some (.ref 100), none, some (.int x3_4), none, none, none] rfl ?_
        exact hk103 x5_88 h
set_option maxRecDepth 20000 in
set_option maxHeartbeats 8000000 in
theorem C_X7_leastStrength  (c_size : Int32) (c_legs : Int32) (c_who : Nat → Int32) (c_fronts : Nat → Int32) (c_p1_huts : Int32) (c_p1_food : Int32) (c_p1_due : Int32) (c_p1_backs : Int32) (c_p1_winds : Nat → Int32) (c_p1_kind : Nat → Int32) (c_p1_strength : Nat → Int32) {res : Int32} (h : f_X7_leastStrength c_size c_legs c_who c_fronts c_p1_due c_p1_winds c_p1_kind c_p1_strength = some res) : gg_C MD_X7_leastStrength [.ref 0, .ref 100] (wd_X7_leastStrength c_size c_legs c_who c_fronts c_p1_huts c_p1_food c_p1_due c_p1_backs c_p1_winds c_p1_kind c_p1_strength) (some (.int res)) (wd_X7_leastStrength c_size c_legs c_who c_fronts c_p1_huts c_p1_food c_p1_due c_p1_backs c_p1_winds c_p1_kind c_p1_strength) := by
  refine gg_ofG [some (.ref 0), some (.ref 100), none, none, none, none, none] (plainFor_of_name (by decide)) (Nat.le_of_ble_eq_true rfl) rfl ?_
  unfold f_X7_leastStrength at h
  refine gg_iconst (0 : Int32) dX7_leastStrength_0 (by decide) ?_
  refine gg_istore_n [some (.ref 0), some (.ref 100), some (.int (0 : Int32)), none, none, none, none] dX7_leastStrength_1 rfl (Nat.le_of_ble_eq_true rfl) rfl ?_
  refine gg_iconst (0 : Int32) dX7_leastStrength_2 (by decide) ?_
  refine gg_istore_n [some (.ref 0), some (.ref 100), some (.int (0 : Int32)), some (.int (0 : Int32)), none, none, none] dX7_leastStrength_3 rfl (Nat.le_of_ble_eq_true rfl) rfl ?_
  refine lq_X7_leastStrength_4 c_size c_legs c_who c_fronts c_p1_huts c_p1_food c_p1_due c_p1_backs c_p1_winds c_p1_kind c_p1_strength _ ?_ gg_fuel (0 : Int32) (0 : Int32) h
  intro x2_110 h
  refine gg_iload_n dX7_leastStrength_110 rfl ?_
  cases h
  exact gg_iret dX7_leastStrength_111 rfl
def wd_X7_goOn (c_size : Int32) (c_legs : Int32) (c_fronts : Nat → Int32) : va_W := [(0, .inr (6, [.ref 1, .ref 2, .ref 3, .int c_size, .int c_legs])), (2, .inl (0, 4, .inl c_fronts))]
def MD_X7_goOn : gg_M := (yX7_goOn, cX7_goOn, 4, some .boolean, 0, 0)
theorem nV_X7_goOn : gg_nV MD_X7_goOn 0 := ⟨⟨gg_mem (by decide +kernel) rfl, gg_mem cw_X7_goOn rfl, by decide, by decide, by decide +kernel⟩, gg_mem (by decide +kernel) rfl, gg_mem (by decide +kernel) rfl⟩
def lp_X7_goOn_7 {β : Type} (c_size : Int32) (c_fronts : Nat → Int32) (k26 : (Int32) → Option β) (k66 : Option β) : Nat → (Int32) → Option β
  | 0, _ => none
  | n + 1, x1_7 => (if x1_7 < (0 : Int32) then k66 else gg_chk (gg_in x1_7 4) ((if (c_size - (1 : Int32)) ≤ (c_fronts x1_7.toNatClampNeg) then (lp_X7_goOn_7 c_size c_fronts k26 k66 n (x1_7 + (-1 : Int32))) else (k26 x1_7))))
def lp_X7_goOn_37 {β : Type} (y2 : Int32) (c_legs : Int32) (k58 : (Nat → Int32) → Option β) : Nat → (Int32) → (Nat → Int32) → Option β
  | 0, _, _ => none
  | n + 1, x3_37, c_fronts_37 => (if c_legs ≤ x3_37 then (k58 c_fronts_37) else gg_chk (gg_in x3_37 4) ((lp_X7_goOn_37 y2 c_legs k58 n (x3_37 + (1 : Int32)) (upd c_fronts_37 x3_37.toNatClampNeg y2))))
def f_X7_goOn  (c_size : Int32) (c_legs : Int32) (c_fronts : Nat → Int32) : Option (Int32 × (Nat → Int32)) := (lp_X7_goOn_7 c_size c_fronts (fun (x1_26 : Int32) => gg_chk (gg_in x1_26 4) ((lp_X7_goOn_37 ((c_fronts x1_26.toNatClampNeg) + (1 : Int32)) c_legs (fun (c_fronts_58 : Nat → Int32) => (some ((1 : Int32), c_fronts_58))) gg_fuel x1_26 c_fronts))) ((some ((0 : Int32), c_fronts))) gg_fuel (c_legs - (1 : Int32)))
set_option maxRecDepth 20000 in
set_option maxHeartbeats 4000000 in
theorem lq_X7_goOn_7 {β : Type} {res : β} {rr : Option Value} {ww : va_W} (c_size : Int32) (c_legs : Int32) (c_fronts : Nat → Int32) (k26 : (Int32) → Option β) (k66 : Option β) (hk26 : ∀ (x1_26 : Int32), k26 x1_26 = some res → gg_G MD_X7_goOn 26 [some (.ref 0), some (.int x1_26), none, none] [] (wd_X7_goOn c_size c_legs c_fronts) rr ww) (hk66 : k66 = some res → gg_G MD_X7_goOn 66 [none, none, none, none] [] (wd_X7_goOn c_size c_legs c_fronts) rr ww) : ∀ (n : Nat) (x1_7 : Int32), lp_X7_goOn_7 c_size c_fronts k26 k66 n x1_7 = some res → gg_G MD_X7_goOn 7 [some (.ref 0), some (.int x1_7), none, none] [] (wd_X7_goOn c_size c_legs c_fronts) rr ww := by
  intro n
  induction n with
  | zero =>
    intro x1_7 h
    exact nomatch (show (none : Option β) = some res from h)
  | succ n ih =>
    intro x1_7 h
    rw [lp_X7_goOn_7] at h
    refine gg_iload_n dX7_goOn_7 rfl ?_
    refine gg_if_lt 66 dX7_goOn_8 (by decide) (fun hc => ?_) (fun hc => ?_)
    · replace h := gg_th h hc
      refine gg_fg [false, false, false, false] [none, none, none, none] rfl ?_
      exact hk66 h
    · replace h := gg_el h hc
      refine gg_aload_n dX7_goOn_11 rfl ?_
      refine gg_get 0 fl_X7_15 dX7_goOn_12 rfl rfl ?_
      refine gg_iload_n dX7_goOn_15 rfl ?_
      obtain ⟨hb16, h⟩ := gg_ck h
      refine gg_iald 1 dX7_goOn_16 rfl hb16 ?_
      refine gg_aload_n dX7_goOn_17 rfl ?_
      refine gg_get 0 fl_X7_21 dX7_goOn_18 rfl rfl ?_
      refine gg_iconst (1 : Int32) dX7_goOn_21 (by decide) ?_
      refine gg_isub dX7_goOn_22 ?_
      refine gg_icmp_ge 60 dX7_goOn_23 (by decide) (fun hc => ?_) (fun hc => ?_)
      · replace h := gg_th h hc
        refine gg_iinc (x1_7 + (-1 : Int32)) [some (.ref 0), some (.int (x1_7 + (-1 : Int32))), none, none] dX7_goOn_60 rfl rfl rfl (Nat.le_of_ble_eq_true rfl) rfl ?_
        refine gg_goto 7 dX7_goOn_63 (by decide) ?_
        exact ih (x1_7 + (-1 : Int32)) h
      · replace h := gg_el h hc
        exact hk26 x1_7 h
set_option maxRecDepth 20000 in
set_option maxHeartbeats 4000000 in
theorem lq_X7_goOn_37 {β : Type} {res : β} {rr : Option Value} {ww : va_W} (y2 : Int32) (c_size : Int32) (c_legs : Int32) (k58 : (Nat → Int32) → Option β) (hk58 : ∀ (c_fronts_58 : Nat → Int32), k58 c_fronts_58 = some res → gg_G MD_X7_goOn 58 [none, none, none, none] [] (wd_X7_goOn c_size c_legs c_fronts_58) rr ww) : ∀ (n : Nat) (x3_37 : Int32) (c_fronts_37 : Nat → Int32), lp_X7_goOn_37 y2 c_legs k58 n x3_37 c_fronts_37 = some res → gg_G MD_X7_goOn 37 [some (.ref 0), none, some (.int y2), some (.int x3_37)] [] (wd_X7_goOn c_size c_legs c_fronts_37) rr ww := by
  intro n
  induction n with
  | zero =>
    intro x3_37 c_fronts_37 h
    exact nomatch (show (none : Option β) = some res from h)
  | succ n ih =>
    intro x3_37 c_fronts_37 h
    rw [lp_X7_goOn_37] at h
    refine gg_iload_n dX7_goOn_37 rfl ?_
    refine gg_aload_n dX7_goOn_38 rfl ?_
    refine gg_get 0 fl_X7_25 dX7_goOn_39 rfl rfl ?_
    refine gg_icmp_ge 58 dX7_goOn_42 (by decide) (fun hc => ?_) (fun hc => ?_)
    · replace h := gg_th h hc
      refine gg_fg [false, false, false, false] [none, none, none, none] rfl ?_
      exact hk58 c_fronts_37 h
    · replace h := gg_el h hc
      refine gg_aload_n dX7_goOn_45 rfl ?_
      refine gg_get 0 fl_X7_15 dX7_goOn_46 rfl rfl ?_
      refine gg_iload_n dX7_goOn_49 rfl ?_
      refine gg_iload_n dX7_goOn_50 rfl ?_
      obtain ⟨hb51, h⟩ := gg_ck h
      refine gg_iast 1 (wd_X7_goOn c_size c_legs (upd c_fronts_37 x3_37.toNatClampNeg y2)) dX7_goOn_51 rfl hb51 rfl ?_
      refine gg_iinc (x3_37 + (1 : Int32)) [some (.ref 0), none, some (.int y2), some (.int (x3_37 + (1 : Int32)))] dX7_goOn_52 rfl rfl rfl (Nat.le_of_ble_eq_true rfl) rfl ?_
      refine gg_goto 37 dX7_goOn_55 (by decide) ?_
      exact ih (x3_37 + (1 : Int32)) (upd c_fronts_37 x3_37.toNatClampNeg y2) h
set_option maxRecDepth 20000 in
set_option maxHeartbeats 8000000 in
theorem C_X7_goOn  (c_size : Int32) (c_legs : Int32) (c_fronts : Nat → Int32) {r0 : Int32} {r1 : (Nat → Int32)} (h : f_X7_goOn c_size c_legs c_fronts = some (r0, r1)) : gg_C MD_X7_goOn [.ref 0] (wd_X7_goOn c_size c_legs c_fronts) (some (.int r0)) (wd_X7_goOn c_size c_legs r1) := by
  refine gg_ofG [some (.ref 0), none, none, none] (plainFor_of_name (by decide)) (Nat.le_of_ble_eq_true rfl) rfl ?_
  unfold f_X7_goOn at h
  refine gg_aload_n dX7_goOn_0 rfl ?_
  refine gg_get 0 fl_X7_25 dX7_goOn_1 rfl rfl ?_
  refine gg_iconst (1 : Int32) dX7_goOn_4 (by decide) ?_
  refine gg_isub dX7_goOn_5 ?_
  refine gg_istore_n [some (.ref 0), some (.int (c_legs - (1 : Int32))), none, none] dX7_goOn_6 rfl (Nat.le_of_ble_eq_true rfl) rfl ?_
  refine lq_X7_goOn_7 c_size c_legs c_fronts _ _ ?_ ?_ gg_fuel (c_legs - (1 : Int32)) h
  · intro x1_26 h
    refine gg_aload_n dX7_goOn_26 rfl ?_
    refine gg_get 0 fl_X7_15 dX7_goOn_27 rfl rfl ?_
    refine gg_iload_n dX7_goOn_30 rfl ?_
    obtain ⟨hb31, h⟩ := gg_ck h
    refine gg_iald 1 dX7_goOn_31 rfl hb31 ?_
    refine gg_iconst (1 : Int32) dX7_goOn_32 (by decide) ?_
    refine gg_iadd dX7_goOn_33 ?_
    refine gg_istore_n [some (.ref 0), some (.int x1_26), some (.int ((c_fronts x1_26.toNatClampNeg) + (1 : Int32))), none] dX7_goOn_34 rfl (Nat.le_of_ble_eq_true rfl) rfl ?_
    refine gg_iload_n dX7_goOn_35 rfl ?_
    refine gg_istore_n [some (.ref 0), some (.int x1_26), some (.int ((c_fronts x1_26.toNatClampNeg) + (1 : Int32))), some (.int x1_26)] dX7_goOn_36 rfl (Nat.le_of_ble_eq_true rfl) rfl ?_
    refine gg_fg [true, false, true, true] [some (.ref 0), none, some (.int ((c_fronts x1_26.toNatClampNeg) + (1 : Int32))), some (.int x1_26)] rfl ?_
    refine lq_X7_goOn_37 ((c_fronts x1_26.toNatClampNeg) + (1 : Int32)) c_size c_legs _ ?_ gg_fuel x1_26 c_fronts h
    intro c_fronts_58 h
    refine gg_iconst (1 : Int32) dX7_goOn_58 (by decide) ?_
    cases h
    exact gg_zret dX7_goOn_59 rfl rfl
  · intro  h
    refine gg_iconst (0 : Int32) dX7_goOn_66 (by decide) ?_
    cases h
    exact gg_zret dX7_goOn_67 rfl rfl
def wd_X7_seek (c_size : Int32) (c_legs : Int32) (c_who : Nat → Int32) (c_fronts : Nat → Int32) (c_best : Nat → Int32) (c_p1_huts : Int32) (c_p1_food : Int32) (c_p1_due : Int32) (c_p1_backs : Int32) (c_p1_winds : Nat → Int32) (c_p1_kind : Nat → Int32) (c_p1_strength : Nat → Int32) (c_p1_brick : Nat → Int32) : va_W := [(0, .inr (6, [.ref 1, .ref 2, .ref 3, .int c_size, .int c_legs])), (1, .inl (0, 6, .inl c_who)), (2, .inl (0, 4, .inl c_fronts)), (3, .inl (0, 4, .inl c_best)), (100, .inr (2, [.int c_p1_huts, .int c_p1_food, .int c_p1_due, .ref 101, .ref 102, .ref 103, .ref 104, .ref 105, .ref 106, .ref 107, .int c_p1_backs])), (101, .inl (0, 4, .inl c_p1_winds)), (102, .inl (0, 6, .inl c_p1_kind)), (104, .inl (0, 6, .inl c_p1_strength)), (106, .inl (0, 6, .inl c_p1_brick))]
def MD_X7_seek : gg_M := (yX7_seek, cX7_seek, 7, some .int, 3, 68)
theorem nV_X7_seek : gg_nV MD_X7_seek 2 := ⟨⟨gg_mem (by decide +kernel) rfl, gg_mem cw_X7_seek rfl, by decide, by decide, by decide +kernel⟩, gg_mem (by decide +kernel) rfl, gg_mem (by decide +kernel) rfl⟩
def lp_X7_seek_21 {β : Type} (c_size : Int32) (c_legs : Int32) (c_who : Nat → Int32) (c_p1_due : Int32) (c_p1_winds : Nat → Int32) (c_p1_kind : Nat → Int32) (c_p1_strength : Nat → Int32) (k66 : (Int32) → (Nat → Int32) → (Nat → Int32) → Option β) : Nat → (Int32) → (Int32) → (Int32) → (Nat → Int32) → (Nat → Int32) → Option β
  | 0, _, _, _, _, _ => none
  | n + 1, x3_21, x4_21, x5_21, c_fronts_21, c_best_21 => (if (1000 : Int32) ≤ x5_21 then (k66 x3_21 c_fronts_21 c_best_21) else (if x4_21 = (0 : Int32) then (k66 x3_21 c_fronts_21 c_best_21) else (f_X7_leastStrength c_size c_legs c_who c_fronts_21 c_p1_due c_p1_winds c_p1_kind c_p1_strength).bind (fun v4 => gg_lt (fun (x3_54 : Int32) (c_best_54 : Nat → Int32) => gg_b2 (f_X7_goOn c_size c_legs c_fronts_21) (fun v5_0 v5_1 => (lp_X7_seek_21 c_size c_legs c_who c_p1_due c_p1_winds c_p1_kind c_p1_strength k66 n x3_54 v5_0 (x5_21 + (1 : Int32)) v5_1 c_best_54))) (fun k54 => (if v4 ≤ x3_21 then (k54 x3_21 c_best_21) else (f_X7_takeAsBest c_legs c_who c_fronts_21 c_best_21).bind (fun v6 => (k54 v4 v6)))))))
def f_X7_seek (a0 : Int32) (c_size : Int32) (c_legs : Int32) (c_who : Nat → Int32) (c_fronts : Nat → Int32) (c_best : Nat → Int32) (c_p1_huts : Int32) (c_p1_due : Int32) (c_p1_winds : Nat → Int32) (c_p1_kind : Nat → Int32) (c_p1_strength : Nat → Int32) (c_p1_brick : Nat → Int32) : Option (Int32 × (Int32) × (Int32) × (Nat → Int32) × (Nat → Int32) × (Nat → Int32)) := gg_b5 (f_X7_begin a0 c_size c_legs c_who c_fronts c_best c_p1_huts c_p1_brick) (fun v1_0 v1_1 v1_2 v1_3 v1_4 => (f_X7_leastStrength v1_0 v1_1 v1_2 v1_3 c_p1_due c_p1_winds c_p1_kind c_p1_strength).bind (fun v2 => gg_b2 (f_X7_goOn v1_0 v1_1 v1_3) (fun v3_0 v3_1 => (lp_X7_seek_21 v1_0 v1_1 v1_2 c_p1_due c_p1_winds c_p1_kind c_p1_strength (fun (x3_66 : Int32) (c_fronts_66 : Nat → Int32) (c_best_66 : Nat → Int32) => (some (x3_66, v1_0, v1_1, v1_2, c_fronts_66, c_best_66))) gg_fuel v2 v3_0 (0 : Int32) v3_1 v1_4))))
set_option maxRecDepth 20000 in
set_option maxHeartbeats 4000000 in
theorem lq_X7_seek_21 {β : Type} {res : β} {rr : Option Value} {ww : va_W} (c_size : Int32) (c_legs : Int32) (c_who : Nat → Int32) (c_p1_huts : Int32) (c_p1_food : Int32) (c_p1_due : Int32) (c_p1_backs : Int32) (c_p1_winds : Nat → Int32) (c_p1_kind : Nat → Int32) (c_p1_strength : Nat → Int32) (c_p1_brick : Nat → Int32) (k66 : (Int32) → (Nat → Int32) → (Nat → Int32) → Option β) (hk66 : ∀ (x3_66 : Int32) (c_fronts_66 : Nat → Int32) (c_best_66 : Nat → Int32), k66 x3_66 c_fronts_66 c_best_66 = some res → gg_G MD_X7_seek 66 [none, none, none, some (.int x3_66), none, none, none] [] (wd_X7_seek c_size c_legs c_who c_fronts_66 c_best_66 c_p1_huts c_p1_food c_p1_due c_p1_backs c_p1_winds c_p1_kind c_p1_strength c_p1_brick) rr ww) : ∀ (n : Nat) (x3_21 : Int32) (x4_21 : Int32) (x5_21 : Int32) (c_fronts_21 : Nat → Int32) (c_best_21 : Nat → Int32), lp_X7_seek_21 c_size c_legs c_who c_p1_due c_p1_winds c_p1_kind c_p1_strength k66 n x3_21 x4_21 x5_21 c_fronts_21 c_best_21 = some res → gg_G MD_X7_seek 21 [some (.ref 0), some (.ref 100), none, some (.int x3_21), some (.int x4_21), some (.int x5_21), none] [] (wd_X7_seek c_size c_legs c_who c_fronts_21 c_best_21 c_p1_huts c_p1_food c_p1_due c_p1_backs c_p1_winds c_p1_kind c_p1_strength c_p1_brick) rr ww := by
  intro n
  induction n with
  | zero =>
    intro x3_21 x4_21 x5_21 c_fronts_21 c_best_21 h
    exact nomatch (show (none : Option β) = some res from h)
  | succ n ih =>
    intro x3_21 x4_21 x5_21 c_fronts_21 c_best_21 h
    rw [lp_X7_seek_21] at h
    refine gg_iload dX7_seek_21 rfl ?_
    refine gg_sipush (1000 : Int32) dX7_seek_23 (by decide) ?_
    refine gg_icmp_ge 66 dX7_seek_26 (by decide) (fun hc => ?_) (fun hc => ?_)
    · replace h := gg_th h hc
      refine gg_fg [false, false, false, true, false, false, false] [none, none, none, some (.int x3_21), none, none, none] rfl ?_
      exact hk66 x3_21 c_fronts_21 c_best_21 h
    · replace h := gg_el h hc
      refine gg_iload dX7_seek_29 rfl ?_
      refine gg_if_eq 66 dX7_seek_31 (by decide) (fun hc => ?_) (fun hc => ?_)
      · replace h := gg_th h hc
        refine gg_fg [false, false, false, true, false, false, false] [none, none, none, some (.int x3_21), none, none, none] rfl ?_
        exact hk66 x3_21 c_fronts_21 c_best_21 h
      · replace h := gg_el h hc
        refine gg_aload_n dX7_seek_34 rfl ?_
        refine gg_aload_n dX7_seek_35 rfl ?_
        obtain ⟨v4, hv4, h⟩ := gg_bd h
        refine gg_callV (gg_sg [0, 100]) [0, 1, 2, 4, 5, 6, 7] (wd_X7_seek c_size c_legs c_who c_fronts_21 c_best_21 c_p1_huts c_p1_food c_p1_due c_p1_backs c_p1_winds c_p1_kind c_p1_strength c_p1_brick) 0 (C_X7_leastStrength c_size c_legs c_who c_fronts_21 c_p1_huts c_p1_food c_p1_due c_p1_backs c_p1_winds c_p1_kind c_p1_strength hv4) nV_X7_leastStrength ml_X7_32 rfl rfl rfl rfl rfl rfl rfl rfl rfl rfl [3, 8] 9 rfl rfl rfl rfl rfl ⟨Nat.le_of_ble_eq_true rfl, Nat.le_of_ble_eq_true rfl⟩ (Nat.le_of_ble_eq_true rfl) dX7_seek_36 [.int v4] rfl ?_
        refine gg_istore [some (.ref 0), some (.ref 100), none, some (.int x3_21), some (.int x4_21), some (.int x5_21), some (.int v4)] dX7_seek_39 rfl (Nat.le_of_ble_eq_true rfl) rfl ?_
        refine gg_iload dX7_seek_41 rfl ?_
        refine gg_iload_n dX7_seek_43 rfl ?_
        obtain ⟨k54, hke54, h⟩ := gg_lte h
        have hk54 : ∀ (x3_54 : Int32) (c_best_54 : Nat → Int32), k54 x3_54 c_best_54 = some res → gg_G MD_X7_seek 54 [some (.ref 0), some (.ref 100), none, some (.int x3_54), none, some (.int x5_21), none] [] (wd_X7_seek c_size c_legs c_who c_fronts_21 c_best_54 c_p1_huts c_p1_food c_p1_due c_p1_backs c_p1_winds c_p1_kind c_p1_strength c_p1_brick) rr ww := by
          intro x3_54 c_best_54 h
          subst hke54
          refine gg_aload_n dX7_seek_54 rfl ?_
          obtain ⟨v5_0, v5_1, hv5, h⟩ := gg_bd2 h
          refine gg_callV (gg_sg [0]) [0, 2] (wd_X7_seek c_size c_legs c_who v5_1 c_best_54 c_p1_huts c_p1_food c_p1_due c_p1_backs c_p1_winds c_p1_kind c_p1_strength c_p1_brick) 0 (C_X7_goOn c_size c_legs c_fronts_21 hv5) nV_X7_goOn ml_X7_36 rfl rfl rfl rfl rfl rfl rfl rfl rfl rfl [1, 3, 4, 5, 6, 7, 8] 9 rfl rfl rfl rfl rfl ⟨Nat.le_of_ble_eq_true rfl, Nat.le_of_ble_eq_true rfl⟩ (Nat.le_of_ble_eq_true rfl) dX7_seek_55 [.int v5_0] rfl ?_
          refine gg_istore [some (.ref 0), some (.ref 100), none, some (.int x3_54), some (.int v5_0), some (.int x5_21), none] dX7_seek_58 rfl (Nat.le_of_ble_eq_true rfl) rfl ?_
          refine gg_iinc (x5_21 + (1 : Int32)) [some (.ref 0), some (.ref 100), none, some (.int x3_54), some (.int v5_0), some (.int (x5_21 + (1 : Int32))), none] dX7_seek_60 rfl rfl rfl (Nat.le_of_ble_eq_true rfl) rfl ?_
          refine gg_goto 21 dX7_seek_63 (by decide) ?_
          exact ih x3_54 v5_0 (x5_21 + (1 : Int32)) v5_1 c_best_54 h
        clear hke54
        refine gg_icmp_le 54 dX7_seek_44 (by decide) (fun hc => ?_) (fun hc => ?_)
        · replace h := gg_th h hc
          refine gg_fg [true, true, false, true, false, true, false] [some (.ref 0), some (.ref 100), none, some (.int x3_21), none, some (.int x5_21), none] rfl ?_
          exact hk54 x3_21 c_best_21 h
        · replace h := gg_el h hc
          refine gg_iload dX7_seek_47 rfl ?_
          refine gg_istore_n [some (.ref 0), some (.ref 100), none, some (.int v4), some (.int x4_21), some (.int x5_21), some (.int v4)] dX7_seek_49 rfl (Nat.le_of_ble_eq_true rfl) rfl ?_
          refine gg_aload_n dX7_seek_50 rfl ?_
          obtain ⟨v6, hv6, h⟩ := gg_bd h
          refine gg_callV (gg_sg [0]) [0, 1, 2, 3] (wd_X7_seek c_size c_legs c_who c_fronts_21 v6 c_p1_huts c_p1_food c_p1_due c_p1_backs c_p1_winds c_p1_kind c_p1_strength c_p1_brick) 0 (C_X7_takeAsBest c_size c_legs c_who c_fronts_21 c_best_21 hv6) nV_X7_takeAsBest ml_X7_40 rfl rfl rfl rfl rfl rfl rfl rfl rfl rfl [4, 5, 6, 7, 8] 9 rfl rfl rfl rfl rfl ⟨Nat.le_of_ble_eq_true rfl, Nat.le_of_ble_eq_true rfl⟩ (Nat.le_of_ble_eq_true rfl) dX7_seek_51 [] rfl ?_
          refine gg_fg [true, true, false, true, false, true, false] [some (.ref 0), some (.ref 100), none, some (.int v4), none, some (.int x5_21), none] rfl ?_
          exact hk54 v4 v6 h
set_option maxRecDepth 20000 in
set_option maxHeartbeats 8000000 in
theorem C_X7_seek (a0 : Int32) (c_size : Int32) (c_legs : Int32) (c_who : Nat → Int32) (c_fronts : Nat → Int32) (c_best : Nat → Int32) (c_p1_huts : Int32) (c_p1_food : Int32) (c_p1_due : Int32) (c_p1_backs : Int32) (c_p1_winds : Nat → Int32) (c_p1_kind : Nat → Int32) (c_p1_strength : Nat → Int32) (c_p1_brick : Nat → Int32) {r0 : Int32} {r1 : (Int32)} {r2 : (Int32)} {r3 : (Nat → Int32)} {r4 : (Nat → Int32)} {r5 : (Nat → Int32)} (h : f_X7_seek a0 c_size c_legs c_who c_fronts c_best c_p1_huts c_p1_due c_p1_winds c_p1_kind c_p1_strength c_p1_brick = some (r0, r1, r2, r3, r4, r5)) : gg_C MD_X7_seek [.ref 0, .ref 100, .int a0] (wd_X7_seek c_size c_legs c_who c_fronts c_best c_p1_huts c_p1_food c_p1_due c_p1_backs c_p1_winds c_p1_kind c_p1_strength c_p1_brick) (some (.int r0)) (wd_X7_seek r1 r2 r3 r4 r5 c_p1_huts c_p1_food c_p1_due c_p1_backs c_p1_winds c_p1_kind c_p1_strength c_p1_brick) := by
  refine gg_ofG [some (.ref 0), some (.ref 100), some (.int a0), none, none, none, none] (plainFor_of_name (by decide)) (Nat.le_of_ble_eq_true rfl) rfl ?_
  unfold f_X7_seek at h
  refine gg_aload_n dX7_seek_0 rfl ?_
  refine gg_aload_n dX7_seek_1 rfl ?_
  refine gg_iload_n dX7_seek_2 rfl ?_
  obtain ⟨v1_0, v1_1, v1_2, v1_3, v1_4, hv1, h⟩ := gg_bd5 h
  refine gg_callV (gg_sg [0, 100]) [0, 1, 2, 3, 4, 8] (wd_X7_seek v1_0 v1_1 v1_2 v1_3 v1_4 c_p1_huts c_p1_food c_p1_due c_p1_backs c_p1_winds c_p1_kind c_p1_strength c_p1_brick) 0 (C_X7_begin a0 c_size c_legs c_who c_fronts c_best c_p1_huts c_p1_food c_p1_due c_p1_backs c_p1_brick hv1) nV_X7_begin ml_X7_28 rfl rfl rfl rfl rfl rfl rfl rfl rfl rfl [5, 6, 7] 9 rfl rfl rfl rfl rfl ⟨Nat.le_of_ble_eq_true rfl, Nat.le_of_ble_eq_true rfl⟩ (Nat.le_of_ble_eq_true rfl) dX7_seek_3 [] rfl ?_
  refine gg_aload_n dX7_seek_6 rfl ?_
  refine gg_aload_n dX7_seek_7 rfl ?_
  obtain ⟨v2, hv2, h⟩ := gg_bd h
  refine gg_callV (gg_sg [0, 100]) [0, 1, 2, 4, 5, 6, 7] (wd_X7_seek v1_0 v1_1 v1_2 v1_3 v1_4 c_p1_huts c_p1_food c_p1_due c_p1_backs c_p1_winds c_p1_kind c_p1_strength c_p1_brick) 0 (C_X7_leastStrength v1_0 v1_1 v1_2 v1_3 c_p1_huts c_p1_food c_p1_due c_p1_backs c_p1_winds c_p1_kind c_p1_strength hv2) nV_X7_leastStrength ml_X7_32 rfl rfl rfl rfl rfl rfl rfl rfl rfl rfl [3, 8] 9 rfl rfl rfl rfl rfl ⟨Nat.le_of_ble_eq_true rfl, Nat.le_of_ble_eq_true rfl⟩ (Nat.le_of_ble_eq_true rfl) dX7_seek_8 [.int v2] rfl ?_
  refine gg_istore_n [some (.ref 0), some (.ref 100), some (.int a0), some (.int v2), none, none, none] dX7_seek_11 rfl (Nat.le_of_ble_eq_true rfl) rfl ?_
  refine gg_aload_n dX7_seek_12 rfl ?_
  obtain ⟨v3_0, v3_1, hv3, h⟩ := gg_bd2 h
  refine gg_callV (gg_sg [0]) [0, 2] (wd_X7_seek v1_0 v1_1 v1_2 v3_1 v1_4 c_p1_huts c_p1_food c_p1_due c_p1_backs c_p1_winds c_p1_kind c_p1_strength c_p1_brick) 0 (C_X7_goOn v1_0 v1_1 v1_3 hv3) nV_X7_goOn ml_X7_36 rfl rfl rfl rfl rfl rfl rfl rfl rfl rfl [1, 3, 4, 5, 6, 7, 8] 9 rfl rfl rfl rfl rfl ⟨Nat.le_of_ble_eq_true rfl, Nat.le_of_ble_eq_true rfl⟩ (Nat.le_of_ble_eq_true rfl) dX7_seek_13 [.int v3_0] rfl ?_
  refine gg_istore [some (.ref 0), some (.ref 100), some (.int a0), some (.int v2), some (.int v3_0), none, none] dX7_seek_16 rfl (Nat.le_of_ble_eq_true rfl) rfl ?_
  refine gg_iconst (0 : Int32) dX7_seek_18 (by decide) ?_
  refine gg_istore [some (.ref 0), some (.ref 100), some (.int a0), some (.int v2), some (.int v3_0), some (.int (0 : Int32)), none] dX7_seek_19 rfl (Nat.le_of_ble_eq_true rfl) rfl ?_
  refine gg_fg [true, true, false, true, true, true, false] [some (.ref 0), some (.ref 100), none, some (.int v2), some (.int v3_0), some (.int (0 : Int32)), none] rfl ?_
  refine lq_X7_seek_21 v1_0 v1_1 v1_2 c_p1_huts c_p1_food c_p1_due c_p1_backs c_p1_winds c_p1_kind c_p1_strength c_p1_brick _ ?_ gg_fuel v2 v3_0 (0 : Int32) v3_1 v1_4 h
  intro x3_66 c_fronts_66 c_best_66 h
  refine gg_iload_n dX7_seek_66 rfl ?_
  cases h
  exact gg_iret dX7_seek_67 rfl
