def wd_X2_howManyThere (c_huts : Int32) (c_food : Int32) (c_due : Int32) (c_backs : Int32) (c_brick : Nat → Int32) : va_W := [(0, .inr (2, [.int c_huts, .int c_food, .int c_due, .ref 1, .ref 2, .ref 3, .ref 4, .ref 5, .ref 6, .ref 7, .int c_backs])), (6, .inl (0, 6, .inl c_brick))]
def MD_X2_howManyThere : gg_M := (yX2_howManyThere, cX2_howManyThere, 1, some .int, 3, 64)
theorem nV_X2_howManyThere : gg_nV MD_X2_howManyThere 0 := ⟨⟨gg_mem (by decide +kernel) rfl, gg_mem cw_X2_howManyThere rfl, by decide, by decide, by decide +kernel⟩, gg_mem (by decide +kernel) rfl, gg_mem (by decide +kernel) rfl⟩
def f_X2_howManyThere  (c_huts : Int32) (c_brick : Nat → Int32) : Option (Int32) := (f_X2_thereBits c_huts c_brick).bind (fun v1 => (f_J6_bitCount_0f7a4 v1).bind (fun v2 => (some v2)))
set_option maxRecDepth 20000 in
set_option maxHeartbeats 8000000 in
theorem C_X2_howManyThere  (c_huts : Int32) (c_food : Int32) (c_due : Int32) (c_backs : Int32) (c_brick : Nat → Int32) {res : Int32} (h : f_X2_howManyThere c_huts c_brick = some res) : gg_C MD_X2_howManyThere [.ref 0] (wd_X2_howManyThere c_huts c_food c_due c_backs c_brick) (some (.int res)) (wd_X2_howManyThere c_huts c_food c_due c_backs c_brick) := by
  refine gg_ofG [some (.ref 0)] (plainFor_of_name (by decide)) (Nat.le_of_ble_eq_true rfl) rfl ?_
  unfold f_X2_howManyThere at h
  refine gg_aload_n dX2_howManyThere_0 rfl ?_
  obtain ⟨v1, hv1, h⟩ := gg_bd h
  refine gg_callV (gg_sg [0]) [0, 1] (wd_X2_howManyThere c_huts c_food c_due c_backs c_brick) 0 (C_X2_thereBits c_huts c_food c_due c_backs c_brick hv1) nV_X2_thereBits ml_X2_78 rfl rfl rfl rfl rfl rfl rfl rfl rfl rfl [] 2 rfl rfl rfl rfl rfl ⟨Nat.le_of_ble_eq_true rfl, Nat.le_of_ble_eq_true rfl⟩ (Nat.le_of_ble_eq_true rfl) dX2_howManyThere_1 [.int v1] rfl ?_
  obtain ⟨v2, hv2, h⟩ := gg_bd h
  refine gg_callS (gg_sg []) [] (wd_X2_howManyThere c_huts c_food c_due c_backs c_brick) (C_J6_bitCount_0f7a4 v1 hv2) nS_J6_bitCount_0f7a4 ml_X2_81 rfl rfl rfl rfl rfl rfl rfl [0, 1] 2 rfl rfl rfl rfl rfl ⟨Nat.le_of_ble_eq_true rfl, Nat.le_of_ble_eq_true rfl⟩ (Nat.le_of_ble_eq_true rfl) dX2_howManyThere_4 [.int v2] rfl ?_
  cases h
  exact gg_iret dX2_howManyThere_7 rfl
def wd_X8_winter (c_latestFinding : Int32) (c_told : Int32) (c_above : Int64) (c_below : Int64) (c_now_huts : Int32) (c_now_food : Int32) (c_now_due : Int32) (c_now_backs : Int32) (c_now_winds : Nat → Int32) (c_now_kind : Nat → Int32) (c_now_home : Nat → Int32) (c_now_strength : Nat → Int32) (c_now_brown : Nat → Int32) (c_now_brick : Nat → Int32) (c_now_back : Nat → Int32) (c_log_size : Int32) (c_log_codes : Nat → Int32) : va_W := [(0, .inr (7, [.ref 1, .ref 10, .ref 17, .ref 19, .ref 27, .ref 35, .ref 43, .ref 45, .ref 52, .ref 56, .ref 60, .ref 67, .int c_latestFinding, .int c_told, .long c_above, .long c_below])), (27, .inr (2, [.int c_now_huts, .int c_now_food, .int c_now_due, .ref 28, .ref 29, .ref 30, .ref 31, .ref 32, .ref 33, .ref 34, .int c_now_backs])), (28, .inl (0, 4, .inl c_now_winds)), (29, .inl (0, 6, .inl c_now_kind)), (30, .inl (0, 6, .inl c_now_home)), (31, .inl (0, 6, .inl c_now_strength)), (32, .inl (0, 6, .inl c_now_brown)), (33, .inl (0, 6, .inl c_now_brick)), (34, .inl (0, 6, .inl c_now_back)), (43, .inr (3, [.int c_log_size, .ref 44])), (44, .inl (0, 40, .inl c_log_codes))]
def MD_X8_winter : gg_M := (yX8_winter, cX8_winter, 1, some .int, 6, 133)
theorem nV_X8_winter : gg_nV MD_X8_winter 0 := ⟨⟨gg_mem (by decide +kernel) rfl, gg_mem cw_X8_winter rfl, by decide, by decide, by decide +kernel⟩, gg_mem (by decide +kernel) rfl, gg_mem (by decide +kernel) rfl⟩
def f_X8_winter  (c_now_huts : Int32) (c_now_food : Int32) (c_now_due : Int32) (c_now_backs : Int32) (c_now_winds : Nat → Int32) (c_now_kind : Nat → Int32) (c_now_home : Nat → Int32) (c_now_strength : Nat → Int32) (c_now_brown : Nat → Int32) (c_now_brick : Nat → Int32) (c_now_back : Nat → Int32) (c_log_size : Int32) (c_log_codes : Nat → Int32) : Option (Int32 × (Int32) × (Int32) × (Int32) × (Nat → Int32) × (Nat → Int32) × (Nat → Int32) × (Nat → Int32) × (Nat → Int32) × (Int32) × (Nat → Int32)) := (if c_now_huts = (0 : Int32) then (some ((-4 : Int32), c_now_food, c_now_due, c_now_backs, c_now_home, c_now_strength, c_now_brown, c_now_brick, c_now_back, c_log_size, c_log_codes)) else (f_X4_lacks (1 : Int32) c_log_size).bind (fun v1 => (if v1 = (0 : Int32) then (f_X4_code (0 : Int32) (0 : Int32) (0 : Int32)).bind (fun v2 => gg_b10 (f_X8_act v2 c_now_huts c_now_food c_now_due c_now_backs c_now_winds c_now_kind c_now_home c_now_strength c_now_brown c_now_brick c_now_back c_log_size c_log_codes) (fun v3_0 v3_1 v3_2 v3_3 v3_4 v3_5 v3_6 v3_7 v3_8 v3_9 => (f_X2_howManyThere c_now_huts v3_6).bind (fun v4 => (some (v4, v3_0, v3_1, v3_2, v3_3, v3_4, v3_5, v3_6, v3_7, v3_8, v3_9))))) else (some ((-2 : Int32), c_now_food, c_now_due, c_now_backs, c_now_home, c_now_strength, c_now_brown, c_now_brick, c_now_back, c_log_size, c_log_codes)))))
set_option maxRecDepth 20000 in
set_option maxHeartbeats 8000000 in
theorem C_X8_winter  (c_latestFinding : Int32) (c_told : Int32) (c_above : Int64) (c_below : Int64) (c_now_huts : Int32) (c_now_food : Int32) (c_now_due : Int32) (c_now_backs : Int32) (c_now_winds : Nat → Int32) (c_now_kind : Nat → Int32) (c_now_home : Nat → Int32) (c_now_strength : Nat → Int32) (c_now_brown : Nat → Int32) (c_now_brick : Nat → Int32) (c_now_back : Nat → Int32) (c_log_size : Int32) (c_log_codes : Nat → Int32) {r0 : Int32} {r1 : (Int32)} {r2 : (Int32)} {r3 : (Int32)} {r4 : (Nat → Int32)} {r5 : (Nat → Int32)} {r6 : (Nat → Int32)} {r7 : (Nat → Int32)} {r8 : (Nat → Int32)} {r9 : (Int32)} {r10 : (Nat → Int32)} (h : f_X8_winter c_now_huts c_now_food c_now_due c_now_backs c_now_winds c_now_kind c_now_home c_now_strength c_now_brown c_now_brick c_now_back c_log_size c_log_codes = some (r0, r1, r2, r3, r4, r5, r6, r7, r8, r9, r10)) : gg_C MD_X8_winter [.ref 0] (wd_X8_winter c_latestFinding c_told c_above c_below c_now_huts c_now_food c_now_due c_now_backs c_now_winds c_now_kind c_now_home c_now_strength c_now_brown c_now_brick c_now_back c_log_size c_log_codes) (some (.int r0)) (wd_X8_winter c_latestFinding c_told c_above c_below c_now_huts r1 r2 r3 c_now_winds c_now_kind r4 r5 r6 r7 r8 r9 r10) := by
  refine gg_ofG [some (.ref 0)] (plainFor_of_name (by decide)) (Nat.le_of_ble_eq_true rfl) rfl ?_
  unfold f_X8_winter at h
  refine gg_aload_n dX8_winter_0 rfl ?_
  refine gg_get 0 fl_X8_35 dX8_winter_1 rfl rfl ?_
  refine gg_get 1 fl_X8_151 dX8_winter_4 rfl rfl ?_
  refine gg_if_ne 13 dX8_winter_7 (by decide) (fun hc => ?_) (fun hc => ?_)
  · replace h := gg_el h hc
    refine gg_aload_n dX8_winter_13 rfl ?_
    refine gg_get 0 fl_X8_46 dX8_winter_14 rfl rfl ?_
    refine gg_iconst (1 : Int32) dX8_winter_17 (by decide) ?_
    obtain ⟨v1, hv1, h⟩ := gg_bd h
    refine gg_callV (gg_sg [43]) [9, 10] (wd_X8_winter c_latestFinding c_told c_above c_below c_now_huts c_now_food c_now_due c_now_backs c_now_winds c_now_kind c_now_home c_now_strength c_now_brown c_now_brick c_now_back c_log_size c_log_codes) 0 (C_X4_lacks (1 : Int32) c_log_size c_log_codes hv1) nV_X4_lacks ml_X8_186 rfl rfl rfl rfl rfl rfl rfl rfl rfl rfl [0, 1, 2, 3, 4, 5, 6, 7, 8] 11 rfl rfl rfl rfl rfl ⟨Nat.le_of_ble_eq_true rfl, Nat.le_of_ble_eq_true rfl⟩ (Nat.le_of_ble_eq_true rfl) dX8_winter_18 [.int v1] rfl ?_
    refine gg_if_eq 27 dX8_winter_21 (by decide) (fun hc => ?_) (fun hc => ?_)
    · replace h := gg_th h hc
      refine gg_aload_n dX8_winter_27 rfl ?_
      refine gg_iconst (0 : Int32) dX8_winter_28 (by decide) ?_
      refine gg_iconst (0 : Int32) dX8_winter_29 (by decide) ?_
      refine gg_iconst (0 : Int32) dX8_winter_30 (by decide) ?_
      obtain ⟨v2, hv2, h⟩ := gg_bd h
      refine gg_callS (gg_sg []) [] (wd_X8_winter c_latestFinding c_told c_above c_below c_now_huts c_now_food c_now_due c_now_backs c_now_winds c_now_kind c_now_home c_now_strength c_now_brown c_now_brick c_now_back c_log_size c_log_codes) (C_X4_code (0 : Int32) (0 : Int32) (0 : Int32) hv2) nS_X4_code ml_X8_189 rfl rfl rfl rfl rfl rfl rfl [0, 1, 2, 3, 4, 5, 6, 7, 8, 9, 10] 11 rfl rfl rfl rfl rfl ⟨Nat.le_of_ble_eq_true rfl, Nat.le_of_ble_eq_true rfl⟩ (Nat.le_of_ble_eq_true rfl) dX8_winter_31 [.int v2, .ref 0] rfl ?_
      obtain ⟨v3_0, v3_1, v3_2, v3_3, v3_4, v3_5, v3_6, v3_7, v3_8, v3_9, hv3, h⟩ := gg_bd10 h
      refine gg_callV (gg_sg [0]) [0, 1, 2, 3, 4, 5, 6, 7, 8, 9, 10] (wd_X8_winter c_latestFinding c_told c_above c_below c_now_huts v3_0 v3_1 v3_2 c_now_winds c_now_kind v3_3 v3_4 v3_5 v3_6 v3_7 v3_8 v3_9) 0 (C_X8_act v2 c_latestFinding c_told c_above c_below c_now_huts c_now_food c_now_due c_now_backs c_now_winds c_now_kind c_now_home c_now_strength c_now_brown c_now_brick c_now_back c_log_size c_log_codes hv3) nV_X8_act ml_X8_193 rfl rfl rfl rfl rfl rfl rfl rfl rfl rfl [] 11 rfl rfl rfl rfl rfl ⟨Nat.le_of_ble_eq_true rfl, Nat.le_of_ble_eq_true rfl⟩ (Nat.le_of_ble_eq_true rfl) dX8_winter_34 [] rfl ?_
      refine gg_aload_n dX8_winter_37 rfl ?_
      refine gg_get 0 fl_X8_35 dX8_winter_38 rfl rfl ?_
      obtain ⟨v4, hv4, h⟩ := gg_bd h
      refine gg_callV (gg_sg [27]) [1, 7] (wd_X8_winter c_latestFinding c_told c_above c_below c_now_huts v3_0 v3_1 v3_2 c_now_winds c_now_kind v3_3 v3_4 v3_5 v3_6 v3_7 v3_8 v3_9) 0 (C_X2_howManyThere c_now_huts v3_0 v3_1 v3_2 v3_6 hv4) nV_X2_howManyThere ml_X8_196 rfl rfl rfl rfl rfl rfl rfl rfl rfl rfl [0, 2, 3, 4, 5, 6, 8, 9, 10] 11 rfl rfl rfl rfl rfl ⟨Nat.le_of_ble_eq_true rfl, Nat.le_of_ble_eq_true rfl⟩ (Nat.le_of_ble_eq_true rfl) dX8_winter_41 [.int v4] rfl ?_
      cases h
      exact gg_iret dX8_winter_44 rfl
    · replace h := gg_el h hc
      refine gg_bipush (-2 : Int32) dX8_winter_24 (by decide) ?_
      cases h
      exact gg_iret dX8_winter_26 rfl
  · replace h := gg_th h hc
    refine gg_bipush (-4 : Int32) dX8_winter_10 (by decide) ?_
    cases h
    exact gg_iret dX8_winter_12 rfl
def wd_X8_feed (c_latestFinding : Int32) (c_told : Int32) (c_above : Int64) (c_below : Int64) (c_now_huts : Int32) (c_now_food : Int32) (c_now_due : Int32) (c_now_backs : Int32) (c_now_winds : Nat → Int32) (c_now_kind : Nat → Int32) (c_now_home : Nat → Int32) (c_now_strength : Nat → Int32) (c_now_brown : Nat → Int32) (c_now_brick : Nat → Int32) (c_now_back : Nat → Int32) (c_log_size : Int32) (c_log_codes : Nat → Int32) : va_W := [(0, .inr (7, [.ref 1, .ref 10, .ref 17, .ref 19, .ref 27, .ref 35, .ref 43, .ref 45, .ref 52, .ref 56, .ref 60, .ref 67, .int c_latestFinding, .int c_told, .long c_above, .long c_below])), (27, .inr (2, [.int c_now_huts, .int c_now_food, .int c_now_due, .ref 28, .ref 29, .ref 30, .ref 31, .ref 32, .ref 33, .ref 34, .int c_now_backs])), (28, .inl (0, 4, .inl c_now_winds)), (29, .inl (0, 6, .inl c_now_kind)), (30, .inl (0, 6, .inl c_now_home)), (31, .inl (0, 6, .inl c_now_strength)), (32, .inl (0, 6, .inl c_now_brown)), (33, .inl (0, 6, .inl c_now_brick)), (34, .inl (0, 6, .inl c_now_back)), (43, .inr (3, [.int c_log_size, .ref 44])), (44, .inl (0, 40, .inl c_log_codes))]
def MD_X8_feed : gg_M := (yX8_feed, cX8_feed, 2, some .int, 6, 133)
theorem nV_X8_feed : gg_nV MD_X8_feed 1 := ⟨⟨gg_mem (by decide +kernel) rfl, gg_mem cw_X8_feed rfl, by decide, by decide, by decide +kernel⟩, gg_mem (by decide +kernel) rfl, gg_mem (by decide +kernel) rfl⟩
def f_X8_feed (a0 : Int32) (c_now_huts : Int32) (c_now_food : Int32) (c_now_due : Int32) (c_now_backs : Int32) (c_now_winds : Nat → Int32) (c_now_kind : Nat → Int32) (c_now_home : Nat → Int32) (c_now_strength : Nat → Int32) (c_now_brown : Nat → Int32) (c_now_brick : Nat → Int32) (c_now_back : Nat → Int32) (c_log_size : Int32) (c_log_codes : Nat → Int32) : Option (Int32 × (Int32) × (Int32) × (Int32) × (Nat → Int32) × (Nat → Int32) × (Nat → Int32) × (Nat → Int32) × (Nat → Int32) × (Int32) × (Nat → Int32)) := (f_X2_knows a0 c_now_huts).bind (fun v1 => (if v1 = (0 : Int32) then (some ((-1 : Int32), c_now_food, c_now_due, c_now_backs, c_now_home, c_now_strength, c_now_brown, c_now_brick, c_now_back, c_log_size, c_log_codes)) else (f_X2_isThere a0 c_now_huts c_now_brick).bind (fun v2 => (if v2 = (0 : Int32) then (some ((-4 : Int32), c_now_food, c_now_due, c_now_backs, c_now_home, c_now_strength, c_now_brown, c_now_brick, c_now_back, c_log_size, c_log_codes)) else (if (0 : Int32) < c_now_food then (f_X4_lacks (1 : Int32) c_log_size).bind (fun v3 => (if v3 = (0 : Int32) then (f_X4_code (1 : Int32) a0 (0 : Int32)).bind (fun v4 => gg_b10 (f_X8_act v4 c_now_huts c_now_food c_now_due c_now_backs c_now_winds c_now_kind c_now_home c_now_strength c_now_brown c_now_brick c_now_back c_log_size c_log_codes) (fun v5_0 v5_1 v5_2 v5_3 v5_4 v5_5 v5_6 v5_7 v5_8 v5_9 => gg_chk (gg_in a0 6) ((some ((v5_4 a0.toNatClampNeg), v5_0, v5_1, v5_2, v5_3, v5_4, v5_5, v5_6, v5_7, v5_8, v5_9))))) else (some ((-2 : Int32), c_now_food, c_now_due, c_now_backs, c_now_home, c_now_strength, c_now_brown, c_now_brick, c_now_back, c_log_size, c_log_codes)))) else (some ((-6 : Int32), c_now_food, c_now_due, c_now_backs, c_now_home, c_now_strength, c_now_brown, c_now_brick, c_now_back, c_log_size, c_log_codes)))))))
set_option maxRecDepth 20000 in
set_option maxHeartbeats 8000000 in
theorem C_X8_feed (a0 : Int32) (c_latestFinding : Int32) (c_told : Int32) (c_above : Int64) (c_below : Int64) (c_now_huts : Int32) (c_now_food : Int32) (c_now_due : Int32) (c_now_backs : Int32) (c_now_winds : Nat → Int32) (c_now_kind : Nat → Int32) (c_now_home : Nat → Int32) (c_now_strength : Nat → Int32) (c_now_brown : Nat → Int32) (c_now_brick : Nat → Int32) (c_now_back : Nat → Int32) (c_log_size : Int32) (c_log_codes : Nat → Int32) {r0 : Int32} {r1 : (Int32)} {r2 : (Int32)} {r3 : (Int32)} {r4 : (Nat → Int32)} {r5 : (Nat → Int32)} {r6 : (Nat → Int32)} {r7 : (Nat → Int32)} {r8 : (Nat → Int32)} {r9 : (Int32)} {r10 : (Nat → Int32)} (h : f_X8_feed a0 c_now_huts c_now_food c_now_due c_now_backs c_now_winds c_now_kind c_now_home c_now_strength c_now_brown c_now_brick c_now_back c_log_size c_log_codes = some (r0, r1, r2, r3, r4, r5, r6, r7, r8, r9, r10)) : gg_C MD_X8_feed [.ref 0, .int a0] (wd_X8_feed c_latestFinding c_told c_above c_below c_now_huts c_now_food c_now_due c_now_backs c_now_winds c_now_kind c_now_home c_now_strength c_now_brown c_now_brick c_now_back c_log_size c_log_codes) (some (.int r0)) (wd_X8_feed c_latestFinding c_told c_above c_below c_now_huts r1 r2 r3 c_now_winds c_now_kind r4 r5 r6 r7 r8 r9 r10) := by
  refine gg_ofG [some (.ref 0), some (.int a0)] (plainFor_of_name (by decide)) (Nat.le_of_ble_eq_true rfl) rfl ?_
  unfold f_X8_feed at h
  refine gg_aload_n dX8_feed_0 rfl ?_
  refine gg_get 0 fl_X8_35 dX8_feed_1 rfl rfl ?_
  refine gg_iload_n dX8_feed_4 rfl ?_
  obtain ⟨v1, hv1, h⟩ := gg_bd h
  refine gg_callV (gg_sg [27]) [1] (wd_X8_feed c_latestFinding c_told c_above c_below c_now_huts c_now_food c_now_due c_now_backs c_now_winds c_now_kind c_now_home c_now_strength c_now_brown c_now_brick c_now_back c_log_size c_log_codes) 0 (C_X2_knows a0 c_now_huts c_now_food c_now_due c_now_backs hv1) nV_X2_knows ml_X8_154 rfl rfl rfl rfl rfl rfl rfl rfl rfl rfl [0, 2, 3, 4, 5, 6, 7, 8, 9, 10] 11 rfl rfl rfl rfl rfl ⟨Nat.le_of_ble_eq_true rfl, Nat.le_of_ble_eq_true rfl⟩ (Nat.le_of_ble_eq_true rfl) dX8_feed_5 [.int v1] rfl ?_
  refine gg_if_ne 13 dX8_feed_8 (by decide) (fun hc => ?_) (fun hc => ?_)
  · replace h := gg_el h hc
    refine gg_aload_n dX8_feed_13 rfl ?_
    refine gg_get 0 fl_X8_35 dX8_feed_14 rfl rfl ?_
    refine gg_iload_n dX8_feed_17 rfl ?_
    obtain ⟨v2, hv2, h⟩ := gg_bd h
    refine gg_callV (gg_sg [27]) [1, 7] (wd_X8_feed c_latestFinding c_told c_above c_below c_now_huts c_now_food c_now_due c_now_backs c_now_winds c_now_kind c_now_home c_now_strength c_now_brown c_now_brick c_now_back c_log_size c_log_codes) 0 (C_X2_isThere a0 c_now_huts c_now_food c_now_due c_now_backs c_now_brick hv2) nV_X2_isThere ml_X8_199 rfl rfl rfl rfl rfl rfl rfl rfl rfl rfl [0, 2, 3, 4, 5, 6, 8, 9, 10] 11 rfl rfl rfl rfl rfl ⟨Nat.le_of_ble_eq_true rfl, Nat.le_of_ble_eq_true rfl⟩ (Nat.le_of_ble_eq_true rfl) dX8_feed_18 [.int v2] rfl ?_
    refine gg_if_ne 27 dX8_feed_21 (by decide) (fun hc => ?_) (fun hc => ?_)
    · replace h := gg_el h hc
      refine gg_aload_n dX8_feed_27 rfl ?_
      refine gg_get 0 fl_X8_35 dX8_feed_28 rfl rfl ?_
      refine gg_get 1 fl_X8_202 dX8_feed_31 rfl rfl ?_
      refine gg_if_gt 40 dX8_feed_34 (by decide) (fun hc => ?_) (fun hc => ?_)
      · replace h := gg_th h hc
        refine gg_aload_n dX8_feed_40 rfl ?_
        refine gg_get 0 fl_X8_46 dX8_feed_41 rfl rfl ?_
        refine gg_iconst (1 : Int32) dX8_feed_44 (by decide) ?_
        obtain ⟨v3, hv3, h⟩ := gg_bd h
        refine gg_callV (gg_sg [43]) [9, 10] (wd_X8_feed c_latestFinding c_told c_above c_below c_now_huts c_now_food c_now_due c_now_backs c_now_winds c_now_kind c_now_home c_now_strength c_now_brown c_now_brick c_now_back c_log_size c_log_codes) 0 (C_X4_lacks (1 : Int32) c_log_size c_log_codes hv3) nV_X4_lacks ml_X8_186 rfl rfl rfl rfl rfl rfl rfl rfl rfl rfl [0, 1, 2, 3, 4, 5, 6, 7, 8] 11 rfl rfl rfl rfl rfl ⟨Nat.le_of_ble_eq_true rfl, Nat.le_of_ble_eq_true rfl⟩ (Nat.le_of_ble_eq_true rfl) dX8_feed_45 [.int v3] rfl ?_
        refine gg_if_eq 54 dX8_feed_48 (by decide) (fun hc => ?_) (fun hc => ?_)
        · replace h := gg_th h hc
          refine gg_aload_n dX8_feed_54 rfl ?_
          refine gg_iconst (1 : Int32) dX8_feed_55 (by decide) ?_
          refine gg_iload_n dX8_feed_56 rfl ?_
          refine gg_iconst (0 : Int32) dX8_feed_57 (by decide) ?_
          obtain ⟨v4, hv4, h⟩ := gg_bd h
          refine gg_callS (gg_sg []) [] (wd_X8_feed c_latestFinding c_told c_above c_below c_now_huts c_now_food c_now_due c_now_backs c_now_winds c_now_kind c_now_home c_now_strength c_now_brown c_now_brick c_now_back c_log_size c_log_codes) (C_X4_code (1 : Int32) a0 (0 : Int32) hv4) nS_X4_code ml_X8_189 rfl rfl rfl rfl rfl rfl rfl [0, 1, 2, 3, 4, 5, 6, 7, 8, 9, 10] 11 rfl rfl rfl rfl rfl ⟨Nat.le_of_ble_eq_true rfl, Nat.le_of_ble_eq_true rfl⟩ (Nat.le_of_ble_eq_true rfl) dX8_feed_58 [.int v4, .ref 0] rfl ?_
          obtain ⟨v5_0, v5_1, v5_2, v5_3, v5_4, v5_5, v5_6, v5_7, v5_8, v5_9, hv5, h⟩ := gg_bd10 h
          refine gg_callV (gg_sg [0]) [0, 1, 2, 3, 4, 5, 6, 7, 8, 9, 10] (wd_X8_feed c_latestFinding c_told c_above c_below c_now_huts v5_0 v5_1 v5_2 c_now_winds c_now_kind v5_3 v5_4 v5_5 v5_6 v5_7 v5_8 v5_9) 0 (C_X8_act v4 c_latestFinding c_told c_above c_below c_now_huts c_now_food c_now_due c_now_backs c_now_winds c_now_kind c_now_home c_now_strength c_now_brown c_now_brick c_now_back c_log_size c_log_codes hv5) nV_X8_act ml_X8_193 rfl rfl rfl rfl rfl rfl rfl rfl rfl rfl [] 11 rfl rfl rfl rfl rfl ⟨Nat.le_of_ble_eq_true rfl, Nat.le_of_ble_eq_true rfl⟩ (Nat.le_of_ble_eq_true rfl) dX8_feed_61 [] rfl ?_
          refine gg_aload_n dX8_feed_64 rfl ?_
          refine gg_get 0 fl_X8_35 dX8_feed_65 rfl rfl ?_
          refine gg_get 1 fl_X8_205 dX8_feed_68 rfl rfl ?_
          refine gg_iload_n dX8_feed_71 rfl ?_
          obtain ⟨hb72, h⟩ := gg_ck h
          refine gg_iald 5 dX8_feed_72 rfl hb72 ?_
          cases h
          exact gg_iret dX8_feed_73 rfl
        · replace h := gg_el h hc
          refine gg_bipush (-2 : Int32) dX8_feed_51 (by decide) ?_
          cases h
          exact gg_iret dX8_feed_53 rfl
      · replace h := gg_el h hc
        refine gg_bipush (-6 : Int32) dX8_feed_37 (by decide) ?_
        cases h
        exact gg_iret dX8_feed_39 rfl
    · replace h := gg_th h hc
      refine gg_bipush (-4 : Int32) dX8_feed_24 (by decide) ?_
      cases h
      exact gg_iret dX8_feed_26 rfl
  · replace h := gg_th h hc
    refine gg_iconst (-1 : Int32) dX8_feed_11 (by decide) ?_
    cases h
    exact gg_iret dX8_feed_12 rfl
def wd_X8_sell (c_latestFinding : Int32) (c_told : Int32) (c_above : Int64) (c_below : Int64) (c_now_huts : Int32) (c_now_food : Int32) (c_now_due : Int32) (c_now_backs : Int32) (c_now_winds : Nat → Int32) (c_now_kind : Nat → Int32) (c_now_home : Nat → Int32) (c_now_strength : Nat → Int32) (c_now_brown : Nat → Int32) (c_now_brick : Nat → Int32) (c_now_back : Nat → Int32) (c_log_size : Int32) (c_log_codes : Nat → Int32) : va_W := [(0, .inr (7, [.ref 1, .ref 10, .ref 17, .ref 19, .ref 27, .ref 35, .ref 43, .ref 45, .ref 52, .ref 56, .ref 60, .ref 67, .int c_latestFinding, .int c_told, .long c_above, .long c_below])), (27, .inr (2, [.int c_now_huts, .int c_now_food, .int c_now_due, .ref 28, .ref 29, .ref 30, .ref 31, .ref 32, .ref 33, .ref 34, .int c_now_backs])), (28, .inl (0, 4, .inl c_now_winds)), (29, .inl (0, 6, .inl c_now_kind)), (30, .inl (0, 6, .inl c_now_home)), (31, .inl (0, 6, .inl c_now_strength)), (32, .inl (0, 6, .inl c_now_brown)), (33, .inl (0, 6, .inl c_now_brick)), (34, .inl (0, 6, .inl c_now_back)), (43, .inr (3, [.int c_log_size, .ref 44])), (44, .inl (0, 40, .inl c_log_codes))]
def MD_X8_sell : gg_M := (yX8_sell, cX8_sell, 3, some .int, 6, 133)
theorem nV_X8_sell : gg_nV MD_X8_sell 2 := ⟨⟨gg_mem (by decide +kernel) rfl, gg_mem cw_X8_sell rfl, by decide, by decide, by decide +kernel⟩, gg_mem (by decide +kernel) rfl, gg_mem (by decide +kernel) rfl⟩
def f_X8_sell (a0 : Int32) (a1 : Int32) (c_now_huts : Int32) (c_now_food : Int32) (c_now_due : Int32) (c_now_backs : Int32) (c_now_winds : Nat → Int32) (c_now_kind : Nat → Int32) (c_now_home : Nat → Int32) (c_now_strength : Nat → Int32) (c_now_brown : Nat → Int32) (c_now_brick : Nat → Int32) (c_now_back : Nat → Int32) (c_log_size : Int32) (c_log_codes : Nat → Int32) : Option (Int32 × (Int32) × (Int32) × (Int32) × (Nat → Int32) × (Nat → Int32) × (Nat → Int32) × (Nat → Int32) × (Nat → Int32) × (Int32) × (Nat → Int32)) := (f_X2_knows a0 c_now_huts).bind (fun v1 => gg_lt ((some ((-1 : Int32), c_now_food, c_now_due, c_now_backs, c_now_home, c_now_strength, c_now_brown, c_now_brick, c_now_back, c_log_size, c_log_codes))) (fun k27 => (if v1 = (0 : Int32) then k27 else (f_X2_knows a1 c_now_huts).bind (fun v2 => (if v2 = (0 : Int32) then k27 else (if a0 = a1 then k27 else (f_X2_isThere a0 c_now_huts c_now_brick).bind (fun v3 => gg_lt ((some ((-4 : Int32), c_now_food, c_now_due, c_now_backs, c_now_home, c_now_strength, c_now_brown, c_now_brick, c_now_back, c_log_size, c_log_codes))) (fun k51 => (if v3 = (0 : Int32) then k51 else (f_X2_isThere a1 c_now_huts c_now_brick).bind (fun v4 => (if v4 = (0 : Int32) then k51 else (f_X4_lacks (1 : Int32) c_log_size).bind (fun v5 => (if v5 = (0 : Int32) then (f_X4_code (2 : Int32) a0 a1).bind (fun v6 => gg_b10 (f_X8_act v6 c_now_huts c_now_food c_now_due c_now_backs c_now_winds c_now_kind c_now_home c_now_strength c_now_brown c_now_brick c_now_back c_log_size c_log_codes) (fun v7_0 v7_1 v7_2 v7_3 v7_4 v7_5 v7_6 v7_7 v7_8 v7_9 => gg_chk (gg_in a0 6) ((some ((v7_3 a0.toNatClampNeg), v7_0, v7_1, v7_2, v7_3, v7_4, v7_5, v7_6, v7_7, v7_8, v7_9))))) else (some ((-2 : Int32), c_now_food, c_now_due, c_now_backs, c_now_home, c_now_strength, c_now_brown, c_now_brick, c_now_back, c_log_size, c_log_codes)))))))))))))))
set_option maxRecDepth 20000 in
set_option maxHeartbeats 8000000 in
theorem C_X8_sell (a0 : Int32) (a1 : Int32) (c_latestFinding : Int32) (c_told : Int32) (c_above : Int64) (c_below : Int64) (c_now_huts : Int32) (c_now_food : Int32) (c_now_due : Int32) (c_now_backs : Int32) (c_now_winds : Nat → Int32) (c_now_kind : Nat → Int32) (c_now_home : Nat → Int32) (c_now_strength : Nat → Int32) (c_now_brown : Nat → Int32) (c_now_brick : Nat → Int32) (c_now_back : Nat → Int32) (c_log_size : Int32) (c_log_codes : Nat → Int32) {r0 : Int32} {r1 : (Int32)} {r2 : (Int32)} {r3 : (Int32)} {r4 : (Nat → Int32)} {r5 : (Nat → Int32)} {r6 : (Nat → Int32)} {r7 : (Nat → Int32)} {r8 : (Nat → Int32)} {r9 : (Int32)} {r10 : (Nat → Int32)} (h : f_X8_sell a0 a1 c_now_huts c_now_food c_now_due c_now_backs c_now_winds c_now_kind c_now_home c_now_strength c_now_brown c_now_brick c_now_back c_log_size c_log_codes = some (r0, r1, r2, r3, r4, r5, r6, r7, r8, r9, r10)) : gg_C MD_X8_sell [.ref 0, .int a0, .int a1] (wd_X8_sell c_latestFinding c_told c_above c_below c_now_huts c_now_food c_now_due c_now_backs c_now_winds c_now_kind c_now_home c_now_strength c_now_brown c_now_brick c_now_back c_log_size c_log_codes) (some (.int r0)) (wd_X8_sell c_latestFinding c_told c_above c_below c_now_huts r1 r2 r3 c_now_winds c_now_kind r4 r5 r6 r7 r8 r9 r10) := by
  refine gg_ofG [some (.ref 0), some (.int a0), some (.int a1)] (plainFor_of_name (by decide)) (Nat.le_of_ble_eq_true rfl) rfl ?_
  unfold f_X8_sell at h
  refine gg_aload_n dX8_sell_0 rfl ?_
  refine gg_get 0 fl_X8_35 dX8_sell_1 rfl rfl ?_
  refine gg_iload_n dX8_sell_4 rfl ?_
  obtain ⟨v1, hv1, h⟩ := gg_bd h
  refine gg_callV (gg_sg [27]) [1] (wd_X8_sell c_latestFinding c_told c_above c_below c_now_huts c_now_food c_now_due c_now_backs c_now_winds c_now_kind c_now_home c_now_strength c_now_brown c_now_brick c_now_back c_log_size c_log_codes) 0 (C_X2_knows a0 c_now_huts c_now_food c_now_due c_now_backs hv1) nV_X2_knows ml_X8_154 rfl rfl rfl rfl rfl rfl rfl rfl rfl rfl [0, 2, 3, 4, 5, 6, 7, 8, 9, 10] 11 rfl rfl rfl rfl rfl ⟨Nat.le_of_ble_eq_true rfl, Nat.le_of_ble_eq_true rfl⟩ (Nat.le_of_ble_eq_true rfl) dX8_sell_5 [.int v1] rfl ?_
  obtain ⟨k27, hke27, h⟩ := gg_lte h
  have hk27 : k27 = some (r0, r1, r2, r3, r4, r5, r6, r7, r8, r9, r10) → gg_G MD_X8_sell 27 [none, none, none] [] (wd_X8_sell c_latestFinding c_told c_above c_below c_now_huts c_now_food c_now_due c_now_backs c_now_winds c_now_kind c_now_home c_now_strength c_now_brown c_now_brick c_now_back c_log_size c_log_codes) (some (.int r0)) (wd_X8_sell c_latestFinding c_told c_above c_below c_now_huts r1 r2 r3 c_now_winds c_now_kind r4 r5 r6 r7 r8 r9 r10) := by
    intro  h
    subst hke27
    refine gg_iconst (-1 : Int32) dX8_sell_27 (by decide) ?_
    cases h
    exact gg_iret dX8_sell_28 rfl
  clear hke27
  refine gg_if_eq 27 dX8_sell_8 (by decide) (fun hc => ?_) (fun hc => ?_)
  · replace h := gg_th h hc
    refine gg_fg [false, false, false] [none, none, none] rfl ?_
    exact hk27 h
  · replace h := gg_el h hc
    refine gg_aload_n dX8_sell_11 rfl ?_
    refine gg_get 0 fl_X8_35 dX8_sell_12 rfl rfl ?_
    refine gg_iload_n dX8_sell_15 rfl ?_
    obtain ⟨v2, hv2, h⟩ := gg_bd h
    refine gg_callV (gg_sg [27]) [1] (wd_X8_sell c_latestFinding c_told c_above c_below c_now_huts c_now_food c_now_due c_now_backs c_now_winds c_now_kind c_now_home c_now_strength c_now_brown c_now_brick c_now_back c_log_size c_log_codes) 0 (C_X2_knows a1 c_now_huts c_now_food c_now_due c_now_backs hv2) nV_X2_knows ml_X8_154 rfl rfl rfl rfl rfl rfl rfl rfl rfl rfl [0, 2, 3, 4, 5, 6, 7, 8, 9, 10] 11 rfl rfl rfl rfl rfl ⟨Nat.le_of_ble_eq_true rfl, Nat.le_of_ble_eq_true rfl⟩ (Nat.le_of_ble_eq_true rfl) dX8_sell_16 [.int v2] rfl ?_
    refine gg_if_eq 27 dX8_sell_19 (by decide) (fun hc => ?_) (fun hc => ?_)
    · replace h := gg_th h hc
      refine gg_fg [false, false, false] [none, none, none] rfl ?_
      exact hk27 h
    · replace h := gg_el h hc
      refine gg_iload_n dX8_sell_22 rfl ?_
      refine gg_iload_n dX8_sell_23 rfl ?_
      refine gg_icmp_ne 29 dX8_sell_24 (by decide) (fun hc => ?_) (fun hc => ?_)
      · replace h := gg_el h hc
        refine gg_aload_n dX8_sell_29 rfl ?_
        refine gg_get 0 fl_X8_35 dX8_sell_30 rfl rfl ?_
        refine gg_iload_n dX8_sell_33 rfl ?_
        obtain ⟨v3, hv3, h⟩ := gg_bd h
        refine gg_callV (gg_sg [27]) [1, 7] (wd_X8_sell c_latestFinding c_told c_above c_below c_now_huts c_now_food c_now_due c_now_backs c_now_winds c_now_kind c_now_home c_now_strength c_now_brown c_now_brick c_now_back c_log_size c_log_codes) 0 (C_X2_isThere a0 c_now_huts c_now_food c_now_due c_now_backs c_now_brick hv3) nV_X2_isThere ml_X8_199 rfl rfl rfl rfl rfl rfl rfl rfl rfl rfl [0, 2, 3, 4, 5, 6, 8, 9, 10] 11 rfl rfl rfl rfl rfl ⟨Nat.le_of_ble_eq_true rfl, Nat.le_of_ble_eq_true rfl⟩ (Nat.le_of_ble_eq_true rfl) dX8_sell_34 [.int v3] rfl ?_
        obtain ⟨k51, hke51, h⟩ := gg_lte h
        have hk51 : k51 = some (r0, r1, r2, r3, r4, r5, r6, r7, r8, r9, r10) → gg_G MD_X8_sell 51 [none, none, none] [] (wd_X8_sell c_latestFinding c_told c_above c_below c_now_huts c_now_food c_now_due c_now_backs c_now_winds c_now_kind c_now_home c_now_strength c_now_brown c_now_brick c_now_back c_log_size c_log_codes) (some (.int r0)) (wd_X8_sell c_latestFinding c_told c_above c_below c_now_huts r1 r2 r3 c_now_winds c_now_kind r4 r5 r6 r7 r8 r9 r10) := by
          intro  h
          subst hke51
          refine gg_bipush (-4 : Int32) dX8_sell_51 (by decide) ?_
          cases h
          exact gg_iret dX8_sell_53 rfl
        clear hke51
        refine gg_if_eq 51 dX8_sell_37 (by decide) (fun hc => ?_) (fun hc => ?_)
        · replace h := gg_th h hc
          refine gg_fg [false, false, false] [none, none, none] rfl ?_
          exact hk51 h
        · replace h := gg_el h hc
          refine gg_aload_n dX8_sell_40 rfl ?_
          refine gg_get 0 fl_X8_35 dX8_sell_41 rfl rfl ?_
          refine gg_iload_n dX8_sell_44 rfl ?_
          obtain ⟨v4, hv4, h⟩ := gg_bd h
          refine gg_callV (gg_sg [27]) [1, 7] (wd_X8_sell c_latestFinding c_told c_above c_below c_now_huts c_now_food c_now_due c_now_backs c_now_winds c_now_kind c_now_home c_now_strength c_now_brown c_now_brick c_now_back c_log_size c_log_codes) 0 (C_X2_isThere a1 c_now_huts c_now_food c_now_due c_now_backs c_now_brick hv4) nV_X2_isThere ml_X8_199 rfl rfl rfl rfl rfl rfl rfl rfl rfl rfl [0, 2, 3, 4, 5, 6, 8, 9, 10] 11 rfl rfl rfl rfl rfl ⟨Nat.le_of_ble_eq_true rfl, Nat.le_of_ble_eq_true rfl⟩ (Nat.le_of_ble_eq_true rfl) dX8_sell_45 [.int v4] rfl ?_
          refine gg_if_ne 54 dX8_sell_48 (by decide) (fun hc => ?_) (fun hc => ?_)
          · replace h := gg_el h hc
            refine gg_aload_n dX8_sell_54 rfl ?_
            refine gg_get 0 fl_X8_46 dX8_sell_55 rfl rfl ?_
            refine gg_iconst (1 : Int32) dX8_sell_58 (by decide) ?_
            obtain ⟨v5, hv5, h⟩ := gg_bd h
            refine gg_callV (gg_sg [43]) [9, 10] (wd_X8_sell c_latestFinding c_told c_above c_below c_now_huts c_now_food c_now_due c_now_backs c_now_winds c_now_kind c_now_home c_now_strength c_now_brown c_now_brick c_now_back c_log_size c_log_codes) 0 (C_X4_lacks (1 : Int32) c_log_size c_log_codes hv5) nV_X4_lacks ml_X8_186 rfl rfl rfl rfl rfl rfl rfl rfl rfl rfl [0, 1, 2, 3, 4, 5, 6, 7, 8] 11 rfl rfl rfl rfl rfl ⟨Nat.le_of_ble_eq_true rfl, Nat.le_of_ble_eq_true rfl⟩ (Nat.le_of_ble_eq_true rfl) dX8_sell_59 [.int v5] rfl ?_
            refine gg_if_eq 68 dX8_sell_62 (by decide) (fun hc => ?_) (fun hc => ?_)
            · replace h := gg_th h hc
              refine gg_aload_n dX8_sell_68 rfl ?_
              refine gg_iconst (2 : Int32) dX8_sell_69 (by decide) ?_
              refine gg_iload_n dX8_sell_70 rfl ?_
              refine gg_iload_n dX8_sell_71 rfl ?_
              obtain ⟨v6, hv6, h⟩ := gg_bd h
              refine gg_callS (gg_sg []) [] (wd_X8_sell c_latestFinding c_told c_above c_below c_now_huts c_now_food c_now_due c_now_backs c_now_winds c_now_kind c_now_home c_now_strength c_now_brown c_now_brick c_now_back c_log_size c_log_codes) (C_X4_code (2 : Int32) a0 a1 hv6) nS_X4_code ml_X8_189 rfl rfl rfl rfl rfl rfl rfl [0, 1, 2, 3, 4, 5, 6, 7, 8, 9, 10] 11 rfl rfl rfl rfl rfl ⟨Nat.le_of_ble_eq_true rfl, Nat.le_of_ble_eq_true rfl⟩ (Nat.le_of_ble_eq_true rfl) dX8_sell_72 [.int v6, .ref 0] rfl ?_
              obtain ⟨v7_0, v7_1, v7_2, v7_3, v7_4, v7_5, v7_6, v7_7, v7_8, v7_9, hv7, h⟩ := gg_bd10 h
              refine gg_callV (gg_sg [0]) [0, 1, 2, 3, 4, 5, 6, 7, 8, 9, 10] (wd_X8_sell c_latestFinding c_told c_above c_below c_now_huts v7_0 v7_1 v7_2 c_now_winds c_now_kind v7_3 v7_4 v7_5 v7_6 v7_7 v7_8 v7_9) 0 (C_X8_act v6 c_latestFinding c_told c_above c_below c_now_huts c_now_food c_now_due c_now_backs c_now_winds c_now_kind c_now_home c_now_strength c_now_brown c_now_brick c_now_back c_log_size c_log_codes hv7) nV_X8_act ml_X8_193 rfl rfl rfl rfl rfl rfl rfl rfl rfl rfl [] 11 rfl rfl rfl rfl rfl ⟨Nat.le_of_ble_eq_true rfl, Nat.le_of_ble_eq_true rfl⟩ (Nat.le_of_ble_eq_true rfl) dX8_sell_75 [] rfl ?_
              refine gg_aload_n dX8_sell_78 rfl ?_
              refine gg_get 0 fl_X8_35 dX8_sell_79 rfl rfl ?_
              refine gg_get 1 fl_X8_208 dX8_sell_82 rfl rfl ?_
              refine gg_iload_n dX8_sell_85 rfl ?_
              obtain ⟨hb86, h⟩ := gg_ck h
              refine gg_iald 4 dX8_sell_86 rfl hb86 ?_
              cases h
              exact gg_iret dX8_sell_87 rfl
            · replace h := gg_el h hc
              refine gg_bipush (-2 : Int32) dX8_sell_65 (by decide) ?_
              cases h
              exact gg_iret dX8_sell_67 rfl
          · replace h := gg_th h hc
            refine gg_fg [false, false, false] [none, none, none] rfl ?_
            exact hk51 h
      · replace h := gg_th h hc
        refine gg_fg [false, false, false] [none, none, none] rfl ?_
        exact hk27 h
def wd_X8_storm (c_latestFinding : Int32) (c_told : Int32) (c_above : Int64) (c_below : Int64) (c_now_huts : Int32) (c_now_food : Int32) (c_now_due : Int32) (c_now_backs : Int32) (c_now_winds : Nat → Int32) (c_now_kind : Nat → Int32) (c_now_home : Nat → Int32) (c_now_strength : Nat → Int32) (c_now_brown : Nat → Int32) (c_now_brick : Nat → Int32) (c_now_back : Nat → Int32) (c_log_size : Int32) (c_log_codes : Nat → Int32) : va_W := [(0, .inr (7, [.ref 1, .ref 10, .ref 17, .ref 19, .ref 27, .ref 35, .ref 43, .ref 45, .ref 52, .ref 56, .ref 60, .ref 67, .int c_latestFinding, .int c_told, .long c_above, .long c_below])), (27, .inr (2, [.int c_now_huts, .int c_now_food, .int c_now_due, .ref 28, .ref 29, .ref 30, .ref 31, .ref 32, .ref 33, .ref 34, .int c_now_backs])), (28, .inl (0, 4, .inl c_now_winds)), (29, .inl (0, 6, .inl c_now_kind)), (30, .inl (0, 6, .inl c_now_home)), (31, .inl (0, 6, .inl c_now_strength)), (32, .inl (0, 6, .inl c_now_brown)), (33, .inl (0, 6, .inl c_now_brick)), (34, .inl (0, 6, .inl c_now_back)), (43, .inr (3, [.int c_log_size, .ref 44])), (44, .inl (0, 40, .inl c_log_codes))]
def MD_X8_storm : gg_M := (yX8_storm, cX8_storm, 2, some .int, 6, 133)
theorem nV_X8_storm : gg_nV MD_X8_storm 1 := ⟨⟨gg_mem (by decide +kernel) rfl, gg_mem cw_X8_storm rfl, by decide, by decide, by decide +kernel⟩, gg_mem (by decide +kernel) rfl, gg_mem (by decide +kernel) rfl⟩
def f_X8_storm (a0 : Int32) (c_now_huts : Int32) (c_now_food : Int32) (c_now_due : Int32) (c_now_backs : Int32) (c_now_winds : Nat → Int32) (c_now_kind : Nat → Int32) (c_now_home : Nat → Int32) (c_now_strength : Nat → Int32) (c_now_brown : Nat → Int32) (c_now_brick : Nat → Int32) (c_now_back : Nat → Int32) (c_log_size : Int32) (c_log_codes : Nat → Int32) : Option (Int32 × (Int32) × (Int32) × (Int32) × (Nat → Int32) × (Nat → Int32) × (Nat → Int32) × (Nat → Int32) × (Nat → Int32) × (Int32) × (Nat → Int32)) := (f_X2_knows a0 c_now_huts).bind (fun v1 => (if v1 = (0 : Int32) then (some ((-1 : Int32), c_now_food, c_now_due, c_now_backs, c_now_home, c_now_strength, c_now_brown, c_now_brick, c_now_back, c_log_size, c_log_codes)) else (f_X2_isThere a0 c_now_huts c_now_brick).bind (fun v2 => (if v2 = (0 : Int32) then (some ((-4 : Int32), c_now_food, c_now_due, c_now_backs, c_now_home, c_now_strength, c_now_brown, c_now_brick, c_now_back, c_log_size, c_log_codes)) else (f_X4_lacks (1 : Int32) c_log_size).bind (fun v3 => (if v3 = (0 : Int32) then (f_X4_code (3 : Int32) a0 (0 : Int32)).bind (fun v4 => gg_b10 (f_X8_act v4 c_now_huts c_now_food c_now_due c_now_backs c_now_winds c_now_kind c_now_home c_now_strength c_now_brown c_now_brick c_now_back c_log_size c_log_codes) (fun v5_0 v5_1 v5_2 v5_3 v5_4 v5_5 v5_6 v5_7 v5_8 v5_9 => (f_X2_howManyThere c_now_huts v5_6).bind (fun v6 => (some (v6, v5_0, v5_1, v5_2, v5_3, v5_4, v5_5, v5_6, v5_7, v5_8, v5_9))))) else (some ((-2 : Int32), c_now_food, c_now_due, c_now_backs, c_now_home, c_now_strength, c_now_brown, c_now_brick, c_now_back, c_log_size, c_log_codes))))))))
set_option maxRecDepth 20000 in
set_option maxHeartbeats 8000000 in
theorem C_X8_storm (a0 : Int32) (c_latestFinding : Int32) (c_told : Int32) (c_above : Int64) (c_below : Int64) (c_now_huts : Int32) (c_now_food : Int32) (c_now_due : Int32) (c_now_backs : Int32) (c_now_winds : Nat → Int32) (c_now_kind : Nat → Int32) (c_now_home : Nat → Int32) (c_now_strength : Nat → Int32) (c_now_brown : Nat → Int32) (c_now_brick : Nat → Int32) (c_now_back : Nat → Int32) (c_log_size : Int32) (c_log_codes : Nat → Int32) {r0 : Int32} {r1 : (Int32)} {r2 : (Int32)} {r3 : (Int32)} {r4 : (Nat → Int32)} {r5 : (Nat → Int32)} {r6 : (Nat → Int32)} {r7 : (Nat → Int32)} {r8 : (Nat → Int32)} {r9 : (Int32)} {r10 : (Nat → Int32)} (h : f_X8_storm a0 c_now_huts c_now_food c_now_due c_now_backs c_now_winds c_now_kind c_now_home c_now_strength c_now_brown c_now_brick c_now_back c_log_size c_log_codes = some (r0, r1, r2, r3, r4, r5, r6, r7, r8, r9, r10)) : gg_C MD_X8_storm [.ref 0, .int a0] (wd_X8_storm c_latestFinding c_told c_above c_below c_now_huts c_now_food c_now_due c_now_backs c_now_winds c_now_kind c_now_home c_now_strength c_now_brown c_now_brick c_now_back c_log_size c_log_codes) (some (.int r0)) (wd_X8_storm c_latestFinding c_told c_above c_below c_now_huts r1 r2 r3 c_now_winds c_now_kind r4 r5 r6 r7 r8 r9 r10) := by
  refine gg_ofG [some (.ref 0), some (.int a0)] (plainFor_of_name (by decide)) (Nat.le_of_ble_eq_true rfl) rfl ?_
  unfold f_X8_storm at h
  refine gg_aload_n dX8_storm_0 rfl ?_
  refine gg_get 0 fl_X8_35 dX8_storm_1 rfl rfl ?_
  refine gg_iload_n dX8_storm_4 rfl ?_
  obtain ⟨v1, hv1, h⟩ := gg_bd h
  refine gg_callV (gg_sg [27]) [1] (wd_X8_storm c_latestFinding c_told c_above c_below c_now_huts c_now_food c_now_due c_now_backs c_now_winds c_now_kind c_now_home c_now_strength c_now_brown c_now_brick c_now_back c_log_size c_log_codes) 0 (C_X2_knows a0 c_now_huts c_now_food c_now_due c_now_backs hv1) nV_X2_knows ml_X8_154 rfl rfl rfl rfl rfl rfl rfl rfl rfl rfl [0, 2, 3, 4, 5, 6, 7, 8, 9, 10] 11 rfl rfl rfl rfl rfl ⟨Nat.le_of_ble_eq_true rfl, Nat.le_of_ble_eq_true rfl⟩ (Nat.le_of_ble_eq_true rfl) dX8_storm_5 [.int v1] rfl ?_
  refine gg_if_ne 13 dX8_storm_8 (by decide) (fun hc => ?_) (fun hc => ?_)
  · replace h := gg_el h hc
    refine gg_aload_n dX8_storm_13 rfl ?_
    refine gg_get 0 fl_X8_35 dX8_storm_14 rfl rfl ?_
    refine gg_iload_n dX8_storm_17 rfl ?_
    obtain ⟨v2, hv2, h⟩ := gg_bd h
    refine gg_callV (gg_sg [27]) [1, 7] (wd_X8_storm c_latestFinding c_told c_above c_below c_now_huts c_now_food c_now_due c_now_backs c_now_winds c_now_kind c_now_home c_now_strength c_now_brown c_now_brick c_now_back c_log_size c_log_codes) 0 (C_X2_isThere a0 c_now_huts c_now_food c_now_due c_now_backs c_now_brick hv2) nV_X2_isThere ml_X8_199 rfl rfl rfl rfl rfl rfl rfl rfl rfl rfl [0, 2, 3, 4, 5, 6, 8, 9, 10] 11 rfl rfl rfl rfl rfl ⟨Nat.le_of_ble_eq_true rfl, Nat.le_of_ble_eq_true rfl⟩ (Nat.le_of_ble_eq_true rfl) dX8_storm_18 [.int v2] rfl ?_
    refine gg_if_ne 27 dX8_storm_21 (by decide) (fun hc => ?_) (fun hc => ?_)
    · replace h := gg_el h hc
      refine gg_aload_n dX8_storm_27 rfl ?_
      refine gg_get 0 fl_X8_46 dX8_storm_28 rfl rfl ?_
      refine gg_iconst (1 : Int32) dX8_storm_31 (by decide) ?_
      obtain ⟨v3, hv3, h⟩ := gg_bd h
      refine gg_callV (gg_sg [43]) [9, 10] (wd_X8_storm c_latestFinding c_told c_above c_below c_now_huts c_now_food c_now_due c_now_backs c_now_winds c_now_kind c_now_home c_now_strength c_now_brown c_now_brick c_now_back c_log_size c_log_codes) 0 (C_X4_lacks (1 : Int32) c_log_size c_log_codes hv3) nV_X4_lacks ml_X8_186 rfl rfl rfl rfl rfl rfl rfl rfl rfl rfl [0, 1, 2, 3, 4, 5, 6, 7, 8] 11 rfl rfl rfl rfl rfl ⟨Nat.le_of_ble_eq_true rfl, Nat.le_of_ble_eq_true rfl⟩ (Nat.le_of_ble_eq_true rfl) dX8_storm_32 [.int v3] rfl ?_
      refine gg_if_eq 41 dX8_storm_35 (by decide) (fun hc => ?_) (fun hc => ?_)
      · replace h := gg_th h hc
        refine gg_aload_n dX8_storm_41 rfl ?_
        refine gg_iconst (3 : Int32) dX8_storm_42 (by decide) ?_
        refine gg_iload_n dX8_storm_43 rfl ?_
        refine gg_iconst (0 : Int32) dX8_storm_44 (by decide) ?_
        obtain ⟨v4, hv4, h⟩ := gg_bd h
        refine gg_callS (gg_sg []) [] (wd_X8_storm c_latestFinding c_told c_above c_below c_now_huts c_now_food c_now_due c_now_backs c_now_winds c_now_kind c_now_home c_now_strength c_now_brown c_now_brick c_now_back c_log_size c_log_codes) (C_X4_code (3 : Int32) a0 (0 : Int32) hv4) nS_X4_code ml_X8_189 rfl rfl rfl rfl rfl rfl rfl [0, 1, 2, 3, 4, 5, 6, 7, 8, 9, 10] 11 rfl rfl rfl rfl rfl ⟨Nat.le_of_ble_eq_true rfl, Nat.le_of_ble_eq_true rfl⟩ (Nat.le_of_ble_eq_true rfl) dX8_storm_45 [.int v4, .ref 0] rfl ?_
        obtain ⟨v5_0, v5_1, v5_2, v5_3, v5_4, v5_5, v5_6, v5_7, v5_8, v5_9, hv5, h⟩ := gg_bd10 h
        refine gg_callV (gg_sg [0]) [0, 1, 2, 3, 4, 5, 6, 7, 8, 9, 10] (wd_X8_storm c_latestFinding c_told c_above c_below c_now_huts v5_0 v5_1 v5_2 c_now_winds c_now_kind v5_3 v5_4 v5_5 v5_6 v5_7 v5_8 v5_9) 0 (C_X8_act v4 c_latestFinding c_told c_above c_below c_now_huts c_now_food c_now_due c_now_backs c_now_winds c_now_kind c_now_home c_now_strength c_now_brown c_now_brick c_now_back c_log_size c_log_codes hv5) nV_X8_act ml_X8_193 rfl rfl rfl rfl rfl rfl rfl rfl rfl rfl [] 11 rfl rfl rfl rfl rfl ⟨Nat.le_of_ble_eq_true rfl, Nat.le_of_ble_eq_true rfl⟩ (Nat.le_of_ble_eq_true rfl) dX8_storm_48 [] rfl ?_
        refine gg_aload_n dX8_storm_51 rfl ?_
        refine gg_get 0 fl_X8_35 dX8_storm_52 rfl rfl ?_
        obtain ⟨v6, hv6, h⟩ := gg_bd h
        refine gg_callV (gg_sg [27]) [1, 7] (wd_X8_storm c_latestFinding c_told c_above c_below c_now_huts v5_0 v5_1 v5_2 c_now_winds c_now_kind v5_3 v5_4 v5_5 v5_6 v5_7 v5_8 v5_9) 0 (C_X2_howManyThere c_now_huts v5_0 v5_1 v5_2 v5_6 hv6) nV_X2_howManyThere ml_X8_196 rfl rfl rfl rfl rfl rfl rfl rfl rfl rfl [0, 2, 3, 4, 5, 6, 8, 9, 10] 11 rfl rfl rfl rfl rfl ⟨Nat.le_of_ble_eq_true rfl, Nat.le_of_ble_eq_true rfl⟩ (Nat.le_of_ble_eq_true rfl) dX8_storm_55 [.int v6] rfl ?_
        cases h
        exact gg_iret dX8_storm_58 rfl
      · replace h := gg_el h hc
        refine gg_bipush (-2 : Int32) dX8_storm_38 (by decide) ?_
        cases h
        exact gg_iret dX8_storm_40 rfl
    · replace h := gg_th h hc
      refine gg_bipush (-4 : Int32) dX8_storm_24 (by decide) ?_
      cases h
      exact gg_iret dX8_storm_26 rfl
  · replace h := gg_th h hc
    refine gg_iconst (-1 : Int32) dX8_storm_11 (by decide) ?_
    cases h
    exact gg_iret dX8_storm_12 rfl
def wd_X8_doAnew (c_latestFinding : Int32) (c_told : Int32) (c_above : Int64) (c_below : Int64) (c_first_huts : Int32) (c_first_food : Int32) (c_first_due : Int32) (c_first_backs : Int32) (c_first_winds : Nat → Int32) (c_first_kind : Nat → Int32) (c_first_home : Nat → Int32) (c_first_strength : Nat → Int32) (c_first_brown : Nat → Int32) (c_first_brick : Nat → Int32) (c_now_huts : Int32) (c_now_food : Int32) (c_now_due : Int32) (c_now_backs : Int32) (c_now_winds : Nat → Int32) (c_now_kind : Nat → Int32) (c_now_home : Nat → Int32) (c_now_strength : Nat → Int32) (c_now_brown : Nat → Int32) (c_now_brick : Nat → Int32) (c_now_back : Nat → Int32) (c_log_size : Int32) (c_log_codes : Nat → Int32) : va_W := [(0, .inr (7, [.ref 1, .ref 10, .ref 17, .ref 19, .ref 27, .ref 35, .ref 43, .ref 45, .ref 52, .ref 56, .ref 60, .ref 67, .int c_latestFinding, .int c_told, .long c_above, .long c_below])), (19, .inr (2, [.int c_first_huts, .int c_first_food, .int c_first_due, .ref 20, .ref 21, .ref 22, .ref 23, .ref 24, .ref 25, .ref 26, .int c_first_backs])), (20, .inl (0, 4, .inl c_first_winds)), (21, .inl (0, 6, .inl c_first_kind)), (22, .inl (0, 6, .inl c_first_home)), (23, .inl (0, 6, .inl c_first_strength)), (24, .inl (0, 6, .inl c_first_brown)), (25, .inl (0, 6, .inl c_first_brick)), (27, .inr (2, [.int c_now_huts, .int c_now_food, .int c_now_due, .ref 28, .ref 29, .ref 30, .ref 31, .ref 32, .ref 33, .ref 34, .int c_now_backs])), (28, .inl (0, 4, .inl c_now_winds)), (29, .inl (0, 6, .inl c_now_kind)), (30, .inl (0, 6, .inl c_now_home)), (31, .inl (0, 6, .inl c_now_strength)), (32, .inl (0, 6, .inl c_now_brown)), (33, .inl (0, 6, .inl c_now_brick)), (34, .inl (0, 6, .inl c_now_back)), (43, .inr (3, [.int c_log_size, .ref 44])), (44, .inl (0, 40, .inl c_log_codes))]
def MD_X8_doAnew : gg_M := (yX8_doAnew, cX8_doAnew, 2, none, 5, 112)
theorem nV_X8_doAnew : gg_nV MD_X8_doAnew 0 := ⟨⟨gg_mem (by decide +kernel) rfl, gg_mem cw_X8_doAnew rfl, by decide, by decide, by decide +kernel⟩, gg_mem (by decide +kernel) rfl, gg_mem (by decide +kernel) rfl⟩
def lp_X8_doAnew_13 {β : Type} (c_now_huts : Int32) (c_now_winds : Nat → Int32) (c_now_kind : Nat → Int32) (c_log_size : Int32) (c_log_codes : Nat → Int32) (k46 : (Int32) → (Int32) → (Int32) → (Nat → Int32) → (Nat → Int32) → (Nat → Int32) → (Nat → Int32) → (Nat → Int32) → Option β) : Nat → (Int32) → (Int32) → (Int32) → (Int32) → (Nat → Int32) → (Nat → Int32) → (Nat → Int32) → (Nat → Int32) → (Nat → Int32) → Option β
  | 0, _, _, _, _, _, _, _, _, _ => none
  | n + 1, x1_13, c_now_food_13, c_now_due_13, c_now_backs_13, c_now_home_13, c_now_strength_13, c_now_brown_13, c_now_brick_13, c_now_back_13 => (if c_log_size ≤ x1_13 then (k46 c_now_food_13 c_now_due_13 c_now_backs_13 c_now_home_13 c_now_strength_13 c_now_brown_13 c_now_brick_13 c_now_back_13) else gg_chk (gg_in x1_13 40) (gg_b8 (f_X4_doTo (c_log_codes x1_13.toNatClampNeg) c_now_huts c_now_food_13 c_now_due_13 c_now_backs_13 c_now_winds c_now_kind c_now_home_13 c_now_strength_13 c_now_brown_13 c_now_brick_13 c_now_back_13) (fun v2_0 v2_1 v2_2 v2_3 v2_4 v2_5 v2_6 v2_7 => (lp_X8_doAnew_13 c_now_huts c_now_winds c_now_kind c_log_size c_log_codes k46 n (x1_13 + (1 : Int32)) v2_0 v2_1 v2_2 v2_3 v2_4 v2_5 v2_6 v2_7))))
def f_X8_doAnew  (c_first_huts : Int32) (c_first_food : Int32) (c_first_due : Int32) (c_first_winds : Nat → Int32) (c_first_kind : Nat → Int32) (c_first_home : Nat → Int32) (c_first_strength : Nat → Int32) (c_first_brown : Nat → Int32) (c_first_brick : Nat → Int32) (c_now_huts : Int32) (c_now_food : Int32) (c_now_due : Int32) (c_now_backs : Int32) (c_now_winds : Nat → Int32) (c_now_kind : Nat → Int32) (c_now_home : Nat → Int32) (c_now_strength : Nat → Int32) (c_now_brown : Nat → Int32) (c_now_brick : Nat → Int32) (c_now_back : Nat → Int32) (c_log_size : Int32) (c_log_codes : Nat → Int32) : Option ((Int32) × (Int32) × (Int32) × (Int32) × (Nat → Int32) × (Nat → Int32) × (Nat → Int32) × (Nat → Int32) × (Nat → Int32) × (Nat → Int32) × (Nat → Int32)) := gg_b10 (f_X2_become c_now_huts c_now_food c_now_due c_now_backs c_now_winds c_now_kind c_now_home c_now_strength c_now_brown c_now_brick c_first_huts c_first_food c_first_due c_first_winds c_first_kind c_first_home c_first_strength c_first_brown c_first_brick) (fun v1_0 v1_1 v1_2 v1_3 v1_4 v1_5 v1_6 v1_7 v1_8 v1_9 => (lp_X8_doAnew_13 v1_0 v1_4 v1_5 c_log_size c_log_codes (fun (c_now_food_46 : Int32) (c_now_due_46 : Int32) (c_now_backs_46 : Int32) (c_now_home_46 : Nat → Int32) (c_now_strength_46 : Nat → Int32) (c_now_brown_46 : Nat → Int32) (c_now_brick_46 : Nat → Int32) (c_now_back_46 : Nat → Int32) => (some (v1_0, c_now_food_46, c_now_due_46, c_now_backs_46, v1_4, v1_5, c_now_home_46, c_now_strength_46, c_now_brown_46, c_now_brick_46, c_now_back_46))) gg_fuel (0 : Int32) v1_1 v1_2 v1_3 v1_6 v1_7 v1_8 v1_9 c_now_back))
set_option maxRecDepth 20000 in
set_option maxHeartbeats 4000000 in
theorem lq_X8_doAnew_13 {β : Type} {res : β} {rr : Option Value} {ww : va_W} (c_latestFinding : Int32) (c_told : Int32) (c_above : Int64) (c_below : Int64) (c_first_huts : Int32) (c_first_food : Int32) (c_first_due : Int32) (c_first_backs : Int32) (c_first_winds : Nat → Int32) (c_first_kind : Nat → Int32) (c_first_home : Nat → Int32) (c_first_strength : Nat → Int32) (c_first_brown : Nat → Int32) (c_first_brick : Nat → Int32) (c_now_huts : Int32) (c_now_winds : Nat → Int32) (c_now_kind : Nat → Int32) (c_log_size : Int32) (c_log_codes : Nat → Int32) (k46 : (Int32) → (Int32) → (Int32) → (Nat → Int32) → (Nat → Int32) → (Nat → Int32) → (Nat → Int32) → (Nat → Int32) → Option β) (hk46 : ∀ (c_now_food_46 : Int32) (c_now_due_46 : Int32) (c_now_backs_46 : Int32) (c_now_home_46 : Nat → Int32) (c_now_strength_46 : Nat → Int32) (c_now_brown_46 : Nat → Int32) (c_now_brick_46 : Nat → Int32) (c_now_back_46 : Nat → Int32), k46 c_now_food_46 c_now_due_46 c_now_backs_46 c_now_home_46 c_now_strength_46 c_now_brown_46 c_now_brick_46 c_now_back_46 = some res → gg_G MD_X8_doAnew 46 [none, none] [] (wd_X8_doAnew c_latestFinding c_told c_above c_below c_first_huts c_first_food c_first_due c_first_backs c_first_winds c_first_kind c_first_home c_first_strength c_first_brown c_first_brick c_now_huts c_now_food_46 c_now_due_46 c_now_backs_46 c_now_winds c_now_kind c_now_home_46 c_now_strength_46 c_now_brown_46 c_now_brick_46 c_now_back_46 c_log_size c_log_codes) rr ww) : ∀ (n : Nat) (x1_13 : Int32) (c_now_food_13 : Int32) (c_now_due_13 : Int32) (c_now_backs_13 : Int32) (c_now_home_13 : Nat → Int32) (c_now_strength_13 : Nat → Int32) (c_now_brown_13 : Nat → Int32) (c_now_brick_13 : Nat → Int32) (c_now_back_13 : Nat → Int32), lp_X8_doAnew_13 c_now_huts c_now_winds c_now_kind c_log_size c_log_codes k46 n x1_13 c_now_food_13 c_now_due_13 c_now_backs_13 c_now_home_13 c_now_strength_13 c_now_brown_13 c_now_brick_13 c_now_back_13 = some res → gg_G MD_X8_doAnew 13 [some (.ref 0), some (.int x1_13)] [] (wd_X8_doAnew c_latestFinding c_told c_above c_below c_first_huts c_first_food c_first_due c_first_backs c_first_winds c_first_kind c_first_home c_first_strength c_first_brown c_first_brick c_now_huts c_now_food_13 c_now_due_13 c_now_backs_13 c_now_winds c_now_kind c_now_home_13 c_now_strength_13 c_now_brown_13 c_now_brick_13 c_now_back_13 c_log_size c_log_codes) rr ww := by
  intro n
  induction n with
  | zero =>
    intro x1_13 c_now_food_13 c_now_due_13 c_now_backs_13 c_now_home_13 c_now_strength_13 c_now_brown_13 c_now_brick_13 c_now_back_13 h
    exact nomatch (show (none : Option β) = some res from h)
  | succ n ih =>
    intro x1_13 c_now_food_13 c_now_due_13 c_now_backs_13 c_now_home_13 c_now_strength_13 c_now_brown_13 c_now_brick_13 c_now_back_13 h
    rw [lp_X8_doAnew_13] at h
    refine gg_iload_n dX8_doAnew_13 rfl ?_
    refine gg_aload_n dX8_doAnew_14 rfl ?_
    refine gg_get 0 fl_X8_46 dX8_doAnew_15 rfl rfl ?_
    refine gg_get 16 fl_X8_149 dX8_doAnew_18 rfl rfl ?_
    refine gg_icmp_ge 46 dX8_doAnew_21 (by decide) (fun hc => ?_) (fun hc => ?_)
    · replace h := gg_th h hc
      refine gg_fg [false, false] [none, none] rfl ?_
      exact hk46 c_now_food_13 c_now_due_13 c_now_backs_13 c_now_home_13 c_now_strength_13 c_now_brown_13 c_now_brick_13 c_now_back_13 h
    · replace h := gg_el h hc
      refine gg_aload_n dX8_doAnew_24 rfl ?_
      refine gg_get 0 fl_X8_35 dX8_doAnew_25 rfl rfl ?_
      refine gg_aload_n dX8_doAnew_28 rfl ?_
      refine gg_get 0 fl_X8_46 dX8_doAnew_29 rfl rfl ?_
      refine gg_get 16 fl_X8_349 dX8_doAnew_32 rfl rfl ?_
      refine gg_iload_n dX8_doAnew_35 rfl ?_
      obtain ⟨hb36, h⟩ := gg_ck h
      refine gg_iald 17 dX8_doAnew_36 rfl hb36 ?_
      obtain ⟨v2_0, v2_1, v2_2, v2_3, v2_4, v2_5, v2_6, v2_7, hv2, h⟩ := gg_bd8 h
      refine gg_callS (gg_sg [27]) [8, 9, 10, 11, 12, 13, 14, 15] (wd_X8_doAnew c_latestFinding c_told c_above c_below c_first_huts c_first_food c_first_due c_first_backs c_first_winds c_first_kind c_first_home c_first_strength c_first_brown c_first_brick c_now_huts v2_0 v2_1 v2_2 c_now_winds c_now_kind v2_3 v2_4 v2_5 v2_6 v2_7 c_log_size c_log_codes) (C_X4_doTo (c_log_codes x1_13.toNatClampNeg) c_now_huts c_now_food_13 c_now_due_13 c_now_backs_13 c_now_winds c_now_kind c_now_home_13 c_now_strength_13 c_now_brown_13 c_now_brick_13 c_now_back_13 hv2) nS_X4_doTo ml_X8_345 rfl rfl rfl rfl rfl rfl rfl [0, 1, 2, 3, 4, 5, 6, 7, 16, 17] 18 rfl rfl rfl rfl rfl ⟨Nat.le_of_ble_eq_true rfl, Nat.le_of_ble_eq_true rfl⟩ (Nat.le_of_ble_eq_true rfl) dX8_doAnew_37 [] rfl ?_
      refine gg_iinc (x1_13 + (1 : Int32)) [some (.ref 0), some (.int (x1_13 + (1 : Int32)))] dX8_doAnew_40 rfl rfl rfl (Nat.le_of_ble_eq_true rfl) rfl ?_
      refine gg_goto 13 dX8_doAnew_43 (by decide) ?_
      exact ih (x1_13 + (1 : Int32)) v2_0 v2_1 v2_2 v2_3 v2_4 v2_5 v2_6 v2_7 h
set_option maxRecDepth 20000 in
set_option maxHeartbeats 8000000 in
theorem C_X8_doAnew  (c_latestFinding : Int32) (c_told : Int32) (c_above : Int64) (c_below : Int64) (c_first_huts : Int32) (c_first_food : Int32) (c_first_due : Int32) (c_first_backs : Int32) (c_first_winds : Nat → Int32) (c_first_kind : Nat → Int32) (c_first_home : Nat → Int32) (c_first_strength : Nat → Int32) (c_first_brown : Nat → Int32) (c_first_brick : Nat → Int32) (c_now_huts : Int32) (c_now_food : Int32) (c_now_due : Int32) (c_now_backs : Int32) (c_now_winds : Nat → Int32) (c_now_kind : Nat → Int32) (c_now_home : Nat → Int32) (c_now_strength : Nat → Int32) (c_now_brown : Nat → Int32) (c_now_brick : Nat → Int32) (c_now_back : Nat → Int32) (c_log_size : Int32) (c_log_codes : Nat → Int32) {r0 : (Int32)} {r1 : (Int32)} {r2 : (Int32)} {r3 : (Int32)} {r4 : (Nat → Int32)} {r5 : (Nat → Int32)} {r6 : (Nat → Int32)} {r7 : (Nat → Int32)} {r8 : (Nat → Int32)} {r9 : (Nat → Int32)} {r10 : (Nat → Int32)} (h : f_X8_doAnew c_first_huts c_first_food c_first_due c_first_winds c_first_kind c_first_home c_first_strength c_first_brown c_first_brick c_now_huts c_now_food c_now_due c_now_backs c_now_winds c_now_kind c_now_home c_now_strength c_now_brown c_now_brick c_now_back c_log_size c_log_codes = some (r0, r1, r2, r3, r4, r5, r6, r7, r8, r9, r10)) : gg_C MD_X8_doAnew [.ref 0] (wd_X8_doAnew c_latestFinding c_told c_above c_below c_first_huts c_first_food c_first_due c_first_backs c_first_winds c_first_kind c_first_home c_first_strength c_first_brown c_first_brick c_now_huts c_now_food c_now_due c_now_backs c_now_winds c_now_kind c_now_home c_now_strength c_now_brown c_now_brick c_now_back c_log_size c_log_codes) (none) (wd_X8_doAnew c_latestFinding c_told c_above c_below c_first_huts c_first_food c_first_due c_first_backs c_first_winds c_first_kind c_first_home c_first_strength c_first_brown c_first_brick r0 r1 r2 r3 r4 r5 r6 r7 r8 r9 r10 c_log_size c_log_codes) := by
  refine gg_ofG [some (.ref 0), none] (plainFor_of_name (by decide)) (Nat.le_of_ble_eq_true rfl) rfl ?_
  unfold f_X8_doAnew at h
  refine gg_aload_n dX8_doAnew_0 rfl ?_
  refine gg_get 0 fl_X8_35 dX8_doAnew_1 rfl rfl ?_
  refine gg_aload_n dX8_doAnew_4 rfl ?_
  refine gg_get 0 fl_X8_31 dX8_doAnew_5 rfl rfl ?_
  obtain ⟨v1_0, v1_1, v1_2, v1_3, v1_4, v1_5, v1_6, v1_7, v1_8, v1_9, hv1, h⟩ := gg_bd10 h
  refine gg_callV (gg_sg [27, 19]) [8, 9, 10, 11, 12, 13, 14, 1, 2, 3, 4, 5, 6, 7] (wd_X8_doAnew c_latestFinding c_told c_above c_below c_first_huts c_first_food c_first_due c_first_backs c_first_winds c_first_kind c_first_home c_first_strength c_first_brown c_first_brick v1_0 v1_1 v1_2 v1_3 v1_4 v1_5 v1_6 v1_7 v1_8 v1_9 c_now_back c_log_size c_log_codes) 0 (C_X2_become c_now_huts c_now_food c_now_due c_now_backs c_now_winds c_now_kind c_now_home c_now_strength c_now_brown c_now_brick c_first_huts c_first_food c_first_due c_first_backs c_first_winds c_first_kind c_first_home c_first_strength c_first_brown c_first_brick hv1) nV_X2_become ml_X8_145 rfl rfl rfl rfl rfl rfl rfl rfl rfl rfl [0, 15, 16, 17] 18 rfl rfl rfl rfl rfl ⟨Nat.le_of_ble_eq_true rfl, Nat.le_of_ble_eq_true rfl⟩ (Nat.le_of_ble_eq_true rfl) dX8_doAnew_8 [] rfl ?_
  refine gg_iconst (0 : Int32) dX8_doAnew_11 (by decide) ?_
  refine gg_istore_n [some (.ref 0), some (.int (0 : Int32))] dX8_doAnew_12 rfl (Nat.le_of_ble_eq_true rfl) rfl ?_
  refine lq_X8_doAnew_13 c_latestFinding c_told c_above c_below c_first_huts c_first_food c_first_due c_first_backs c_first_winds c_first_kind c_first_home c_first_strength c_first_brown c_first_brick v1_0 v1_4 v1_5 c_log_size c_log_codes _ ?_ gg_fuel (0 : Int32) v1_1 v1_2 v1_3 v1_6 v1_7 v1_8 v1_9 c_now_back h
  intro c_now_food_46 c_now_due_46 c_now_backs_46 c_now_home_46 c_now_strength_46 c_now_brown_46 c_now_brick_46 c_now_back_46 h
  cases h
  exact gg_vret dX8_doAnew_46 rfl
def wd_X8_undo (c_latestFinding : Int32) (c_told : Int32) (c_above : Int64) (c_below : Int64) (c_first_huts : Int32) (c_first_food : Int32) (c_first_due : Int32) (c_first_backs : Int32) (c_first_winds : Nat → Int32) (c_first_kind : Nat → Int32) (c_first_home : Nat → Int32) (c_first_strength : Nat → Int32) (c_first_brown : Nat → Int32) (c_first_brick : Nat → Int32) (c_now_huts : Int32) (c_now_food : Int32) (c_now_due : Int32) (c_now_backs : Int32) (c_now_winds : Nat → Int32) (c_now_kind : Nat → Int32) (c_now_home : Nat → Int32) (c_now_strength : Nat → Int32) (c_now_brown : Nat → Int32) (c_now_brick : Nat → Int32) (c_now_back : Nat → Int32) (c_log_size : Int32) (c_log_codes : Nat → Int32) : va_W := [(0, .inr (7, [.ref 1, .ref 10, .ref 17, .ref 19, .ref 27, .ref 35, .ref 43, .ref 45, .ref 52, .ref 56, .ref 60, .ref 67, .int c_latestFinding, .int c_told, .long c_above, .long c_below])), (19, .inr (2, [.int c_first_huts, .int c_first_food, .int c_first_due, .ref 20, .ref 21, .ref 22, .ref 23, .ref 24, .ref 25, .ref 26, .int c_first_backs])), (20, .inl (0, 4, .inl c_first_winds)), (21, .inl (0, 6, .inl c_first_kind)), (22, .inl (0, 6, .inl c_first_home)), (23, .inl (0, 6, .inl c_first_strength)), (24, .inl (0, 6, .inl c_first_brown)), (25, .inl (0, 6, .inl c_first_brick)), (27, .inr (2, [.int c_now_huts, .int c_now_food, .int c_now_due, .ref 28, .ref 29, .ref 30, .ref 31, .ref 32, .ref 33, .ref 34, .int c_now_backs])), (28, .inl (0, 4, .inl c_now_winds)), (29, .inl (0, 6, .inl c_now_kind)), (30, .inl (0, 6, .inl c_now_home)), (31, .inl (0, 6, .inl c_now_strength)), (32, .inl (0, 6, .inl c_now_brown)), (33, .inl (0, 6, .inl c_now_brick)), (34, .inl (0, 6, .inl c_now_back)), (43, .inr (3, [.int c_log_size, .ref 44])), (44, .inl (0, 40, .inl c_log_codes))]
def MD_X8_undo : gg_M := (yX8_undo, cX8_undo, 3, some .int, 6, 133)
theorem nV_X8_undo : gg_nV MD_X8_undo 1 := ⟨⟨gg_mem (by decide +kernel) rfl, gg_mem cw_X8_undo rfl, by decide, by decide, by decide +kernel⟩, gg_mem (by decide +kernel) rfl, gg_mem (by decide +kernel) rfl⟩
def f_X8_undo (a0 : Int32) (c_first_huts : Int32) (c_first_food : Int32) (c_first_due : Int32) (c_first_winds : Nat → Int32) (c_first_kind : Nat → Int32) (c_first_home : Nat → Int32) (c_first_strength : Nat → Int32) (c_first_brown : Nat → Int32) (c_first_brick : Nat → Int32) (c_now_huts : Int32) (c_now_food : Int32) (c_now_due : Int32) (c_now_backs : Int32) (c_now_winds : Nat → Int32) (c_now_kind : Nat → Int32) (c_now_home : Nat → Int32) (c_now_strength : Nat → Int32) (c_now_brown : Nat → Int32) (c_now_brick : Nat → Int32) (c_now_back : Nat → Int32) (c_log_size : Int32) (c_log_codes : Nat → Int32) : Option (Int32 × (Int32) × (Int32) × (Int32) × (Int32) × (Nat → Int32) × (Nat → Int32) × (Nat → Int32) × (Nat → Int32) × (Nat → Int32) × (Nat → Int32) × (Nat → Int32) × (Int32)) := (f_X8_within a0 (0 : Int32) c_log_size).bind (fun v1 => (if v1 = (0 : Int32) then (some ((-1 : Int32), c_now_huts, c_now_food, c_now_due, c_now_backs, c_now_winds, c_now_kind, c_now_home, c_now_strength, c_now_brown, c_now_brick, c_now_back, c_log_size)) else gg_b11 (f_X8_doAnew c_first_huts c_first_food c_first_due c_first_winds c_first_kind c_first_home c_first_strength c_first_brown c_first_brick c_now_huts c_now_food c_now_due c_now_backs c_now_winds c_now_kind c_now_home c_now_strength c_now_brown c_now_brick c_now_back a0 c_log_codes) (fun v2_0 v2_1 v2_2 v2_3 v2_4 v2_5 v2_6 v2_7 v2_8 v2_9 v2_10 => (some ((c_log_size - a0), v2_0, v2_1, v2_2, v2_3, v2_4, v2_5, v2_6, v2_7, v2_8, v2_9, v2_10, a0)))))
set_option maxRecDepth 20000 in
set_option maxHeartbeats 8000000 in
theorem C_X8_undo (a0 : Int32) (c_latestFinding : Int32) (c_told : Int32) (c_above : Int64) (c_below : Int64) (c_first_huts : Int32) (c_first_food : Int32) (c_first_due : Int32) (c_first_backs : Int32) (c_first_winds : Nat → Int32) (c_first_kind : Nat → Int32) (c_first_home : Nat → Int32) (c_first_strength : Nat → Int32) (c_first_brown : Nat → Int32) (c_first_brick : Nat → Int32) (c_now_huts : Int32) (c_now_food : Int32) (c_now_due : Int32) (c_now_backs : Int32) (c_now_winds : Nat → Int32) (c_now_kind : Nat → Int32) (c_now_home : Nat → Int32) (c_now_strength : Nat → Int32) (c_now_brown : Nat → Int32) (c_now_brick : Nat → Int32) (c_now_back : Nat → Int32) (c_log_size : Int32) (c_log_codes : Nat → Int32) {r0 : Int32} {r1 : (Int32)} {r2 : (Int32)} {r3 : (Int32)} {r4 : (Int32)} {r5 : (Nat → Int32)} {r6 : (Nat → Int32)} {r7 : (Nat → Int32)} {r8 : (Nat → Int32)} {r9 : (Nat → Int32)} {r10 : (Nat → Int32)} {r11 : (Nat → Int32)} {r12 : (Int32)} (h : f_X8_undo a0 c_first_huts c_first_food c_first_due c_first_winds c_first_kind c_first_home c_first_strength c_first_brown c_first_brick c_now_huts c_now_food c_now_due c_now_backs c_now_winds c_now_kind c_now_home c_now_strength c_now_brown c_now_brick c_now_back c_log_size c_log_codes = some (r0, r1, r2, r3, r4, r5, r6, r7, r8, r9, r10, r11, r12)) : gg_C MD_X8_undo [.ref 0, .int a0] (wd_X8_undo c_latestFinding c_told c_above c_below c_first_huts c_first_food c_first_due c_first_backs c_first_winds c_first_kind c_first_home c_first_strength c_first_brown c_first_brick c_now_huts c_now_food c_now_due c_now_backs c_now_winds c_now_kind c_now_home c_now_strength c_now_brown c_now_brick c_now_back c_log_size c_log_codes) (some (.int r0)) (wd_X8_undo c_latestFinding c_told c_above c_below c_first_huts c_first_food c_first_due c_first_backs c_first_winds c_first_kind c_first_home c_first_strength c_first_brown c_first_brick r1 r2 r3 r4 r5 r6 r7 r8 r9 r10 r11 r12 c_log_codes) := by
  refine gg_ofG [some (.ref 0), some (.int a0), none] (plainFor_of_name (by decide)) (Nat.le_of_ble_eq_true rfl) rfl ?_
  unfold f_X8_undo at h
  refine gg_iload_n dX8_undo_0 rfl ?_
  refine gg_iconst (0 : Int32) dX8_undo_1 (by decide) ?_
  refine gg_aload_n dX8_undo_2 rfl ?_
  refine gg_get 0 fl_X8_46 dX8_undo_3 rfl rfl ?_
  refine gg_get 16 fl_X8_149 dX8_undo_6 rfl rfl ?_
  obtain ⟨v1, hv1, h⟩ := gg_bd h
  refine gg_callS (gg_sg []) [] (wd_X8_undo c_latestFinding c_told c_above c_below c_first_huts c_first_food c_first_due c_first_backs c_first_winds c_first_kind c_first_home c_first_strength c_first_brown c_first_brick c_now_huts c_now_food c_now_due c_now_backs c_now_winds c_now_kind c_now_home c_now_strength c_now_brown c_now_brick c_now_back c_log_size c_log_codes) (C_X8_within a0 (0 : Int32) c_log_size hv1) nS_X8_within ml_X8_155 rfl rfl rfl rfl rfl rfl rfl [0, 1, 2, 3, 4, 5, 6, 7, 8, 9, 10, 11, 12, 13, 14, 15, 16, 17] 18 rfl rfl rfl rfl rfl ⟨Nat.le_of_ble_eq_true rfl, Nat.le_of_ble_eq_true rfl⟩ (Nat.le_of_ble_eq_true rfl) dX8_undo_9 [.int v1] rfl ?_
  refine gg_if_ne 17 dX8_undo_12 (by decide) (fun hc => ?_) (fun hc => ?_)
  · replace h := gg_el h hc
    refine gg_aload_n dX8_undo_17 rfl ?_
    refine gg_get 0 fl_X8_46 dX8_undo_18 rfl rfl ?_
    refine gg_get 16 fl_X8_149 dX8_undo_21 rfl rfl ?_
    refine gg_iload_n dX8_undo_24 rfl ?_
    refine gg_isub dX8_undo_25 ?_
    refine gg_istore_n [some (.ref 0), some (.int a0), some (.int (c_log_size - a0))] dX8_undo_26 rfl (Nat.le_of_ble_eq_true rfl) rfl ?_
    refine gg_aload_n dX8_undo_27 rfl ?_
    refine gg_get 0 fl_X8_46 dX8_undo_28 rfl rfl ?_
    refine gg_iload_n dX8_undo_31 rfl ?_
    refine gg_putf 16 (wd_X8_undo c_latestFinding c_told c_above c_below c_first_huts c_first_food c_first_due c_first_backs c_first_winds c_first_kind c_first_home c_first_strength c_first_brown c_first_brick c_now_huts c_now_food c_now_due c_now_backs c_now_winds c_now_kind c_now_home c_now_strength c_now_brown c_now_brick c_now_back a0 c_log_codes) fl_X8_149 dX8_undo_32 rfl (Nat.le_of_ble_eq_true rfl) (fun _ => ⟨rfl, rfl⟩) rfl ?_
    refine gg_aload_n dX8_undo_35 rfl ?_
    obtain ⟨v2_0, v2_1, v2_2, v2_3, v2_4, v2_5, v2_6, v2_7, v2_8, v2_9, v2_10, hv2, h⟩ := gg_bd11 h
    refine gg_callV (gg_sg [0]) [0, 1, 2, 3, 4, 5, 6, 7, 8, 9, 10, 11, 12, 13, 14, 15, 16, 17] (wd_X8_undo c_latestFinding c_told c_above c_below c_first_huts c_first_food c_first_due c_first_backs c_first_winds c_first_kind c_first_home c_first_strength c_first_brown c_first_brick v2_0 v2_1 v2_2 v2_3 v2_4 v2_5 v2_6 v2_7 v2_8 v2_9 v2_10 a0 c_log_codes) 0 (C_X8_doAnew c_latestFinding c_told c_above c_below c_first_huts c_first_food c_first_due c_first_backs c_first_winds c_first_kind c_first_home c_first_strength c_first_brown c_first_brick c_now_huts c_now_food c_now_due c_now_backs c_now_winds c_now_kind c_now_home c_now_strength c_now_brown c_now_brick c_now_back a0 c_log_codes hv2) nV_X8_doAnew ml_X8_211 rfl rfl rfl rfl rfl rfl rfl rfl rfl rfl [] 18 rfl rfl rfl rfl rfl ⟨Nat.le_of_ble_eq_true rfl, Nat.le_of_ble_eq_true rfl⟩ (Nat.le_of_ble_eq_true rfl) dX8_undo_36 [] rfl ?_
    refine gg_iload_n dX8_undo_39 rfl ?_
    cases h
    exact gg_iret dX8_undo_40 rfl
  · replace h := gg_th h hc
    refine gg_iconst (-1 : Int32) dX8_undo_15 (by decide) ?_
    cases h
    exact gg_iret dX8_undo_16 rfl
def wd_X4_become (c_size : Int32) (c_codes : Nat → Int32) (c_p1_size : Int32) (c_p1_codes : Nat → Int32) : va_W := [(0, .inr (3, [.int c_size, .ref 1])), (1, .inl (0, 40, .inl c_codes)), (100, .inr (3, [.int c_p1_size, .ref 101])), (101, .inl (0, 40, .inl c_p1_codes))]
def MD_X4_become : gg_M := (yX4_become, cX4_become, 3, none, 0, 0)
theorem nV_X4_become : gg_nV MD_X4_become 1 := ⟨⟨gg_mem (by decide +kernel) rfl, gg_mem cw_X4_become rfl, by decide, by decide, by decide +kernel⟩, gg_mem (by decide +kernel) rfl, gg_mem (by decide +kernel) rfl⟩
def lp_X4_become_10 {β : Type} (c_size : Int32) (c_p1_codes : Nat → Int32) (k45 : (Nat → Int32) → Option β) : Nat → (Int32) → (Nat → Int32) → Option β
  | 0, _, _ => none
  | n + 1, x2_10, c_codes_10 => (if c_size ≤ x2_10 then (k45 c_codes_10) else (if (40 : Int32) ≤ x2_10 then (k45 c_codes_10) else gg_chk (gg_in x2_10 40) (gg_chk (gg_in x2_10 40) ((lp_X4_become_10 c_size c_p1_codes k45 n (x2_10 + (1 : Int32)) (upd c_codes_10 x2_10.toNatClampNeg (c_p1_codes x2_10.toNatClampNeg)))))))
def f_X4_become  (c_size : Int32) (c_codes : Nat → Int32) (c_p1_size : Int32) (c_p1_codes : Nat → Int32) : Option ((Int32) × (Nat → Int32)) := (lp_X4_become_10 c_p1_size c_p1_codes (fun (c_codes_45 : Nat → Int32) => (some (c_p1_size, c_codes_45))) gg_fuel (0 : Int32) c_codes)
set_option maxRecDepth 20000 in
set_option maxHeartbeats 4000000 in
theorem lq_X4_become_10 {β : Type} {res : β} {rr : Option Value} {ww : va_W} (c_size : Int32) (c_p1_size : Int32) (c_p1_codes : Nat → Int32) (k45 : (Nat → Int32) → Option β) (hk45 : ∀ (c_codes_45 : Nat → Int32), k45 c_codes_45 = some res → gg_G MD_X4_become 45 [none, none, none] [] (wd_X4_become c_size c_codes_45 c_p1_size c_p1_codes) rr ww) : ∀ (n : Nat) (x2_10 : Int32) (c_codes_10 : Nat → Int32), lp_X4_become_10 c_size c_p1_codes k45 n x2_10 c_codes_10 = some res → gg_G MD_X4_become 10 [some (.ref 0), some (.ref 100), some (.int x2_10)] [] (wd_X4_become c_size c_codes_10 c_p1_size c_p1_codes) rr ww := by
  intro n
  induction n with
  | zero =>
    intro x2_10 c_codes_10 h
    exact nomatch (show (none : Option β) = some res from h)
  | succ n ih =>
    intro x2_10 c_codes_10 h
    rw [lp_X4_become_10] at h
    refine gg_iload_n dX4_become_10 rfl ?_
    refine gg_aload_n dX4_become_11 rfl ?_
    refine gg_get 0 fl_X4_15 dX4_become_12 rfl rfl ?_
    refine gg_icmp_ge 45 dX4_become_15 (by decide) (fun hc => ?_) (fun hc => ?_)
    · replace h := gg_th h hc
      refine gg_fg [false, false, false] [none, none, none] rfl ?_
      exact hk45 c_codes_10 h
    · replace h := gg_el h hc
      refine gg_iload_n dX4_become_18 rfl ?_
      refine gg_aload_n dX4_become_19 rfl ?_
      refine gg_get 0 fl_X4_9 dX4_become_20 rfl rfl ?_
      refine gg_alen (40 : Int32) 1 dX4_become_23 rfl (by decide) rfl ?_
      refine gg_icmp_ge 45 dX4_become_24 (by decide) (fun hc => ?_) (fun hc => ?_)
      · replace h := gg_th h hc
        refine gg_fg [false, false, false] [none, none, none] rfl ?_
        exact hk45 c_codes_10 h
      · replace h := gg_el h hc
        refine gg_aload_n dX4_become_27 rfl ?_
        refine gg_get 0 fl_X4_9 dX4_become_28 rfl rfl ?_
        refine gg_iload_n dX4_become_31 rfl ?_
        refine gg_aload_n dX4_become_32 rfl ?_
        refine gg_get 2 fl_X4_9 dX4_become_33 rfl rfl ?_
        refine gg_iload_n dX4_become_36 rfl ?_
        obtain ⟨hb37, h⟩ := gg_ck h
        refine gg_iald 3 dX4_become_37 rfl hb37 ?_
        obtain ⟨hb38, h⟩ := gg_ck h
        refine gg_iast 1 (wd_X4_become c_size (upd c_codes_10 x2_10.toNatClampNeg (c_p1_codes x2_10.toNatClampNeg)) c_p1_size c_p1_codes) dX4_become_38 rfl hb38 rfl ?_
        refine gg_iinc (x2_10 + (1 : Int32)) [some (.ref 0), some (.ref 100), some (.int (x2_10 + (1 : Int32)))] dX4_become_39 rfl rfl rfl (Nat.le_of_ble_eq_true rfl) rfl ?_
        refine gg_goto 10 dX4_become_42 (by decide) ?_
        exact ih (x2_10 + (1 : Int32)) (upd c_codes_10 x2_10.toNatClampNeg (c_p1_codes x2_10.toNatClampNeg)) h
set_option maxRecDepth 20000 in
set_option maxHeartbeats 8000000 in
theorem C_X4_become  (c_size : Int32) (c_codes : Nat → Int32) (c_p1_size : Int32) (c_p1_codes : Nat → Int32) {r0 : (Int32)} {r1 : (Nat → Int32)} (h : f_X4_become c_size c_codes c_p1_size c_p1_codes = some (r0, r1)) : gg_C MD_X4_become [.ref 0, .ref 100] (wd_X4_become c_size c_codes c_p1_size c_p1_codes) (none) (wd_X4_become r0 r1 c_p1_size c_p1_codes) := by
  refine gg_ofG [some (.ref 0), some (.ref 100), none] (plainFor_of_name (by decide)) (Nat.le_of_ble_eq_true rfl) rfl ?_
  unfold f_X4_become at h
  refine gg_aload_n dX4_become_0 rfl ?_
  refine gg_aload_n dX4_become_1 rfl ?_
  refine gg_get 2 fl_X4_15 dX4_become_2 rfl rfl ?_
  refine gg_putf 0 (wd_X4_become c_p1_size c_codes c_p1_size c_p1_codes) fl_X4_15 dX4_become_5 rfl (Nat.le_of_ble_eq_true rfl) (fun _ => ⟨rfl, rfl⟩) rfl ?_
  refine gg_iconst (0 : Int32) dX4_become_8 (by decide) ?_
  refine gg_istore_n [some (.ref 0), some (.ref 100), some (.int (0 : Int32))] dX4_become_9 rfl (Nat.le_of_ble_eq_true rfl) rfl ?_
  refine lq_X4_become_10 c_p1_size c_p1_size c_p1_codes _ ?_ gg_fuel (0 : Int32) c_codes h
  intro c_codes_45 h
  cases h
  exact gg_vret dX4_become_45 rfl
def wd_X8_keep (c_latestFinding : Int32) (c_told : Int32) (c_above : Int64) (c_below : Int64) (c_now_huts : Int32) (c_now_food : Int32) (c_now_due : Int32) (c_now_backs : Int32) (c_log_size : Int32) (c_log_codes : Nat → Int32) (c_kept_size : Nat → Int32) (c_kept_codes : Nat → Nat → Int32) : va_W := [(0, .inr (7, [.ref 1, .ref 10, .ref 17, .ref 19, .ref 27, .ref 35, .ref 43, .ref 45, .ref 52, .ref 56, .ref 60, .ref 67, .int c_latestFinding, .int c_told, .long c_above, .long c_below])), (27, .inr (2, [.int c_now_huts, .int c_now_food, .int c_now_due, .ref 28, .ref 29, .ref 30, .ref 31, .ref 32, .ref 33, .ref 34, .int c_now_backs])), (43, .inr (3, [.int c_log_size, .ref 44])), (44, .inl (0, 40, .inl c_log_codes)), (45, .inl (3, 3, .inr (.inr (.inr (.inr (gg_rf 1 2)))))), (46, .inr (3, [.int (c_kept_size 0), .ref 47])), (47, .inl (0, 40, .inl (c_kept_codes 0))), (48, .inr (3, [.int (c_kept_size 1), .ref 49])), (49, .inl (0, 40, .inl (c_kept_codes 1))), (50, .inr (3, [.int (c_kept_size 2), .ref 51])), (51, .inl (0, 40, .inl (c_kept_codes 2)))]
def MD_X8_keep : gg_M := (yX8_keep, cX8_keep, 2, some .int, 1, 22)
theorem nV_X8_keep : gg_nV MD_X8_keep 1 := ⟨⟨gg_mem (by decide +kernel) rfl, gg_mem cw_X8_keep rfl, by decide, by decide, by decide +kernel⟩, gg_mem (by decide +kernel) rfl, gg_mem (by decide +kernel) rfl⟩
def f_X8_keep (a0 : Int32) (c_now_huts : Int32) (c_log_size : Int32) (c_log_codes : Nat → Int32) (c_kept_size : Nat → Int32) (c_kept_codes : Nat → Nat → Int32) : Option (Int32 × (Nat → Int32) × (Nat → Nat → Int32)) := (f_X8_within a0 (0 : Int32) (2 : Int32)).bind (fun v1 => (if v1 = (0 : Int32) then (some ((-1 : Int32), c_kept_size, c_kept_codes)) else (if c_now_huts = (0 : Int32) then (some ((-4 : Int32), c_kept_size, c_kept_codes)) else (gg_k3 a0 (gg_b2 (f_X4_become (c_kept_size 0) (c_kept_codes 0) c_log_size c_log_codes) (fun v2_0 v2_1 => (some (c_log_size, (gg_up c_kept_size 0 v2_0), (gg_up c_kept_codes 0 v2_1))))) (gg_b2 (f_X4_become (c_kept_size 1) (c_kept_codes 1) c_log_size c_log_codes) (fun v3_0 v3_1 => (some (c_log_size, (gg_up c_kept_size 1 v3_0), (gg_up c_kept_codes 1 v3_1))))) (gg_b2 (f_X4_become (c_kept_size 2) (c_kept_codes 2) c_log_size c_log_codes) (fun v4_0 v4_1 => (some (c_log_size, (gg_up c_kept_size 2 v4_0), (gg_up c_kept_codes 2 v4_1)))))))))
set_option maxRecDepth 20000 in
set_option maxHeartbeats 8000000 in
theorem C_X8_keep (a0 : Int32) (c_latestFinding : Int32) (c_told : Int32) (c_above : Int64) (c_below : Int64) (c_now_huts : Int32) (c_now_food : Int32) (c_now_due : Int32) (c_now_backs : Int32) (c_log_size : Int32) (c_log_codes : Nat → Int32) (c_kept_size : Nat → Int32) (c_kept_codes : Nat → Nat → Int32) {r0 : Int32} {r1 : (Nat → Int32)} {r2 : (Nat → Nat → Int32)} (h : f_X8_keep a0 c_now_huts c_log_size c_log_codes c_kept_size c_kept_codes = some (r0, r1, r2)) : gg_C MD_X8_keep [.ref 0, .int a0] (wd_X8_keep c_latestFinding c_told c_above c_below c_now_huts c_now_food c_now_due c_now_backs c_log_size c_log_codes c_kept_size c_kept_codes) (some (.int r0)) (wd_X8_keep c_latestFinding c_told c_above c_below c_now_huts c_now_food c_now_due c_now_backs c_log_size c_log_codes r1 r2) := by
  refine gg_ofG [some (.ref 0), some (.int a0)] (plainFor_of_name (by decide)) (Nat.le_of_ble_eq_true rfl) rfl ?_
  unfold f_X8_keep at h
  refine gg_iload_n dX8_keep_0 rfl ?_
  refine gg_iconst (0 : Int32) dX8_keep_1 (by decide) ?_
  refine gg_iconst (2 : Int32) dX8_keep_2 (by decide) ?_
  obtain ⟨v1, hv1, h⟩ := gg_bd h
  refine gg_callS (gg_sg []) [] (wd_X8_keep c_latestFinding c_told c_above c_below c_now_huts c_now_food c_now_due c_now_backs c_log_size c_log_codes c_kept_size c_kept_codes) (C_X8_within a0 (0 : Int32) (2 : Int32) hv1) nS_X8_within ml_X8_155 rfl rfl rfl rfl rfl rfl rfl [0, 1, 2, 3, 4, 5, 6, 7, 8, 9, 10] 11 rfl rfl rfl rfl rfl ⟨Nat.le_of_ble_eq_true rfl, Nat.le_of_ble_eq_true rfl⟩ (Nat.le_of_ble_eq_true rfl) dX8_keep_3 [.int v1] rfl ?_
  refine gg_if_ne 11 dX8_keep_6 (by decide) (fun hc => ?_) (fun hc => ?_)
  · replace h := gg_el h hc
    refine gg_aload_n dX8_keep_11 rfl ?_
    refine gg_get 0 fl_X8_35 dX8_keep_12 rfl rfl ?_
    refine gg_get 1 fl_X8_151 dX8_keep_15 rfl rfl ?_
    refine gg_if_ne 24 dX8_keep_18 (by decide) (fun hc => ?_) (fun hc => ?_)
    · replace h := gg_el h hc
      refine gg_aload_n dX8_keep_24 rfl ?_
      refine gg_get 0 fl_X8_50 dX8_keep_25 rfl rfl ?_
      refine gg_iload_n dX8_keep_28 rfl ?_
      rcases gg_k3c h with ⟨hk, h⟩ | ⟨hk, h⟩ | ⟨hk, h⟩
      · refine gg_aldq (d := 1) 4 46 dX8_keep_29 rfl (by rw [hk]; rfl) (by rw [hk]; rfl) rfl ?_
        refine gg_aload_n dX8_keep_30 rfl ?_
        refine gg_get 0 fl_X8_46 dX8_keep_31 rfl rfl ?_
        obtain ⟨v2_0, v2_1, hv2, h⟩ := gg_bd2 h
        refine gg_callV (gg_sg [46, 43]) [5, 6, 2, 3] (wd_X8_keep c_latestFinding c_told c_above c_below c_now_huts c_now_food c_now_due c_now_backs c_log_size c_log_codes (gg_up c_kept_size 0 v2_0) (gg_up c_kept_codes 0 v2_1)) 0 (C_X4_become (c_kept_size 0) (c_kept_codes 0) c_log_size c_log_codes hv2) nV_X4_become ml_X8_214 rfl rfl rfl rfl rfl rfl rfl rfl rfl rfl [0, 1, 4, 7, 8, 9, 10] 11 rfl rfl rfl rfl rfl ⟨Nat.le_of_ble_eq_true rfl, Nat.le_of_ble_eq_true rfl⟩ (Nat.le_of_ble_eq_true rfl) dX8_keep_34 [] rfl ?_
        refine gg_aload_n dX8_keep_37 rfl ?_
        refine gg_get 0 fl_X8_46 dX8_keep_38 rfl rfl ?_
        refine gg_get 2 fl_X8_149 dX8_keep_41 rfl rfl ?_
        cases h
        exact gg_iret dX8_keep_44 rfl
      · refine gg_aldq (d := 3) 4 48 dX8_keep_29 rfl (by rw [hk]; rfl) (by rw [hk]; rfl) rfl ?_
        refine gg_aload_n dX8_keep_30 rfl ?_
        refine gg_get 0 fl_X8_46 dX8_keep_31 rfl rfl ?_
        obtain ⟨v3_0, v3_1, hv3, h⟩ := gg_bd2 h
        refine gg_callV (gg_sg [48, 43]) [7, 8, 2, 3] (wd_X8_keep c_latestFinding c_told c_above c_below c_now_huts c_now_food c_now_due c_now_backs c_log_size c_log_codes (gg_up c_kept_size 1 v3_0) (gg_up c_kept_codes 1 v3_1)) 0 (C_X4_become (c_kept_size 1) (c_kept_codes 1) c_log_size c_log_codes hv3) nV_X4_become ml_X8_214 rfl rfl rfl rfl rfl rfl rfl rfl rfl rfl [0, 1, 4, 5, 6, 9, 10] 11 rfl rfl rfl rfl rfl ⟨Nat.le_of_ble_eq_true rfl, Nat.le_of_ble_eq_true rfl⟩ (Nat.le_of_ble_eq_true rfl) dX8_keep_34 [] rfl ?_
        refine gg_aload_n dX8_keep_37 rfl ?_
        refine gg_get 0 fl_X8_46 dX8_keep_38 rfl rfl ?_
        refine gg_get 2 fl_X8_149 dX8_keep_41 rfl rfl ?_
        cases h
        exact gg_iret dX8_keep_44 rfl
      · refine gg_aldq (d := 5) 4 50 dX8_keep_29 rfl (by rw [hk]; rfl) (by rw [hk]; rfl) rfl ?_
        refine gg_aload_n dX8_keep_30 rfl ?_
        refine gg_get 0 fl_X8_46 dX8_keep_31 rfl rfl ?_
        obtain ⟨v4_0, v4_1, hv4, h⟩ := gg_bd2 h
        refine gg_callV (gg_sg [50, 43]) [9, 10, 2, 3] (wd_X8_keep c_latestFinding c_told c_above c_below c_now_huts c_now_food c_now_due c_now_backs c_log_size c_log_codes (gg_up c_kept_size 2 v4_0) (gg_up c_kept_codes 2 v4_1)) 0 (C_X4_become (c_kept_size 2) (c_kept_codes 2) c_log_size c_log_codes hv4) nV_X4_become ml_X8_214 rfl rfl rfl rfl rfl rfl rfl rfl rfl rfl [0, 1, 4, 5, 6, 7, 8] 11 rfl rfl rfl rfl rfl ⟨Nat.le_of_ble_eq_true rfl, Nat.le_of_ble_eq_true rfl⟩ (Nat.le_of_ble_eq_true rfl) dX8_keep_34 [] rfl ?_
        refine gg_aload_n dX8_keep_37 rfl ?_
        refine gg_get 0 fl_X8_46 dX8_keep_38 rfl rfl ?_
        refine gg_get 2 fl_X8_149 dX8_keep_41 rfl rfl ?_
        cases h
        exact gg_iret dX8_keep_44 rfl
    · replace h := gg_th h hc
      refine gg_bipush (-4 : Int32) dX8_keep_21 (by decide) ?_
      cases h
      exact gg_iret dX8_keep_23 rfl
  · replace h := gg_th h hc
    refine gg_iconst (-1 : Int32) dX8_keep_9 (by decide) ?_
    cases h
    exact gg_iret dX8_keep_10 rfl
def wd_X8_on (c_latestFinding : Int32) (c_told : Int32) (c_above : Int64) (c_below : Int64) (c_first_huts : Int32) (c_first_food : Int32) (c_first_due : Int32) (c_first_backs : Int32) (c_first_winds : Nat → Int32) (c_first_kind : Nat → Int32) (c_first_home : Nat → Int32) (c_first_strength : Nat → Int32) (c_first_brown : Nat → Int32) (c_first_brick : Nat → Int32) (c_now_huts : Int32) (c_now_food : Int32) (c_now_due : Int32) (c_now_backs : Int32) (c_now_winds : Nat → Int32) (c_now_kind : Nat → Int32) (c_now_home : Nat → Int32) (c_now_strength : Nat → Int32) (c_now_brown : Nat → Int32) (c_now_brick : Nat → Int32) (c_now_back : Nat → Int32) (c_log_size : Int32) (c_log_codes : Nat → Int32) (c_kept_size : Nat → Int32) (c_kept_codes : Nat → Nat → Int32) (c_found : Nat → Int32) : va_W := [(0, .inr (7, [.ref 1, .ref 10, .ref 17, .ref 19, .ref 27, .ref 35, .ref 43, .ref 45, .ref 52, .ref 56, .ref 60, .ref 67, .int c_latestFinding, .int c_told, .long c_above, .long c_below])), (19, .inr (2, [.int c_first_huts, .int c_first_food, .int c_first_due, .ref 20, .ref 21, .ref 22, .ref 23, .ref 24, .ref 25, .ref 26, .int c_first_backs])), (20, .inl (0, 4, .inl c_first_winds)), (21, .inl (0, 6, .inl c_first_kind)), (22, .inl (0, 6, .inl c_first_home)), (23, .inl (0, 6, .inl c_first_strength)), (24, .inl (0, 6, .inl c_first_brown)), (25, .inl (0, 6, .inl c_first_brick)), (27, .inr (2, [.int c_now_huts, .int c_now_food, .int c_now_due, .ref 28, .ref 29, .ref 30, .ref 31, .ref 32, .ref 33, .ref 34, .int c_now_backs])), (28, .inl (0, 4, .inl c_now_winds)), (29, .inl (0, 6, .inl c_now_kind)), (30, .inl (0, 6, .inl c_now_home)), (31, .inl (0, 6, .inl c_now_strength)), (32, .inl (0, 6, .inl c_now_brown)), (33, .inl (0, 6, .inl c_now_brick)), (34, .inl (0, 6, .inl c_now_back)), (43, .inr (3, [.int c_log_size, .ref 44])), (44, .inl (0, 40, .inl c_log_codes)), (45, .inl (3, 3, .inr (.inr (.inr (.inr (gg_rf 1 2)))))), (46, .inr (3, [.int (c_kept_size 0), .ref 47])), (47, .inl (0, 40, .inl (c_kept_codes 0))), (48, .inr (3, [.int (c_kept_size 1), .ref 49])), (49, .inl (0, 40, .inl (c_kept_codes 1))), (50, .inr (3, [.int (c_kept_size 2), .ref 51])), (51, .inl (0, 40, .inl (c_kept_codes 2))), (67, .inl (0, 6, .inl c_found))]
def MD_X8_on : gg_M := (yX8_on, cX8_on, 2, some .int, 6, 133)
theorem nV_X8_on : gg_nV MD_X8_on 1 := ⟨⟨gg_mem (by decide +kernel) rfl, gg_mem cw_X8_on rfl, by decide, by decide, by decide +kernel⟩, gg_mem (by decide +kernel) rfl, gg_mem (by decide +kernel) rfl⟩
def f_X8_on (a0 : Int32) (c_latestFinding : Int32) (c_first_huts : Int32) (c_first_food : Int32) (c_first_due : Int32) (c_first_winds : Nat → Int32) (c_first_kind : Nat → Int32) (c_first_home : Nat → Int32) (c_first_strength : Nat → Int32) (c_first_brown : Nat → Int32) (c_first_brick : Nat → Int32) (c_now_huts : Int32) (c_now_food : Int32) (c_now_due : Int32) (c_now_backs : Int32) (c_now_winds : Nat → Int32) (c_now_kind : Nat → Int32) (c_now_home : Nat → Int32) (c_now_strength : Nat → Int32) (c_now_brown : Nat → Int32) (c_now_brick : Nat → Int32) (c_now_back : Nat → Int32) (c_log_size : Int32) (c_log_codes : Nat → Int32) (c_kept_size : Nat → Int32) (c_kept_codes : Nat → Nat → Int32) (c_found : Nat → Int32) : Option (Int32 × (Int32) × (Int32) × (Int32) × (Int32) × (Int32) × (Nat → Int32) × (Nat → Int32) × (Nat → Int32) × (Nat → Int32) × (Nat → Int32) × (Nat → Int32) × (Nat → Int32) × (Int32) × (Nat → Int32) × (Nat → Int32)) := (f_X8_within a0 (0 : Int32) (2 : Int32)).bind (fun v1 => (if v1 = (0 : Int32) then (some ((-1 : Int32), c_latestFinding, c_now_huts, c_now_food, c_now_due, c_now_backs, c_now_winds, c_now_kind, c_now_home, c_now_strength, c_now_brown, c_now_brick, c_now_back, c_log_size, c_log_codes, c_found)) else (gg_k3 a0 ((if (c_kept_size 0) = (-1 : Int32) then gg_b3 (f_X8_find (1 : Int32) c_latestFinding c_found) (fun v8_0 v8_1 v8_2 => (some (v8_0, v8_1, c_now_huts, c_now_food, c_now_due, c_now_backs, c_now_winds, c_now_kind, c_now_home, c_now_strength, c_now_brown, c_now_brick, c_now_back, c_log_size, c_log_codes, v8_2))) else (gg_k3 a0 (gg_b2 (f_X4_become c_log_size c_log_codes (c_kept_size 0) (c_kept_codes 0)) (fun v2_0 v2_1 => gg_b11 (f_X8_doAnew c_first_huts c_first_food c_first_due c_first_winds c_first_kind c_first_home c_first_strength c_first_brown c_first_brick c_now_huts c_now_food c_now_due c_now_backs c_now_winds c_now_kind c_now_home c_now_strength c_now_brown c_now_brick c_now_back v2_0 v2_1) (fun v3_0 v3_1 v3_2 v3_3 v3_4 v3_5 v3_6 v3_7 v3_8 v3_9 v3_10 => (some (v2_0, c_latestFinding, v3_0, v3_1, v3_2, v3_3, v3_4, v3_5, v3_6, v3_7, v3_8, v3_9, v3_10, v2_0, v2_1, c_found))))) (gg_b2 (f_X4_become c_log_size c_log_codes (c_kept_size 1) (c_kept_codes 1)) (fun v4_0 v4_1 => gg_b11 (f_X8_doAnew c_first_huts c_first_food c_first_due c_first_winds c_first_kind c_first_home c_first_strength c_first_brown c_first_brick c_now_huts c_now_food c_now_due c_now_backs c_now_winds c_now_kind c_now_home c_now_strength c_now_brown c_now_brick c_now_back v4_0 v4_1) (fun v5_0 v5_1 v5_2 v5_3 v5_4 v5_5 v5_6 v5_7 v5_8 v5_9 v5_10 => (some (v4_0, c_latestFinding, v5_0, v5_1, v5_2, v5_3, v5_4, v5_5, v5_6, v5_7, v5_8, v5_9, v5_10, v4_0, v4_1, c_found))))) (gg_b2 (f_X4_become c_log_size c_log_codes (c_kept_size 2) (c_kept_codes 2)) (fun v6_0 v6_1 => gg_b11 (f_X8_doAnew c_first_huts c_first_food c_first_due c_first_winds c_first_kind c_first_home c_first_strength c_first_brown c_first_brick c_now_huts c_now_food c_now_due c_now_backs c_now_winds c_now_kind c_now_home c_now_strength c_now_brown c_now_brick c_now_back v6_0 v6_1) (fun v7_0 v7_1 v7_2 v7_3 v7_4 v7_5 v7_6 v7_7 v7_8 v7_9 v7_10 => (some (v6_0, c_latestFinding, v7_0, v7_1, v7_2, v7_3, v7_4, v7_5, v7_6, v7_7, v7_8, v7_9, v7_10, v6_0, v6_1, c_found)))))))) ((if (c_kept_size 1) = (-1 : Int32) then gg_b3 (f_X8_find (1 : Int32) c_latestFinding c_found) (fun v15_0 v15_1 v15_2 => (some (v15_0, v15_1, c_now_huts, c_now_food, c_now_due, c_now_backs, c_now_winds, c_now_kind, c_now_home, c_now_strength, c_now_brown, c_now_brick, c_now_back, c_log_size, c_log_codes, v15_2))) else (gg_k3 a0 (gg_b2 (f_X4_become c_log_size c_log_codes (c_kept_size 0) (c_kept_codes 0)) (fun v9_0 v9_1 => gg_b11 (f_X8_doAnew c_first_huts c_first_food c_first_due c_first_winds c_first_kind c_first_home c_first_strength c_first_brown c_first_brick c_now_huts c_now_food c_now_due c_now_backs c_now_winds c_now_kind c_now_home c_now_strength c_now_brown c_now_brick c_now_back v9_0 v9_1) (fun v10_0 v10_1 v10_2 v10_3 v10_4 v10_5 v10_6 v10_7 v10_8 v10_9 v10_10 => (some (v9_0, c_latestFinding, v10_0, v10_1, v10_2, v10_3, v10_4, v10_5, v10_6, v10_7, v10_8, v10_9, v10_10, v9_0, v9_1, c_found))))) (gg_b2 (f_X4_become c_log_size c_log_codes (c_kept_size 1) (c_kept_codes 1)) (fun v11_0 v11_1 => gg_b11 (f_X8_doAnew c_first_huts c_first_food c_first_due c_first_winds c_first_kind c_first_home c_first_strength c_first_brown c_first_brick c_now_huts c_now_food c_now_due c_now_backs c_now_winds c_now_kind c_now_home c_now_strength c_now_brown c_now_brick c_now_back v11_0 v11_1) (fun v12_0 v12_1 v12_2 v12_3 v12_4 v12_5 v12_6 v12_7 v12_8 v12_9 v12_10 => (some (v11_0, c_latestFinding, v12_0, v12_1, v12_2, v12_3, v12_4, v12_5, v12_6, v12_7, v12_8, v12_9, v12_10, v11_0, v11_1, c_found))))) (gg_b2 (f_X4_become c_log_size c_log_codes (c_kept_size 2) (c_kept_codes 2)) (fun v13_0 v13_1 => gg_b11 (f_X8_doAnew c_first_huts c_first_food c_first_due c_first_winds c_first_kind c_first_home c_first_strength c_first_brown c_first_brick c_now_huts c_now_food c_now_due c_now_backs c_now_winds c_now_kind c_now_home c_now_strength c_now_brown c_now_brick c_now_back v13_0 v13_1) (fun v14_0 v14_1 v14_2 v14_3 v14_4 v14_5 v14_6 v14_7 v14_8 v14_9 v14_10 => (some (v13_0, c_latestFinding, v14_0, v14_1, v14_2, v14_3, v14_4, v14_5, v14_6, v14_7, v14_8, v14_9, v14_10, v13_0, v13_1, c_found)))))))) ((if (c_kept_size 2) = (-1 : Int32) then gg_b3 (f_X8_find (1 : Int32) c_latestFinding c_found) (fun v22_0 v22_1 v22_2 => (some (v22_0, v22_1, c_now_huts, c_now_food, c_now_due, c_now_backs, c_now_winds, c_now_kind, c_now_home, c_now_strength, c_now_brown, c_now_brick, c_now_back, c_log_size, c_log_codes, v22_2))) else (gg_k3 a0 (gg_b2 (f_X4_become c_log_size c_log_codes (c_kept_size 0) (c_kept_codes 0)) (fun v16_0 v16_1 => gg_b11 (f_X8_doAnew c_first_huts c_first_food c_first_due c_first_winds c_first_kind c_first_home c_first_strength c_first_brown c_first_brick c_now_huts c_now_food c_now_due c_now_backs c_now_winds c_now_kind c_now_home c_now_strength c_now_brown c_now_brick c_now_back v16_0 v16_1) (fun v17_0 v17_1 v17_2 v17_3 v17_4 v17_5 v17_6 v17_7 v17_8 v17_9 v17_10 => (some (v16_0, c_latestFinding, v17_0, v17_1, v17_2, v17_3, v17_4, v17_5, v17_6, v17_7, v17_8, v17_9, v17_10, v16_0, v16_1, c_found))))) (gg_b2 (f_X4_become c_log_size c_log_codes (c_kept_size 1) (c_kept_codes 1)) (fun v18_0 v18_1 => gg_b11 (f_X8_doAnew c_first_huts c_first_food c_first_due c_first_winds c_first_kind c_first_home c_first_strength c_first_brown c_first_brick c_now_huts c_now_food c_now_due c_now_backs c_now_winds c_now_kind c_now_home c_now_strength c_now_brown c_now_brick c_now_back v18_0 v18_1) (fun v19_0 v19_1 v19_2 v19_3 v19_4 v19_5 v19_6 v19_7 v19_8 v19_9 v19_10 => (some (v18_0, c_latestFinding, v19_0, v19_1, v19_2, v19_3, v19_4, v19_5, v19_6, v19_7, v19_8, v19_9, v19_10, v18_0, v18_1, c_found))))) (gg_b2 (f_X4_become c_log_size c_log_codes (c_kept_size 2) (c_kept_codes 2)) (fun v20_0 v20_1 => gg_b11 (f_X8_doAnew c_first_huts c_first_food c_first_due c_first_winds c_first_kind c_first_home c_first_strength c_first_brown c_first_brick c_now_huts c_now_food c_now_due c_now_backs c_now_winds c_now_kind c_now_home c_now_strength c_now_brown c_now_brick c_now_back v20_0 v20_1) (fun v21_0 v21_1 v21_2 v21_3 v21_4 v21_5 v21_6 v21_7 v21_8 v21_9 v21_10 => (some (v20_0, c_latestFinding, v21_0, v21_1, v21_2, v21_3, v21_4, v21_5, v21_6, v21_7, v21_8, v21_9, v21_10, v20_0, v20_1, c_found)))))))))))
set_option maxRecDepth 20000 in
set_option maxHeartbeats 8000000 in
theorem C_X8_on (a0 : Int32) (c_latestFinding : Int32) (c_told : Int32) (c_above : Int64) (c_below : Int64) (c_first_huts : Int32) (c_first_food : Int32) (c_first_due : Int32) (c_first_backs : Int32) (c_first_winds : Nat → Int32) (c_first_kind : Nat → Int32) (c_first_home : Nat → Int32) (c_first_strength : Nat → Int32) (c_first_brown : Nat → Int32) (c_first_brick : Nat → Int32) (c_now_huts : Int32) (c_now_food : Int32) (c_now_due : Int32) (c_now_backs : Int32) (c_now_winds : Nat → Int32) (c_now_kind : Nat → Int32) (c_now_home : Nat → Int32) (c_now_strength : Nat → Int32) (c_now_brown : Nat → Int32) (c_now_brick : Nat → Int32) (c_now_back : Nat → Int32) (c_log_size : Int32) (c_log_codes : Nat → Int32) (c_kept_size : Nat → Int32) (c_kept_codes : Nat → Nat → Int32) (c_found : Nat → Int32) {r0 : Int32} {r1 : (Int32)} {r2 : (Int32)} {r3 : (Int32)} {r4 : (Int32)} {r5 : (Int32)} {r6 : (Nat → Int32)} {r7 : (Nat → Int32)} {r8 : (Nat → Int32)} {r9 : (Nat → Int32)} {r10 : (Nat → Int32)} {r11 : (Nat → Int32)} {r12 : (Nat → Int32)} {r13 : (Int32)} {r14 : (Nat → Int32)} {r15 : (Nat → Int32)} (h : f_X8_on a0 c_latestFinding c_first_huts c_first_food c_first_due c_first_winds c_first_kind c_first_home c_first_strength c_first_brown c_first_brick c_now_huts c_now_food c_now_due c_now_backs c_now_winds c_now_kind c_now_home c_now_strength c_now_brown c_now_brick c_now_back c_log_size c_log_codes c_kept_size c_kept_codes c_found = some (r0, r1, r2, r3, r4, r5, r6, r7, r8, r9, r10, r11, r12, r13, r14, r15)) : gg_C MD_X8_on [.ref 0, .int a0] (wd_X8_on c_latestFinding c_told c_above c_below c_first_huts c_first_food c_first_due c_first_backs c_first_winds c_first_kind c_first_home c_first_strength c_first_brown c_first_brick c_now_huts c_now_food c_now_due c_now_backs c_now_winds c_now_kind c_now_home c_now_strength c_now_brown c_now_brick c_now_back c_log_size c_log_codes c_kept_size c_kept_codes c_found) (some (.int r0)) (wd_X8_on r1 c_told c_above c_below c_first_huts c_first_food c_first_due c_first_backs c_first_winds c_first_kind c_first_home c_first_strength c_first_brown c_first_brick r2 r3 r4 r5 r6 r7 r8 r9 r10 r11 r12 r13 r14 c_kept_size c_kept_codes r15) := by
  refine gg_ofG [some (.ref 0), some (.int a0)] (plainFor_of_name (by decide)) (Nat.le_of_ble_eq_true rfl) rfl ?_
  unfold f_X8_on at h
  refine gg_iload_n dX8_on_0 rfl ?_
  refine gg_iconst (0 : Int32) dX8_on_1 (by decide) ?_
  refine gg_iconst (2 : Int32) dX8_on_2 (by decide) ?_
  obtain ⟨v1, hv1, h⟩ := gg_bd h
  refine gg_callS (gg_sg []) [] (wd_X8_on c_latestFinding c_told c_above c_below c_first_huts c_first_food c_first_due c_first_backs c_first_winds c_first_kind c_first_home c_first_strength c_first_brown c_first_brick c_now_huts c_now_food c_now_due c_now_backs c_now_winds c_now_kind c_now_home c_now_strength c_now_brown c_now_brick c_now_back c_log_size c_log_codes c_kept_size c_kept_codes c_found) (C_X8_within a0 (0 : Int32) (2 : Int32) hv1) nS_X8_within ml_X8_155 rfl rfl rfl rfl rfl rfl rfl [0, 1, 2, 3, 4, 5, 6, 7, 8, 9, 10, 11, 12, 13, 14, 15, 16, 17, 18, 19, 20, 21, 22, 23, 24, 25] 26 rfl rfl rfl rfl rfl ⟨Nat.le_of_ble_eq_true rfl, Nat.le_of_ble_eq_true rfl⟩ (Nat.le_of_ble_eq_true rfl) dX8_on_3 [.int v1] rfl ?_
  refine gg_if_ne 11 dX8_on_6 (by decide) (fun hc => ?_) (fun hc => ?_)
  · replace h := gg_el h hc
    refine gg_aload_n dX8_on_11 rfl ?_
    refine gg_get 0 fl_X8_50 dX8_on_12 rfl rfl ?_
    refine gg_iload_n dX8_on_15 rfl ?_
    rcases gg_k3c h with ⟨hk, h⟩ | ⟨hk, h⟩ | ⟨hk, h⟩
    · refine gg_aldq (d := 1) 18 46 dX8_on_16 rfl (by rw [hk]; rfl) (by rw [hk]; rfl) rfl ?_
      refine gg_get 19 fl_X8_149 dX8_on_17 rfl rfl ?_
      refine gg_iconst (-1 : Int32) dX8_on_20 (by decide) ?_
      refine gg_icmp_ne 30 dX8_on_21 (by decide) (fun hc => ?_) (fun hc => ?_)
      · replace h := gg_el h hc
        refine gg_aload_n dX8_on_30 rfl ?_
        refine gg_get 0 fl_X8_46 dX8_on_31 rfl rfl ?_
        refine gg_aload_n dX8_on_34 rfl ?_
        refine gg_get 0 fl_X8_50 dX8_on_35 rfl rfl ?_
        refine gg_iload_n dX8_on_38 rfl ?_
        rcases gg_k3c h with ⟨hk, h⟩ | ⟨hk, h⟩ | ⟨hk, h⟩
        · refine gg_aldq (d := 1) 18 46 dX8_on_39 rfl (by rw [hk]; rfl) (by rw [hk]; rfl) rfl ?_
          obtain ⟨v2_0, v2_1, hv2, h⟩ := gg_bd2 h
          refine gg_callV (gg_sg [43, 46]) [16, 17, 19, 20] (wd_X8_on c_latestFinding c_told c_above c_below c_first_huts c_first_food c_first_due c_first_backs c_first_winds c_first_kind c_first_home c_first_strength c_first_brown c_first_brick c_now_huts c_now_food c_now_due c_now_backs c_now_winds c_now_kind c_now_home c_now_strength c_now_brown c_now_brick c_now_back v2_0 v2_1 c_kept_size c_kept_codes c_found) 0 (C_X4_become c_log_size c_log_codes (c_kept_size 0) (c_kept_codes 0) hv2) nV_X4_become ml_X8_214 rfl rfl rfl rfl rfl rfl rfl rfl rfl rfl [0, 1, 2, 3, 4, 5, 6, 7, 8, 9, 10, 11, 12, 13, 14, 15, 18, 21, 22, 23, 24, 25] 26 rfl rfl rfl rfl rfl ⟨Nat.le_of_ble_eq_true rfl, Nat.le_of_ble_eq_true rfl⟩ (Nat.le_of_ble_eq_true rfl) dX8_on_40 [] rfl ?_
          refine gg_aload_n dX8_on_43 rfl ?_
          obtain ⟨v3_0, v3_1, v3_2, v3_3, v3_4, v3_5, v3_6, v3_7, v3_8, v3_9, v3_10, hv3, h⟩ := gg_bd11 h
          refine gg_callV (gg_sg [0]) [0, 1, 2, 3, 4, 5, 6, 7, 8, 9, 10, 11, 12, 13, 14, 15, 16, 17] (wd_X8_on c_latestFinding c_told c_above c_below c_first_huts c_first_food c_first_due c_first_backs c_first_winds c_first_kind c_first_home c_first_strength c_first_brown c_first_brick v3_0 v3_1 v3_2 v3_3 v3_4 v3_5 v3_6 v3_7 v3_8 v3_9 v3_10 v2_0 v2_1 c_kept_size c_kept_codes c_found) 0 (C_X8_doAnew c_latestFinding c_told c_above c_below c_first_huts c_first_food c_first_due c_first_backs c_first_winds c_first_kind c_first_home c_first_strength c_first_brown c_first_brick c_now_huts c_now_food c_now_due c_now_backs c_now_winds c_now_kind c_now_home c_now_strength c_now_brown c_now_brick c_now_back v2_0 v2_1 hv3) nV_X8_doAnew ml_X8_211 rfl rfl rfl rfl rfl rfl rfl rfl rfl rfl [18, 19, 20, 21, 22, 23, 24, 25] 26 rfl rfl rfl rfl rfl ⟨Nat.le_of_ble_eq_true rfl, Nat.le_of_ble_eq_true rfl⟩ (Nat.le_of_ble_eq_true rfl) dX8_on_44 [] rfl ?_
          refine gg_aload_n dX8_on_47 rfl ?_
          refine gg_get 0 fl_X8_46 dX8_on_48 rfl rfl ?_
          refine gg_get 16 fl_X8_149 dX8_on_51 rfl rfl ?_
          cases h
          exact gg_iret dX8_on_54 rfl
        · refine gg_aldq (d := 3) 18 48 dX8_on_39 rfl (by rw [hk]; rfl) (by rw [hk]; rfl) rfl ?_
          obtain ⟨v4_0, v4_1, hv4, h⟩ := gg_bd2 h
          refine gg_callV (gg_sg [43, 48]) [16, 17, 21, 22] (wd_X8_on c_latestFinding c_told c_above c_below c_first_huts c_first_food c_first_due c_first_backs c_first_winds c_first_kind c_first_home c_first_strength c_first_brown c_first_brick c_now_huts c_now_food c_now_due c_now_backs c_now_winds c_now_kind c_now_home c_now_strength c_now_brown c_now_brick c_now_back v4_0 v4_1 c_kept_size c_kept_codes c_found) 0 (C_X4_become c_log_size c_log_codes (c_kept_size 1) (c_kept_codes 1) hv4) nV_X4_become ml_X8_214 rfl rfl rfl rfl rfl rfl rfl rfl rfl rfl [0, 1, 2, 3, 4, 5, 6, 7, 8, 9, 10, 11, 12, 13, 14, 15, 18, 19, 20, 23, 24, 25] 26 rfl rfl rfl rfl rfl ⟨Nat.le_of_ble_eq_true rfl, Nat.le_of_ble_eq_true rfl⟩ (Nat.le_of_ble_eq_true rfl) dX8_on_40 [] rfl ?_
          refine gg_aload_n dX8_on_43 rfl ?_
          obtain ⟨v5_0, v5_1, v5_2, v5_3, v5_4, v5_5, v5_6, v5_7, v5_8, v5_9, v5_10, hv5, h⟩ := gg_bd11 h
          refine gg_callV (gg_sg [0]) [0, 1, 2, 3, 4, 5, 6, 7, 8, 9, 10, 11, 12, 13, 14, 15, 16, 17] (wd_X8_on c_latestFinding c_told c_above c_below c_first_huts c_first_food c_first_due c_first_backs c_first_winds c_first_kind c_first_home c_first_strength c_first_brown c_first_brick v5_0 v5_1 v5_2 v5_3 v5_4 v5_5 v5_6 v5_7 v5_8 v5_9 v5_10 v4_0 v4_1 c_kept_size c_kept_codes c_found) 0 (C_X8_doAnew c_latestFinding c_told c_above c_below c_first_huts c_first_food c_first_due c_first_backs c_first_winds c_first_kind c_first_home c_first_strength c_first_brown c_first_brick c_now_huts c_now_food c_now_due c_now_backs c_now_winds c_now_kind c_now_home c_now_strength c_now_brown c_now_brick c_now_back v4_0 v4_1 hv5) nV_X8_doAnew ml_X8_211 rfl rfl rfl rfl rfl rfl rfl rfl rfl rfl [18, 19, 20, 21, 22, 23, 24, 25] 26 rfl rfl rfl rfl rfl ⟨Nat.le_of_ble_eq_true rfl, Nat.le_of_ble_eq_true rfl⟩ (Nat.le_of_ble_eq_true rfl) dX8_on_44 [] rfl ?_
          refine gg_aload_n dX8_on_47 rfl ?_
          refine gg_get 0 fl_X8_46 dX8_on_48 rfl rfl ?_
          refine gg_get 16 fl_X8_149 dX8_on_51 rfl rfl ?_
          cases h
          exact gg_iret dX8_on_54 rfl
        · refine gg_aldq (d := 5) 18 50 dX8_on_39 rfl (by rw [hk]; rfl) (by rw [hk]; rfl) rfl ?_
          obtain ⟨v6_0, v6_1, hv6, h⟩ := gg_bd2 h
          refine gg_callV (gg_sg [43, 50]) [16, 17, 23, 24] (wd_X8_on c_latestFinding c_told c_above c_below c_first_huts c_first_food c_first_due c_first_backs c_first_winds c_first_kind c_first_home c_first_strength c_first_brown c_first_brick c_now_huts c_now_food c_now_due c_now_backs c_now_winds c_now_kind c_now_home c_now_strength c_now_brown c_now_brick c_now_back v6_0 v6_1 c_kept_size c_kept_codes c_found) 0 (C_X4_become c_log_size c_log_codes (c_kept_size 2) (c_kept_codes 2) hv6) nV_X4_become ml_X8_214 rfl rfl rfl rfl rfl rfl rfl rfl rfl rfl [0, 1, 2, 3, 4, 5, 6, 7, 8, 9, 10, 11, 12, 13, 14, 15, 18, 19, 20, 21, 22, 25] 26 rfl rfl rfl rfl rfl ⟨Nat.le_of_ble_eq_true rfl, Nat.le_of_ble_eq_true rfl⟩ (Nat.le_of_ble_eq_true rfl) dX8_on_40 [] rfl ?_
          refine gg_aload_n dX8_on_43 rfl ?_
          obtain ⟨v7_0, v7_1, v7_2, v7_3, v7_4, v7_5, v7_6, v7_7, v7_8, v7_9, v7_10, hv7, h⟩ := gg_bd11 h
          refine gg_callV (gg_sg [0]) [0, 1, 2, 3, 4, 5, 6, 7, 8, 9, 10, 11, 12, 13, 14, 15, 16, 17] (wd_X8_on c_latestFinding c_told c_above c_below c_first_huts c_first_food c_first_due c_first_backs c_first_winds c_first_kind c_first_home c_first_strength c_first_brown c_first_brick v7_0 v7_1 v7_2 v7_3 v7_4 v7_5 v7_6 v7_7 v7_8 v7_9 v7_10 v6_0 v6_1 c_kept_size c_kept_codes c_found) 0 (C_X8_doAnew c_latestFinding c_told c_above c_below c_first_huts c_first_food c_first_due c_first_backs c_first_winds c_first_kind c_first_home c_first_strength c_first_brown c_first_brick c_now_huts c_now_food c_now_due c_now_backs c_now_winds c_now_kind c_now_home c_now_strength c_now_brown c_now_brick c_now_back v6_0 v6_1 hv7) nV_X8_doAnew ml_X8_211 rfl rfl rfl rfl rfl rfl rfl rfl rfl rfl [18, 19, 20, 21, 22, 23, 24, 25] 26 rfl rfl rfl rfl rfl ⟨Nat.le_of_ble_eq_true rfl, Nat.le_of_ble_eq_true rfl⟩ (Nat.le_of_ble_eq_true rfl) dX8_on_44 [] rfl ?_
          refine gg_aload_n dX8_on_47 rfl ?_
          refine gg_get 0 fl_X8_46 dX8_on_48 rfl rfl ?_
          refine gg_get 16 fl_X8_149 dX8_on_51 rfl rfl ?_
          cases h
          exact gg_iret dX8_on_54 rfl
      · replace h := gg_th h hc
        refine gg_aload_n dX8_on_24 rfl ?_
        refine gg_iconst (1 : Int32) dX8_on_25 (by decide) ?_
        obtain ⟨v8_0, v8_1, v8_2, hv8, h⟩ := gg_bd3 h
        refine gg_callV (gg_sg [0]) [0, 25] (wd_X8_on v8_1 c_told c_above c_below c_first_huts c_first_food c_first_due c_first_backs c_first_winds c_first_kind c_first_home c_first_strength c_first_brown c_first_brick c_now_huts c_now_food c_now_due c_now_backs c_now_winds c_now_kind c_now_home c_now_strength c_now_brown c_now_brick c_now_back c_log_size c_log_codes c_kept_size c_kept_codes v8_2) 0 (C_X8_find (1 : Int32) c_latestFinding c_told c_above c_below c_found hv8) nV_X8_find ml_X8_119 rfl rfl rfl rfl rfl rfl rfl rfl rfl rfl [1, 2, 3, 4, 5, 6, 7, 8, 9, 10, 11, 12, 13, 14, 15, 16, 17, 18, 19, 20, 21, 22, 23, 24] 26 rfl rfl rfl rfl rfl ⟨Nat.le_of_ble_eq_true rfl, Nat.le_of_ble_eq_true rfl⟩ (Nat.le_of_ble_eq_true rfl) dX8_on_26 [.int v8_0] rfl ?_
        cases h
        exact gg_iret dX8_on_29 rfl
    · refine gg_aldq (d := 3) 18 48 dX8_on_16 rfl (by rw [hk]; rfl) (by rw [hk]; rfl) rfl ?_
      refine gg_get 21 fl_X8_149 dX8_on_17 rfl rfl ?_
      refine gg_iconst (-1 : Int32) dX8_on_20 (by decide) ?_
      refine gg_icmp_ne 30 dX8_on_21 (by decide) (fun hc => ?_) (fun hc => ?_)
      · replace h := gg_el h hc
        refine gg_aload_n dX8_on_30 rfl ?_
        refine gg_get 0 fl_X8_46 dX8_on_31 rfl rfl ?_
        refine gg_aload_n dX8_on_34 rfl ?_
        refine gg_get 0 fl_X8_50 dX8_on_35 rfl rfl ?_
        refine gg_iload_n dX8_on_38 rfl ?_
        rcases gg_k3c h with ⟨hk, h⟩ | ⟨hk, h⟩ | ⟨hk, h⟩
        · refine gg_aldq (d := 1) 18 46 dX8_on_39 rfl (by rw [hk]; rfl) (by rw [hk]; rfl) rfl ?_
          obtain ⟨v9_0, v9_1, hv9, h⟩ := gg_bd2 h
          refine gg_callV (gg_sg [43, 46]) [16, 17, 19, 20] (wd_X8_on c_latestFinding c_told c_above c_below c_first_huts c_first_food c_first_due c_first_backs c_first_winds c_first_kind c_first_home c_first_strength c_first_brown c_first_brick c_now_huts c_now_food c_now_due c_now_backs c_now_winds c_now_kind c_now_home c_now_strength c_now_brown c_now_brick c_now_back v9_0 v9_1 c_kept_size c_kept_codes c_found) 0 (C_X4_become c_log_size c_log_codes (c_kept_size 0) (c_kept_codes 0) hv9) nV_X4_become ml_X8_214 rfl rfl rfl rfl rfl rfl rfl rfl rfl rfl [0, 1, 2, 3, 4, 5, 6, 7, 8, 9, 10, 11, 12, 13, 14, 15, 18, 21, 22, 23, 24, 25] 26 rfl rfl rfl rfl rfl ⟨Nat.le_of_ble_eq_true rfl, Nat.le_of_ble_eq_true rfl⟩ (Nat.le_of_ble_eq_true rfl) dX8_on_40 [] rfl ?_
          refine gg_aload_n dX8_on_43 rfl ?_
          obtain ⟨v10_0, v10_1, v10_2, v10_3, v10_4, v10_5, v10_6, v10_7, v10_8, v10_9, v10_10, hv10, h⟩ := gg_bd11 h
          refine gg_callV (gg_sg [0]) [0, 1, 2, 3, 4, 5, 6, 7, 8, 9, 10, 11, 12, 13, 14, 15, 16, 17] (wd_X8_on c_latestFinding c_told c_above c_below c_first_huts c_first_food c_first_due c_first_backs c_first_winds c_first_kind c_first_home c_first_strength c_first_brown c_first_brick v10_0 v10_1 v10_2 v10_3 v10_4 v10_5 v10_6 v10_7 v10_8 v10_9 v10_10 v9_0 v9_1 c_kept_size c_kept_codes c_found) 0 (C_X8_doAnew c_latestFinding c_told c_above c_below c_first_huts c_first_food c_first_due c_first_backs c_first_winds c_first_kind c_first_home c_first_strength c_first_brown c_first_brick c_now_huts c_now_food c_now_due c_now_backs c_now_winds c_now_kind c_now_home c_now_strength c_now_brown c_now_brick c_now_back v9_0 v9_1 hv10) nV_X8_doAnew ml_X8_211 rfl rfl rfl rfl rfl rfl rfl rfl rfl rfl [18, 19, 20, 21, 22, 23, 24, 25] 26 rfl rfl rfl rfl rfl ⟨Nat.le_of_ble_eq_true rfl, Nat.le_of_ble_eq_true rfl⟩ (Nat.le_of_ble_eq_true rfl) dX8_on_44 [] rfl ?_
          refine gg_aload_n dX8_on_47 rfl ?_
          refine gg_get 0 fl_X8_46 dX8_on_48 rfl rfl ?_
          refine gg_get 16 fl_X8_149 dX8_on_51 rfl rfl ?_
          cases h
          exact gg_iret dX8_on_54 rfl
        · refine gg_aldq (d := 3) 18 48 dX8_on_39 rfl (by rw [hk]; rfl) (by rw [hk]; rfl) rfl ?_
          obtain ⟨v11_0, v11_1, hv11, h⟩ := gg_bd2 h
          refine gg_callV (gg_sg [43, 48]) [16, 17, 21, 22] (wd_X8_on c_latestFinding c_told c_above c_below c_first_huts c_first_food c_first_due c_first_backs c_first_winds c_first_kind c_first_home c_first_strength c_first_brown c_first_brick c_now_huts c_now_food c_now_due c_now_backs c_now_winds c_now_kind c_now_home c_now_strength c_now_brown c_now_brick c_now_back v11_0 v11_1 c_kept_size c_kept_codes c_found) 0 (C_X4_become c_log_size c_log_codes (c_kept_size 1) (c_kept_codes 1) hv11) nV_X4_become ml_X8_214 rfl rfl rfl rfl rfl rfl rfl rfl rfl rfl [0, 1, 2, 3, 4, 5, 6, 7, 8, 9, 10, 11, 12, 13, 14, 15, 18, 19, 20, 23, 24, 25] 26 rfl rfl rfl rfl rfl ⟨Nat.le_of_ble_eq_true rfl, Nat.le_of_ble_eq_true rfl⟩ (Nat.le_of_ble_eq_true rfl) dX8_on_40 [] rfl ?_
          refine gg_aload_n dX8_on_43 rfl ?_
          obtain ⟨v12_0, v12_1, v12_2, v12_3, v12_4, v12_5, v12_6, v12_7, v12_8, v12_9, v12_10, hv12, h⟩ := gg_bd11 h
          refine gg_callV (gg_sg [0]) [0, 1, 2, 3, 4, 5, 6, 7, 8, 9, 10, 11, 12, 13, 14, 15, 16, 17] (wd_X8_on c_latestFinding c_told c_above c_below c_first_huts c_first_food c_first_due c_first_backs c_first_winds c_first_kind c_first_home c_first_strength c_first_brown c_first_brick v12_0 v12_1 v12_2 v12_3 v12_4 v12_5 v12_6 v12_7 v12_8 v12_9 v12_10 v11_0 v11_1 c_kept_size c_kept_codes c_found) 0 (C_X8_doAnew c_latestFinding c_told c_above c_below c_first_huts c_first_food c_first_due c_first_backs c_first_winds c_first_kind c_first_home c_first_strength c_first_brown c_first_brick c_now_huts c_now_food c_now_due c_now_backs c_now_winds c_now_kind c_now_home c_now_strength c_now_brown c_now_brick c_now_back v11_0 v11_1 hv12) nV_X8_doAnew ml_X8_211 rfl rfl rfl rfl rfl rfl rfl rfl rfl rfl [18, 19, 20, 21, 22, 23, 24, 25] 26 rfl rfl rfl rfl rfl ⟨Nat.le_of_ble_eq_true rfl, Nat.le_of_ble_eq_true rfl⟩ (Nat.le_of_ble_eq_true rfl) dX8_on_44 [] rfl ?_
          refine gg_aload_n dX8_on_47 rfl ?_
          refine gg_get 0 fl_X8_46 dX8_on_48 rfl rfl ?_
          refine gg_get 16 fl_X8_149 dX8_on_51 rfl rfl ?_
          cases h
          exact gg_iret dX8_on_54 rfl
        · refine gg_aldq (d := 5) 18 50 dX8_on_39 rfl (by rw [hk]; rfl) (by rw [hk]; rfl) rfl ?_
          obtain ⟨v13_0, v13_1, hv13, h⟩ := gg_bd2 h
          refine gg_callV (gg_sg [43, 50]) [16, 17, 23, 24] (wd_X8_on c_latestFinding c_told c_above c_below c_first_huts c_first_food c_first_due c_first_backs c_first_winds c_first_kind c_first_home c_first_strength c_first_brown c_first_brick c_now_huts c_now_food c_now_due c_now_backs c_now_winds c_now_kind c_now_home c_now_strength c_now_brown c_now_brick c_now_back v13_0 v13_1 c_kept_size c_kept_codes c_found) 0 (C_X4_become c_log_size c_log_codes (c_kept_size 2) (c_kept_codes 2) hv13) nV_X4_become ml_X8_214 rfl rfl rfl rfl rfl rfl rfl rfl rfl rfl [0, 1, 2, 3, 4, 5, 6, 7, 8, 9, 10, 11, 12, 13, 14, 15, 18, 19, 20, 21, 22, 25] 26 rfl rfl rfl rfl rfl ⟨Nat.le_of_ble_eq_true rfl, Nat.le_of_ble_eq_true rfl⟩ (Nat.le_of_ble_eq_true rfl) dX8_on_40 [] rfl ?_
          refine gg_aload_n dX8_on_43 rfl ?_
          obtain ⟨v14_0, v14_1, v14_2, v14_3, v14_4, v14_5, v14_6, v14_7, v14_8, v14_9, v14_10, hv14, h⟩ := gg_bd11 h
          refine gg_callV (gg_sg [0]) [0, 1, 2, 3, 4, 5, 6, 7, 8, 9, 10, 11, 12, 13, 14, 15, 16, 17] (wd_X8_on c_latestFinding c_told c_above c_below c_first_huts c_first_food c_first_due c_first_backs c_first_winds c_first_kind c_first_home c_first_strength c_first_brown c_first_brick v14_0 v14_1 v14_2 v14_3 v14_4 v14_5 v14_6 v14_7 v14_8 v14_9 v14_10 v13_0 v13_1 c_kept_size c_kept_codes c_found) 0 (C_X8_doAnew c_latestFinding c_told c_above c_below c_first_huts c_first_food c_first_due c_first_backs c_first_winds c_first_kind c_first_home c_first_strength c_first_brown c_first_brick c_now_huts c_now_food c_now_due c_now_backs c_now_winds c_now_kind c_now_home c_now_strength c_now_brown c_now_brick c_now_back v13_0 v13_1 hv14) nV_X8_doAnew ml_X8_211 rfl rfl rfl rfl rfl rfl rfl rfl rfl rfl [18, 19, 20, 21, 22, 23, 24, 25] 26 rfl rfl rfl rfl rfl ⟨Nat.le_of_ble_eq_true rfl, Nat.le_of_ble_eq_true rfl⟩ (Nat.le_of_ble_eq_true rfl) dX8_on_44 [] rfl ?_
          refine gg_aload_n dX8_on_47 rfl ?_
          refine gg_get 0 fl_X8_46 dX8_on_48 rfl rfl ?_
          refine gg_get 16 fl_X8_149 dX8_on_51 rfl rfl ?_
          cases h
          exact gg_iret dX8_on_54 rfl
      · replace h := gg_th h hc
        refine gg_aload_n dX8_on_24 rfl ?_
        refine gg_iconst (1 : Int32) dX8_on_25 (by decide) ?_
        obtain ⟨v15_0, v15_1, v15_2, hv15, h⟩ := gg_bd3 h
        refine gg_callV (gg_sg [0]) [0, 25] (wd_X8_on v15_1 c_told c_above c_below c_first_huts c_first_food c_first_due c_first_backs c_first_winds c_first_kind c_first_home c_first_strength c_first_brown c_first_brick c_now_huts c_now_food c_now_due c_now_backs c_now_winds c_now_kind c_now_home c_now_strength c_now_brown c_now_brick c_now_back c_log_size c_log_codes c_kept_size c_kept_codes v15_2) 0 (C_X8_find (1 : Int32) c_latestFinding c_told c_above c_below c_found hv15) nV_X8_find ml_X8_119 rfl rfl rfl rfl rfl rfl rfl rfl rfl rfl [1, 2, 3, 4, 5, 6, 7, 8, 9, 10, 11, 12, 13, 14, 15, 16, 17, 18, 19, 20, 21, 22, 23, 24] 26 rfl rfl rfl rfl rfl ⟨Nat.le_of_ble_eq_true rfl, Nat.le_of_ble_eq_true rfl⟩ (Nat.le_of_ble_eq_true rfl) dX8_on_26 [.int v15_0] rfl ?_
        cases h
        exact gg_iret dX8_on_29 rfl
    · refine gg_aldq (d := 5) 18 50 dX8_on_16 rfl (by rw [hk]; rfl) (by rw [hk]; rfl) rfl ?_
      refine gg_get 23 fl_X8_149 dX8_on_17 rfl rfl ?_
      refine gg_iconst (-1 : Int32) dX8_on_20 (by decide) ?_
      refine gg_icmp_ne 30 dX8_on_21 (by decide) (fun hc => ?_) (fun hc => ?_)
      · replace h := gg_el h hc
        refine gg_aload_n dX8_on_30 rfl ?_
        refine gg_get 0 fl_X8_46 dX8_on_31 rfl rfl ?_
        refine gg_aload_n dX8_on_34 rfl ?_
        refine gg_get 0 fl_X8_50 dX8_on_35 rfl rfl ?_
        refine gg_iload_n dX8_on_38 rfl ?_
        rcases gg_k3c h with ⟨hk, h⟩ | ⟨hk, h⟩ | ⟨hk, h⟩
        · refine gg_aldq (d := 1) 18 46 dX8_on_39 rfl (by rw [hk]; rfl) (by rw [hk]; rfl) rfl ?_
          obtain ⟨v16_0, v16_1, hv16, h⟩ := gg_bd2 h
          refine gg_callV (gg_sg [43, 46]) [16, 17, 19, 20] (wd_X8_on c_latestFinding c_told c_above c_below c_first_huts c_first_food c_first_due c_first_backs c_first_winds c_first_kind c_first_home c_first_strength c_first_brown c_first_brick c_now_huts c_now_food c_now_due c_now_backs c_now_winds c_now_kind c_now_home c_now_strength c_now_brown c_now_brick c_now_back v16_0 v16_1 c_kept_size c_kept_codes c_found) 0 (C_X4_become c_log_size c_log_codes (c_kept_size 0) (c_kept_codes 0) hv16) nV_X4_become ml_X8_214 rfl rfl rfl rfl rfl rfl rfl rfl rfl rfl [0, 1, 2, 3, 4, 5, 6, 7, 8, 9, 10, 11, 12, 13, 14, 15, 18, 21, 22, 23, 24, 25] 26 rfl rfl rfl rfl rfl ⟨Nat.le_of_ble_eq_true rfl, Nat.le_of_ble_eq_true rfl⟩ (Nat.le_of_ble_eq_true rfl) dX8_on_40 [] rfl ?_
          refine gg_aload_n dX8_on_43 rfl ?_
          obtain ⟨v17_0, v17_1, v17_2, v17_3, v17_4, v17_5, v17_6, v17_7, v17_8, v17_9, v17_10, hv17, h⟩ := gg_bd11 h
          refine gg_callV (gg_sg [0]) [0, 1, 2, 3, 4, 5, 6, 7, 8, 9, 10, 11, 12, 13, 14, 15, 16, 17] (wd_X8_on c_latestFinding c_told c_above c_below c_first_huts c_first_food c_first_due c_first_backs c_first_winds c_first_kind c_first_home c_first_strength c_first_brown c_first_brick v17_0 v17_1 v17_2 v17_3 v17_4 v17_5 v17_6 v17_7 v17_8 v17_9 v17_10 v16_0 v16_1 c_kept_size c_kept_codes c_found) 0 (C_X8_doAnew c_latestFinding c_told c_above c_below c_first_huts c_first_food c_first_due c_first_backs c_first_winds c_first_kind c_first_home c_first_strength c_first_brown c_first_brick c_now_huts c_now_food c_now_due c_now_backs c_now_winds c_now_kind c_now_home c_now_strength c_now_brown c_now_brick c_now_back v16_0 v16_1 hv17) nV_X8_doAnew ml_X8_211 rfl rfl rfl rfl rfl rfl rfl rfl rfl rfl [18, 19, 20, 21, 22, 23, 24, 25] 26 rfl rfl rfl rfl rfl ⟨Nat.le_of_ble_eq_true rfl, Nat.le_of_ble_eq_true rfl⟩ (Nat.le_of_ble_eq_true rfl) dX8_on_44 [] rfl ?_
          refine gg_aload_n dX8_on_47 rfl ?_
          refine gg_get 0 fl_X8_46 dX8_on_48 rfl rfl ?_
          refine gg_get 16 fl_X8_149 dX8_on_51 rfl rfl ?_
          cases h
          exact gg_iret dX8_on_54 rfl
        · refine gg_aldq (d := 3) 18 48 dX8_on_39 rfl (by rw [hk]; rfl) (by rw [hk]; rfl) rfl ?_
          obtain ⟨v18_0, v18_1, hv18, h⟩ := gg_bd2 h
          refine gg_callV (gg_sg [43, 48]) [16, 17, 21, 22] (wd_X8_on c_latestFinding c_told c_above c_below c_first_huts c_first_food c_first_due c_first_backs c_first_winds c_first_kind c_first_home c_first_strength c_first_brown c_first_brick c_now_huts c_now_food c_now_due c_now_backs c_now_winds c_now_kind c_now_home c_now_strength c_now_brown c_now_brick c_now_back v18_0 v18_1 c_kept_size c_kept_codes c_found) 0 (C_X4_become c_log_size c_log_codes (c_kept_size 1) (c_kept_codes 1) hv18) nV_X4_become ml_X8_214 rfl rfl rfl rfl rfl rfl rfl rfl rfl rfl [0, 1, 2, 3, 4, 5, 6, 7, 8, 9, 10, 11, 12, 13, 14, 15, 18, 19, 20, 23, 24, 25] 26 rfl rfl rfl rfl rfl ⟨Nat.le_of_ble_eq_true rfl, Nat.le_of_ble_eq_true rfl⟩ (Nat.le_of_ble_eq_true rfl) dX8_on_40 [] rfl ?_
          refine gg_aload_n dX8_on_43 rfl ?_
          obtain ⟨v19_0, v19_1, v19_2, v19_3, v19_4, v19_5, v19_6, v19_7, v19_8, v19_9, v19_10, hv19, h⟩ := gg_bd11 h
          refine gg_callV (gg_sg [0]) [0, 1, 2, 3, 4, 5, 6, 7, 8, 9, 10, 11, 12, 13, 14, 15, 16, 17] (wd_X8_on c_latestFinding c_told c_above c_below c_first_huts c_first_food c_first_due c_first_backs c_first_winds c_first_kind c_first_home c_first_strength c_first_brown c_first_brick v19_0 v19_1 v19_2 v19_3 v19_4 v19_5 v19_6 v19_7 v19_8 v19_9 v19_10 v18_0 v18_1 c_kept_size c_kept_codes c_found) 0 (C_X8_doAnew c_latestFinding c_told c_above c_below c_first_huts c_first_food c_first_due c_first_backs c_first_winds c_first_kind c_first_home c_first_strength c_first_brown c_first_brick c_now_huts c_now_food c_now_due c_now_backs c_now_winds c_now_kind c_now_home c_now_strength c_now_brown c_now_brick c_now_back v18_0 v18_1 hv19) nV_X8_doAnew ml_X8_211 rfl rfl rfl rfl rfl rfl rfl rfl rfl rfl [18, 19, 20, 21, 22, 23, 24, 25] 26 rfl rfl rfl rfl rfl ⟨Nat.le_of_ble_eq_true rfl, Nat.le_of_ble_eq_true rfl⟩ (Nat.le_of_ble_eq_true rfl) dX8_on_44 [] rfl ?_
          refine gg_aload_n dX8_on_47 rfl ?_
          refine gg_get 0 fl_X8_46 dX8_on_48 rfl rfl ?_
          refine gg_get 16 fl_X8_149 dX8_on_51 rfl rfl ?_
          cases h
          exact gg_iret dX8_on_54 rfl
        · refine gg_aldq (d := 5) 18 50 dX8_on_39 rfl (by rw [hk]; rfl) (by rw [hk]; rfl) rfl ?_
          obtain ⟨v20_0, v20_1, hv20, h⟩ := gg_bd2 h
          refine gg_callV (gg_sg [43, 50]) [16, 17, 23, 24] (wd_X8_on c_latestFinding c_told c_above c_below c_first_huts c_first_food c_first_due c_first_backs c_first_winds c_first_kind c_first_home c_first_strength c_first_brown c_first_brick c_now_huts c_now_food c_now_due c_now_backs c_now_winds c_now_kind c_now_home c_now_strength c_now_brown c_now_brick c_now_back v20_0 v20_1 c_kept_size c_kept_codes c_found) 0 (C_X4_become c_log_size c_log_codes (c_kept_size 2) (c_kept_codes 2) hv20) nV_X4_become ml_X8_214 rfl rfl rfl rfl rfl rfl rfl rfl rfl rfl [0, 1, 2, 3, 4, 5, 6, 7, 8, 9, 10, 11, 12, 13, 14, 15, 18, 19, 20, 21, 22, 25] 26 rfl rfl rfl rfl rfl ⟨Nat.le_of_ble_eq_true rfl, Nat.le_of_ble_eq_true rfl⟩ (Nat.le_of_ble_eq_true rfl) dX8_on_40 [] rfl ?_
          refine gg_aload_n dX8_on_43 rfl ?_
          obtain ⟨v21_0, v21_1, v21_2, v21_3, v21_4, v21_5, v21_6, v21_7, v21_8, v21_9, v21_10, hv21, h⟩ := gg_bd11 h
          refine gg_callV (gg_sg [0]) [0, 1, 2, 3, 4, 5, 6, 7, 8, 9, 10, 11, 12, 13, 14, 15, 16, 17] (wd_X8_on c_latestFinding c_told c_above c_below c_first_huts c_first_food c_first_due c_first_backs c_first_winds c_first_kind c_first_home c_first_strength c_first_brown c_first_brick v21_0 v21_1 v21_2 v21_3 v21_4 v21_5 v21_6 v21_7 v21_8 v21_9 v21_10 v20_0 v20_1 c_kept_size c_kept_codes c_found) 0 (C_X8_doAnew c_latestFinding c_told c_above c_below c_first_huts c_first_food c_first_due c_first_backs c_first_winds c_first_kind c_first_home c_first_strength c_first_brown c_first_brick c_now_huts c_now_food c_now_due c_now_backs c_now_winds c_now_kind c_now_home c_now_strength c_now_brown c_now_brick c_now_back v20_0 v20_1 hv21) nV_X8_doAnew ml_X8_211 rfl rfl rfl rfl rfl rfl rfl rfl rfl rfl [18, 19, 20, 21, 22, 23, 24, 25] 26 rfl rfl rfl rfl rfl ⟨Nat.le_of_ble_eq_true rfl, Nat.le_of_ble_eq_true rfl⟩ (Nat.le_of_ble_eq_true rfl) dX8_on_44 [] rfl ?_
          refine gg_aload_n dX8_on_47 rfl ?_
          refine gg_get 0 fl_X8_46 dX8_on_48 rfl rfl ?_
          refine gg_get 16 fl_X8_149 dX8_on_51 rfl rfl ?_
          cases h
          exact gg_iret dX8_on_54 rfl
      · replace h := gg_th h hc
        refine gg_aload_n dX8_on_24 rfl ?_
        refine gg_iconst (1 : Int32) dX8_on_25 (by decide) ?_
        obtain ⟨v22_0, v22_1, v22_2, hv22, h⟩ := gg_bd3 h
        refine gg_callV (gg_sg [0]) [0, 25] (wd_X8_on v22_1 c_told c_above c_below c_first_huts c_first_food c_first_due c_first_backs c_first_winds c_first_kind c_first_home c_first_strength c_first_brown c_first_brick c_now_huts c_now_food c_now_due c_now_backs c_now_winds c_now_kind c_now_home c_now_strength c_now_brown c_now_brick c_now_back c_log_size c_log_codes c_kept_size c_kept_codes v22_2) 0 (C_X8_find (1 : Int32) c_latestFinding c_told c_above c_below c_found hv22) nV_X8_find ml_X8_119 rfl rfl rfl rfl rfl rfl rfl rfl rfl rfl [1, 2, 3, 4, 5, 6, 7, 8, 9, 10, 11, 12, 13, 14, 15, 16, 17, 18, 19, 20, 21, 22, 23, 24] 26 rfl rfl rfl rfl rfl ⟨Nat.le_of_ble_eq_true rfl, Nat.le_of_ble_eq_true rfl⟩ (Nat.le_of_ble_eq_true rfl) dX8_on_26 [.int v22_0] rfl ?_
        cases h
        exact gg_iret dX8_on_29 rfl
  · replace h := gg_th h hc
    refine gg_iconst (-1 : Int32) dX8_on_9 (by decide) ?_
    cases h
    exact gg_iret dX8_on_10 rfl
def wd_X2_passWinters (c_huts : Int32) (c_food : Int32) (c_due : Int32) (c_backs : Int32) (c_winds : Nat → Int32) (c_kind : Nat → Int32) (c_home : Nat → Int32) (c_strength : Nat → Int32) (c_brown : Nat → Int32) (c_brick : Nat → Int32) (c_back : Nat → Int32) : va_W := [(0, .inr (2, [.int c_huts, .int c_food, .int c_due, .ref 1, .ref 2, .ref 3, .ref 4, .ref 5, .ref 6, .ref 7, .int c_backs])), (1, .inl (0, 4, .inl c_winds)), (2, .inl (0, 6, .inl c_kind)), (3, .inl (0, 6, .inl c_home)), (4, .inl (0, 6, .inl c_strength)), (5, .inl (0, 6, .inl c_brown)), (6, .inl (0, 6, .inl c_brick)), (7, .inl (0, 6, .inl c_back))]
def MD_X2_passWinters : gg_M := (yX2_passWinters, cX2_passWinters, 3, none, 4, 90)
theorem nV_X2_passWinters : gg_nV MD_X2_passWinters 1 := ⟨⟨gg_mem (by decide +kernel) rfl, gg_mem cw_X2_passWinters rfl, by decide, by decide, by decide +kernel⟩, gg_mem (by decide +kernel) rfl, gg_mem (by decide +kernel) rfl⟩
def lp_X2_passWinters_2 {β : Type} (y1 : Int32) (c_huts : Int32) (c_winds : Nat → Int32) (c_kind : Nat → Int32) (c_home : Nat → Int32) (k17 : (Int32) → (Int32) → (Int32) → (Nat → Int32) → (Nat → Int32) → (Nat → Int32) → (Nat → Int32) → Option β) : Nat → (Int32) → (Int32) → (Int32) → (Int32) → (Nat → Int32) → (Nat → Int32) → (Nat → Int32) → (Nat → Int32) → Option β
  | 0, _, _, _, _, _, _, _, _ => none
  | n + 1, x2_2, c_food_2, c_due_2, c_backs_2, c_strength_2, c_brown_2, c_brick_2, c_back_2 => (if y1 ≤ x2_2 then (k17 c_food_2 c_due_2 c_backs_2 c_strength_2 c_brown_2 c_brick_2 c_back_2) else gg_b7 (f_X2_passWinter c_huts c_food_2 c_due_2 c_backs_2 c_winds c_kind c_home c_strength_2 c_brown_2 c_brick_2 c_back_2) (fun v1_0 v1_1 v1_2 v1_3 v1_4 v1_5 v1_6 => (lp_X2_passWinters_2 y1 c_huts c_winds c_kind c_home k17 n (x2_2 + (1 : Int32)) v1_0 v1_1 v1_2 v1_3 v1_4 v1_5 v1_6)))
def f_X2_passWinters (a0 : Int32) (c_huts : Int32) (c_food : Int32) (c_due : Int32) (c_backs : Int32) (c_winds : Nat → Int32) (c_kind : Nat → Int32) (c_home : Nat → Int32) (c_strength : Nat → Int32) (c_brown : Nat → Int32) (c_brick : Nat → Int32) (c_back : Nat → Int32) : Option ((Int32) × (Int32) × (Int32) × (Nat → Int32) × (Nat → Int32) × (Nat → Int32) × (Nat → Int32)) := (lp_X2_passWinters_2 a0 c_huts c_winds c_kind c_home (fun (c_food_17 : Int32) (c_due_17 : Int32) (c_backs_17 : Int32) (c_strength_17 : Nat → Int32) (c_brown_17 : Nat → Int32) (c_brick_17 : Nat → Int32) (c_back_17 : Nat → Int32) => (some (c_food_17, c_due_17, c_backs_17, c_strength_17, c_brown_17, c_brick_17, c_back_17))) gg_fuel (0 : Int32) c_food c_due c_backs c_strength c_brown c_brick c_back)
set_option maxRecDepth 20000 in
set_option maxHeartbeats 4000000 in
theorem lq_X2_passWinters_2 {β : Type} {res : β} {rr : Option Value} {ww : va_W} (y1 : Int32) (c_huts : Int32) (c_winds : Nat → Int32) (c_kind : Nat → Int32) (c_home : Nat → Int32) (k17 : (Int32) → (Int32) → (Int32) → (Nat → Int32) → (Nat → Int32) → (Nat → Int32) → (Nat → Int32) → Option β) (hk17 : ∀ (c_food_17 : Int32) (c_due_17 : Int32) (c_backs_17 : Int32) (c_strength_17 : Nat → Int32) (c_brown_17 : Nat → Int32) (c_brick_17 : Nat → Int32) (c_back_17 : Nat → Int32), k17 c_food_17 c_due_17 c_backs_17 c_strength_17 c_brown_17 c_brick_17 c_back_17 = some res → gg_G MD_X2_passWinters 17 [none, none, none] [] (wd_X2_passWinters c_huts c_food_17 c_due_17 c_backs_17 c_winds c_kind c_home c_strength_17 c_brown_17 c_brick_17 c_back_17) rr ww) : ∀ (n : Nat) (x2_2 : Int32) (c_food_2 : Int32) (c_due_2 : Int32) (c_backs_2 : Int32) (c_strength_2 : Nat → Int32) (c_brown_2 : Nat → Int32) (c_brick_2 : Nat → Int32) (c_back_2 : Nat → Int32), lp_X2_passWinters_2 y1 c_huts c_winds c_kind c_home k17 n x2_2 c_food_2 c_due_2 c_backs_2 c_strength_2 c_brown_2 c_brick_2 c_back_2 = some res → gg_G MD_X2_passWinters 2 [some (.ref 0), some (.int y1), some (.int x2_2)] [] (wd_X2_passWinters c_huts c_food_2 c_due_2 c_backs_2 c_winds c_kind c_home c_strength_2 c_brown_2 c_brick_2 c_back_2) rr ww := by
  intro n
  induction n with
  | zero =>
    intro x2_2 c_food_2 c_due_2 c_backs_2 c_strength_2 c_brown_2 c_brick_2 c_back_2 h
    exact nomatch (show (none : Option β) = some res from h)
  | succ n ih =>
    intro x2_2 c_food_2 c_due_2 c_backs_2 c_strength_2 c_brown_2 c_brick_2 c_back_2 h
    rw [lp_X2_passWinters_2] at h
    refine gg_iload_n dX2_passWinters_2 rfl ?_
    refine gg_iload_n dX2_passWinters_3 rfl ?_
    refine gg_icmp_ge 17 dX2_passWinters_4 (by decide) (fun hc => ?_) (fun hc => ?_)
    · replace h := gg_th h hc
      refine gg_fg [false, false, false] [none, none, none] rfl ?_
      exact hk17 c_food_2 c_due_2 c_backs_2 c_strength_2 c_brown_2 c_brick_2 c_back_2 h
    · replace h := gg_el h hc
      refine gg_aload_n dX2_passWinters_7 rfl ?_
      obtain ⟨v1_0, v1_1, v1_2, v1_3, v1_4, v1_5, v1_6, hv1, h⟩ := gg_bd7 h
      refine gg_callV (gg_sg [0]) [0, 1, 2, 3, 4, 5, 6, 7] (wd_X2_passWinters c_huts v1_0 v1_1 v1_2 c_winds c_kind c_home v1_3 v1_4 v1_5 v1_6) 0 (C_X2_passWinter c_huts c_food_2 c_due_2 c_backs_2 c_winds c_kind c_home c_strength_2 c_brown_2 c_brick_2 c_back_2 hv1) nV_X2_passWinter ml_X2_99 rfl rfl rfl rfl rfl rfl rfl rfl rfl rfl [] 8 rfl rfl rfl rfl rfl ⟨Nat.le_of_ble_eq_true rfl, Nat.le_of_ble_eq_true rfl⟩ (Nat.le_of_ble_eq_true rfl) dX2_passWinters_8 [] rfl ?_
      refine gg_iinc (x2_2 + (1 : Int32)) [some (.ref 0), some (.int y1), some (.int (x2_2 + (1 : Int32)))] dX2_passWinters_11 rfl rfl rfl (Nat.le_of_ble_eq_true rfl) rfl ?_
      refine gg_goto 2 dX2_passWinters_14 (by decide) ?_
      exact ih (x2_2 + (1 : Int32)) v1_0 v1_1 v1_2 v1_3 v1_4 v1_5 v1_6 h
set_option maxRecDepth 20000 in
set_option maxHeartbeats 8000000 in
theorem C_X2_passWinters (a0 : Int32) (c_huts : Int32) (c_food : Int32) (c_due : Int32) (c_backs : Int32) (c_winds : Nat → Int32) (c_kind : Nat → Int32) (c_home : Nat → Int32) (c_strength : Nat → Int32) (c_brown : Nat → Int32) (c_brick : Nat → Int32) (c_back : Nat → Int32) {r0 : (Int32)} {r1 : (Int32)} {r2 : (Int32)} {r3 : (Nat → Int32)} {r4 : (Nat → Int32)} {r5 : (Nat → Int32)} {r6 : (Nat → Int32)} (h : f_X2_passWinters a0 c_huts c_food c_due c_backs c_winds c_kind c_home c_strength c_brown c_brick c_back = some (r0, r1, r2, r3, r4, r5, r6)) : gg_C MD_X2_passWinters [.ref 0, .int a0] (wd_X2_passWinters c_huts c_food c_due c_backs c_winds c_kind c_home c_strength c_brown c_brick c_back) (none) (wd_X2_passWinters c_huts r0 r1 r2 c_winds c_kind c_home r3 r4 r5 r6) := by
  refine gg_ofG [some (.ref 0), some (.int a0), none] (plainFor_of_name (by decide)) (Nat.le_of_ble_eq_true rfl) rfl ?_
  unfold f_X2_passWinters at h
  refine gg_iconst (0 : Int32) dX2_passWinters_0 (by decide) ?_
  refine gg_istore_n [some (.ref 0), some (.int a0), some (.int (0 : Int32))] dX2_passWinters_1 rfl (Nat.le_of_ble_eq_true rfl) rfl ?_
  refine lq_X2_passWinters_2 a0 c_huts c_winds c_kind c_home _ ?_ gg_fuel (0 : Int32) c_food c_due c_backs c_strength c_brown c_brick c_back h
  intro c_food_17 c_due_17 c_backs_17 c_strength_17 c_brown_17 c_brick_17 c_back_17 h
  cases h
  exact gg_vret dX2_passWinters_17 rfl
