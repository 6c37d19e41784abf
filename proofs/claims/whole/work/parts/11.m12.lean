def wd_X9_there_a26 (c_latest : Int32) (c_asked : Int32) (c_upper : Int64) (c_lower : Int64) (c_n : Int32) (c_readAt : Int32) (c_readMany : Int32) (c_readFood : Int32) (c_isHead : Int32) (c_backMany : Int32) (c_deedMany : Int32) (c_whole : Int64) (c_wellSum : Int64) (c_strongSum : Int64) (c_hash : Int64) (c_p1_a : Nat → Int32) : va_W := [(0, .inr (8, [.int c_latest, .ref 1, .int c_asked, .long c_upper, .long c_lower, .ref 2, .ref 3, .ref 4, .ref 5, .ref 6, .int c_n, .ref 7, .ref 8, .ref 9, .ref 10, .int c_readAt, .int c_readMany, .int c_readFood, .int c_isHead, .ref 11, .ref 12, .ref 13, .int c_backMany, .int c_deedMany, .ref 14, .ref 15, .ref 16, .ref 17, .ref 18, .ref 19, .ref 20, .ref 21, .ref 22, .ref 23, .ref 24, .long c_whole, .long c_wellSum, .long c_strongSum, .long c_hash])), (100, .inl (0, 26, .inl c_p1_a))]
def MD_X9_there_a26 : gg_M := (yX9_there, cX9_there, 4, some .int, 1, 21)
theorem nV_X9_there_a26 : gg_nV MD_X9_there_a26 1 := ⟨⟨gg_mem (by decide +kernel) rfl, gg_mem cw_X9_there rfl, by decide, by decide, by decide +kernel⟩, gg_mem (by decide +kernel) rfl, gg_mem (by decide +kernel) rfl⟩
def lp_X9_there_a26_4 {β : Type} (c_n : Int32) (c_p1_a : Nat → Int32) (k36 : (Int32) → Option β) : Nat → (Int32) → (Int32) → Option β
  | 0, _, _ => none
  | n + 1, x2_4, x3_4 => (if c_n ≤ x3_4 then (k36 x2_4) else (f_X9_isThere_a26 x3_4 c_p1_a).bind (fun v1 => gg_lt (fun (s1_28 : Int32) => (lp_X9_there_a26_4 c_n c_p1_a k36 n (x2_4 ||| s1_28) (x3_4 + (1 : Int32)))) (fun k28 => (if v1 = (0 : Int32) then (k28 (0 : Int32)) else (k28 ((1 : Int32) <<< (x3_4 &&& 31)))))))
def f_X9_there_a26  (c_n : Int32) (c_p1_a : Nat → Int32) : Option (Int32) := (lp_X9_there_a26_4 c_n c_p1_a (fun (x2_36 : Int32) => (some x2_36)) gg_fuel (0 : Int32) (0 : Int32))
set_option maxRecDepth 20000 in
set_option maxHeartbeats 4000000 in
theorem lq_X9_there_a26_4 {β : Type} {res : β} {rr : Option Value} {ww : va_W} (c_latest : Int32) (c_asked : Int32) (c_upper : Int64) (c_lower : Int64) (c_n : Int32) (c_readAt : Int32) (c_readMany : Int32) (c_readFood : Int32) (c_isHead : Int32) (c_backMany : Int32) (c_deedMany : Int32) (c_whole : Int64) (c_wellSum : Int64) (c_strongSum : Int64) (c_hash : Int64) (c_p1_a : Nat → Int32) (k36 : (Int32) → Option β) (hk36 : ∀ (x2_36 : Int32), k36 x2_36 = some res → gg_G MD_X9_there_a26 36 [none, none, some (.int x2_36), none] [] (wd_X9_there_a26 c_latest c_asked c_upper c_lower c_n c_readAt c_readMany c_readFood c_isHead c_backMany c_deedMany c_whole c_wellSum c_strongSum c_hash c_p1_a) rr ww) : ∀ (n : Nat) (x2_4 : Int32) (x3_4 : Int32), lp_X9_there_a26_4 c_n c_p1_a k36 n x2_4 x3_4 = some res → gg_G MD_X9_there_a26 4 [some (.ref 0), some (.ref 100), some (.int x2_4), some (.int x3_4)] [] (wd_X9_there_a26 c_latest c_asked c_upper c_lower c_n c_readAt c_readMany c_readFood c_isHead c_backMany c_deedMany c_whole c_wellSum c_strongSum c_hash c_p1_a) rr ww := by
  intro n
  induction n with
  | zero =>
    intro x2_4 x3_4 h
    exact nomatch (show (none : Option β) = some res from h)
  | succ n ih =>
    intro x2_4 x3_4 h
    rw [lp_X9_there_a26_4] at h
    refine gg_iload_n dX9_there_4 rfl ?_
    refine gg_aload_n dX9_there_5 rfl ?_
    refine gg_get 0 fl_X9_154 dX9_there_6 rfl rfl ?_
    refine gg_icmp_ge 36 dX9_there_9 (by decide) (fun hc => ?_) (fun hc => ?_)
    · replace h := gg_th h hc
      refine gg_fg [false, false, true, false] [none, none, some (.int x2_4), none] rfl ?_
      exact hk36 x2_4 h
    · replace h := gg_el h hc
      refine gg_iload_n dX9_there_12 rfl ?_
      refine gg_aload_n dX9_there_13 rfl ?_
      refine gg_iload_n dX9_there_14 rfl ?_
      obtain ⟨v1, hv1, h⟩ := gg_bd h
      refine gg_callS (gg_sg [100]) [1] (wd_X9_there_a26 c_latest c_asked c_upper c_lower c_n c_readAt c_readMany c_readFood c_isHead c_backMany c_deedMany c_whole c_wellSum c_strongSum c_hash c_p1_a) (C_X9_isThere_a26 x3_4 c_p1_a hv1) nS_X9_isThere_a26 ml_X9_160 rfl rfl rfl rfl rfl rfl rfl [0] 2 rfl rfl rfl rfl rfl ⟨Nat.le_of_ble_eq_true rfl, Nat.le_of_ble_eq_true rfl⟩ (Nat.le_of_ble_eq_true rfl) dX9_there_15 [.int v1, .int x2_4] rfl ?_
      obtain ⟨k28, hke28, h⟩ := gg_lte h
      have hk28 : ∀ (s1_28 : Int32), k28 s1_28 = some res → gg_G MD_X9_there_a26 28 [some (.ref 0), some (.ref 100), none, some (.int x3_4)] [.int s1_28, .int x2_4] (wd_X9_there_a26 c_latest c_asked c_upper c_lower c_n c_readAt c_readMany c_readFood c_isHead c_backMany c_deedMany c_whole c_wellSum c_strongSum c_hash c_p1_a) rr ww := by
        intro s1_28 h
        subst hke28
        refine gg_ior dX9_there_28 ?_
        refine gg_istore_n [some (.ref 0), some (.ref 100), some (.int (x2_4 ||| s1_28)), some (.int x3_4)] dX9_there_29 rfl (Nat.le_of_ble_eq_true rfl) rfl ?_
        refine gg_iinc (x3_4 + (1 : Int32)) [some (.ref 0), some (.ref 100), some (.int (x2_4 ||| s1_28)), some (.int (x3_4 + (1 : Int32)))] dX9_there_30 rfl rfl rfl (Nat.le_of_ble_eq_true rfl) rfl ?_
        refine gg_goto 4 dX9_there_33 (by decide) ?_
        exact ih (x2_4 ||| s1_28) (x3_4 + (1 : Int32)) h
      clear hke28
      refine gg_if_eq 27 dX9_there_18 (by decide) (fun hc => ?_) (fun hc => ?_)
      · replace h := gg_th h hc
        refine gg_iconst (0 : Int32) dX9_there_27 (by decide) ?_
        refine gg_fg [true, true, false, true] [some (.ref 0), some (.ref 100), none, some (.int x3_4)] rfl ?_
        exact hk28 (0 : Int32) h
      · replace h := gg_el h hc
        refine gg_iconst (1 : Int32) dX9_there_21 (by decide) ?_
        refine gg_iload_n dX9_there_22 rfl ?_
        refine gg_ishl dX9_there_23 ?_
        refine gg_goto 28 dX9_there_24 (by decide) ?_
        refine gg_fg [true, true, false, true] [some (.ref 0), some (.ref 100), none, some (.int x3_4)] rfl ?_
        exact hk28 ((1 : Int32) <<< (x3_4 &&& 31)) h
set_option maxRecDepth 20000 in
set_option maxHeartbeats 8000000 in
theorem C_X9_there_a26  (c_latest : Int32) (c_asked : Int32) (c_upper : Int64) (c_lower : Int64) (c_n : Int32) (c_readAt : Int32) (c_readMany : Int32) (c_readFood : Int32) (c_isHead : Int32) (c_backMany : Int32) (c_deedMany : Int32) (c_whole : Int64) (c_wellSum : Int64) (c_strongSum : Int64) (c_hash : Int64) (c_p1_a : Nat → Int32) {res : Int32} (h : f_X9_there_a26 c_n c_p1_a = some res) : gg_C MD_X9_there_a26 [.ref 0, .ref 100] (wd_X9_there_a26 c_latest c_asked c_upper c_lower c_n c_readAt c_readMany c_readFood c_isHead c_backMany c_deedMany c_whole c_wellSum c_strongSum c_hash c_p1_a) (some (.int res)) (wd_X9_there_a26 c_latest c_asked c_upper c_lower c_n c_readAt c_readMany c_readFood c_isHead c_backMany c_deedMany c_whole c_wellSum c_strongSum c_hash c_p1_a) := by
  refine gg_ofG [some (.ref 0), some (.ref 100), none, none] (plainFor_of_name (by decide)) (Nat.le_of_ble_eq_true rfl) rfl ?_
  unfold f_X9_there_a26 at h
  refine gg_iconst (0 : Int32) dX9_there_0 (by decide) ?_
  refine gg_istore_n [some (.ref 0), some (.ref 100), some (.int (0 : Int32)), none] dX9_there_1 rfl (Nat.le_of_ble_eq_true rfl) rfl ?_
  refine gg_iconst (0 : Int32) dX9_there_2 (by decide) ?_
  refine gg_istore_n [some (.ref 0), some (.ref 100), some (.int (0 : Int32)), some (.int (0 : Int32))] dX9_there_3 rfl (Nat.le_of_ble_eq_true rfl) rfl ?_
  refine lq_X9_there_a26_4 c_latest c_asked c_upper c_lower c_n c_readAt c_readMany c_readFood c_isHead c_backMany c_deedMany c_whole c_wellSum c_strongSum c_hash c_p1_a _ ?_ gg_fuel (0 : Int32) (0 : Int32) h
  intro x2_36 h
  refine gg_iload_n dX9_there_36 rfl ?_
  cases h
  exact gg_iret dX9_there_37 rfl
def wd_X9_winter (c_latest : Int32) (c_asked : Int32) (c_upper : Int64) (c_lower : Int64) (c_n : Int32) (c_readAt : Int32) (c_readMany : Int32) (c_readFood : Int32) (c_isHead : Int32) (c_backMany : Int32) (c_deedMany : Int32) (c_whole : Int64) (c_wellSum : Int64) (c_strongSum : Int64) (c_hash : Int64) (c_kindOf : Nat → Int32) (c_winds : Nat → Int32) (c_now : Nat → Int32) (c_back : Nat → Int32) (c_log : Nat → Int32) : va_W := [(0, .inr (8, [.int c_latest, .ref 1, .int c_asked, .long c_upper, .long c_lower, .ref 2, .ref 3, .ref 4, .ref 5, .ref 6, .int c_n, .ref 7, .ref 8, .ref 9, .ref 10, .int c_readAt, .int c_readMany, .int c_readFood, .int c_isHead, .ref 11, .ref 12, .ref 13, .int c_backMany, .int c_deedMany, .ref 14, .ref 15, .ref 16, .ref 17, .ref 18, .ref 19, .ref 20, .ref 21, .ref 22, .ref 23, .ref 24, .long c_whole, .long c_wellSum, .long c_strongSum, .long c_hash])), (7, .inl (0, 6, .inl c_kindOf)), (8, .inl (0, 4, .inl c_winds)), (9, .inl (0, 26, .inl c_now)), (13, .inl (0, 6, .inl c_back)), (14, .inl (0, 1040, .inl c_log))]
def MD_X9_winter : gg_M := (yX9_winter, cX9_winter, 1, some .int, 3, 72)
theorem nV_X9_winter : gg_nV MD_X9_winter 0 := ⟨⟨gg_mem (by decide +kernel) rfl, gg_mem cw_X9_winter rfl, by decide, by decide, by decide +kernel⟩, gg_mem (by decide +kernel) rfl, gg_mem (by decide +kernel) rfl⟩
def f_X9_winter  (c_n : Int32) (c_backMany : Int32) (c_deedMany : Int32) (c_kindOf : Nat → Int32) (c_winds : Nat → Int32) (c_now : Nat → Int32) (c_back : Nat → Int32) (c_log : Nat → Int32) : Option (Int32 × (Int32) × (Int32) × (Nat → Int32) × (Nat → Int32) × (Nat → Int32)) := (if c_n = (0 : Int32) then (some ((-4 : Int32), c_backMany, c_deedMany, c_now, c_back, c_log)) else (if c_deedMany = (40 : Int32) then (some ((-2 : Int32), c_backMany, c_deedMany, c_now, c_back, c_log)) else gg_b2 (f_X9_remember c_deedMany c_now c_log) (fun v1_0 v1_1 => gg_b3 (f_X9_passes_a26 c_n c_backMany c_kindOf c_winds c_back c_now) (fun v2_0 v2_1 v2_2 => (f_X9_there_a26 c_n v2_2).bind (fun v3 => (f_X9_bits v3).bind (fun v4 => (some (v4, v2_0, v1_0, v2_2, v2_1, v1_1))))))))
set_option maxRecDepth 20000 in
set_option maxHeartbeats 8000000 in
theorem C_X9_winter  (c_latest : Int32) (c_asked : Int32) (c_upper : Int64) (c_lower : Int64) (c_n : Int32) (c_readAt : Int32) (c_readMany : Int32) (c_readFood : Int32) (c_isHead : Int32) (c_backMany : Int32) (c_deedMany : Int32) (c_whole : Int64) (c_wellSum : Int64) (c_strongSum : Int64) (c_hash : Int64) (c_kindOf : Nat → Int32) (c_winds : Nat → Int32) (c_now : Nat → Int32) (c_back : Nat → Int32) (c_log : Nat → Int32) {r0 : Int32} {r1 : (Int32)} {r2 : (Int32)} {r3 : (Nat → Int32)} {r4 : (Nat → Int32)} {r5 : (Nat → Int32)} (h : f_X9_winter c_n c_backMany c_deedMany c_kindOf c_winds c_now c_back c_log = some (r0, r1, r2, r3, r4, r5)) : gg_C MD_X9_winter [.ref 0] (wd_X9_winter c_latest c_asked c_upper c_lower c_n c_readAt c_readMany c_readFood c_isHead c_backMany c_deedMany c_whole c_wellSum c_strongSum c_hash c_kindOf c_winds c_now c_back c_log) (some (.int r0)) (wd_X9_winter c_latest c_asked c_upper c_lower c_n c_readAt c_readMany c_readFood c_isHead r1 r2 c_whole c_wellSum c_strongSum c_hash c_kindOf c_winds r3 r4 r5) := by
  refine gg_ofG [some (.ref 0)] (plainFor_of_name (by decide)) (Nat.le_of_ble_eq_true rfl) rfl ?_
  unfold f_X9_winter at h
  refine gg_aload_n dX9_winter_0 rfl ?_
  refine gg_get 0 fl_X9_154 dX9_winter_1 rfl rfl ?_
  refine gg_if_ne 10 dX9_winter_4 (by decide) (fun hc => ?_) (fun hc => ?_)
  · replace h := gg_el h hc
    refine gg_aload_n dX9_winter_10 rfl ?_
    refine gg_get 0 fl_X9_157 dX9_winter_11 rfl rfl ?_
    refine gg_bipush (40 : Int32) dX9_winter_14 (by decide) ?_
    refine gg_icmp_ne 22 dX9_winter_16 (by decide) (fun hc => ?_) (fun hc => ?_)
    · replace h := gg_el h hc
      refine gg_aload_n dX9_winter_22 rfl ?_
      obtain ⟨v1_0, v1_1, hv1, h⟩ := gg_bd2 h
      refine gg_callV (gg_sg [0]) [0, 3, 5] (wd_X9_winter c_latest c_asked c_upper c_lower c_n c_readAt c_readMany c_readFood c_isHead c_backMany v1_0 c_whole c_wellSum c_strongSum c_hash c_kindOf c_winds c_now c_back v1_1) 0 (C_X9_remember c_latest c_asked c_upper c_lower c_n c_readAt c_readMany c_readFood c_isHead c_backMany c_deedMany c_whole c_wellSum c_strongSum c_hash c_now c_log hv1) nV_X9_remember ml_X9_210 rfl rfl rfl rfl rfl rfl rfl rfl rfl rfl [1, 2, 4] 6 rfl rfl rfl rfl rfl ⟨Nat.le_of_ble_eq_true rfl, Nat.le_of_ble_eq_true rfl⟩ (Nat.le_of_ble_eq_true rfl) dX9_winter_23 [] rfl ?_
      refine gg_aload_n dX9_winter_26 rfl ?_
      refine gg_aload_n dX9_winter_27 rfl ?_
      refine gg_get 0 fl_X9_39 dX9_winter_28 rfl rfl ?_
      obtain ⟨v2_0, v2_1, v2_2, hv2, h⟩ := gg_bd3 h
      refine gg_callV (gg_sg [0, 9]) [0, 1, 2, 4, 3] (wd_X9_winter c_latest c_asked c_upper c_lower c_n c_readAt c_readMany c_readFood c_isHead v2_0 v1_0 c_whole c_wellSum c_strongSum c_hash c_kindOf c_winds v2_2 v2_1 v1_1) 0 (C_X9_passes_a26 c_latest c_asked c_upper c_lower c_n c_readAt c_readMany c_readFood c_isHead c_backMany v1_0 c_whole c_wellSum c_strongSum c_hash c_kindOf c_winds c_back c_now hv2) nV_X9_passes_a26 ml_X9_213 rfl rfl rfl rfl rfl rfl rfl rfl rfl rfl [5] 6 rfl rfl rfl rfl rfl ⟨Nat.le_of_ble_eq_true rfl, Nat.le_of_ble_eq_true rfl⟩ (Nat.le_of_ble_eq_true rfl) dX9_winter_31 [] rfl ?_
      refine gg_aload_n dX9_winter_34 rfl ?_
      refine gg_aload_n dX9_winter_35 rfl ?_
      refine gg_get 0 fl_X9_39 dX9_winter_36 rfl rfl ?_
      obtain ⟨v3, hv3, h⟩ := gg_bd h
      refine gg_callV (gg_sg [0, 9]) [0, 3] (wd_X9_winter c_latest c_asked c_upper c_lower c_n c_readAt c_readMany c_readFood c_isHead v2_0 v1_0 c_whole c_wellSum c_strongSum c_hash c_kindOf c_winds v2_2 v2_1 v1_1) 0 (C_X9_there_a26 c_latest c_asked c_upper c_lower c_n c_readAt c_readMany c_readFood c_isHead v2_0 v1_0 c_whole c_wellSum c_strongSum c_hash v2_2 hv3) nV_X9_there_a26 ml_X9_217 rfl rfl rfl rfl rfl rfl rfl rfl rfl rfl [1, 2, 4, 5] 6 rfl rfl rfl rfl rfl ⟨Nat.le_of_ble_eq_true rfl, Nat.le_of_ble_eq_true rfl⟩ (Nat.le_of_ble_eq_true rfl) dX9_winter_39 [.int v3] rfl ?_
      obtain ⟨v4, hv4, h⟩ := gg_bd h
      refine gg_callS (gg_sg []) [] (wd_X9_winter c_latest c_asked c_upper c_lower c_n c_readAt c_readMany c_readFood c_isHead v2_0 v1_0 c_whole c_wellSum c_strongSum c_hash c_kindOf c_winds v2_2 v2_1 v1_1) (C_X9_bits v3 hv4) nS_X9_bits ml_X9_220 rfl rfl rfl rfl rfl rfl rfl [0, 1, 2, 3, 4, 5] 6 rfl rfl rfl rfl rfl ⟨Nat.le_of_ble_eq_true rfl, Nat.le_of_ble_eq_true rfl⟩ (Nat.le_of_ble_eq_true rfl) dX9_winter_42 [.int v4] rfl ?_
      cases h
      exact gg_iret dX9_winter_45 rfl
    · replace h := gg_th h hc
      refine gg_bipush (-2 : Int32) dX9_winter_19 (by decide) ?_
      cases h
      exact gg_iret dX9_winter_21 rfl
  · replace h := gg_th h hc
    refine gg_bipush (-4 : Int32) dX9_winter_7 (by decide) ?_
    cases h
    exact gg_iret dX9_winter_9 rfl
def wd_X9_fed (c_latest : Int32) (c_asked : Int32) (c_upper : Int64) (c_lower : Int64) (c_n : Int32) (c_readAt : Int32) (c_readMany : Int32) (c_readFood : Int32) (c_isHead : Int32) (c_backMany : Int32) (c_deedMany : Int32) (c_whole : Int64) (c_wellSum : Int64) (c_strongSum : Int64) (c_hash : Int64) (c_now : Nat → Int32) : va_W := [(0, .inr (8, [.int c_latest, .ref 1, .int c_asked, .long c_upper, .long c_lower, .ref 2, .ref 3, .ref 4, .ref 5, .ref 6, .int c_n, .ref 7, .ref 8, .ref 9, .ref 10, .int c_readAt, .int c_readMany, .int c_readFood, .int c_isHead, .ref 11, .ref 12, .ref 13, .int c_backMany, .int c_deedMany, .ref 14, .ref 15, .ref 16, .ref 17, .ref 18, .ref 19, .ref 20, .ref 21, .ref 22, .ref 23, .ref 24, .long c_whole, .long c_wellSum, .long c_strongSum, .long c_hash])), (9, .inl (0, 26, .inl c_now))]
def MD_X9_fed : gg_M := (yX9_fed, cX9_fed, 2, none, 0, 0)
theorem nV_X9_fed : gg_nV MD_X9_fed 1 := ⟨⟨gg_mem (by decide +kernel) rfl, gg_mem cw_X9_fed rfl, by decide, by decide, by decide +kernel⟩, gg_mem (by decide +kernel) rfl, gg_mem (by decide +kernel) rfl⟩
def f_X9_fed (a0 : Int32) (c_now : Nat → Int32) : Option ((Nat → Int32)) := gg_chk (gg_in (1 : Int32) 26) (gg_chk (gg_in (1 : Int32) 26) (gg_chk (gg_in ((8 : Int32) + a0) 26) (gg_chk (gg_in ((8 : Int32) + a0) 26) (gg_chk (gg_in ((8 : Int32) + a0) 26) (gg_lt (fun (s2_59 : Int32) => gg_chk (gg_in ((8 : Int32) + a0) 26) ((some (upd (upd (upd c_now (1 : Int32).toNatClampNeg ((c_now (1 : Int32).toNatClampNeg) - (1 : Int32))) ((8 : Int32) + a0).toNatClampNeg (((upd c_now (1 : Int32).toNatClampNeg ((c_now (1 : Int32).toNatClampNeg) - (1 : Int32))) ((8 : Int32) + a0).toNatClampNeg) + (2 : Int32))) ((8 : Int32) + a0).toNatClampNeg s2_59)))) (fun k59 => (if ((upd (upd c_now (1 : Int32).toNatClampNeg ((c_now (1 : Int32).toNatClampNeg) - (1 : Int32))) ((8 : Int32) + a0).toNatClampNeg (((upd c_now (1 : Int32).toNatClampNeg ((c_now (1 : Int32).toNatClampNeg) - (1 : Int32))) ((8 : Int32) + a0).toNatClampNeg) + (2 : Int32))) ((8 : Int32) + a0).toNatClampNeg) ≤ (9 : Int32) then gg_chk (gg_in ((8 : Int32) + a0) 26) ((k59 ((upd (upd c_now (1 : Int32).toNatClampNeg ((c_now (1 : Int32).toNatClampNeg) - (1 : Int32))) ((8 : Int32) + a0).toNatClampNeg (((upd c_now (1 : Int32).toNatClampNeg ((c_now (1 : Int32).toNatClampNeg) - (1 : Int32))) ((8 : Int32) + a0).toNatClampNeg) + (2 : Int32))) ((8 : Int32) + a0).toNatClampNeg))) else (k59 (9 : Int32)))))))))
set_option maxRecDepth 20000 in
set_option maxHeartbeats 8000000 in
theorem C_X9_fed (a0 : Int32) (c_latest : Int32) (c_asked : Int32) (c_upper : Int64) (c_lower : Int64) (c_n : Int32) (c_readAt : Int32) (c_readMany : Int32) (c_readFood : Int32) (c_isHead : Int32) (c_backMany : Int32) (c_deedMany : Int32) (c_whole : Int64) (c_wellSum : Int64) (c_strongSum : Int64) (c_hash : Int64) (c_now : Nat → Int32) {res : (Nat → Int32)} (h : f_X9_fed a0 c_now = some res) : gg_C MD_X9_fed [.ref 0, .int a0] (wd_X9_fed c_latest c_asked c_upper c_lower c_n c_readAt c_readMany c_readFood c_isHead c_backMany c_deedMany c_whole c_wellSum c_strongSum c_hash c_now) (none) (wd_X9_fed c_latest c_asked c_upper c_lower c_n c_readAt c_readMany c_readFood c_isHead c_backMany c_deedMany c_whole c_wellSum c_strongSum c_hash res) := by
  refine gg_ofG [some (.ref 0), some (.int a0)] (plainFor_of_name (by decide)) (Nat.le_of_ble_eq_true rfl) rfl ?_
  unfold f_X9_fed at h
  refine gg_aload_n dX9_fed_0 rfl ?_
  refine gg_get 0 fl_X9_39 dX9_fed_1 rfl rfl ?_
  refine gg_iconst (1 : Int32) dX9_fed_4 (by decide) ?_
  refine gg_dup2 dX9_fed_5 rfl rfl ?_
  obtain ⟨hb6, h⟩ := gg_ck h
  refine gg_iald 1 dX9_fed_6 rfl hb6 ?_
  refine gg_iconst (1 : Int32) dX9_fed_7 (by decide) ?_
  refine gg_isub dX9_fed_8 ?_
  obtain ⟨hb9, h⟩ := gg_ck h
  refine gg_iast 1 (wd_X9_fed c_latest c_asked c_upper c_lower c_n c_readAt c_readMany c_readFood c_isHead c_backMany c_deedMany c_whole c_wellSum c_strongSum c_hash (upd c_now (1 : Int32).toNatClampNeg ((c_now (1 : Int32).toNatClampNeg) - (1 : Int32)))) dX9_fed_9 rfl hb9 rfl ?_
  refine gg_aload_n dX9_fed_10 rfl ?_
  refine gg_get 0 fl_X9_39 dX9_fed_11 rfl rfl ?_
  refine gg_bipush (8 : Int32) dX9_fed_14 (by decide) ?_
  refine gg_iload_n dX9_fed_16 rfl ?_
  refine gg_iadd dX9_fed_17 ?_
  refine gg_dup2 dX9_fed_18 rfl rfl ?_
  obtain ⟨hb19, h⟩ := gg_ck h
  refine gg_iald 1 dX9_fed_19 rfl hb19 ?_
  refine gg_iconst (2 : Int32) dX9_fed_20 (by decide) ?_
  refine gg_iadd dX9_fed_21 ?_
  obtain ⟨hb22, h⟩ := gg_ck h
  refine gg_iast 1 (wd_X9_fed c_latest c_asked c_upper c_lower c_n c_readAt c_readMany c_readFood c_isHead c_backMany c_deedMany c_whole c_wellSum c_strongSum c_hash (upd (upd c_now (1 : Int32).toNatClampNeg ((c_now (1 : Int32).toNatClampNeg) - (1 : Int32))) ((8 : Int32) + a0).toNatClampNeg (((upd c_now (1 : Int32).toNatClampNeg ((c_now (1 : Int32).toNatClampNeg) - (1 : Int32))) ((8 : Int32) + a0).toNatClampNeg) + (2 : Int32)))) dX9_fed_22 rfl hb22 rfl ?_
  refine gg_aload_n dX9_fed_23 rfl ?_
  refine gg_get 0 fl_X9_39 dX9_fed_24 rfl rfl ?_
  refine gg_bipush (8 : Int32) dX9_fed_27 (by decide) ?_
  refine gg_iload_n dX9_fed_29 rfl ?_
  refine gg_iadd dX9_fed_30 ?_
  refine gg_aload_n dX9_fed_31 rfl ?_
  refine gg_get 0 fl_X9_39 dX9_fed_32 rfl rfl ?_
  refine gg_bipush (8 : Int32) dX9_fed_35 (by decide) ?_
  refine gg_iload_n dX9_fed_37 rfl ?_
  refine gg_iadd dX9_fed_38 ?_
  obtain ⟨hb39, h⟩ := gg_ck h
  refine gg_iald 1 dX9_fed_39 rfl hb39 ?_
  refine gg_bipush (9 : Int32) dX9_fed_40 (by decide) ?_
  obtain ⟨k59, hke59, h⟩ := gg_lte h
  have hk59 : ∀ (s2_59 : Int32), k59 s2_59 = some res → gg_G MD_X9_fed 59 [none, none] [.int s2_59, .int ((8 : Int32) + a0), .ref 9] (wd_X9_fed c_latest c_asked c_upper c_lower c_n c_readAt c_readMany c_readFood c_isHead c_backMany c_deedMany c_whole c_wellSum c_strongSum c_hash (upd (upd c_now (1 : Int32).toNatClampNeg ((c_now (1 : Int32).toNatClampNeg) - (1 : Int32))) ((8 : Int32) + a0).toNatClampNeg (((upd c_now (1 : Int32).toNatClampNeg ((c_now (1 : Int32).toNatClampNeg) - (1 : Int32))) ((8 : Int32) + a0).toNatClampNeg) + (2 : Int32)))) (none) (wd_X9_fed c_latest c_asked c_upper c_lower c_n c_readAt c_readMany c_readFood c_isHead c_backMany c_deedMany c_whole c_wellSum c_strongSum c_hash res) := by
    intro s2_59 h
    subst hke59
    obtain ⟨hb59, h⟩ := gg_ck h
    refine gg_iast 1 (wd_X9_fed c_latest c_asked c_upper c_lower c_n c_readAt c_readMany c_readFood c_isHead c_backMany c_deedMany c_whole c_wellSum c_strongSum c_hash (upd (upd (upd c_now (1 : Int32).toNatClampNeg ((c_now (1 : Int32).toNatClampNeg) - (1 : Int32))) ((8 : Int32) + a0).toNatClampNeg (((upd c_now (1 : Int32).toNatClampNeg ((c_now (1 : Int32).toNatClampNeg) - (1 : Int32))) ((8 : Int32) + a0).toNatClampNeg) + (2 : Int32))) ((8 : Int32) + a0).toNatClampNeg s2_59)) dX9_fed_59 rfl hb59 rfl ?_
    cases h
    exact gg_vret dX9_fed_60 rfl
  clear hke59
  refine gg_icmp_le 50 dX9_fed_42 (by decide) (fun hc => ?_) (fun hc => ?_)
  · replace h := gg_th h hc
    refine gg_aload_n dX9_fed_50 rfl ?_
    refine gg_get 0 fl_X9_39 dX9_fed_51 rfl rfl ?_
    refine gg_bipush (8 : Int32) dX9_fed_54 (by decide) ?_
    refine gg_iload_n dX9_fed_56 rfl ?_
    refine gg_iadd dX9_fed_57 ?_
    obtain ⟨hb58, h⟩ := gg_ck h
    refine gg_iald 1 dX9_fed_58 rfl hb58 ?_
    refine gg_fg [false, false] [none, none] rfl ?_
    exact hk59 ((upd (upd c_now (1 : Int32).toNatClampNeg ((c_now (1 : Int32).toNatClampNeg) - (1 : Int32))) ((8 : Int32) + a0).toNatClampNeg (((upd c_now (1 : Int32).toNatClampNeg ((c_now (1 : Int32).toNatClampNeg) - (1 : Int32))) ((8 : Int32) + a0).toNatClampNeg) + (2 : Int32))) ((8 : Int32) + a0).toNatClampNeg) h
  · replace h := gg_el h hc
    refine gg_bipush (9 : Int32) dX9_fed_45 (by decide) ?_
    refine gg_goto 59 dX9_fed_47 (by decide) ?_
    refine gg_fg [false, false] [none, none] rfl ?_
    exact hk59 (9 : Int32) h
def wd_X9_feed (c_latest : Int32) (c_asked : Int32) (c_upper : Int64) (c_lower : Int64) (c_n : Int32) (c_readAt : Int32) (c_readMany : Int32) (c_readFood : Int32) (c_isHead : Int32) (c_backMany : Int32) (c_deedMany : Int32) (c_whole : Int64) (c_wellSum : Int64) (c_strongSum : Int64) (c_hash : Int64) (c_now : Nat → Int32) (c_log : Nat → Int32) : va_W := [(0, .inr (8, [.int c_latest, .ref 1, .int c_asked, .long c_upper, .long c_lower, .ref 2, .ref 3, .ref 4, .ref 5, .ref 6, .int c_n, .ref 7, .ref 8, .ref 9, .ref 10, .int c_readAt, .int c_readMany, .int c_readFood, .int c_isHead, .ref 11, .ref 12, .ref 13, .int c_backMany, .int c_deedMany, .ref 14, .ref 15, .ref 16, .ref 17, .ref 18, .ref 19, .ref 20, .ref 21, .ref 22, .ref 23, .ref 24, .long c_whole, .long c_wellSum, .long c_strongSum, .long c_hash])), (9, .inl (0, 26, .inl c_now)), (14, .inl (0, 1040, .inl c_log))]
def MD_X9_feed : gg_M := (yX9_feed, cX9_feed, 2, some .int, 2, 43)
theorem nV_X9_feed : gg_nV MD_X9_feed 1 := ⟨⟨gg_mem (by decide +kernel) rfl, gg_mem cw_X9_feed rfl, by decide, by decide, by decide +kernel⟩, gg_mem (by decide +kernel) rfl, gg_mem (by decide +kernel) rfl⟩
def f_X9_feed (a0 : Int32) (c_n : Int32) (c_deedMany : Int32) (c_now : Nat → Int32) (c_log : Nat → Int32) : Option (Int32 × (Int32) × (Nat → Int32) × (Nat → Int32)) := (f_X9_isHut a0 c_n).bind (fun v1 => (if v1 = (0 : Int32) then (some ((-1 : Int32), c_deedMany, c_now, c_log)) else (f_X9_isThere_a26 a0 c_now).bind (fun v2 => (if v2 = (0 : Int32) then (some ((-4 : Int32), c_deedMany, c_now, c_log)) else gg_chk (gg_in (1 : Int32) 26) ((if (c_now (1 : Int32).toNatClampNeg) = (0 : Int32) then (some ((-6 : Int32), c_deedMany, c_now, c_log)) else (if c_deedMany = (40 : Int32) then (some ((-2 : Int32), c_deedMany, c_now, c_log)) else gg_b2 (f_X9_remember c_deedMany c_now c_log) (fun v3_0 v3_1 => (f_X9_fed a0 c_now).bind (fun v4 => gg_chk (gg_in ((8 : Int32) + a0) 26) ((some ((v4 ((8 : Int32) + a0).toNatClampNeg), v3_0, v4, v3_1))))))))))))
set_option maxRecDepth 20000 in
set_option maxHeartbeats 8000000 in
theorem C_X9_feed (a0 : Int32) (c_latest : Int32) (c_asked : Int32) (c_upper : Int64) (c_lower : Int64) (c_n : Int32) (c_readAt : Int32) (c_readMany : Int32) (c_readFood : Int32) (c_isHead : Int32) (c_backMany : Int32) (c_deedMany : Int32) (c_whole : Int64) (c_wellSum : Int64) (c_strongSum : Int64) (c_hash : Int64) (c_now : Nat → Int32) (c_log : Nat → Int32) {r0 : Int32} {r1 : (Int32)} {r2 : (Nat → Int32)} {r3 : (Nat → Int32)} (h : f_X9_feed a0 c_n c_deedMany c_now c_log = some (r0, r1, r2, r3)) : gg_C MD_X9_feed [.ref 0, .int a0] (wd_X9_feed c_latest c_asked c_upper c_lower c_n c_readAt c_readMany c_readFood c_isHead c_backMany c_deedMany c_whole c_wellSum c_strongSum c_hash c_now c_log) (some (.int r0)) (wd_X9_feed c_latest c_asked c_upper c_lower c_n c_readAt c_readMany c_readFood c_isHead c_backMany r1 c_whole c_wellSum c_strongSum c_hash r2 r3) := by
  refine gg_ofG [some (.ref 0), some (.int a0)] (plainFor_of_name (by decide)) (Nat.le_of_ble_eq_true rfl) rfl ?_
  unfold f_X9_feed at h
  refine gg_aload_n dX9_feed_0 rfl ?_
  refine gg_iload_n dX9_feed_1 rfl ?_
  obtain ⟨v1, hv1, h⟩ := gg_bd h
  refine gg_callV (gg_sg [0]) [0] (wd_X9_feed c_latest c_asked c_upper c_lower c_n c_readAt c_readMany c_readFood c_isHead c_backMany c_deedMany c_whole c_wellSum c_strongSum c_hash c_now c_log) 0 (C_X9_isHut a0 c_latest c_asked c_upper c_lower c_n c_readAt c_readMany c_readFood c_isHead c_backMany c_deedMany c_whole c_wellSum c_strongSum c_hash hv1) nV_X9_isHut ml_X9_198 rfl rfl rfl rfl rfl rfl rfl rfl rfl rfl [1, 2] 3 rfl rfl rfl rfl rfl ⟨Nat.le_of_ble_eq_true rfl, Nat.le_of_ble_eq_true rfl⟩ (Nat.le_of_ble_eq_true rfl) dX9_feed_2 [.int v1] rfl ?_
  refine gg_if_ne 10 dX9_feed_5 (by decide) (fun hc => ?_) (fun hc => ?_)
  · replace h := gg_el h hc
    refine gg_aload_n dX9_feed_10 rfl ?_
    refine gg_get 0 fl_X9_39 dX9_feed_11 rfl rfl ?_
    refine gg_iload_n dX9_feed_14 rfl ?_
    obtain ⟨v2, hv2, h⟩ := gg_bd h
    refine gg_callS (gg_sg [9]) [1] (wd_X9_feed c_latest c_asked c_upper c_lower c_n c_readAt c_readMany c_readFood c_isHead c_backMany c_deedMany c_whole c_wellSum c_strongSum c_hash c_now c_log) (C_X9_isThere_a26 a0 c_now hv2) nS_X9_isThere_a26 ml_X9_160 rfl rfl rfl rfl rfl rfl rfl [0, 2] 3 rfl rfl rfl rfl rfl ⟨Nat.le_of_ble_eq_true rfl, Nat.le_of_ble_eq_true rfl⟩ (Nat.le_of_ble_eq_true rfl) dX9_feed_15 [.int v2] rfl ?_
    refine gg_if_ne 24 dX9_feed_18 (by decide) (fun hc => ?_) (fun hc => ?_)
    · replace h := gg_el h hc
      refine gg_aload_n dX9_feed_24 rfl ?_
      refine gg_get 0 fl_X9_39 dX9_feed_25 rfl rfl ?_
      refine gg_iconst (1 : Int32) dX9_feed_28 (by decide) ?_
      obtain ⟨hb29, h⟩ := gg_ck h
      refine gg_iald 1 dX9_feed_29 rfl hb29 ?_
      refine gg_if_ne 36 dX9_feed_30 (by decide) (fun hc => ?_) (fun hc => ?_)
      · replace h := gg_el h hc
        refine gg_aload_n dX9_feed_36 rfl ?_
        refine gg_get 0 fl_X9_157 dX9_feed_37 rfl rfl ?_
        refine gg_bipush (40 : Int32) dX9_feed_40 (by decide) ?_
        refine gg_icmp_ne 48 dX9_feed_42 (by decide) (fun hc => ?_) (fun hc => ?_)
        · replace h := gg_el h hc
          refine gg_aload_n dX9_feed_48 rfl ?_
          obtain ⟨v3_0, v3_1, hv3, h⟩ := gg_bd2 h
          refine gg_callV (gg_sg [0]) [0, 1, 2] (wd_X9_feed c_latest c_asked c_upper c_lower c_n c_readAt c_readMany c_readFood c_isHead c_backMany v3_0 c_whole c_wellSum c_strongSum c_hash c_now v3_1) 0 (C_X9_remember c_latest c_asked c_upper c_lower c_n c_readAt c_readMany c_readFood c_isHead c_backMany c_deedMany c_whole c_wellSum c_strongSum c_hash c_now c_log hv3) nV_X9_remember ml_X9_210 rfl rfl rfl rfl rfl rfl rfl rfl rfl rfl [] 3 rfl rfl rfl rfl rfl ⟨Nat.le_of_ble_eq_true rfl, Nat.le_of_ble_eq_true rfl⟩ (Nat.le_of_ble_eq_true rfl) dX9_feed_49 [] rfl ?_
          refine gg_aload_n dX9_feed_52 rfl ?_
          refine gg_iload_n dX9_feed_53 rfl ?_
          obtain ⟨v4, hv4, h⟩ := gg_bd h
          refine gg_callV (gg_sg [0]) [0, 1] (wd_X9_feed c_latest c_asked c_upper c_lower c_n c_readAt c_readMany c_readFood c_isHead c_backMany v3_0 c_whole c_wellSum c_strongSum c_hash v4 v3_1) 0 (C_X9_fed a0 c_latest c_asked c_upper c_lower c_n c_readAt c_readMany c_readFood c_isHead c_backMany v3_0 c_whole c_wellSum c_strongSum c_hash c_now hv4) nV_X9_fed ml_X9_223 rfl rfl rfl rfl rfl rfl rfl rfl rfl rfl [2] 3 rfl rfl rfl rfl rfl ⟨Nat.le_of_ble_eq_true rfl, Nat.le_of_ble_eq_true rfl⟩ (Nat.le_of_ble_eq_true rfl) dX9_feed_54 [] rfl ?_
          refine gg_aload_n dX9_feed_57 rfl ?_
          refine gg_get 0 fl_X9_39 dX9_feed_58 rfl rfl ?_
          refine gg_bipush (8 : Int32) dX9_feed_61 (by decide) ?_
          refine gg_iload_n dX9_feed_63 rfl ?_
          refine gg_iadd dX9_feed_64 ?_
          obtain ⟨hb65, h⟩ := gg_ck h
          refine gg_iald 1 dX9_feed_65 rfl hb65 ?_
          cases h
          exact gg_iret dX9_feed_66 rfl
        · replace h := gg_th h hc
          refine gg_bipush (-2 : Int32) dX9_feed_45 (by decide) ?_
          cases h
          exact gg_iret dX9_feed_47 rfl
      · replace h := gg_th h hc
        refine gg_bipush (-6 : Int32) dX9_feed_33 (by decide) ?_
        cases h
        exact gg_iret dX9_feed_35 rfl
    · replace h := gg_th h hc
      refine gg_bipush (-4 : Int32) dX9_feed_21 (by decide) ?_
      cases h
      exact gg_iret dX9_feed_23 rfl
  · replace h := gg_th h hc
    refine gg_iconst (-1 : Int32) dX9_feed_8 (by decide) ?_
    cases h
    exact gg_iret dX9_feed_9 rfl
def wd_X9_sell (c_latest : Int32) (c_asked : Int32) (c_upper : Int64) (c_lower : Int64) (c_n : Int32) (c_readAt : Int32) (c_readMany : Int32) (c_readFood : Int32) (c_isHead : Int32) (c_backMany : Int32) (c_deedMany : Int32) (c_whole : Int64) (c_wellSum : Int64) (c_strongSum : Int64) (c_hash : Int64) (c_now : Nat → Int32) (c_log : Nat → Int32) : va_W := [(0, .inr (8, [.int c_latest, .ref 1, .int c_asked, .long c_upper, .long c_lower, .ref 2, .ref 3, .ref 4, .ref 5, .ref 6, .int c_n, .ref 7, .ref 8, .ref 9, .ref 10, .int c_readAt, .int c_readMany, .int c_readFood, .int c_isHead, .ref 11, .ref 12, .ref 13, .int c_backMany, .int c_deedMany, .ref 14, .ref 15, .ref 16, .ref 17, .ref 18, .ref 19, .ref 20, .ref 21, .ref 22, .ref 23, .ref 24, .long c_whole, .long c_wellSum, .long c_strongSum, .long c_hash])), (9, .inl (0, 26, .inl c_now)), (14, .inl (0, 1040, .inl c_log))]
def MD_X9_sell : gg_M := (yX9_sell, cX9_sell, 4, some .int, 2, 43)
theorem nV_X9_sell : gg_nV MD_X9_sell 2 := ⟨⟨gg_mem (by decide +kernel) rfl, gg_mem cw_X9_sell rfl, by decide, by decide, by decide +kernel⟩, gg_mem (by decide +kernel) rfl, gg_mem (by decide +kernel) rfl⟩
def f_X9_sell (a0 : Int32) (a1 : Int32) (c_n : Int32) (c_deedMany : Int32) (c_now : Nat → Int32) (c_log : Nat → Int32) : Option (Int32 × (Int32) × (Nat → Int32) × (Nat → Int32)) := (f_X9_isHut a0 c_n).bind (fun v1 => gg_lt ((some ((-1 : Int32), c_deedMany, c_now, c_log))) (fun k21 => (if v1 = (0 : Int32) then k21 else (f_X9_isHut a1 c_n).bind (fun v2 => (if v2 = (0 : Int32) then k21 else (if a0 = a1 then k21 else (f_X9_isThere_a26 a0 c_now).bind (fun v3 => gg_lt ((some ((-4 : Int32), c_deedMany, c_now, c_log))) (fun k45 => (if v3 = (0 : Int32) then k45 else (f_X9_isThere_a26 a1 c_now).bind (fun v4 => (if v4 = (0 : Int32) then k45 else (if c_deedMany = (40 : Int32) then (some ((-2 : Int32), c_deedMany, c_now, c_log)) else gg_b2 (f_X9_remember c_deedMany c_now c_log) (fun v5_0 v5_1 => gg_chk (gg_in ((2 : Int32) + a0) 26) (gg_chk (gg_in ((2 : Int32) + a1) 26) (gg_chk (gg_in ((2 : Int32) + a0) 26) (gg_chk (gg_in ((2 : Int32) + a1) 26) (gg_chk (gg_in ((2 : Int32) + a0) 26) ((some (((upd (upd c_now ((2 : Int32) + a0).toNatClampNeg (c_now ((2 : Int32) + a1).toNatClampNeg)) ((2 : Int32) + a1).toNatClampNeg (c_now ((2 : Int32) + a0).toNatClampNeg)) ((2 : Int32) + a0).toNatClampNeg), v5_0, (upd (upd c_now ((2 : Int32) + a0).toNatClampNeg (c_now ((2 : Int32) + a1).toNatClampNeg)) ((2 : Int32) + a1).toNatClampNeg (c_now ((2 : Int32) + a0).toNatClampNeg)), v5_1))))))))))))))))))))
set_option maxRecDepth 20000 in
set_option maxHeartbeats 8000000 in
theorem C_X9_sell (a0 : Int32) (a1 : Int32) (c_latest : Int32) (c_asked : Int32) (c_upper : Int64) (c_lower : Int64) (c_n : Int32) (c_readAt : Int32) (c_readMany : Int32) (c_readFood : Int32) (c_isHead : Int32) (c_backMany : Int32) (c_deedMany : Int32) (c_whole : Int64) (c_wellSum : Int64) (c_strongSum : Int64) (c_hash : Int64) (c_now : Nat → Int32) (c_log : Nat → Int32) {r0 : Int32} {r1 : (Int32)} {r2 : (Nat → Int32)} {r3 : (Nat → Int32)} (h : f_X9_sell a0 a1 c_n c_deedMany c_now c_log = some (r0, r1, r2, r3)) : gg_C MD_X9_sell [.ref 0, .int a0, .int a1] (wd_X9_sell c_latest c_asked c_upper c_lower c_n c_readAt c_readMany c_readFood c_isHead c_backMany c_deedMany c_whole c_wellSum c_strongSum c_hash c_now c_log) (some (.int r0)) (wd_X9_sell c_latest c_asked c_upper c_lower c_n c_readAt c_readMany c_readFood c_isHead c_backMany r1 c_whole c_wellSum c_strongSum c_hash r2 r3) := by
  refine gg_ofG [some (.ref 0), some (.int a0), some (.int a1), none] (plainFor_of_name (by decide)) (Nat.le_of_ble_eq_true rfl) rfl ?_
  unfold f_X9_sell at h
  refine gg_aload_n dX9_sell_0 rfl ?_
  refine gg_iload_n dX9_sell_1 rfl ?_
  obtain ⟨v1, hv1, h⟩ := gg_bd h
  refine gg_callV (gg_sg [0]) [0] (wd_X9_sell c_latest c_asked c_upper c_lower c_n c_readAt c_readMany c_readFood c_isHead c_backMany c_deedMany c_whole c_wellSum c_strongSum c_hash c_now c_log) 0 (C_X9_isHut a0 c_latest c_asked c_upper c_lower c_n c_readAt c_readMany c_readFood c_isHead c_backMany c_deedMany c_whole c_wellSum c_strongSum c_hash hv1) nV_X9_isHut ml_X9_198 rfl rfl rfl rfl rfl rfl rfl rfl rfl rfl [1, 2] 3 rfl rfl rfl rfl rfl ⟨Nat.le_of_ble_eq_true rfl, Nat.le_of_ble_eq_true rfl⟩ (Nat.le_of_ble_eq_true rfl) dX9_sell_2 [.int v1] rfl ?_
  obtain ⟨k21, hke21, h⟩ := gg_lte h
  have hk21 : k21 = some (r0, r1, r2, r3) → gg_G MD_X9_sell 21 [none, none, none, none] [] (wd_X9_sell c_latest c_asked c_upper c_lower c_n c_readAt c_readMany c_readFood c_isHead c_backMany c_deedMany c_whole c_wellSum c_strongSum c_hash c_now c_log) (some (.int r0)) (wd_X9_sell c_latest c_asked c_upper c_lower c_n c_readAt c_readMany c_readFood c_isHead c_backMany r1 c_whole c_wellSum c_strongSum c_hash r2 r3) := by
    intro  h
    subst hke21
    refine gg_iconst (-1 : Int32) dX9_sell_21 (by decide) ?_
    cases h
    exact gg_iret dX9_sell_22 rfl
  clear hke21
  refine gg_if_eq 21 dX9_sell_5 (by decide) (fun hc => ?_) (fun hc => ?_)
  · replace h := gg_th h hc
    refine gg_fg [false, false, false, false] [none, none, none, none] rfl ?_
    exact hk21 h
  · replace h := gg_el h hc
    refine gg_aload_n dX9_sell_8 rfl ?_
    refine gg_iload_n dX9_sell_9 rfl ?_
    obtain ⟨v2, hv2, h⟩ := gg_bd h
    refine gg_callV (gg_sg [0]) [0] (wd_X9_sell c_latest c_asked c_upper c_lower c_n c_readAt c_readMany c_readFood c_isHead c_backMany c_deedMany c_whole c_wellSum c_strongSum c_hash c_now c_log) 0 (C_X9_isHut a1 c_latest c_asked c_upper c_lower c_n c_readAt c_readMany c_readFood c_isHead c_backMany c_deedMany c_whole c_wellSum c_strongSum c_hash hv2) nV_X9_isHut ml_X9_198 rfl rfl rfl rfl rfl rfl rfl rfl rfl rfl [1, 2] 3 rfl rfl rfl rfl rfl ⟨Nat.le_of_ble_eq_true rfl, Nat.le_of_ble_eq_true rfl⟩ (Nat.le_of_ble_eq_true rfl) dX9_sell_10 [.int v2] rfl ?_
    refine gg_if_eq 21 dX9_sell_13 (by decide) (fun hc => ?_) (fun hc => ?_)
    · replace h := gg_th h hc
      refine gg_fg [false, false, false, false] [none, none, none, none] rfl ?_
      exact hk21 h
    · replace h := gg_el h hc
      refine gg_iload_n dX9_sell_16 rfl ?_
      refine gg_iload_n dX9_sell_17 rfl ?_
      refine gg_icmp_ne 23 dX9_sell_18 (by decide) (fun hc => ?_) (fun hc => ?_)
      · replace h := gg_el h hc
        refine gg_aload_n dX9_sell_23 rfl ?_
        refine gg_get 0 fl_X9_39 dX9_sell_24 rfl rfl ?_
        refine gg_iload_n dX9_sell_27 rfl ?_
        obtain ⟨v3, hv3, h⟩ := gg_bd h
        refine gg_callS (gg_sg [9]) [1] (wd_X9_sell c_latest c_asked c_upper c_lower c_n c_readAt c_readMany c_readFood c_isHead c_backMany c_deedMany c_whole c_wellSum c_strongSum c_hash c_now c_log) (C_X9_isThere_a26 a0 c_now hv3) nS_X9_isThere_a26 ml_X9_160 rfl rfl rfl rfl rfl rfl rfl [0, 2] 3 rfl rfl rfl rfl rfl ⟨Nat.le_of_ble_eq_true rfl, Nat.le_of_ble_eq_true rfl⟩ (Nat.le_of_ble_eq_true rfl) dX9_sell_28 [.int v3] rfl ?_
        obtain ⟨k45, hke45, h⟩ := gg_lte h
        have hk45 : k45 = some (r0, r1, r2, r3) → gg_G MD_X9_sell 45 [none, none, none, none] [] (wd_X9_sell c_latest c_asked c_upper c_lower c_n c_readAt c_readMany c_readFood c_isHead c_backMany c_deedMany c_whole c_wellSum c_strongSum c_hash c_now c_log) (some (.int r0)) (wd_X9_sell c_latest c_asked c_upper c_lower c_n c_readAt c_readMany c_readFood c_isHead c_backMany r1 c_whole c_wellSum c_strongSum c_hash r2 r3) := by
          intro  h
          subst hke45
          refine gg_bipush (-4 : Int32) dX9_sell_45 (by decide) ?_
          cases h
          exact gg_iret dX9_sell_47 rfl
        clear hke45
        refine gg_if_eq 45 dX9_sell_31 (by decide) (fun hc => ?_) (fun hc => ?_)
        · replace h := gg_th h hc
          refine gg_fg [false, false, false, false] [none, none, none, none] rfl ?_
          exact hk45 h
        · replace h := gg_el h hc
          refine gg_aload_n dX9_sell_34 rfl ?_
          refine gg_get 0 fl_X9_39 dX9_sell_35 rfl rfl ?_
          refine gg_iload_n dX9_sell_38 rfl ?_
          obtain ⟨v4, hv4, h⟩ := gg_bd h
          refine gg_callS (gg_sg [9]) [1] (wd_X9_sell c_latest c_asked c_upper c_lower c_n c_readAt c_readMany c_readFood c_isHead c_backMany c_deedMany c_whole c_wellSum c_strongSum c_hash c_now c_log) (C_X9_isThere_a26 a1 c_now hv4) nS_X9_isThere_a26 ml_X9_160 rfl rfl rfl rfl rfl rfl rfl [0, 2] 3 rfl rfl rfl rfl rfl ⟨Nat.le_of_ble_eq_true rfl, Nat.le_of_ble_eq_true rfl⟩ (Nat.le_of_ble_eq_true rfl) dX9_sell_39 [.int v4] rfl ?_
          refine gg_if_ne 48 dX9_sell_42 (by decide) (fun hc => ?_) (fun hc => ?_)
          · replace h := gg_el h hc
            refine gg_aload_n dX9_sell_48 rfl ?_
            refine gg_get 0 fl_X9_157 dX9_sell_49 rfl rfl ?_
            refine gg_bipush (40 : Int32) dX9_sell_52 (by decide) ?_
            refine gg_icmp_ne 60 dX9_sell_54 (by decide) (fun hc => ?_) (fun hc => ?_)
            · replace h := gg_el h hc
              refine gg_aload_n dX9_sell_60 rfl ?_
              obtain ⟨v5_0, v5_1, hv5, h⟩ := gg_bd2 h
              refine gg_callV (gg_sg [0]) [0, 1, 2] (wd_X9_sell c_latest c_asked c_upper c_lower c_n c_readAt c_readMany c_readFood c_isHead c_backMany v5_0 c_whole c_wellSum c_strongSum c_hash c_now v5_1) 0 (C_X9_remember c_latest c_asked c_upper c_lower c_n c_readAt c_readMany c_readFood c_isHead c_backMany c_deedMany c_whole c_wellSum c_strongSum c_hash c_now c_log hv5) nV_X9_remember ml_X9_210 rfl rfl rfl rfl rfl rfl rfl rfl rfl rfl [] 3 rfl rfl rfl rfl rfl ⟨Nat.le_of_ble_eq_true rfl, Nat.le_of_ble_eq_true rfl⟩ (Nat.le_of_ble_eq_true rfl) dX9_sell_61 [] rfl ?_
              refine gg_aload_n dX9_sell_64 rfl ?_
              refine gg_get 0 fl_X9_39 dX9_sell_65 rfl rfl ?_
              refine gg_iconst (2 : Int32) dX9_sell_68 (by decide) ?_
              refine gg_iload_n dX9_sell_69 rfl ?_
              refine gg_iadd dX9_sell_70 ?_
              obtain ⟨hb71, h⟩ := gg_ck h
              refine gg_iald 1 dX9_sell_71 rfl hb71 ?_
              refine gg_istore_n [some (.ref 0), some (.int a0), some (.int a1), some (.int (c_now ((2 : Int32) + a0).toNatClampNeg))] dX9_sell_72 rfl (Nat.le_of_ble_eq_true rfl) rfl ?_
              refine gg_aload_n dX9_sell_73 rfl ?_
              refine gg_get 0 fl_X9_39 dX9_sell_74 rfl rfl ?_
              refine gg_iconst (2 : Int32) dX9_sell_77 (by decide) ?_
              refine gg_iload_n dX9_sell_78 rfl ?_
              refine gg_iadd dX9_sell_79 ?_
              refine gg_aload_n dX9_sell_80 rfl ?_
              refine gg_get 0 fl_X9_39 dX9_sell_81 rfl rfl ?_
              refine gg_iconst (2 : Int32) dX9_sell_84 (by decide) ?_
              refine gg_iload_n dX9_sell_85 rfl ?_
              refine gg_iadd dX9_sell_86 ?_
              obtain ⟨hb87, h⟩ := gg_ck h
              refine gg_iald 1 dX9_sell_87 rfl hb87 ?_
              obtain ⟨hb88, h⟩ := gg_ck h
              refine gg_iast 1 (wd_X9_sell c_latest c_asked c_upper c_lower c_n c_readAt c_readMany c_readFood c_isHead c_backMany v5_0 c_whole c_wellSum c_strongSum c_hash (upd c_now ((2 : Int32) + a0).toNatClampNeg (c_now ((2 : Int32) + a1).toNatClampNeg)) v5_1) dX9_sell_88 rfl hb88 rfl ?_
              refine gg_aload_n dX9_sell_89 rfl ?_
              refine gg_get 0 fl_X9_39 dX9_sell_90 rfl rfl ?_
              refine gg_iconst (2 : Int32) dX9_sell_93 (by decide) ?_
              refine gg_iload_n dX9_sell_94 rfl ?_
              refine gg_iadd dX9_sell_95 ?_
              refine gg_iload_n dX9_sell_96 rfl ?_
              obtain ⟨hb97, h⟩ := gg_ck h
              refine gg_iast 1 (wd_X9_sell c_latest c_asked c_upper c_lower c_n c_readAt c_readMany c_readFood c_isHead c_backMany v5_0 c_whole c_wellSum c_strongSum c_hash (upd (upd c_now ((2 : Int32) + a0).toNatClampNeg (c_now ((2 : Int32) + a1).toNatClampNeg)) ((2 : Int32) + a1).toNatClampNeg (c_now ((2 : Int32) + a0).toNatClampNeg)) v5_1) dX9_sell_97 rfl hb97 rfl ?_
              refine gg_aload_n dX9_sell_98 rfl ?_
              refine gg_get 0 fl_X9_39 dX9_sell_99 rfl rfl ?_
              refine gg_iconst (2 : Int32) dX9_sell_102 (by decide) ?_
              refine gg_iload_n dX9_sell_103 rfl ?_
              refine gg_iadd dX9_sell_104 ?_
              obtain ⟨hb105, h⟩ := gg_ck h
              refine gg_iald 1 dX9_sell_105 rfl hb105 ?_
              cases h
              exact gg_iret dX9_sell_106 rfl
            · replace h := gg_th h hc
              refine gg_bipush (-2 : Int32) dX9_sell_57 (by decide) ?_
              cases h
              exact gg_iret dX9_sell_59 rfl
          · replace h := gg_th h hc
            refine gg_fg [false, false, false, false] [none, none, none, none] rfl ?_
            exact hk45 h
      · replace h := gg_th h hc
        refine gg_fg [false, false, false, false] [none, none, none, none] rfl ?_
        exact hk21 h
def wd_X9_storm (c_latest : Int32) (c_asked : Int32) (c_upper : Int64) (c_lower : Int64) (c_n : Int32) (c_readAt : Int32) (c_readMany : Int32) (c_readFood : Int32) (c_isHead : Int32) (c_backMany : Int32) (c_deedMany : Int32) (c_whole : Int64) (c_wellSum : Int64) (c_strongSum : Int64) (c_hash : Int64) (c_now : Nat → Int32) (c_log : Nat → Int32) : va_W := [(0, .inr (8, [.int c_latest, .ref 1, .int c_asked, .long c_upper, .long c_lower, .ref 2, .ref 3, .ref 4, .ref 5, .ref 6, .int c_n, .ref 7, .ref 8, .ref 9, .ref 10, .int c_readAt, .int c_readMany, .int c_readFood, .int c_isHead, .ref 11, .ref 12, .ref 13, .int c_backMany, .int c_deedMany, .ref 14, .ref 15, .ref 16, .ref 17, .ref 18, .ref 19, .ref 20, .ref 21, .ref 22, .ref 23, .ref 24, .long c_whole, .long c_wellSum, .long c_strongSum, .long c_hash])), (9, .inl (0, 26, .inl c_now)), (14, .inl (0, 1040, .inl c_log))]
def MD_X9_storm : gg_M := (yX9_storm, cX9_storm, 2, some .int, 2, 44)
theorem nV_X9_storm : gg_nV MD_X9_storm 1 := ⟨⟨gg_mem (by decide +kernel) rfl, gg_mem cw_X9_storm rfl, by decide, by decide, by decide +kernel⟩, gg_mem (by decide +kernel) rfl, gg_mem (by decide +kernel) rfl⟩
def f_X9_storm (a0 : Int32) (c_n : Int32) (c_deedMany : Int32) (c_now : Nat → Int32) (c_log : Nat → Int32) : Option (Int32 × (Int32) × (Nat → Int32) × (Nat → Int32)) := (f_X9_isHut a0 c_n).bind (fun v1 => (if v1 = (0 : Int32) then (some ((-1 : Int32), c_deedMany, c_now, c_log)) else (f_X9_isThere_a26 a0 c_now).bind (fun v2 => (if v2 = (0 : Int32) then (some ((-4 : Int32), c_deedMany, c_now, c_log)) else (if c_deedMany = (40 : Int32) then (some ((-2 : Int32), c_deedMany, c_now, c_log)) else gg_b2 (f_X9_remember c_deedMany c_now c_log) (fun v3_0 v3_1 => gg_chk (gg_in ((20 : Int32) + a0) 26) ((f_X9_there_a26 c_n (upd c_now ((20 : Int32) + a0).toNatClampNeg (-9 : Int32))).bind (fun v4 => (f_X9_bits v4).bind (fun v5 => (some (v5, v3_0, (upd c_now ((20 : Int32) + a0).toNatClampNeg (-9 : Int32)), v3_1)))))))))))
set_option maxRecDepth 20000 in
set_option maxHeartbeats 8000000 in
theorem C_X9_storm (a0 : Int32) (c_latest : Int32) (c_asked : Int32) (c_upper : Int64) (c_lower : Int64) (c_n : Int32) (c_readAt : Int32) (c_readMany : Int32) (c_readFood : Int32) (c_isHead : Int32) (c_backMany : Int32) (c_deedMany : Int32) (c_whole : Int64) (c_wellSum : Int64) (c_strongSum : Int64) (c_hash : Int64) (c_now : Nat → Int32) (c_log : Nat → Int32) {r0 : Int32} {r1 : (Int32)} {r2 : (Nat → Int32)} {r3 : (Nat → Int32)} (h : f_X9_storm a0 c_n c_deedMany c_now c_log = some (r0, r1, r2, r3)) : gg_C MD_X9_storm [.ref 0, .int a0] (wd_X9_storm c_latest c_asked c_upper c_lower c_n c_readAt c_readMany c_readFood c_isHead c_backMany c_deedMany c_whole c_wellSum c_strongSum c_hash c_now c_log) (some (.int r0)) (wd_X9_storm c_latest c_asked c_upper c_lower c_n c_readAt c_readMany c_readFood c_isHead c_backMany r1 c_whole c_wellSum c_strongSum c_hash r2 r3) := by
  refine gg_ofG [some (.ref 0), some (.int a0)] (plainFor_of_name (by decide)) (Nat.le_of_ble_eq_true rfl) rfl ?_
  unfold f_X9_storm at h
  refine gg_aload_n dX9_storm_0 rfl ?_
  refine gg_iload_n dX9_storm_1 rfl ?_
  obtain ⟨v1, hv1, h⟩ := gg_bd h
  refine gg_callV (gg_sg [0]) [0] (wd_X9_storm c_latest c_asked c_upper c_lower c_n c_readAt c_readMany c_readFood c_isHead c_backMany c_deedMany c_whole c_wellSum c_strongSum c_hash c_now c_log) 0 (C_X9_isHut a0 c_latest c_asked c_upper c_lower c_n c_readAt c_readMany c_readFood c_isHead c_backMany c_deedMany c_whole c_wellSum c_strongSum c_hash hv1) nV_X9_isHut ml_X9_198 rfl rfl rfl rfl rfl rfl rfl rfl rfl rfl [1, 2] 3 rfl rfl rfl rfl rfl ⟨Nat.le_of_ble_eq_true rfl, Nat.le_of_ble_eq_true rfl⟩ (Nat.le_of_ble_eq_true rfl) dX9_storm_2 [.int v1] rfl ?_
  refine gg_if_ne 10 dX9_storm_5 (by decide) (fun hc => ?_) (fun hc => ?_)
  · replace h := gg_el h hc
    refine gg_aload_n dX9_storm_10 rfl ?_
    refine gg_get 0 fl_X9_39 dX9_storm_11 rfl rfl ?_
    refine gg_iload_n dX9_storm_14 rfl ?_
    obtain ⟨v2, hv2, h⟩ := gg_bd h
    refine gg_callS (gg_sg [9]) [1] (wd_X9_storm c_latest c_asked c_upper c_lower c_n c_readAt c_readMany c_readFood c_isHead c_backMany c_deedMany c_whole c_wellSum c_strongSum c_hash c_now c_log) (C_X9_isThere_a26 a0 c_now hv2) nS_X9_isThere_a26 ml_X9_160 rfl rfl rfl rfl rfl rfl rfl [0, 2] 3 rfl rfl rfl rfl rfl ⟨Nat.le_of_ble_eq_true rfl, Nat.le_of_ble_eq_true rfl⟩ (Nat.le_of_ble_eq_true rfl) dX9_storm_15 [.int v2] rfl ?_
    refine gg_if_ne 24 dX9_storm_18 (by decide) (fun hc => ?_) (fun hc => ?_)
    · replace h := gg_el h hc
      refine gg_aload_n dX9_storm_24 rfl ?_
      refine gg_get 0 fl_X9_157 dX9_storm_25 rfl rfl ?_
      refine gg_bipush (40 : Int32) dX9_storm_28 (by decide) ?_
      refine gg_icmp_ne 36 dX9_storm_30 (by decide) (fun hc => ?_) (fun hc => ?_)
      · replace h := gg_el h hc
        refine gg_aload_n dX9_storm_36 rfl ?_
        obtain ⟨v3_0, v3_1, hv3, h⟩ := gg_bd2 h
        refine gg_callV (gg_sg [0]) [0, 1, 2] (wd_X9_storm c_latest c_asked c_upper c_lower c_n c_readAt c_readMany c_readFood c_isHead c_backMany v3_0 c_whole c_wellSum c_strongSum c_hash c_now v3_1) 0 (C_X9_remember c_latest c_asked c_upper c_lower c_n c_readAt c_readMany c_readFood c_isHead c_backMany c_deedMany c_whole c_wellSum c_strongSum c_hash c_now c_log hv3) nV_X9_remember ml_X9_210 rfl rfl rfl rfl rfl rfl rfl rfl rfl rfl [] 3 rfl rfl rfl rfl rfl ⟨Nat.le_of_ble_eq_true rfl, Nat.le_of_ble_eq_true rfl⟩ (Nat.le_of_ble_eq_true rfl) dX9_storm_37 [] rfl ?_
        refine gg_aload_n dX9_storm_40 rfl ?_
        refine gg_get 0 fl_X9_39 dX9_storm_41 rfl rfl ?_
        refine gg_bipush (20 : Int32) dX9_storm_44 (by decide) ?_
        refine gg_iload_n dX9_storm_46 rfl ?_
        refine gg_iadd dX9_storm_47 ?_
        refine gg_bipush (-9 : Int32) dX9_storm_48 (by decide) ?_
        obtain ⟨hb50, h⟩ := gg_ck h
        refine gg_iast 1 (wd_X9_storm c_latest c_asked c_upper c_lower c_n c_readAt c_readMany c_readFood c_isHead c_backMany v3_0 c_whole c_wellSum c_strongSum c_hash (upd c_now ((20 : Int32) + a0).toNatClampNeg (-9 : Int32)) v3_1) dX9_storm_50 rfl hb50 rfl ?_
        refine gg_aload_n dX9_storm_51 rfl ?_
        refine gg_aload_n dX9_storm_52 rfl ?_
        refine gg_get 0 fl_X9_39 dX9_storm_53 rfl rfl ?_
        obtain ⟨v4, hv4, h⟩ := gg_bd h
        refine gg_callV (gg_sg [0, 9]) [0, 1] (wd_X9_storm c_latest c_asked c_upper c_lower c_n c_readAt c_readMany c_readFood c_isHead c_backMany v3_0 c_whole c_wellSum c_strongSum c_hash (upd c_now ((20 : Int32) + a0).toNatClampNeg (-9 : Int32)) v3_1) 0 (C_X9_there_a26 c_latest c_asked c_upper c_lower c_n c_readAt c_readMany c_readFood c_isHead c_backMany v3_0 c_whole c_wellSum c_strongSum c_hash (upd c_now ((20 : Int32) + a0).toNatClampNeg (-9 : Int32)) hv4) nV_X9_there_a26 ml_X9_217 rfl rfl rfl rfl rfl rfl rfl rfl rfl rfl [2] 3 rfl rfl rfl rfl rfl ⟨Nat.le_of_ble_eq_true rfl, Nat.le_of_ble_eq_true rfl⟩ (Nat.le_of_ble_eq_true rfl) dX9_storm_56 [.int v4] rfl ?_
        obtain ⟨v5, hv5, h⟩ := gg_bd h
        refine gg_callS (gg_sg []) [] (wd_X9_storm c_latest c_asked c_upper c_lower c_n c_readAt c_readMany c_readFood c_isHead c_backMany v3_0 c_whole c_wellSum c_strongSum c_hash (upd c_now ((20 : Int32) + a0).toNatClampNeg (-9 : Int32)) v3_1) (C_X9_bits v4 hv5) nS_X9_bits ml_X9_220 rfl rfl rfl rfl rfl rfl rfl [0, 1, 2] 3 rfl rfl rfl rfl rfl ⟨Nat.le_of_ble_eq_true rfl, Nat.le_of_ble_eq_true rfl⟩ (Nat.le_of_ble_eq_true rfl) dX9_storm_59 [.int v5] rfl ?_
        cases h
        exact gg_iret dX9_storm_62 rfl
      · replace h := gg_th h hc
        refine gg_bipush (-2 : Int32) dX9_storm_33 (by decide) ?_
        cases h
        exact gg_iret dX9_storm_35 rfl
    · replace h := gg_th h hc
      refine gg_bipush (-4 : Int32) dX9_storm_21 (by decide) ?_
      cases h
      exact gg_iret dX9_storm_23 rfl
  · replace h := gg_th h hc
    refine gg_iconst (-1 : Int32) dX9_storm_8 (by decide) ?_
    cases h
    exact gg_iret dX9_storm_9 rfl
def wd_X9_undo (c_latest : Int32) (c_asked : Int32) (c_upper : Int64) (c_lower : Int64) (c_n : Int32) (c_readAt : Int32) (c_readMany : Int32) (c_readFood : Int32) (c_isHead : Int32) (c_backMany : Int32) (c_deedMany : Int32) (c_whole : Int64) (c_wellSum : Int64) (c_strongSum : Int64) (c_hash : Int64) (c_now : Nat → Int32) (c_log : Nat → Int32) : va_W := [(0, .inr (8, [.int c_latest, .ref 1, .int c_asked, .long c_upper, .long c_lower, .ref 2, .ref 3, .ref 4, .ref 5, .ref 6, .int c_n, .ref 7, .ref 8, .ref 9, .ref 10, .int c_readAt, .int c_readMany, .int c_readFood, .int c_isHead, .ref 11, .ref 12, .ref 13, .int c_backMany, .int c_deedMany, .ref 14, .ref 15, .ref 16, .ref 17, .ref 18, .ref 19, .ref 20, .ref 21, .ref 22, .ref 23, .ref 24, .long c_whole, .long c_wellSum, .long c_strongSum, .long c_hash])), (9, .inl (0, 26, .inl c_now)), (14, .inl (0, 1040, .inl c_log))]
def MD_X9_undo : gg_M := (yX9_undo, cX9_undo, 4, some .int, 1, 22)
theorem nV_X9_undo : gg_nV MD_X9_undo 1 := ⟨⟨gg_mem (by decide +kernel) rfl, gg_mem cw_X9_undo rfl, by decide, by decide, by decide +kernel⟩, gg_mem (by decide +kernel) rfl, gg_mem (by decide +kernel) rfl⟩
def lp_X9_undo_23 {β : Type} (y1 : Int32) (y2 : Int32) (c_log : Nat → Int32) (k56 : (Nat → Int32) → Option β) : Nat → (Int32) → (Nat → Int32) → Option β
  | 0, _, _ => none
  | n + 1, x3_23, c_now_23 => (if (26 : Int32) ≤ x3_23 then (k56 c_now_23) else (if y2 ≤ (0 : Int32) then (k56 c_now_23) else gg_chk (gg_in (((26 : Int32) * y1) + x3_23) 1040) (gg_chk (gg_in x3_23 26) ((lp_X9_undo_23 y1 y2 c_log k56 n (x3_23 + (1 : Int32)) (upd c_now_23 x3_23.toNatClampNeg (c_log (((26 : Int32) * y1) + x3_23).toNatClampNeg)))))))
def f_X9_undo (a0 : Int32) (c_deedMany : Int32) (c_now : Nat → Int32) (c_log : Nat → Int32) : Option (Int32 × (Int32) × (Nat → Int32)) := (f_X9_in a0 (0 : Int32) c_deedMany).bind (fun v1 => (if v1 = (0 : Int32) then (some ((-1 : Int32), c_deedMany, c_now)) else (lp_X9_undo_23 a0 (c_deedMany - a0) c_log (fun (c_now_56 : Nat → Int32) => (some ((c_deedMany - a0), a0, c_now_56))) gg_fuel (0 : Int32) c_now)))
set_option maxRecDepth 20000 in
set_option maxHeartbeats 4000000 in
theorem lq_X9_undo_23 {β : Type} {res : β} {rr : Option Value} {ww : va_W} (y1 : Int32) (y2 : Int32) (c_latest : Int32) (c_asked : Int32) (c_upper : Int64) (c_lower : Int64) (c_n : Int32) (c_readAt : Int32) (c_readMany : Int32) (c_readFood : Int32) (c_isHead : Int32) (c_backMany : Int32) (c_deedMany : Int32) (c_whole : Int64) (c_wellSum : Int64) (c_strongSum : Int64) (c_hash : Int64) (c_log : Nat → Int32) (k56 : (Nat → Int32) → Option β) (hk56 : ∀ (c_now_56 : Nat → Int32), k56 c_now_56 = some res → gg_G MD_X9_undo 56 [some (.ref 0), some (.int y1), some (.int y2), none] [] (wd_X9_undo c_latest c_asked c_upper c_lower c_n c_readAt c_readMany c_readFood c_isHead c_backMany c_deedMany c_whole c_wellSum c_strongSum c_hash c_now_56 c_log) rr ww) : ∀ (n : Nat) (x3_23 : Int32) (c_now_23 : Nat → Int32), lp_X9_undo_23 y1 y2 c_log k56 n x3_23 c_now_23 = some res → gg_G MD_X9_undo 23 [some (.ref 0), some (.int y1), some (.int y2), some (.int x3_23)] [] (wd_X9_undo c_latest c_asked c_upper c_lower c_n c_readAt c_readMany c_readFood c_isHead c_backMany c_deedMany c_whole c_wellSum c_strongSum c_hash c_now_23 c_log) rr ww := by
  intro n
  induction n with
  | zero =>
    intro x3_23 c_now_23 h
    exact nomatch (show (none : Option β) = some res from h)
  | succ n ih =>
    intro x3_23 c_now_23 h
    rw [lp_X9_undo_23] at h
    refine gg_iload_n dX9_undo_23 rfl ?_
    refine gg_bipush (26 : Int32) dX9_undo_24 (by decide) ?_
    refine gg_icmp_ge 56 dX9_undo_26 (by decide) (fun hc => ?_) (fun hc => ?_)
    · replace h := gg_th h hc
      refine gg_fg [true, true, true, false] [some (.ref 0), some (.int y1), some (.int y2), none] rfl ?_
      exact hk56 c_now_23 h
    · replace h := gg_el h hc
      refine gg_iload_n dX9_undo_29 rfl ?_
      refine gg_if_le 56 dX9_undo_30 (by decide) (fun hc => ?_) (fun hc => ?_)
      · replace h := gg_th h hc
        refine gg_fg [true, true, true, false] [some (.ref 0), some (.int y1), some (.int y2), none] rfl ?_
        exact hk56 c_now_23 h
      · replace h := gg_el h hc
        refine gg_aload_n dX9_undo_33 rfl ?_
        refine gg_get 0 fl_X9_39 dX9_undo_34 rfl rfl ?_
        refine gg_iload_n dX9_undo_37 rfl ?_
        refine gg_aload_n dX9_undo_38 rfl ?_
        refine gg_get 0 fl_X9_54 dX9_undo_39 rfl rfl ?_
        refine gg_bipush (26 : Int32) dX9_undo_42 (by decide) ?_
        refine gg_iload_n dX9_undo_44 rfl ?_
        refine gg_imul dX9_undo_45 ?_
        refine gg_iload_n dX9_undo_46 rfl ?_
        refine gg_iadd dX9_undo_47 ?_
        obtain ⟨hb48, h⟩ := gg_ck h
        refine gg_iald 2 dX9_undo_48 rfl hb48 ?_
        obtain ⟨hb49, h⟩ := gg_ck h
        refine gg_iast 1 (wd_X9_undo c_latest c_asked c_upper c_lower c_n c_readAt c_readMany c_readFood c_isHead c_backMany c_deedMany c_whole c_wellSum c_strongSum c_hash (upd c_now_23 x3_23.toNatClampNeg (c_log (((26 : Int32) * y1) + x3_23).toNatClampNeg)) c_log) dX9_undo_49 rfl hb49 rfl ?_
        refine gg_iinc (x3_23 + (1 : Int32)) [some (.ref 0), some (.int y1), some (.int y2), some (.int (x3_23 + (1 : Int32)))] dX9_undo_50 rfl rfl rfl (Nat.le_of_ble_eq_true rfl) rfl ?_
        refine gg_goto 23 dX9_undo_53 (by decide) ?_
        exact ih (x3_23 + (1 : Int32)) (upd c_now_23 x3_23.toNatClampNeg (c_log (((26 : Int32) * y1) + x3_23).toNatClampNeg)) h
set_option maxRecDepth 20000 in
set_option maxHeartbeats 8000000 in
theorem C_X9_undo (a0 : Int32) (c_latest : Int32) (c_asked : Int32) (c_upper : Int64) (c_lower : Int64) (c_n : Int32) (c_readAt : Int32) (c_readMany : Int32) (c_readFood : Int32) (c_isHead : Int32) (c_backMany : Int32) (c_deedMany : Int32) (c_whole : Int64) (c_wellSum : Int64) (c_strongSum : Int64) (c_hash : Int64) (c_now : Nat → Int32) (c_log : Nat → Int32) {r0 : Int32} {r1 : (Int32)} {r2 : (Nat → Int32)} (h : f_X9_undo a0 c_deedMany c_now c_log = some (r0, r1, r2)) : gg_C MD_X9_undo [.ref 0, .int a0] (wd_X9_undo c_latest c_asked c_upper c_lower c_n c_readAt c_readMany c_readFood c_isHead c_backMany c_deedMany c_whole c_wellSum c_strongSum c_hash c_now c_log) (some (.int r0)) (wd_X9_undo c_latest c_asked c_upper c_lower c_n c_readAt c_readMany c_readFood c_isHead c_backMany r1 c_whole c_wellSum c_strongSum c_hash r2 c_log) := by
  refine gg_ofG [some (.ref 0), some (.int a0), none, none] (plainFor_of_name (by decide)) (Nat.le_of_ble_eq_true rfl) rfl ?_
  unfold f_X9_undo at h
  refine gg_iload_n dX9_undo_0 rfl ?_
  refine gg_iconst (0 : Int32) dX9_undo_1 (by decide) ?_
  refine gg_aload_n dX9_undo_2 rfl ?_
  refine gg_get 0 fl_X9_157 dX9_undo_3 rfl rfl ?_
  obtain ⟨v1, hv1, h⟩ := gg_bd h
  refine gg_callS (gg_sg []) [] (wd_X9_undo c_latest c_asked c_upper c_lower c_n c_readAt c_readMany c_readFood c_isHead c_backMany c_deedMany c_whole c_wellSum c_strongSum c_hash c_now c_log) (C_X9_in a0 (0 : Int32) c_deedMany hv1) nS_X9_in ml_X9_92 rfl rfl rfl rfl rfl rfl rfl [0, 1, 2] 3 rfl rfl rfl rfl rfl ⟨Nat.le_of_ble_eq_true rfl, Nat.le_of_ble_eq_true rfl⟩ (Nat.le_of_ble_eq_true rfl) dX9_undo_6 [.int v1] rfl ?_
  refine gg_if_ne 14 dX9_undo_9 (by decide) (fun hc => ?_) (fun hc => ?_)
  · replace h := gg_el h hc
    refine gg_aload_n dX9_undo_14 rfl ?_
    refine gg_get 0 fl_X9_157 dX9_undo_15 rfl rfl ?_
    refine gg_iload_n dX9_undo_18 rfl ?_
    refine gg_isub dX9_undo_19 ?_
    refine gg_istore_n [some (.ref 0), some (.int a0), some (.int (c_deedMany - a0)), none] dX9_undo_20 rfl (Nat.le_of_ble_eq_true rfl) rfl ?_
    refine gg_iconst (0 : Int32) dX9_undo_21 (by decide) ?_
    refine gg_istore_n [some (.ref 0), some (.int a0), some (.int (c_deedMany - a0)), some (.int (0 : Int32))] dX9_undo_22 rfl (Nat.le_of_ble_eq_true rfl) rfl ?_
    refine lq_X9_undo_23 a0 (c_deedMany - a0) c_latest c_asked c_upper c_lower c_n c_readAt c_readMany c_readFood c_isHead c_backMany c_deedMany c_whole c_wellSum c_strongSum c_hash c_log _ ?_ gg_fuel (0 : Int32) c_now h
    intro c_now_56 h
    refine gg_aload_n dX9_undo_56 rfl ?_
    refine gg_iload_n dX9_undo_57 rfl ?_
    refine gg_putf 0 (wd_X9_undo c_latest c_asked c_upper c_lower c_n c_readAt c_readMany c_readFood c_isHead c_backMany a0 c_whole c_wellSum c_strongSum c_hash c_now_56 c_log) fl_X9_157 dX9_undo_58 rfl (Nat.le_of_ble_eq_true rfl) (fun _ => ⟨rfl, rfl⟩) rfl ?_
    refine gg_iload_n dX9_undo_61 rfl ?_
    cases h
    exact gg_iret dX9_undo_62 rfl
  · replace h := gg_th h hc
    refine gg_iconst (-1 : Int32) dX9_undo_12 (by decide) ?_
    cases h
    exact gg_iret dX9_undo_13 rfl
def wd_X9_keep (c_latest : Int32) (c_asked : Int32) (c_upper : Int64) (c_lower : Int64) (c_n : Int32) (c_readAt : Int32) (c_readMany : Int32) (c_readFood : Int32) (c_isHead : Int32) (c_backMany : Int32) (c_deedMany : Int32) (c_whole : Int64) (c_wellSum : Int64) (c_strongSum : Int64) (c_hash : Int64) (c_now : Nat → Int32) (c_log : Nat → Int32) (c_isKept : Nat → Int32) (c_keptMany : Nat → Int32) (c_keptNow : Nat → Int32) (c_keptLog : Nat → Int32) : va_W := [(0, .inr (8, [.int c_latest, .ref 1, .int c_asked, .long c_upper, .long c_lower, .ref 2, .ref 3, .ref 4, .ref 5, .ref 6, .int c_n, .ref 7, .ref 8, .ref 9, .ref 10, .int c_readAt, .int c_readMany, .int c_readFood, .int c_isHead, .ref 11, .ref 12, .ref 13, .int c_backMany, .int c_deedMany, .ref 14, .ref 15, .ref 16, .ref 17, .ref 18, .ref 19, .ref 20, .ref 21, .ref 22, .ref 23, .ref 24, .long c_whole, .long c_wellSum, .long c_strongSum, .long c_hash])), (9, .inl (0, 26, .inl c_now)), (14, .inl (0, 1040, .inl c_log)), (15, .inl (2, 3, .inl c_isKept)), (16, .inl (0, 3, .inl c_keptMany)), (17, .inl (0, 78, .inl c_keptNow)), (18, .inl (0, 3120, .inl c_keptLog))]
def MD_X9_keep : gg_M := (yX9_keep, cX9_keep, 3, some .int, 1, 22)
theorem nV_X9_keep : gg_nV MD_X9_keep 1 := ⟨⟨gg_mem (by decide +kernel) rfl, gg_mem cw_X9_keep rfl, by decide, by decide, by decide +kernel⟩, gg_mem (by decide +kernel) rfl, gg_mem (by decide +kernel) rfl⟩
def lp_X9_keep_40 {β : Type} (y1 : Int32) (c_now : Nat → Int32) (k69 : (Nat → Int32) → Option β) : Nat → (Int32) → (Nat → Int32) → Option β
  | 0, _, _ => none
  | n + 1, x2_40, c_keptNow_40 => (if (26 : Int32) ≤ x2_40 then (k69 c_keptNow_40) else gg_chk (gg_in x2_40 26) (gg_chk (gg_in (((26 : Int32) * y1) + x2_40) 78) ((lp_X9_keep_40 y1 c_now k69 n (x2_40 + (1 : Int32)) (upd c_keptNow_40 (((26 : Int32) * y1) + x2_40).toNatClampNeg (c_now x2_40.toNatClampNeg))))))
def lp_X9_keep_71 {β : Type} (y1 : Int32) (c_deedMany : Int32) (c_log : Nat → Int32) (k106 : (Nat → Int32) → Option β) : Nat → (Int32) → (Nat → Int32) → Option β
  | 0, _, _ => none
  | n + 1, x2_71, c_keptLog_71 => (if ((26 : Int32) * c_deedMany) ≤ x2_71 then (k106 c_keptLog_71) else gg_chk (gg_in x2_71 1040) (gg_chk (gg_in (((1040 : Int32) * y1) + x2_71) 3120) ((lp_X9_keep_71 y1 c_deedMany c_log k106 n (x2_71 + (1 : Int32)) (upd c_keptLog_71 (((1040 : Int32) * y1) + x2_71).toNatClampNeg (c_log x2_71.toNatClampNeg))))))
def f_X9_keep (a0 : Int32) (c_n : Int32) (c_deedMany : Int32) (c_now : Nat → Int32) (c_log : Nat → Int32) (c_isKept : Nat → Int32) (c_keptMany : Nat → Int32) (c_keptNow : Nat → Int32) (c_keptLog : Nat → Int32) : Option (Int32 × (Nat → Int32) × (Nat → Int32) × (Nat → Int32) × (Nat → Int32)) := (f_X9_in a0 (0 : Int32) (2 : Int32)).bind (fun v1 => (if v1 = (0 : Int32) then (some ((-1 : Int32), c_isKept, c_keptMany, c_keptNow, c_keptLog)) else (if c_n = (0 : Int32) then (some ((-4 : Int32), c_isKept, c_keptMany, c_keptNow, c_keptLog)) else gg_chk (gg_in a0 3) (gg_chk (gg_in a0 3) ((lp_X9_keep_40 a0 c_now (fun (c_keptNow_69 : Nat → Int32) => (lp_X9_keep_71 a0 c_deedMany c_log (fun (c_keptLog_106 : Nat → Int32) => (some (c_deedMany, (upd c_isKept a0.toNatClampNeg (vp_nar .boolean (1 : Int32))), (upd c_keptMany a0.toNatClampNeg c_deedMany), c_keptNow_69, c_keptLog_106))) gg_fuel (0 : Int32) c_keptLog)) gg_fuel (0 : Int32) c_keptNow))))))
set_option maxRecDepth 20000 in
set_option maxHeartbeats 4000000 in
theorem lq_X9_keep_40 {β : Type} {res : β} {rr : Option Value} {ww : va_W} (y1 : Int32) (c_latest : Int32) (c_asked : Int32) (c_upper : Int64) (c_lower : Int64) (c_n : Int32) (c_readAt : Int32) (c_readMany : Int32) (c_readFood : Int32) (c_isHead : Int32) (c_backMany : Int32) (c_deedMany : Int32) (c_whole : Int64) (c_wellSum : Int64) (c_strongSum : Int64) (c_hash : Int64) (c_now : Nat → Int32) (c_log : Nat → Int32) (c_isKept : Nat → Int32) (c_keptMany : Nat → Int32) (c_keptLog : Nat → Int32) (k69 : (Nat → Int32) → Option β) (hk69 : ∀ (c_keptNow_69 : Nat → Int32), k69 c_keptNow_69 = some res → gg_G MD_X9_keep 69 [some (.ref 0), some (.int y1), none] [] (wd_X9_keep c_latest c_asked c_upper c_lower c_n c_readAt c_readMany c_readFood c_isHead c_backMany c_deedMany c_whole c_wellSum c_strongSum c_hash c_now c_log c_isKept c_keptMany c_keptNow_69 c_keptLog) rr ww) : ∀ (n : Nat) (x2_40 : Int32) (c_keptNow_40 : Nat → Int32), lp_X9_keep_40 y1 c_now k69 n x2_40 c_keptNow_40 = some res → gg_G MD_X9_keep 40 [some (.ref 0), some (.int y1), some (.int x2_40)] [] (wd_X9_keep c_latest c_asked c_upper c_lower c_n c_readAt c_readMany c_readFood c_isHead c_backMany c_deedMany c_whole c_wellSum c_strongSum c_hash c_now c_log c_isKept c_keptMany c_keptNow_40 c_keptLog) rr ww := by
  intro n
  induction n with
  | zero =>
    intro x2_40 c_keptNow_40 h
    exact nomatch (show (none : Option β) = some res from h)
  | succ n ih =>
    intro x2_40 c_keptNow_40 h
    rw [lp_X9_keep_40] at h
    refine gg_iload_n dX9_keep_40 rfl ?_
    refine gg_bipush (26 : Int32) dX9_keep_41 (by decide) ?_
    refine gg_icmp_ge 69 dX9_keep_43 (by decide) (fun hc => ?_) (fun hc => ?_)
    · replace h := gg_th h hc
      refine gg_fg [true, true, false] [some (.ref 0), some (.int y1), none] rfl ?_
      exact hk69 c_keptNow_40 h
    · replace h := gg_el h hc
      refine gg_aload_n dX9_keep_46 rfl ?_
      refine gg_get 0 fl_X9_64 dX9_keep_47 rfl rfl ?_
      refine gg_bipush (26 : Int32) dX9_keep_50 (by decide) ?_
      refine gg_iload_n dX9_keep_52 rfl ?_
      refine gg_imul dX9_keep_53 ?_
      refine gg_iload_n dX9_keep_54 rfl ?_
      refine gg_iadd dX9_keep_55 ?_
      refine gg_aload_n dX9_keep_56 rfl ?_
      refine gg_get 0 fl_X9_39 dX9_keep_57 rfl rfl ?_
      refine gg_iload_n dX9_keep_60 rfl ?_
      obtain ⟨hb61, h⟩ := gg_ck h
      refine gg_iald 1 dX9_keep_61 rfl hb61 ?_
      obtain ⟨hb62, h⟩ := gg_ck h
      refine gg_iast 5 (wd_X9_keep c_latest c_asked c_upper c_lower c_n c_readAt c_readMany c_readFood c_isHead c_backMany c_deedMany c_whole c_wellSum c_strongSum c_hash c_now c_log c_isKept c_keptMany (upd c_keptNow_40 (((26 : Int32) * y1) + x2_40).toNatClampNeg (c_now x2_40.toNatClampNeg)) c_keptLog) dX9_keep_62 rfl hb62 rfl ?_
      refine gg_iinc (x2_40 + (1 : Int32)) [some (.ref 0), some (.int y1), some (.int (x2_40 + (1 : Int32)))] dX9_keep_63 rfl rfl rfl (Nat.le_of_ble_eq_true rfl) rfl ?_
      refine gg_goto 40 dX9_keep_66 (by decide) ?_
      exact ih (x2_40 + (1 : Int32)) (upd c_keptNow_40 (((26 : Int32) * y1) + x2_40).toNatClampNeg (c_now x2_40.toNatClampNeg)) h
set_option maxRecDepth 20000 in
set_option maxHeartbeats 4000000 in
theorem lq_X9_keep_71 {β : Type} {res : β} {rr : Option Value} {ww : va_W} (y1 : Int32) (c_latest : Int32) (c_asked : Int32) (c_upper : Int64) (c_lower : Int64) (c_n : Int32) (c_readAt : Int32) (c_readMany : Int32) (c_readFood : Int32) (c_isHead : Int32) (c_backMany : Int32) (c_deedMany : Int32) (c_whole : Int64) (c_wellSum : Int64) (c_strongSum : Int64) (c_hash : Int64) (c_now : Nat → Int32) (c_log : Nat → Int32) (c_isKept : Nat → Int32) (c_keptMany : Nat → Int32) (c_keptNow : Nat → Int32) (k106 : (Nat → Int32) → Option β) (hk106 : ∀ (c_keptLog_106 : Nat → Int32), k106 c_keptLog_106 = some res → gg_G MD_X9_keep 106 [some (.ref 0), none, none] [] (wd_X9_keep c_latest c_asked c_upper c_lower c_n c_readAt c_readMany c_readFood c_isHead c_backMany c_deedMany c_whole c_wellSum c_strongSum c_hash c_now c_log c_isKept c_keptMany c_keptNow c_keptLog_106) rr ww) : ∀ (n : Nat) (x2_71 : Int32) (c_keptLog_71 : Nat → Int32), lp_X9_keep_71 y1 c_deedMany c_log k106 n x2_71 c_keptLog_71 = some res → gg_G MD_X9_keep 71 [some (.ref 0), some (.int y1), some (.int x2_71)] [] (wd_X9_keep c_latest c_asked c_upper c_lower c_n c_readAt c_readMany c_readFood c_isHead c_backMany c_deedMany c_whole c_wellSum c_strongSum c_hash c_now c_log c_isKept c_keptMany c_keptNow c_keptLog_71) rr ww := by
  intro n
  induction n with
  | zero =>
    intro x2_71 c_keptLog_71 h
    exact nomatch (show (none : Option β) = some res from h)
  | succ n ih =>
    intro x2_71 c_keptLog_71 h
    rw [lp_X9_keep_71] at h
    refine gg_iload_n dX9_keep_71 rfl ?_
    refine gg_bipush (26 : Int32) dX9_keep_72 (by decide) ?_
    refine gg_aload_n dX9_keep_74 rfl ?_
    refine gg_get 0 fl_X9_157 dX9_keep_75 rfl rfl ?_
    refine gg_imul dX9_keep_78 ?_
    refine gg_icmp_ge 106 dX9_keep_79 (by decide) (fun hc => ?_) (fun hc => ?_)
    · replace h := gg_th h hc
      refine gg_fg [true, false, false] [some (.ref 0), none, none] rfl ?_
      exact hk106 c_keptLog_71 h
    · replace h := gg_el h hc
      refine gg_aload_n dX9_keep_82 rfl ?_
      refine gg_get 0 fl_X9_67 dX9_keep_83 rfl rfl ?_
      refine gg_sipush (1040 : Int32) dX9_keep_86 (by decide) ?_
      refine gg_iload_n dX9_keep_89 rfl ?_
      refine gg_imul dX9_keep_90 ?_
      refine gg_iload_n dX9_keep_91 rfl ?_
      refine gg_iadd dX9_keep_92 ?_
      refine gg_aload_n dX9_keep_93 rfl ?_
      refine gg_get 0 fl_X9_54 dX9_keep_94 rfl rfl ?_
      refine gg_iload_n dX9_keep_97 rfl ?_
      obtain ⟨hb98, h⟩ := gg_ck h
      refine gg_iald 2 dX9_keep_98 rfl hb98 ?_
      obtain ⟨hb99, h⟩ := gg_ck h
      refine gg_iast 6 (wd_X9_keep c_latest c_asked c_upper c_lower c_n c_readAt c_readMany c_readFood c_isHead c_backMany c_deedMany c_whole c_wellSum c_strongSum c_hash c_now c_log c_isKept c_keptMany c_keptNow (upd c_keptLog_71 (((1040 : Int32) * y1) + x2_71).toNatClampNeg (c_log x2_71.toNatClampNeg))) dX9_keep_99 rfl hb99 rfl ?_
      refine gg_iinc (x2_71 + (1 : Int32)) [some (.ref 0), some (.int y1), some (.int (x2_71 + (1 : Int32)))] dX9_keep_100 rfl rfl rfl (Nat.le_of_ble_eq_true rfl) rfl ?_
      refine gg_goto 71 dX9_keep_103 (by decide) ?_
      exact ih (x2_71 + (1 : Int32)) (upd c_keptLog_71 (((1040 : Int32) * y1) + x2_71).toNatClampNeg (c_log x2_71.toNatClampNeg)) h
set_option maxRecDepth 20000 in
set_option maxHeartbeats 8000000 in
theorem C_X9_keep (a0 : Int32) (c_latest : Int32) (c_asked : Int32) (c_upper : Int64) (c_lower : Int64) (c_n : Int32) (c_readAt : Int32) (c_readMany : Int32) (c_readFood : Int32) (c_isHead : Int32) (c_backMany : Int32) (c_deedMany : Int32) (c_whole : Int64) (c_wellSum : Int64) (c_strongSum : Int64) (c_hash : Int64) (c_now : Nat → Int32) (c_log : Nat → Int32) (c_isKept : Nat → Int32) (c_keptMany : Nat → Int32) (c_keptNow : Nat → Int32) (c_keptLog : Nat → Int32) {r0 : Int32} {r1 : (Nat → Int32)} {r2 : (Nat → Int32)} {r3 : (Nat → Int32)} {r4 : (Nat → Int32)} (h : f_X9_keep a0 c_n c_deedMany c_now c_log c_isKept c_keptMany c_keptNow c_keptLog = some (r0, r1, r2, r3, r4)) : gg_C MD_X9_keep [.ref 0, .int a0] (wd_X9_keep c_latest c_asked c_upper c_lower c_n c_readAt c_readMany c_readFood c_isHead c_backMany c_deedMany c_whole c_wellSum c_strongSum c_hash c_now c_log c_isKept c_keptMany c_keptNow c_keptLog) (some (.int r0)) (wd_X9_keep c_latest c_asked c_upper c_lower c_n c_readAt c_readMany c_readFood c_isHead c_backMany c_deedMany c_whole c_wellSum c_strongSum c_hash c_now c_log r1 r2 r3 r4) := by
  refine gg_ofG [some (.ref 0), some (.int a0), none] (plainFor_of_name (by decide)) (Nat.le_of_ble_eq_true rfl) rfl ?_
  unfold f_X9_keep at h
  refine gg_iload_n dX9_keep_0 rfl ?_
  refine gg_iconst (0 : Int32) dX9_keep_1 (by decide) ?_
  refine gg_iconst (2 : Int32) dX9_keep_2 (by decide) ?_
  obtain ⟨v1, hv1, h⟩ := gg_bd h
  refine gg_callS (gg_sg []) [] (wd_X9_keep c_latest c_asked c_upper c_lower c_n c_readAt c_readMany c_readFood c_isHead c_backMany c_deedMany c_whole c_wellSum c_strongSum c_hash c_now c_log c_isKept c_keptMany c_keptNow c_keptLog) (C_X9_in a0 (0 : Int32) (2 : Int32) hv1) nS_X9_in ml_X9_92 rfl rfl rfl rfl rfl rfl rfl [0, 1, 2, 3, 4, 5, 6] 7 rfl rfl rfl rfl rfl ⟨Nat.le_of_ble_eq_true rfl, Nat.le_of_ble_eq_true rfl⟩ (Nat.le_of_ble_eq_true rfl) dX9_keep_3 [.int v1] rfl ?_
  refine gg_if_ne 11 dX9_keep_6 (by decide) (fun hc => ?_) (fun hc => ?_)
  · replace h := gg_el h hc
    refine gg_aload_n dX9_keep_11 rfl ?_
    refine gg_get 0 fl_X9_154 dX9_keep_12 rfl rfl ?_
    refine gg_if_ne 21 dX9_keep_15 (by decide) (fun hc => ?_) (fun hc => ?_)
    · replace h := gg_el h hc
      refine gg_aload_n dX9_keep_21 rfl ?_
      refine gg_get 0 fl_X9_57 dX9_keep_22 rfl rfl ?_
      refine gg_iload_n dX9_keep_25 rfl ?_
      refine gg_iconst (1 : Int32) dX9_keep_26 (by decide) ?_
      obtain ⟨hb27, h⟩ := gg_ck h
      refine gg_zast 3 (wd_X9_keep c_latest c_asked c_upper c_lower c_n c_readAt c_readMany c_readFood c_isHead c_backMany c_deedMany c_whole c_wellSum c_strongSum c_hash c_now c_log (upd c_isKept a0.toNatClampNeg (vp_nar .boolean (1 : Int32))) c_keptMany c_keptNow c_keptLog) dX9_keep_27 rfl hb27 rfl ?_
      refine gg_aload_n dX9_keep_28 rfl ?_
      refine gg_get 0 fl_X9_61 dX9_keep_29 rfl rfl ?_
      refine gg_iload_n dX9_keep_32 rfl ?_
      refine gg_aload_n dX9_keep_33 rfl ?_
      refine gg_get 0 fl_X9_157 dX9_keep_34 rfl rfl ?_
      obtain ⟨hb37, h⟩ := gg_ck h
      refine gg_iast 4 (wd_X9_keep c_latest c_asked c_upper c_lower c_n c_readAt c_readMany c_readFood c_isHead c_backMany c_deedMany c_whole c_wellSum c_strongSum c_hash c_now c_log (upd c_isKept a0.toNatClampNeg (vp_nar .boolean (1 : Int32))) (upd c_keptMany a0.toNatClampNeg c_deedMany) c_keptNow c_keptLog) dX9_keep_37 rfl hb37 rfl ?_
      refine gg_iconst (0 : Int32) dX9_keep_38 (by decide) ?_
      refine gg_istore_n [some (.ref 0), some (.int a0), some (.int (0 : Int32))] dX9_keep_39 rfl (Nat.le_of_ble_eq_true rfl) rfl ?_
      refine lq_X9_keep_40 a0 c_latest c_asked c_upper c_lower c_n c_readAt c_readMany c_readFood c_isHead c_backMany c_deedMany c_whole c_wellSum c_strongSum c_hash c_now c_log (upd c_isKept a0.toNatClampNeg (vp_nar .boolean (1 : Int32))) (upd c_keptMany a0.toNatClampNeg c_deedMany) c_keptLog _ ?_ gg_fuel (0 : Int32) c_keptNow h
      intro c_keptNow_69 h
      refine gg_iconst (0 : Int32) dX9_keep_69 (by decide) ?_
      refine gg_istore_n [some (.ref 0), some (.int a0), some (.int (0 : Int32))] dX9_keep_70 rfl (Nat.le_of_ble_eq_true rfl) rfl ?_
      refine lq_X9_keep_71 a0 c_latest c_asked c_upper c_lower c_n c_readAt c_readMany c_readFood c_isHead c_backMany c_deedMany c_whole c_wellSum c_strongSum c_hash c_now c_log (upd c_isKept a0.toNatClampNeg (vp_nar .boolean (1 : Int32))) (upd c_keptMany a0.toNatClampNeg c_deedMany) c_keptNow_69 _ ?_ gg_fuel (0 : Int32) c_keptLog h
      intro c_keptLog_106 h
      refine gg_aload_n dX9_keep_106 rfl ?_
      refine gg_get 0 fl_X9_157 dX9_keep_107 rfl rfl ?_
      cases h
      exact gg_iret dX9_keep_110 rfl
    · replace h := gg_th h hc
      refine gg_bipush (-4 : Int32) dX9_keep_18 (by decide) ?_
      cases h
      exact gg_iret dX9_keep_20 rfl
  · replace h := gg_th h hc
    refine gg_iconst (-1 : Int32) dX9_keep_9 (by decide) ?_
    cases h
    exact gg_iret dX9_keep_10 rfl
def wd_X9_on (c_latest : Int32) (c_asked : Int32) (c_upper : Int64) (c_lower : Int64) (c_n : Int32) (c_readAt : Int32) (c_readMany : Int32) (c_readFood : Int32) (c_isHead : Int32) (c_backMany : Int32) (c_deedMany : Int32) (c_whole : Int64) (c_wellSum : Int64) (c_strongSum : Int64) (c_hash : Int64) (c_came : Nat → Int32) (c_now : Nat → Int32) (c_log : Nat → Int32) (c_isKept : Nat → Int32) (c_keptMany : Nat → Int32) (c_keptNow : Nat → Int32) (c_keptLog : Nat → Int32) : va_W := [(0, .inr (8, [.int c_latest, .ref 1, .int c_asked, .long c_upper, .long c_lower, .ref 2, .ref 3, .ref 4, .ref 5, .ref 6, .int c_n, .ref 7, .ref 8, .ref 9, .ref 10, .int c_readAt, .int c_readMany, .int c_readFood, .int c_isHead, .ref 11, .ref 12, .ref 13, .int c_backMany, .int c_deedMany, .ref 14, .ref 15, .ref 16, .ref 17, .ref 18, .ref 19, .ref 20, .ref 21, .ref 22, .ref 23, .ref 24, .long c_whole, .long c_wellSum, .long c_strongSum, .long c_hash])), (1, .inl (0, 6, .inl c_came)), (9, .inl (0, 26, .inl c_now)), (14, .inl (0, 1040, .inl c_log)), (15, .inl (2, 3, .inl c_isKept)), (16, .inl (0, 3, .inl c_keptMany)), (17, .inl (0, 78, .inl c_keptNow)), (18, .inl (0, 3120, .inl c_keptLog))]
def MD_X9_on : gg_M := (yX9_on, cX9_on, 3, some .int, 1, 22)
theorem nV_X9_on : gg_nV MD_X9_on 1 := ⟨⟨gg_mem (by decide +kernel) rfl, gg_mem cw_X9_on rfl, by decide, by decide, by decide +kernel⟩, gg_mem (by decide +kernel) rfl, gg_mem (by decide +kernel) rfl⟩
def lp_X9_on_38 {β : Type} (y1 : Int32) (c_keptNow : Nat → Int32) (k67 : (Nat → Int32) → Option β) : Nat → (Int32) → (Nat → Int32) → Option β
  | 0, _, _ => none
  | n + 1, x2_38, c_now_38 => (if (26 : Int32) ≤ x2_38 then (k67 c_now_38) else gg_chk (gg_in (((26 : Int32) * y1) + x2_38) 78) (gg_chk (gg_in x2_38 26) ((lp_X9_on_38 y1 c_keptNow k67 n (x2_38 + (1 : Int32)) (upd c_now_38 x2_38.toNatClampNeg (c_keptNow (((26 : Int32) * y1) + x2_38).toNatClampNeg))))))
def lp_X9_on_69 {β : Type} (y1 : Int32) (c_deedMany : Int32) (c_keptLog : Nat → Int32) (k104 : (Nat → Int32) → Option β) : Nat → (Int32) → (Nat → Int32) → Option β
  | 0, _, _ => none
  | n + 1, x2_69, c_log_69 => (if ((26 : Int32) * c_deedMany) ≤ x2_69 then (k104 c_log_69) else gg_chk (gg_in (((1040 : Int32) * y1) + x2_69) 3120) (gg_chk (gg_in x2_69 1040) ((lp_X9_on_69 y1 c_deedMany c_keptLog k104 n (x2_69 + (1 : Int32)) (upd c_log_69 x2_69.toNatClampNeg (c_keptLog (((1040 : Int32) * y1) + x2_69).toNatClampNeg))))))
def f_X9_on (a0 : Int32) (c_latest : Int32) (c_deedMany : Int32) (c_came : Nat → Int32) (c_now : Nat → Int32) (c_log : Nat → Int32) (c_isKept : Nat → Int32) (c_keptMany : Nat → Int32) (c_keptNow : Nat → Int32) (c_keptLog : Nat → Int32) : Option (Int32 × (Int32) × (Int32) × (Nat → Int32) × (Nat → Int32) × (Nat → Int32)) := (f_X9_in a0 (0 : Int32) (2 : Int32)).bind (fun v1 => (if v1 = (0 : Int32) then (some ((-1 : Int32), c_latest, c_deedMany, c_came, c_now, c_log)) else gg_chk (gg_in a0 3) ((if (c_isKept a0.toNatClampNeg) = (0 : Int32) then gg_b3 (f_X9_meets (1 : Int32) c_latest c_came) (fun v2_0 v2_1 v2_2 => (some (v2_0, v2_1, c_deedMany, v2_2, c_now, c_log))) else gg_chk (gg_in a0 3) ((lp_X9_on_38 a0 c_keptNow (fun (c_now_67 : Nat → Int32) => (lp_X9_on_69 a0 (c_keptMany a0.toNatClampNeg) c_keptLog (fun (c_log_104 : Nat → Int32) => (some ((c_keptMany a0.toNatClampNeg), c_latest, (c_keptMany a0.toNatClampNeg), c_came, c_now_67, c_log_104))) gg_fuel (0 : Int32) c_log)) gg_fuel (0 : Int32) c_now))))))
set_option maxRecDepth 20000 in
set_option maxHeartbeats 4000000 in
theorem lq_X9_on_38 {β : Type} {res : β} {rr : Option Value} {ww : va_W} (y1 : Int32) (c_latest : Int32) (c_asked : Int32) (c_upper : Int64) (c_lower : Int64) (c_n : Int32) (c_readAt : Int32) (c_readMany : Int32) (c_readFood : Int32) (c_isHead : Int32) (c_backMany : Int32) (c_deedMany : Int32) (c_whole : Int64) (c_wellSum : Int64) (c_strongSum : Int64) (c_hash : Int64) (c_came : Nat → Int32) (c_log : Nat → Int32) (c_isKept : Nat → Int32) (c_keptMany : Nat → Int32) (c_keptNow : Nat → Int32) (c_keptLog : Nat → Int32) (k67 : (Nat → Int32) → Option β) (hk67 : ∀ (c_now_67 : Nat → Int32), k67 c_now_67 = some res → gg_G MD_X9_on 67 [some (.ref 0), some (.int y1), none] [] (wd_X9_on c_latest c_asked c_upper c_lower c_n c_readAt c_readMany c_readFood c_isHead c_backMany c_deedMany c_whole c_wellSum c_strongSum c_hash c_came c_now_67 c_log c_isKept c_keptMany c_keptNow c_keptLog) rr ww) : ∀ (n : Nat) (x2_38 : Int32) (c_now_38 : Nat → Int32), lp_X9_on_38 y1 c_keptNow k67 n x2_38 c_now_38 = some res → gg_G MD_X9_on 38 [some (.ref 0), some (.int y1), some (.int x2_38)] [] (wd_X9_on c_latest c_asked c_upper c_lower c_n c_readAt c_readMany c_readFood c_isHead c_backMany c_deedMany c_whole c_wellSum c_strongSum c_hash c_came c_now_38 c_log c_isKept c_keptMany c_keptNow c_keptLog) rr ww := by
  intro n
  induction n with
  | zero =>
    intro x2_38 c_now_38 h
    exact nomatch (show (none : Option β) = some res from h)
  | succ n ih =>
    intro x2_38 c_now_38 h
    rw [lp_X9_on_38] at h
    refine gg_iload_n dX9_on_38 rfl ?_
    refine gg_bipush (26 : Int32) dX9_on_39 (by decide) ?_
    refine gg_icmp_ge 67 dX9_on_41 (by decide) (fun hc => ?_) (fun hc => ?_)
    · replace h := gg_th h hc
      refine gg_fg [true, true, false] [some (.ref 0), some (.int y1), none] rfl ?_
      exact hk67 c_now_38 h
    · replace h := gg_el h hc
      refine gg_aload_n dX9_on_44 rfl ?_
      refine gg_get 0 fl_X9_39 dX9_on_45 rfl rfl ?_
      refine gg_iload_n dX9_on_48 rfl ?_
      refine gg_aload_n dX9_on_49 rfl ?_
      refine gg_get 0 fl_X9_64 dX9_on_50 rfl rfl ?_
      refine gg_bipush (26 : Int32) dX9_on_53 (by decide) ?_
      refine gg_iload_n dX9_on_55 rfl ?_
      refine gg_imul dX9_on_56 ?_
      refine gg_iload_n dX9_on_57 rfl ?_
      refine gg_iadd dX9_on_58 ?_
      obtain ⟨hb59, h⟩ := gg_ck h
      refine gg_iald 6 dX9_on_59 rfl hb59 ?_
      obtain ⟨hb60, h⟩ := gg_ck h
      refine gg_iast 2 (wd_X9_on c_latest c_asked c_upper c_lower c_n c_readAt c_readMany c_readFood c_isHead c_backMany c_deedMany c_whole c_wellSum c_strongSum c_hash c_came (upd c_now_38 x2_38.toNatClampNeg (c_keptNow (((26 : Int32) * y1) + x2_38).toNatClampNeg)) c_log c_isKept c_keptMany c_keptNow c_keptLog) dX9_on_60 rfl hb60 rfl ?_
      refine gg_iinc (x2_38 + (1 : Int32)) [some (.ref 0), some (.int y1), some (.int (x2_38 + (1 : Int32)))] dX9_on_61 rfl rfl rfl (Nat.le_of_ble_eq_true rfl) rfl ?_
      refine gg_goto 38 dX9_on_64 (by decide) ?_
      exact ih (x2_38 + (1 : Int32)) (upd c_now_38 x2_38.toNatClampNeg (c_keptNow (((26 : Int32) * y1) + x2_38).toNatClampNeg)) h
set_option maxRecDepth 20000 in
set_option maxHeartbeats 4000000 in
theorem lq_X9_on_69 {β : Type} {res : β} {rr : Option Value} {ww : va_W} (y1 : Int32) (c_latest : Int32) (c_asked : Int32) (c_upper : Int64) (c_lower : Int64) (c_n : Int32) (c_readAt : Int32) (c_readMany : Int32) (c_readFood : Int32) (c_isHead : Int32) (c_backMany : Int32) (c_deedMany : Int32) (c_whole : Int64) (c_wellSum : Int64) (c_strongSum : Int64) (c_hash : Int64) (c_came : Nat → Int32) (c_now : Nat → Int32) (c_isKept : Nat → Int32) (c_keptMany : Nat → Int32) (c_keptNow : Nat → Int32) (c_keptLog : Nat → Int32) (k104 : (Nat → Int32) → Option β) (hk104 : ∀ (c_log_104 : Nat → Int32), k104 c_log_104 = some res → gg_G MD_X9_on 104 [some (.ref 0), none, none] [] (wd_X9_on c_latest c_asked c_upper c_lower c_n c_readAt c_readMany c_readFood c_isHead c_backMany c_deedMany c_whole c_wellSum c_strongSum c_hash c_came c_now c_log_104 c_isKept c_keptMany c_keptNow c_keptLog) rr ww) : ∀ (n : Nat) (x2_69 : Int32) (c_log_69 : Nat → Int32), lp_X9_on_69 y1 c_deedMany c_keptLog k104 n x2_69 c_log_69 = some res → gg_G MD_X9_on 69 [some (.ref 0), some (.int y1), some (.int x2_69)] [] (wd_X9_on c_latest c_asked c_upper c_lower c_n c_readAt c_readMany c_readFood c_isHead c_backMany c_deedMany c_whole c_wellSum c_strongSum c_hash c_came c_now c_log_69 c_isKept c_keptMany c_keptNow c_keptLog) rr ww := by
  intro n
  induction n with
  | zero =>
    intro x2_69 c_log_69 h
    exact nomatch (show (none : Option β) = some res from h)
  | succ n ih =>
    intro x2_69 c_log_69 h
    rw [lp_X9_on_69] at h
    refine gg_iload_n dX9_on_69 rfl ?_
    refine gg_bipush (26 : Int32) dX9_on_70 (by decide) ?_
    refine gg_aload_n dX9_on_72 rfl ?_
    refine gg_get 0 fl_X9_157 dX9_on_73 rfl rfl ?_
    refine gg_imul dX9_on_76 ?_
    refine gg_icmp_ge 104 dX9_on_77 (by decide) (fun hc => ?_) (fun hc => ?_)
    · replace h := gg_th h hc
      refine gg_fg [true, false, false] [some (.ref 0), none, none] rfl ?_
      exact hk104 c_log_69 h
    · replace h := gg_el h hc
      refine gg_aload_n dX9_on_80 rfl ?_
      refine gg_get 0 fl_X9_54 dX9_on_81 rfl rfl ?_
      refine gg_iload_n dX9_on_84 rfl ?_
      refine gg_aload_n dX9_on_85 rfl ?_
      refine gg_get 0 fl_X9_67 dX9_on_86 rfl rfl ?_
      refine gg_sipush (1040 : Int32) dX9_on_89 (by decide) ?_
      refine gg_iload_n dX9_on_92 rfl ?_
      refine gg_imul dX9_on_93 ?_
      refine gg_iload_n dX9_on_94 rfl ?_
      refine gg_iadd dX9_on_95 ?_
      obtain ⟨hb96, h⟩ := gg_ck h
      refine gg_iald 7 dX9_on_96 rfl hb96 ?_
      obtain ⟨hb97, h⟩ := gg_ck h
      refine gg_iast 3 (wd_X9_on c_latest c_asked c_upper c_lower c_n c_readAt c_readMany c_readFood c_isHead c_backMany c_deedMany c_whole c_wellSum c_strongSum c_hash c_came c_now (upd c_log_69 x2_69.toNatClampNeg (c_keptLog (((1040 : Int32) * y1) + x2_69).toNatClampNeg)) c_isKept c_keptMany c_keptNow c_keptLog) dX9_on_97 rfl hb97 rfl ?_
      refine gg_iinc (x2_69 + (1 : Int32)) [some (.ref 0), some (.int y1), some (.int (x2_69 + (1 : Int32)))] dX9_on_98 rfl rfl rfl (Nat.le_of_ble_eq_true rfl) rfl ?_
      refine gg_goto 69 dX9_on_101 (by decide) ?_
      exact ih (x2_69 + (1 : Int32)) (upd c_log_69 x2_69.toNatClampNeg (c_keptLog (((1040 : Int32) * y1) + x2_69).toNatClampNeg)) h
set_option maxRecDepth 20000 in
set_option maxHeartbeats 8000000 in
theorem C_X9_on (a0 : Int32) (c_latest : Int32) (c_asked : Int32) (c_upper : Int64) (c_lower : Int64) (c_n : Int32) (c_readAt : Int32) (c_readMany : Int32) (c_readFood : Int32) (c_isHead : Int32) (c_backMany : Int32) (c_deedMany : Int32) (c_whole : Int64) (c_wellSum : Int64) (c_strongSum : Int64) (c_hash : Int64) (c_came : Nat → Int32) (c_now : Nat → Int32) (c_log : Nat → Int32) (c_isKept : Nat → Int32) (c_keptMany : Nat → Int32) (c_keptNow : Nat → Int32) (c_keptLog : Nat → Int32) {r0 : Int32} {r1 : (Int32)} {r2 : (Int32)} {r3 : (Nat → Int32)} {r4 : (Nat → Int32)} {r5 : (Nat → Int32)} (h : f_X9_on a0 c_latest c_deedMany c_came c_now c_log c_isKept c_keptMany c_keptNow c_keptLog = some (r0, r1, r2, r3, r4, r5)) : gg_C MD_X9_on [.ref 0, .int a0] (wd_X9_on c_latest c_asked c_upper c_lower c_n c_readAt c_readMany c_readFood c_isHead c_backMany c_deedMany c_whole c_wellSum c_strongSum c_hash c_came c_now c_log c_isKept c_keptMany c_keptNow c_keptLog) (some (.int r0)) (wd_X9_on r1 c_asked c_upper c_lower c_n c_readAt c_readMany c_readFood c_isHead c_backMany r2 c_whole c_wellSum c_strongSum c_hash r3 r4 r5 c_isKept c_keptMany c_keptNow c_keptLog) := by
  refine gg_ofG [some (.ref 0), some (.int a0), none] (plainFor_of_name (by decide)) (Nat.le_of_ble_eq_true rfl) rfl ?_
  unfold f_X9_on at h
  refine gg_iload_n dX9_on_0 rfl ?_
  refine gg_iconst (0 : Int32) dX9_on_1 (by decide) ?_
  refine gg_iconst (2 : Int32) dX9_on_2 (by decide) ?_
  obtain ⟨v1, hv1, h⟩ := gg_bd h
  refine gg_callS (gg_sg []) [] (wd_X9_on c_latest c_asked c_upper c_lower c_n c_readAt c_readMany c_readFood c_isHead c_backMany c_deedMany c_whole c_wellSum c_strongSum c_hash c_came c_now c_log c_isKept c_keptMany c_keptNow c_keptLog) (C_X9_in a0 (0 : Int32) (2 : Int32) hv1) nS_X9_in ml_X9_92 rfl rfl rfl rfl rfl rfl rfl [0, 1, 2, 3, 4, 5, 6, 7] 8 rfl rfl rfl rfl rfl ⟨Nat.le_of_ble_eq_true rfl, Nat.le_of_ble_eq_true rfl⟩ (Nat.le_of_ble_eq_true rfl) dX9_on_3 [.int v1] rfl ?_
  refine gg_if_ne 11 dX9_on_6 (by decide) (fun hc => ?_) (fun hc => ?_)
  · replace h := gg_el h hc
    refine gg_aload_n dX9_on_11 rfl ?_
    refine gg_get 0 fl_X9_57 dX9_on_12 rfl rfl ?_
    refine gg_iload_n dX9_on_15 rfl ?_
    obtain ⟨hb16, h⟩ := gg_ck h
    refine gg_zald 4 dX9_on_16 rfl hb16 ?_
    refine gg_if_ne 26 dX9_on_17 (by decide) (fun hc => ?_) (fun hc => ?_)
    · replace h := gg_el h hc
      refine gg_aload_n dX9_on_26 rfl ?_
      refine gg_aload_n dX9_on_27 rfl ?_
      refine gg_get 0 fl_X9_61 dX9_on_28 rfl rfl ?_
      refine gg_iload_n dX9_on_31 rfl ?_
      obtain ⟨hb32, h⟩ := gg_ck h
      refine gg_iald 5 dX9_on_32 rfl hb32 ?_
      refine gg_putf 0 (wd_X9_on c_latest c_asked c_upper c_lower c_n c_readAt c_readMany c_readFood c_isHead c_backMany (c_keptMany a0.toNatClampNeg) c_whole c_wellSum c_strongSum c_hash c_came c_now c_log c_isKept c_keptMany c_keptNow c_keptLog) fl_X9_157 dX9_on_33 rfl (Nat.le_of_ble_eq_true rfl) (fun _ => ⟨rfl, rfl⟩) rfl ?_
      refine gg_iconst (0 : Int32) dX9_on_36 (by decide) ?_
      refine gg_istore_n [some (.ref 0), some (.int a0), some (.int (0 : Int32))] dX9_on_37 rfl (Nat.le_of_ble_eq_true rfl) rfl ?_
      refine lq_X9_on_38 a0 c_latest c_asked c_upper c_lower c_n c_readAt c_readMany c_readFood c_isHead c_backMany (c_keptMany a0.toNatClampNeg) c_whole c_wellSum c_strongSum c_hash c_came c_log c_isKept c_keptMany c_keptNow c_keptLog _ ?_ gg_fuel (0 : Int32) c_now h
      intro c_now_67 h
      refine gg_iconst (0 : Int32) dX9_on_67 (by decide) ?_
      refine gg_istore_n [some (.ref 0), some (.int a0), some (.int (0 : Int32))] dX9_on_68 rfl (Nat.le_of_ble_eq_true rfl) rfl ?_
      refine lq_X9_on_69 a0 c_latest c_asked c_upper c_lower c_n c_readAt c_readMany c_readFood c_isHead c_backMany (c_keptMany a0.toNatClampNeg) c_whole c_wellSum c_strongSum c_hash c_came c_now_67 c_isKept c_keptMany c_keptNow c_keptLog _ ?_ gg_fuel (0 : Int32) c_log h
      intro c_log_104 h
      refine gg_aload_n dX9_on_104 rfl ?_
      refine gg_get 0 fl_X9_157 dX9_on_105 rfl rfl ?_
      cases h
      exact gg_iret dX9_on_108 rfl
    · replace h := gg_th h hc
      refine gg_aload_n dX9_on_20 rfl ?_
      refine gg_iconst (1 : Int32) dX9_on_21 (by decide) ?_
      obtain ⟨v2_0, v2_1, v2_2, hv2, h⟩ := gg_bd3 h
      refine gg_callV (gg_sg [0]) [0, 1] (wd_X9_on v2_1 c_asked c_upper c_lower c_n c_readAt c_readMany c_readFood c_isHead c_backMany c_deedMany c_whole c_wellSum c_strongSum c_hash v2_2 c_now c_log c_isKept c_keptMany c_keptNow c_keptLog) 0 (C_X9_meets (1 : Int32) c_latest c_asked c_upper c_lower c_n c_readAt c_readMany c_readFood c_isHead c_backMany c_deedMany c_whole c_wellSum c_strongSum c_hash c_came hv2) nV_X9_meets ml_X9_106 rfl rfl rfl rfl rfl rfl rfl rfl rfl rfl [2, 3, 4, 5, 6, 7] 8 rfl rfl rfl rfl rfl ⟨Nat.le_of_ble_eq_true rfl, Nat.le_of_ble_eq_true rfl⟩ (Nat.le_of_ble_eq_true rfl) dX9_on_22 [.int v2_0] rfl ?_
      cases h
      exact gg_iret dX9_on_25 rfl
  · replace h := gg_th h hc
    refine gg_iconst (-1 : Int32) dX9_on_9 (by decide) ?_
    cases h
    exact gg_iret dX9_on_10 rfl
def wd_X9_then (c_latest : Int32) (c_asked : Int32) (c_upper : Int64) (c_lower : Int64) (c_n : Int32) (c_readAt : Int32) (c_readMany : Int32) (c_readFood : Int32) (c_isHead : Int32) (c_backMany : Int32) (c_deedMany : Int32) (c_whole : Int64) (c_wellSum : Int64) (c_strongSum : Int64) (c_hash : Int64) (c_kindOf : Nat → Int32) (c_winds : Nat → Int32) (c_now : Nat → Int32) (c_tried : Nat → Int32) (c_back : Nat → Int32) : va_W := [(0, .inr (8, [.int c_latest, .ref 1, .int c_asked, .long c_upper, .long c_lower, .ref 2, .ref 3, .ref 4, .ref 5, .ref 6, .int c_n, .ref 7, .ref 8, .ref 9, .ref 10, .int c_readAt, .int c_readMany, .int c_readFood, .int c_isHead, .ref 11, .ref 12, .ref 13, .int c_backMany, .int c_deedMany, .ref 14, .ref 15, .ref 16, .ref 17, .ref 18, .ref 19, .ref 20, .ref 21, .ref 22, .ref 23, .ref 24, .long c_whole, .long c_wellSum, .long c_strongSum, .long c_hash])), (7, .inl (0, 6, .inl c_kindOf)), (8, .inl (0, 4, .inl c_winds)), (9, .inl (0, 26, .inl c_now)), (10, .inl (0, 26, .inl c_tried)), (13, .inl (0, 6, .inl c_back))]
def MD_X9_then : gg_M := (yX9_then, cX9_then, 4, some .int, 3, 72)
theorem nV_X9_then : gg_nV MD_X9_then 2 := ⟨⟨gg_mem (by decide +kernel) rfl, gg_mem cw_X9_then rfl, by decide, by decide, by decide +kernel⟩, gg_mem (by decide +kernel) rfl, gg_mem (by decide +kernel) rfl⟩
def lp_X9_then_26 {β : Type} (y2 : Int32) (c_n : Int32) (c_kindOf : Nat → Int32) (c_winds : Nat → Int32) (k45 : (Int32) → (Nat → Int32) → (Nat → Int32) → Option β) : Nat → (Int32) → (Int32) → (Nat → Int32) → (Nat → Int32) → Option β
  | 0, _, _, _, _ => none
  | n + 1, x3_26, c_backMany_26, c_tried_26, c_back_26 => (if y2 ≤ x3_26 then (k45 c_backMany_26 c_tried_26 c_back_26) else gg_b3 (f_X9_passes_a26 c_n c_backMany_26 c_kindOf c_winds c_back_26 c_tried_26) (fun v4_0 v4_1 v4_2 => (lp_X9_then_26 y2 c_n c_kindOf c_winds k45 n (x3_26 + (1 : Int32)) v4_0 v4_2 v4_1)))
def f_X9_then (a0 : Int32) (a1 : Int32) (c_asked : Int32) (c_n : Int32) (c_backMany : Int32) (c_kindOf : Nat → Int32) (c_winds : Nat → Int32) (c_now : Nat → Int32) (c_tried : Nat → Int32) (c_back : Nat → Int32) : Option (Int32 × (Int32) × (Int32) × (Nat → Int32) × (Nat → Int32)) := (f_X9_isHut a0 c_n).bind (fun v1 => gg_lt ((some ((-1 : Int32), c_asked, c_backMany, c_tried, c_back))) (fun k18 => (if v1 = (0 : Int32) then k18 else (f_X9_in a1 (0 : Int32) (40 : Int32)).bind (fun v2 => (if v2 = (0 : Int32) then k18 else (f_X9_copyNow c_now c_tried).bind (fun v3 => (lp_X9_then_26 a1 c_n c_kindOf c_winds (fun (c_backMany_45 : Int32) (c_tried_45 : Nat → Int32) (c_back_45 : Nat → Int32) => (f_X9_isThere_a26 a0 c_tried_45).bind (fun v5 => gg_lt (fun (s0_83 : Int32) (c_asked_83 : Int32) => (some (s0_83, c_asked_83, c_backMany_45, c_tried_45, c_back_45))) (fun k83 => (if v5 = (0 : Int32) then (k83 (-9 : Int32) c_asked) else gg_chk (gg_in ((8 : Int32) + a0) 26) (gg_chk (gg_in ((20 : Int32) + a0) 26) (gg_b2 (f_X9_tells (c_tried_45 ((8 : Int32) + a0).toNatClampNeg) (c_tried_45 ((20 : Int32) + a0).toNatClampNeg) c_asked) (fun v6_0 v6_1 => (k83 v6_0 v6_1)))))))) gg_fuel (0 : Int32) c_backMany v3 c_back)))))))
set_option maxRecDepth 20000 in
set_option maxHeartbeats 4000000 in
theorem lq_X9_then_26 {β : Type} {res : β} {rr : Option Value} {ww : va_W} (y1 : Int32) (y2 : Int32) (c_latest : Int32) (c_asked : Int32) (c_upper : Int64) (c_lower : Int64) (c_n : Int32) (c_readAt : Int32) (c_readMany : Int32) (c_readFood : Int32) (c_isHead : Int32) (c_deedMany : Int32) (c_whole : Int64) (c_wellSum : Int64) (c_strongSum : Int64) (c_hash : Int64) (c_kindOf : Nat → Int32) (c_winds : Nat → Int32) (c_now : Nat → Int32) (k45 : (Int32) → (Nat → Int32) → (Nat → Int32) → Option β) (hk45 : ∀ (c_backMany_45 : Int32) (c_tried_45 : Nat → Int32) (c_back_45 : Nat → Int32), k45 c_backMany_45 c_tried_45 c_back_45 = some res → gg_G MD_X9_then 45 [some (.ref 0), some (.int y1), none, none] [] (wd_X9_then c_latest c_asked c_upper c_lower c_n c_readAt c_readMany c_readFood c_isHead c_backMany_45 c_deedMany c_whole c_wellSum c_strongSum c_hash c_kindOf c_winds c_now c_tried_45 c_back_45) rr ww) : ∀ (n : Nat) (x3_26 : Int32) (c_backMany_26 : Int32) (c_tried_26 : Nat → Int32) (c_back_26 : Nat → Int32), lp_X9_then_26 y2 c_n c_kindOf c_winds k45 n x3_26 c_backMany_26 c_tried_26 c_back_26 = some res → gg_G MD_X9_then 26 [some (.ref 0), some (.int y1), some (.int y2), some (.int x3_26)] [] (wd_X9_then c_latest c_asked c_upper c_lower c_n c_readAt c_readMany c_readFood c_isHead c_backMany_26 c_deedMany c_whole c_wellSum c_strongSum c_hash c_kindOf c_winds c_now c_tried_26 c_back_26) rr ww := by
  intro n
  induction n with
  | zero =>
    intro x3_26 c_backMany_26 c_tried_26 c_back_26 h
    exact nomatch (show (none : Option β) = some res from h)
  | succ n ih =>
    intro x3_26 c_backMany_26 c_tried_26 c_back_26 h
    rw [lp_X9_then_26] at h
    refine gg_iload_n dX9_then_26 rfl ?_
    refine gg_iload_n dX9_then_27 rfl ?_
    refine gg_icmp_ge 45 dX9_then_28 (by decide) (fun hc => ?_) (fun hc => ?_)
    · replace h := gg_th h hc
      refine gg_fg [true, true, false, false] [some (.ref 0), some (.int y1), none, none] rfl ?_
      exact hk45 c_backMany_26 c_tried_26 c_back_26 h
    · replace h := gg_el h hc
      refine gg_aload_n dX9_then_31 rfl ?_
      refine gg_aload_n dX9_then_32 rfl ?_
      refine gg_get 0 fl_X9_42 dX9_then_33 rfl rfl ?_
      obtain ⟨v4_0, v4_1, v4_2, hv4, h⟩ := gg_bd3 h
      refine gg_callV (gg_sg [0, 10]) [0, 1, 2, 5, 4] (wd_X9_then c_latest c_asked c_upper c_lower c_n c_readAt c_readMany c_readFood c_isHead v4_0 c_deedMany c_whole c_wellSum c_strongSum c_hash c_kindOf c_winds c_now v4_2 v4_1) 0 (C_X9_passes_a26 c_latest c_asked c_upper c_lower c_n c_readAt c_readMany c_readFood c_isHead c_backMany_26 c_deedMany c_whole c_wellSum c_strongSum c_hash c_kindOf c_winds c_back_26 c_tried_26 hv4) nV_X9_passes_a26 ml_X9_213 rfl rfl rfl rfl rfl rfl rfl rfl rfl rfl [3] 6 rfl rfl rfl rfl rfl ⟨Nat.le_of_ble_eq_true rfl, Nat.le_of_ble_eq_true rfl⟩ (Nat.le_of_ble_eq_true rfl) dX9_then_36 [] rfl ?_
      refine gg_iinc (x3_26 + (1 : Int32)) [some (.ref 0), some (.int y1), some (.int y2), some (.int (x3_26 + (1 : Int32)))] dX9_then_39 rfl rfl rfl (Nat.le_of_ble_eq_true rfl) rfl ?_
      refine gg_goto 26 dX9_then_42 (by decide) ?_
      exact ih (x3_26 + (1 : Int32)) v4_0 v4_2 v4_1 h
set_option maxRecDepth 20000 in
set_option maxHeartbeats 8000000 in
theorem C_X9_then (a0 : Int32) (a1 : Int32) (c_latest : Int32) (c_asked : Int32) (c_upper : Int64) (c_lower : Int64) (c_n : Int32) (c_readAt : Int32) (c_readMany : Int32) (c_readFood : Int32) (c_isHead : Int32) (c_backMany : Int32) (c_deedMany : Int32) (c_whole : Int64) (c_wellSum : Int64) (c_strongSum : Int64) (c_hash : Int64) (c_kindOf : Nat → Int32) (c_winds : Nat → Int32) (c_now : Nat → Int32) (c_tried : Nat → Int32) (c_back : Nat → Int32) {r0 : Int32} {r1 : (Int32)} {r2 : (Int32)} {r3 : (Nat → Int32)} {r4 : (Nat → Int32)} (h : f_X9_then a0 a1 c_asked c_n c_backMany c_kindOf c_winds c_now c_tried c_back = some (r0, r1, r2, r3, r4)) : gg_C MD_X9_then [.ref 0, .int a0, .int a1] (wd_X9_then c_latest c_asked c_upper c_lower c_n c_readAt c_readMany c_readFood c_isHead c_backMany c_deedMany c_whole c_wellSum c_strongSum c_hash c_kindOf c_winds c_now c_tried c_back) (some (.int r0)) (wd_X9_then c_latest r1 c_upper c_lower c_n c_readAt c_readMany c_readFood c_isHead r2 c_deedMany c_whole c_wellSum c_strongSum c_hash c_kindOf c_winds c_now r3 r4) := by
  refine gg_ofG [some (.ref 0), some (.int a0), some (.int a1), none] (plainFor_of_name (by decide)) (Nat.le_of_ble_eq_true rfl) rfl ?_
  unfold f_X9_then at h
  refine gg_aload_n dX9_then_0 rfl ?_
  refine gg_iload_n dX9_then_1 rfl ?_
  obtain ⟨v1, hv1, h⟩ := gg_bd h
  refine gg_callV (gg_sg [0]) [0] (wd_X9_then c_latest c_asked c_upper c_lower c_n c_readAt c_readMany c_readFood c_isHead c_backMany c_deedMany c_whole c_wellSum c_strongSum c_hash c_kindOf c_winds c_now c_tried c_back) 0 (C_X9_isHut a0 c_latest c_asked c_upper c_lower c_n c_readAt c_readMany c_readFood c_isHead c_backMany c_deedMany c_whole c_wellSum c_strongSum c_hash hv1) nV_X9_isHut ml_X9_198 rfl rfl rfl rfl rfl rfl rfl rfl rfl rfl [1, 2, 3, 4, 5] 6 rfl rfl rfl rfl rfl ⟨Nat.le_of_ble_eq_true rfl, Nat.le_of_ble_eq_true rfl⟩ (Nat.le_of_ble_eq_true rfl) dX9_then_2 [.int v1] rfl ?_
  obtain ⟨k18, hke18, h⟩ := gg_lte h
  have hk18 : k18 = some (r0, r1, r2, r3, r4) → gg_G MD_X9_then 18 [none, none, none, none] [] (wd_X9_then c_latest c_asked c_upper c_lower c_n c_readAt c_readMany c_readFood c_isHead c_backMany c_deedMany c_whole c_wellSum c_strongSum c_hash c_kindOf c_winds c_now c_tried c_back) (some (.int r0)) (wd_X9_then c_latest r1 c_upper c_lower c_n c_readAt c_readMany c_readFood c_isHead r2 c_deedMany c_whole c_wellSum c_strongSum c_hash c_kindOf c_winds c_now r3 r4) := by
    intro  h
    subst hke18
    refine gg_iconst (-1 : Int32) dX9_then_18 (by decide) ?_
    cases h
    exact gg_iret dX9_then_19 rfl
  clear hke18
  refine gg_if_eq 18 dX9_then_5 (by decide) (fun hc => ?_) (fun hc => ?_)
  · replace h := gg_th h hc
    refine gg_fg [false, false, false, false] [none, none, none, none] rfl ?_
    exact hk18 h
  · replace h := gg_el h hc
    refine gg_iload_n dX9_then_8 rfl ?_
    refine gg_iconst (0 : Int32) dX9_then_9 (by decide) ?_
    refine gg_bipush (40 : Int32) dX9_then_10 (by decide) ?_
    obtain ⟨v2, hv2, h⟩ := gg_bd h
    refine gg_callS (gg_sg []) [] (wd_X9_then c_latest c_asked c_upper c_lower c_n c_readAt c_readMany c_readFood c_isHead c_backMany c_deedMany c_whole c_wellSum c_strongSum c_hash c_kindOf c_winds c_now c_tried c_back) (C_X9_in a1 (0 : Int32) (40 : Int32) hv2) nS_X9_in ml_X9_92 rfl rfl rfl rfl rfl rfl rfl [0, 1, 2, 3, 4, 5] 6 rfl rfl rfl rfl rfl ⟨Nat.le_of_ble_eq_true rfl, Nat.le_of_ble_eq_true rfl⟩ (Nat.le_of_ble_eq_true rfl) dX9_then_12 [.int v2] rfl ?_
    refine gg_if_ne 20 dX9_then_15 (by decide) (fun hc => ?_) (fun hc => ?_)
    · replace h := gg_el h hc
      refine gg_aload_n dX9_then_20 rfl ?_
      obtain ⟨v3, hv3, h⟩ := gg_bd h
      refine gg_callV (gg_sg [0]) [0, 3, 4] (wd_X9_then c_latest c_asked c_upper c_lower c_n c_readAt c_readMany c_readFood c_isHead c_backMany c_deedMany c_whole c_wellSum c_strongSum c_hash c_kindOf c_winds c_now v3 c_back) 0 (C_X9_copyNow c_latest c_asked c_upper c_lower c_n c_readAt c_readMany c_readFood c_isHead c_backMany c_deedMany c_whole c_wellSum c_strongSum c_hash c_now c_tried hv3) nV_X9_copyNow ml_X9_227 rfl rfl rfl rfl rfl rfl rfl rfl rfl rfl [1, 2, 5] 6 rfl rfl rfl rfl rfl ⟨Nat.le_of_ble_eq_true rfl, Nat.le_of_ble_eq_true rfl⟩ (Nat.le_of_ble_eq_true rfl) dX9_then_21 [] rfl ?_
      refine gg_iconst (0 : Int32) dX9_then_24 (by decide) ?_
      refine gg_istore_n [some (.ref 0), some (.int a0), some (.int a1), some (.int (0 : Int32))] dX9_then_25 rfl (Nat.le_of_ble_eq_true rfl) rfl ?_
      refine lq_X9_then_26 a0 a1 c_latest c_asked c_upper c_lower c_n c_readAt c_readMany c_readFood c_isHead c_deedMany c_whole c_wellSum c_strongSum c_hash c_kindOf c_winds c_now _ ?_ gg_fuel (0 : Int32) c_backMany v3 c_back h
      intro c_backMany_45 c_tried_45 c_back_45 h
      refine gg_aload_n dX9_then_45 rfl ?_
      refine gg_get 0 fl_X9_42 dX9_then_46 rfl rfl ?_
      refine gg_iload_n dX9_then_49 rfl ?_
      obtain ⟨v5, hv5, h⟩ := gg_bd h
      refine gg_callS (gg_sg [10]) [4] (wd_X9_then c_latest c_asked c_upper c_lower c_n c_readAt c_readMany c_readFood c_isHead c_backMany_45 c_deedMany c_whole c_wellSum c_strongSum c_hash c_kindOf c_winds c_now c_tried_45 c_back_45) (C_X9_isThere_a26 a0 c_tried_45 hv5) nS_X9_isThere_a26 ml_X9_160 rfl rfl rfl rfl rfl rfl rfl [0, 1, 2, 3, 5] 6 rfl rfl rfl rfl rfl ⟨Nat.le_of_ble_eq_true rfl, Nat.le_of_ble_eq_true rfl⟩ (Nat.le_of_ble_eq_true rfl) dX9_then_50 [.int v5] rfl ?_
      obtain ⟨k83, hke83, h⟩ := gg_lte h
      have hk83 : ∀ (s0_83 : Int32) (c_asked_83 : Int32), k83 s0_83 c_asked_83 = some (r0, r1, r2, r3, r4) → gg_G MD_X9_then 83 [none, none, none, none] [.int s0_83] (wd_X9_then c_latest c_asked_83 c_upper c_lower c_n c_readAt c_readMany c_readFood c_isHead c_backMany_45 c_deedMany c_whole c_wellSum c_strongSum c_hash c_kindOf c_winds c_now c_tried_45 c_back_45) (some (.int r0)) (wd_X9_then c_latest r1 c_upper c_lower c_n c_readAt c_readMany c_readFood c_isHead r2 c_deedMany c_whole c_wellSum c_strongSum c_hash c_kindOf c_winds c_now r3 r4) := by
        intro s0_83 c_asked_83 h
        subst hke83
        cases h
        exact gg_iret dX9_then_83 rfl
      clear hke83
      refine gg_if_eq 81 dX9_then_53 (by decide) (fun hc => ?_) (fun hc => ?_)
      · replace h := gg_th h hc
        refine gg_bipush (-9 : Int32) dX9_then_81 (by decide) ?_
        refine gg_fg [false, false, false, false] [none, none, none, none] rfl ?_
        exact hk83 (-9 : Int32) c_asked h
      · replace h := gg_el h hc
        refine gg_aload_n dX9_then_56 rfl ?_
        refine gg_aload_n dX9_then_57 rfl ?_
        refine gg_get 0 fl_X9_42 dX9_then_58 rfl rfl ?_
        refine gg_bipush (8 : Int32) dX9_then_61 (by decide) ?_
        refine gg_iload_n dX9_then_63 rfl ?_
        refine gg_iadd dX9_then_64 ?_
        obtain ⟨hb65, h⟩ := gg_ck h
        refine gg_iald 4 dX9_then_65 rfl hb65 ?_
        refine gg_aload_n dX9_then_66 rfl ?_
        refine gg_get 0 fl_X9_42 dX9_then_67 rfl rfl ?_
        refine gg_bipush (20 : Int32) dX9_then_70 (by decide) ?_
        refine gg_iload_n dX9_then_72 rfl ?_
        refine gg_iadd dX9_then_73 ?_
        obtain ⟨hb74, h⟩ := gg_ck h
        refine gg_iald 4 dX9_then_74 rfl hb74 ?_
        obtain ⟨v6_0, v6_1, hv6, h⟩ := gg_bd2 h
        refine gg_callV (gg_sg [0]) [0] (wd_X9_then c_latest v6_1 c_upper c_lower c_n c_readAt c_readMany c_readFood c_isHead c_backMany_45 c_deedMany c_whole c_wellSum c_strongSum c_hash c_kindOf c_winds c_now c_tried_45 c_back_45) 0 (C_X9_tells (c_tried_45 ((8 : Int32) + a0).toNatClampNeg) (c_tried_45 ((20 : Int32) + a0).toNatClampNeg) c_latest c_asked c_upper c_lower c_n c_readAt c_readMany c_readFood c_isHead c_backMany_45 c_deedMany c_whole c_wellSum c_strongSum c_hash hv6) nV_X9_tells ml_X9_114 rfl rfl rfl rfl rfl rfl rfl rfl rfl rfl [1, 2, 3, 4, 5] 6 rfl rfl rfl rfl rfl ⟨Nat.le_of_ble_eq_true rfl, Nat.le_of_ble_eq_true rfl⟩ (Nat.le_of_ble_eq_true rfl) dX9_then_75 [.int v6_0] rfl ?_
        refine gg_goto 83 dX9_then_78 (by decide) ?_
        refine gg_fg [false, false, false, false] [none, none, none, none] rfl ?_
        exact hk83 v6_0 v6_1 h
    · replace h := gg_th h hc
      refine gg_fg [false, false, false, false] [none, none, none, none] rfl ?_
      exact hk18 h
def wd_X9_lost (c_latest : Int32) (c_asked : Int32) (c_upper : Int64) (c_lower : Int64) (c_n : Int32) (c_readAt : Int32) (c_readMany : Int32) (c_readFood : Int32) (c_isHead : Int32) (c_backMany : Int32) (c_deedMany : Int32) (c_whole : Int64) (c_wellSum : Int64) (c_strongSum : Int64) (c_hash : Int64) (c_kindOf : Nat → Int32) (c_winds : Nat → Int32) (c_now : Nat → Int32) (c_tried : Nat → Int32) (c_back : Nat → Int32) : va_W := [(0, .inr (8, [.int c_latest, .ref 1, .int c_asked, .long c_upper, .long c_lower, .ref 2, .ref 3, .ref 4, .ref 5, .ref 6, .int c_n, .ref 7, .ref 8, .ref 9, .ref 10, .int c_readAt, .int c_readMany, .int c_readFood, .int c_isHead, .ref 11, .ref 12, .ref 13, .int c_backMany, .int c_deedMany, .ref 14, .ref 15, .ref 16, .ref 17, .ref 18, .ref 19, .ref 20, .ref 21, .ref 22, .ref 23, .ref 24, .long c_whole, .long c_wellSum, .long c_strongSum, .long c_hash])), (7, .inl (0, 6, .inl c_kindOf)), (8, .inl (0, 4, .inl c_winds)), (9, .inl (0, 26, .inl c_now)), (10, .inl (0, 26, .inl c_tried)), (13, .inl (0, 6, .inl c_back))]
def MD_X9_lost : gg_M := (yX9_lost, cX9_lost, 3, some .int, 3, 72)
theorem nV_X9_lost : gg_nV MD_X9_lost 1 := ⟨⟨gg_mem (by decide +kernel) rfl, gg_mem cw_X9_lost rfl, by decide, by decide, by decide +kernel⟩, gg_mem (by decide +kernel) rfl, gg_mem (by decide +kernel) rfl⟩
def lp_X9_lost_16 {β : Type} (y1 : Int32) (c_n : Int32) (c_kindOf : Nat → Int32) (c_winds : Nat → Int32) (k33 : (Int32) → (Int32) → (Nat → Int32) → (Nat → Int32) → Option β) (k49 : (Int32) → (Nat → Int32) → (Nat → Int32) → Option β) : Nat → (Int32) → (Int32) → (Nat → Int32) → (Nat → Int32) → Option β
  | 0, _, _, _, _ => none
  | n + 1, x2_16, c_backMany_16, c_tried_16, c_back_16 => (if (40 : Int32) < x2_16 then (k49 c_backMany_16 c_tried_16 c_back_16) else (f_X9_isThere_a26 y1 c_tried_16).bind (fun v3 => (if v3 = (0 : Int32) then (k33 x2_16 c_backMany_16 c_tried_16 c_back_16) else gg_b3 (f_X9_passes_a26 c_n c_backMany_16 c_kindOf c_winds c_back_16 c_tried_16) (fun v4_0 v4_1 v4_2 => (lp_X9_lost_16 y1 c_n c_kindOf c_winds k33 k49 n (x2_16 + (1 : Int32)) v4_0 v4_2 v4_1)))))
def f_X9_lost (a0 : Int32) (c_n : Int32) (c_backMany : Int32) (c_kindOf : Nat → Int32) (c_winds : Nat → Int32) (c_now : Nat → Int32) (c_tried : Nat → Int32) (c_back : Nat → Int32) : Option (Int32 × (Int32) × (Nat → Int32) × (Nat → Int32)) := (f_X9_isHut a0 c_n).bind (fun v1 => (if v1 = (0 : Int32) then (some ((-1 : Int32), c_backMany, c_tried, c_back)) else (f_X9_copyNow c_now c_tried).bind (fun v2 => (lp_X9_lost_16 a0 c_n c_kindOf c_winds (fun (x2_33 : Int32) (c_backMany_33 : Int32) (c_tried_33 : Nat → Int32) (c_back_33 : Nat → Int32) => (some (x2_33, c_backMany_33, c_tried_33, c_back_33))) (fun (c_backMany_49 : Int32) (c_tried_49 : Nat → Int32) (c_back_49 : Nat → Int32) => (some ((-9 : Int32), c_backMany_49, c_tried_49, c_back_49))) gg_fuel (0 : Int32) c_backMany v2 c_back))))
set_option maxRecDepth 20000 in
set_option maxHeartbeats 4000000 in
theorem lq_X9_lost_16 {β : Type} {res : β} {rr : Option Value} {ww : va_W} (y1 : Int32) (c_latest : Int32) (c_asked : Int32) (c_upper : Int64) (c_lower : Int64) (c_n : Int32) (c_readAt : Int32) (c_readMany : Int32) (c_readFood : Int32) (c_isHead : Int32) (c_deedMany : Int32) (c_whole : Int64) (c_wellSum : Int64) (c_strongSum : Int64) (c_hash : Int64) (c_kindOf : Nat → Int32) (c_winds : Nat → Int32) (c_now : Nat → Int32) (k33 : (Int32) → (Int32) → (Nat → Int32) → (Nat → Int32) → Option β) (k49 : (Int32) → (Nat → Int32) → (Nat → Int32) → Option β) (hk33 : ∀ (x2_33 : Int32) (c_backMany_33 : Int32) (c_tried_33 : Nat → Int32) (c_back_33 : Nat → Int32), k33 x2_33 c_backMany_33 c_tried_33 c_back_33 = some res → gg_G MD_X9_lost 33 [none, none, some (.int x2_33)] [] (wd_X9_lost c_latest c_asked c_upper c_lower c_n c_readAt c_readMany c_readFood c_isHead c_backMany_33 c_deedMany c_whole c_wellSum c_strongSum c_hash c_kindOf c_winds c_now c_tried_33 c_back_33) rr ww) (hk49 : ∀ (c_backMany_49 : Int32) (c_tried_49 : Nat → Int32) (c_back_49 : Nat → Int32), k49 c_backMany_49 c_tried_49 c_back_49 = some res → gg_G MD_X9_lost 49 [none, none, none] [] (wd_X9_lost c_latest c_asked c_upper c_lower c_n c_readAt c_readMany c_readFood c_isHead c_backMany_49 c_deedMany c_whole c_wellSum c_strongSum c_hash c_kindOf c_winds c_now c_tried_49 c_back_49) rr ww) : ∀ (n : Nat) (x2_16 : Int32) (c_backMany_16 : Int32) (c_tried_16 : Nat → Int32) (c_back_16 : Nat → Int32), lp_X9_lost_16 y1 c_n c_kindOf c_winds k33 k49 n x2_16 c_backMany_16 c_tried_16 c_back_16 = some res → gg_G MD_X9_lost 16 [some (.ref 0), some (.int y1), some (.int x2_16)] [] (wd_X9_lost c_latest c_asked c_upper c_lower c_n c_readAt c_readMany c_readFood c_isHead c_backMany_16 c_deedMany c_whole c_wellSum c_strongSum c_hash c_kindOf c_winds c_now c_tried_16 c_back_16) rr ww := by
  intro n
  induction n with
  | zero =>
    intro x2_16 c_backMany_16 c_tried_16 c_back_16 h
    exact nomatch (show (none : Option β) = some res from h)
  | succ n ih =>
    intro x2_16 c_backMany_16 c_tried_16 c_back_16 h
    rw [lp_X9_lost_16] at h
    refine gg_iload_n dX9_lost_16 rfl ?_
    refine gg_bipush (40 : Int32) dX9_lost_17 (by decide) ?_
    refine gg_icmp_gt 49 dX9_lost_19 (by decide) (fun hc => ?_) (fun hc => ?_)
    · replace h := gg_th h hc
      refine gg_fg [false, false, false] [none, none, none] rfl ?_
      exact hk49 c_backMany_16 c_tried_16 c_back_16 h
    · replace h := gg_el h hc
      refine gg_aload_n dX9_lost_22 rfl ?_
      refine gg_get 0 fl_X9_42 dX9_lost_23 rfl rfl ?_
      refine gg_iload_n dX9_lost_26 rfl ?_
      obtain ⟨v3, hv3, h⟩ := gg_bd h
      refine gg_callS (gg_sg [10]) [4] (wd_X9_lost c_latest c_asked c_upper c_lower c_n c_readAt c_readMany c_readFood c_isHead c_backMany_16 c_deedMany c_whole c_wellSum c_strongSum c_hash c_kindOf c_winds c_now c_tried_16 c_back_16) (C_X9_isThere_a26 y1 c_tried_16 hv3) nS_X9_isThere_a26 ml_X9_160 rfl rfl rfl rfl rfl rfl rfl [0, 1, 2, 3, 5] 6 rfl rfl rfl rfl rfl ⟨Nat.le_of_ble_eq_true rfl, Nat.le_of_ble_eq_true rfl⟩ (Nat.le_of_ble_eq_true rfl) dX9_lost_27 [.int v3] rfl ?_
      refine gg_if_ne 35 dX9_lost_30 (by decide) (fun hc => ?_) (fun hc => ?_)
      · replace h := gg_el h hc
        refine gg_aload_n dX9_lost_35 rfl ?_
        refine gg_aload_n dX9_lost_36 rfl ?_
        refine gg_get 0 fl_X9_42 dX9_lost_37 rfl rfl ?_
        obtain ⟨v4_0, v4_1, v4_2, hv4, h⟩ := gg_bd3 h
        refine gg_callV (gg_sg [0, 10]) [0, 1, 2, 5, 4] (wd_X9_lost c_latest c_asked c_upper c_lower c_n c_readAt c_readMany c_readFood c_isHead v4_0 c_deedMany c_whole c_wellSum c_strongSum c_hash c_kindOf c_winds c_now v4_2 v4_1) 0 (C_X9_passes_a26 c_latest c_asked c_upper c_lower c_n c_readAt c_readMany c_readFood c_isHead c_backMany_16 c_deedMany c_whole c_wellSum c_strongSum c_hash c_kindOf c_winds c_back_16 c_tried_16 hv4) nV_X9_passes_a26 ml_X9_213 rfl rfl rfl rfl rfl rfl rfl rfl rfl rfl [3] 6 rfl rfl rfl rfl rfl ⟨Nat.le_of_ble_eq_true rfl, Nat.le_of_ble_eq_true rfl⟩ (Nat.le_of_ble_eq_true rfl) dX9_lost_40 [] rfl ?_
        refine gg_iinc (x2_16 + (1 : Int32)) [some (.ref 0), some (.int y1), some (.int (x2_16 + (1 : Int32)))] dX9_lost_43 rfl rfl rfl (Nat.le_of_ble_eq_true rfl) rfl ?_
        refine gg_goto 16 dX9_lost_46 (by decide) ?_
        exact ih (x2_16 + (1 : Int32)) v4_0 v4_2 v4_1 h
      · replace h := gg_th h hc
        refine gg_fg [false, false, true] [none, none, some (.int x2_16)] rfl ?_
        exact hk33 x2_16 c_backMany_16 c_tried_16 c_back_16 h
set_option maxRecDepth 20000 in
set_option maxHeartbeats 8000000 in
theorem C_X9_lost (a0 : Int32) (c_latest : Int32) (c_asked : Int32) (c_upper : Int64) (c_lower : Int64) (c_n : Int32) (c_readAt : Int32) (c_readMany : Int32) (c_readFood : Int32) (c_isHead : Int32) (c_backMany : Int32) (c_deedMany : Int32) (c_whole : Int64) (c_wellSum : Int64) (c_strongSum : Int64) (c_hash : Int64) (c_kindOf : Nat → Int32) (c_winds : Nat → Int32) (c_now : Nat → Int32) (c_tried : Nat → Int32) (c_back : Nat → Int32) {r0 : Int32} {r1 : (Int32)} {r2 : (Nat → Int32)} {r3 : (Nat → Int32)} (h : f_X9_lost a0 c_n c_backMany c_kindOf c_winds c_now c_tried c_back = some (r0, r1, r2, r3)) : gg_C MD_X9_lost [.ref 0, .int a0] (wd_X9_lost c_latest c_asked c_upper c_lower c_n c_readAt c_readMany c_readFood c_isHead c_backMany c_deedMany c_whole c_wellSum c_strongSum c_hash c_kindOf c_winds c_now c_tried c_back) (some (.int r0)) (wd_X9_lost c_latest c_asked c_upper c_lower c_n c_readAt c_readMany c_readFood c_isHead r1 c_deedMany c_whole c_wellSum c_strongSum c_hash c_kindOf c_winds c_now r2 r3) := by
  refine gg_ofG [some (.ref 0), some (.int a0), none] (plainFor_of_name (by decide)) (Nat.le_of_ble_eq_true rfl) rfl ?_
  unfold f_X9_lost at h
  refine gg_aload_n dX9_lost_0 rfl ?_
  refine gg_iload_n dX9_lost_1 rfl ?_
  obtain ⟨v1, hv1, h⟩ := gg_bd h
  refine gg_callV (gg_sg [0]) [0] (wd_X9_lost c_latest c_asked c_upper c_lower c_n c_readAt c_readMany c_readFood c_isHead c_backMany c_deedMany c_whole c_wellSum c_strongSum c_hash c_kindOf c_winds c_now c_tried c_back) 0 (C_X9_isHut a0 c_latest c_asked c_upper c_lower c_n c_readAt c_readMany c_readFood c_isHead c_backMany c_deedMany c_whole c_wellSum c_strongSum c_hash hv1) nV_X9_isHut ml_X9_198 rfl rfl rfl rfl rfl rfl rfl rfl rfl rfl [1, 2, 3, 4, 5] 6 rfl rfl rfl rfl rfl ⟨Nat.le_of_ble_eq_true rfl, Nat.le_of_ble_eq_true rfl⟩ (Nat.le_of_ble_eq_true rfl) dX9_lost_2 [.int v1] rfl ?_
  refine gg_if_ne 10 dX9_lost_5 (by decide) (fun hc => ?_) (fun hc => ?_)
  · replace h := gg_el h hc
    refine gg_aload_n dX9_lost_10 rfl ?_
    obtain ⟨v2, hv2, h⟩ := gg_bd h
    refine gg_callV (gg_sg [0]) [0, 3, 4] (wd_X9_lost c_latest c_asked c_upper c_lower c_n c_readAt c_readMany c_readFood c_isHead c_backMany c_deedMany c_whole c_wellSum c_strongSum c_hash c_kindOf c_winds c_now v2 c_back) 0 (C_X9_copyNow c_latest c_asked c_upper c_lower c_n c_readAt c_readMany c_readFood c_isHead c_backMany c_deedMany c_whole c_wellSum c_strongSum c_hash c_now c_tried hv2) nV_X9_copyNow ml_X9_227 rfl rfl rfl rfl rfl rfl rfl rfl rfl rfl [1, 2, 5] 6 rfl rfl rfl rfl rfl ⟨Nat.le_of_ble_eq_true rfl, Nat.le_of_ble_eq_true rfl⟩ (Nat.le_of_ble_eq_true rfl) dX9_lost_11 [] rfl ?_
    refine gg_iconst (0 : Int32) dX9_lost_14 (by decide) ?_
    refine gg_istore_n [some (.ref 0), some (.int a0), some (.int (0 : Int32))] dX9_lost_15 rfl (Nat.le_of_ble_eq_true rfl) rfl ?_
    refine lq_X9_lost_16 a0 c_latest c_asked c_upper c_lower c_n c_readAt c_readMany c_readFood c_isHead c_deedMany c_whole c_wellSum c_strongSum c_hash c_kindOf c_winds c_now _ _ ?_ ?_ gg_fuel (0 : Int32) c_backMany v2 c_back h
    · intro x2_33 c_backMany_33 c_tried_33 c_back_33 h
      refine gg_iload_n dX9_lost_33 rfl ?_
      cases h
      exact gg_iret dX9_lost_34 rfl
    · intro c_backMany_49 c_tried_49 c_back_49 h
      refine gg_bipush (-9 : Int32) dX9_lost_49 (by decide) ?_
      cases h
      exact gg_iret dX9_lost_51 rfl
  · replace h := gg_th h hc
    refine gg_iconst (-1 : Int32) dX9_lost_8 (by decide) ?_
    cases h
    exact gg_iret dX9_lost_9 rfl
def wd_X9_order (c_latest : Int32) (c_asked : Int32) (c_upper : Int64) (c_lower : Int64) (c_n : Int32) (c_readAt : Int32) (c_readMany : Int32) (c_readFood : Int32) (c_isHead : Int32) (c_backMany : Int32) (c_deedMany : Int32) (c_whole : Int64) (c_wellSum : Int64) (c_strongSum : Int64) (c_hash : Int64) (c_sizes : Nat → Int32) (c_rows : Nat → Int32) (c_kindOf : Nat → Int32) (c_winds : Nat → Int32) (c_now : Nat → Int32) (c_tried : Nat → Int32) (c_back : Nat → Int32) : va_W := [(0, .inr (8, [.int c_latest, .ref 1, .int c_asked, .long c_upper, .long c_lower, .ref 2, .ref 3, .ref 4, .ref 5, .ref 6, .int c_n, .ref 7, .ref 8, .ref 9, .ref 10, .int c_readAt, .int c_readMany, .int c_readFood, .int c_isHead, .ref 11, .ref 12, .ref 13, .int c_backMany, .int c_deedMany, .ref 14, .ref 15, .ref 16, .ref 17, .ref 18, .ref 19, .ref 20, .ref 21, .ref 22, .ref 23, .ref 24, .long c_whole, .long c_wellSum, .long c_strongSum, .long c_hash])), (2, .inl (0, 6, .inl c_sizes)), (3, .inl (0, 240, .inl c_rows)), (7, .inl (0, 6, .inl c_kindOf)), (8, .inl (0, 4, .inl c_winds)), (9, .inl (0, 26, .inl c_now)), (10, .inl (0, 26, .inl c_tried)), (13, .inl (0, 6, .inl c_back))]
def MD_X9_order : gg_M := (yX9_order, cX9_order, 4, some .int, 3, 72)
theorem nV_X9_order : gg_nV MD_X9_order 1 := ⟨⟨gg_mem (by decide +kernel) rfl, gg_mem cw_X9_order rfl, by decide, by decide, by decide +kernel⟩, gg_mem (by decide +kernel) rfl, gg_mem (by decide +kernel) rfl⟩
def lp_X9_order_39 {β : Type} (y1 : Int32) (c_backMany : Int32) (c_back : Nat → Int32) (k70 : (Nat → Int32) → Option β) : Nat → (Int32) → (Nat → Int32) → Option β
  | 0, _, _ => none
  | n + 1, x3_39, c_rows_39 => (if c_backMany ≤ x3_39 then (k70 c_rows_39) else gg_chk (gg_in x3_39 6) (gg_chk (gg_in (((40 : Int32) * y1) + x3_39) 240) ((lp_X9_order_39 y1 c_backMany c_back k70 n (x3_39 + (1 : Int32)) (upd c_rows_39 (((40 : Int32) * y1) + x3_39).toNatClampNeg (c_back x3_39.toNatClampNeg))))))
def f_X9_order (a0 : Int32) (c_n : Int32) (c_backMany : Int32) (c_sizes : Nat → Int32) (c_rows : Nat → Int32) (c_kindOf : Nat → Int32) (c_winds : Nat → Int32) (c_now : Nat → Int32) (c_tried : Nat → Int32) (c_back : Nat → Int32) : Option (Int32 × (Int32) × (Nat → Int32) × (Nat → Int32) × (Nat → Int32) × (Nat → Int32)) := (f_X9_isRow a0).bind (fun v1 => (f_X9_need v1 c_n).bind (fun v2 => (if (0 : Int32) ≤ v2 then (f_X9_copyNow c_now c_tried).bind (fun v3 => gg_b3 (f_X9_passes_a26 c_n c_backMany c_kindOf c_winds c_back v3) (fun v4_0 v4_1 v4_2 => gg_chk (gg_in a0 6) ((lp_X9_order_39 a0 v4_0 v4_1 (fun (c_rows_70 : Nat → Int32) => (some (v4_0, v4_0, (upd c_sizes a0.toNatClampNeg v4_0), c_rows_70, v4_2, v4_1))) gg_fuel (0 : Int32) c_rows)))) else (some (v2, c_backMany, c_sizes, c_rows, c_tried, c_back)))))
set_option maxRecDepth 20000 in
set_option maxHeartbeats 4000000 in
theorem lq_X9_order_39 {β : Type} {res : β} {rr : Option Value} {ww : va_W} (y1 : Int32) (c_latest : Int32) (c_asked : Int32) (c_upper : Int64) (c_lower : Int64) (c_n : Int32) (c_readAt : Int32) (c_readMany : Int32) (c_readFood : Int32) (c_isHead : Int32) (c_backMany : Int32) (c_deedMany : Int32) (c_whole : Int64) (c_wellSum : Int64) (c_strongSum : Int64) (c_hash : Int64) (c_sizes : Nat → Int32) (c_kindOf : Nat → Int32) (c_winds : Nat → Int32) (c_now : Nat → Int32) (c_tried : Nat → Int32) (c_back : Nat → Int32) (k70 : (Nat → Int32) → Option β) (hk70 : ∀ (c_rows_70 : Nat → Int32), k70 c_rows_70 = some res → gg_G MD_X9_order 70 [some (.ref 0), none, none, none] [] (wd_X9_order c_latest c_asked c_upper c_lower c_n c_readAt c_readMany c_readFood c_isHead c_backMany c_deedMany c_whole c_wellSum c_strongSum c_hash c_sizes c_rows_70 c_kindOf c_winds c_now c_tried c_back) rr ww) : ∀ (n : Nat) (x3_39 : Int32) (c_rows_39 : Nat → Int32), lp_X9_order_39 y1 c_backMany c_back k70 n x3_39 c_rows_39 = some res → gg_G MD_X9_order 39 [some (.ref 0), some (.int y1), none, some (.int x3_39)] [] (wd_X9_order c_latest c_asked c_upper c_lower c_n c_readAt c_readMany c_readFood c_isHead c_backMany c_deedMany c_whole c_wellSum c_strongSum c_hash c_sizes c_rows_39 c_kindOf c_winds c_now c_tried c_back) rr ww := by
  intro n
  induction n with
  | zero =>
    intro x3_39 c_rows_39 h
    exact nomatch (show (none : Option β) = some res from h)
  | succ n ih =>
    intro x3_39 c_rows_39 h
    rw [lp_X9_order_39] at h
    refine gg_iload_n dX9_order_39 rfl ?_
    refine gg_aload_n dX9_order_40 rfl ?_
    refine gg_get 0 fl_X9_184 dX9_order_41 rfl rfl ?_
    refine gg_icmp_ge 70 dX9_order_44 (by decide) (fun hc => ?_) (fun hc => ?_)
    · replace h := gg_th h hc
      refine gg_fg [true, false, false, false] [some (.ref 0), none, none, none] rfl ?_
      exact hk70 c_rows_39 h
    · replace h := gg_el h hc
      refine gg_aload_n dX9_order_47 rfl ?_
      refine gg_get 0 fl_X9_20 dX9_order_48 rfl rfl ?_
      refine gg_bipush (40 : Int32) dX9_order_51 (by decide) ?_
      refine gg_iload_n dX9_order_53 rfl ?_
      refine gg_imul dX9_order_54 ?_
      refine gg_iload_n dX9_order_55 rfl ?_
      refine gg_iadd dX9_order_56 ?_
      refine gg_aload_n dX9_order_57 rfl ?_
      refine gg_get 0 fl_X9_51 dX9_order_58 rfl rfl ?_
      refine gg_iload_n dX9_order_61 rfl ?_
      obtain ⟨hb62, h⟩ := gg_ck h
      refine gg_iald 7 dX9_order_62 rfl hb62 ?_
      obtain ⟨hb63, h⟩ := gg_ck h
      refine gg_iast 2 (wd_X9_order c_latest c_asked c_upper c_lower c_n c_readAt c_readMany c_readFood c_isHead c_backMany c_deedMany c_whole c_wellSum c_strongSum c_hash c_sizes (upd c_rows_39 (((40 : Int32) * y1) + x3_39).toNatClampNeg (c_back x3_39.toNatClampNeg)) c_kindOf c_winds c_now c_tried c_back) dX9_order_63 rfl hb63 rfl ?_
      refine gg_iinc (x3_39 + (1 : Int32)) [some (.ref 0), some (.int y1), none, some (.int (x3_39 + (1 : Int32)))] dX9_order_64 rfl rfl rfl (Nat.le_of_ble_eq_true rfl) rfl ?_
      refine gg_goto 39 dX9_order_67 (by decide) ?_
      exact ih (x3_39 + (1 : Int32)) (upd c_rows_39 (((40 : Int32) * y1) + x3_39).toNatClampNeg (c_back x3_39.toNatClampNeg)) h
set_option maxRecDepth 20000 in
set_option maxHeartbeats 8000000 in
theorem C_X9_order (a0 : Int32) (c_latest : Int32) (c_asked : Int32) (c_upper : Int64) (c_lower : Int64) (c_n : Int32) (c_readAt : Int32) (c_readMany : Int32) (c_readFood : Int32) (c_isHead : Int32) (c_backMany : Int32) (c_deedMany : Int32) (c_whole : Int64) (c_wellSum : Int64) (c_strongSum : Int64) (c_hash : Int64) (c_sizes : Nat → Int32) (c_rows : Nat → Int32) (c_kindOf : Nat → Int32) (c_winds : Nat → Int32) (c_now : Nat → Int32) (c_tried : Nat → Int32) (c_back : Nat → Int32) {r0 : Int32} {r1 : (Int32)} {r2 : (Nat → Int32)} {r3 : (Nat → Int32)} {r4 : (Nat → Int32)} {r5 : (Nat → Int32)} (h : f_X9_order a0 c_n c_backMany c_sizes c_rows c_kindOf c_winds c_now c_tried c_back = some (r0, r1, r2, r3, r4, r5)) : gg_C MD_X9_order [.ref 0, .int a0] (wd_X9_order c_latest c_asked c_upper c_lower c_n c_readAt c_readMany c_readFood c_isHead c_backMany c_deedMany c_whole c_wellSum c_strongSum c_hash c_sizes c_rows c_kindOf c_winds c_now c_tried c_back) (some (.int r0)) (wd_X9_order c_latest c_asked c_upper c_lower c_n c_readAt c_readMany c_readFood c_isHead r1 c_deedMany c_whole c_wellSum c_strongSum c_hash r2 r3 c_kindOf c_winds c_now r4 r5) := by
  refine gg_ofG [some (.ref 0), some (.int a0), none, none] (plainFor_of_name (by decide)) (Nat.le_of_ble_eq_true rfl) rfl ?_
  unfold f_X9_order at h
  refine gg_aload_n dX9_order_0 rfl ?_
  refine gg_iload_n dX9_order_1 rfl ?_
  obtain ⟨v1, hv1, h⟩ := gg_bd h
  refine gg_callS (gg_sg []) [] (wd_X9_order c_latest c_asked c_upper c_lower c_n c_readAt c_readMany c_readFood c_isHead c_backMany c_deedMany c_whole c_wellSum c_strongSum c_hash c_sizes c_rows c_kindOf c_winds c_now c_tried c_back) (C_X9_isRow a0 hv1) nS_X9_isRow ml_X9_102 rfl rfl rfl rfl rfl rfl rfl [0, 1, 2, 3, 4, 5, 6, 7] 8 rfl rfl rfl rfl rfl ⟨Nat.le_of_ble_eq_true rfl, Nat.le_of_ble_eq_true rfl⟩ (Nat.le_of_ble_eq_true rfl) dX9_order_2 [.int v1, .ref 0] rfl ?_
  obtain ⟨v2, hv2, h⟩ := gg_bd h
  refine gg_callV (gg_sg [0]) [0] (wd_X9_order c_latest c_asked c_upper c_lower c_n c_readAt c_readMany c_readFood c_isHead c_backMany c_deedMany c_whole c_wellSum c_strongSum c_hash c_sizes c_rows c_kindOf c_winds c_now c_tried c_back) 0 (C_X9_need v1 c_latest c_asked c_upper c_lower c_n c_readAt c_readMany c_readFood c_isHead c_backMany c_deedMany c_whole c_wellSum c_strongSum c_hash hv2) nV_X9_need ml_X9_230 rfl rfl rfl rfl rfl rfl rfl rfl rfl rfl [1, 2, 3, 4, 5, 6, 7] 8 rfl rfl rfl rfl rfl ⟨Nat.le_of_ble_eq_true rfl, Nat.le_of_ble_eq_true rfl⟩ (Nat.le_of_ble_eq_true rfl) dX9_order_5 [.int v2] rfl ?_
  refine gg_istore_n [some (.ref 0), some (.int a0), some (.int v2), none] dX9_order_8 rfl (Nat.le_of_ble_eq_true rfl) rfl ?_
  refine gg_iload_n dX9_order_9 rfl ?_
  refine gg_if_ge 15 dX9_order_10 (by decide) (fun hc => ?_) (fun hc => ?_)
  · replace h := gg_th h hc
    refine gg_aload_n dX9_order_15 rfl ?_
    obtain ⟨v3, hv3, h⟩ := gg_bd h
    refine gg_callV (gg_sg [0]) [0, 5, 6] (wd_X9_order c_latest c_asked c_upper c_lower c_n c_readAt c_readMany c_readFood c_isHead c_backMany c_deedMany c_whole c_wellSum c_strongSum c_hash c_sizes c_rows c_kindOf c_winds c_now v3 c_back) 0 (C_X9_copyNow c_latest c_asked c_upper c_lower c_n c_readAt c_readMany c_readFood c_isHead c_backMany c_deedMany c_whole c_wellSum c_strongSum c_hash c_now c_tried hv3) nV_X9_copyNow ml_X9_227 rfl rfl rfl rfl rfl rfl rfl rfl rfl rfl [1, 2, 3, 4, 7] 8 rfl rfl rfl rfl rfl ⟨Nat.le_of_ble_eq_true rfl, Nat.le_of_ble_eq_true rfl⟩ (Nat.le_of_ble_eq_true rfl) dX9_order_16 [] rfl ?_
    refine gg_aload_n dX9_order_19 rfl ?_
    refine gg_aload_n dX9_order_20 rfl ?_
    refine gg_get 0 fl_X9_42 dX9_order_21 rfl rfl ?_
    obtain ⟨v4_0, v4_1, v4_2, hv4, h⟩ := gg_bd3 h
    refine gg_callV (gg_sg [0, 10]) [0, 3, 4, 7, 6] (wd_X9_order c_latest c_asked c_upper c_lower c_n c_readAt c_readMany c_readFood c_isHead v4_0 c_deedMany c_whole c_wellSum c_strongSum c_hash c_sizes c_rows c_kindOf c_winds c_now v4_2 v4_1) 0 (C_X9_passes_a26 c_latest c_asked c_upper c_lower c_n c_readAt c_readMany c_readFood c_isHead c_backMany c_deedMany c_whole c_wellSum c_strongSum c_hash c_kindOf c_winds c_back v3 hv4) nV_X9_passes_a26 ml_X9_213 rfl rfl rfl rfl rfl rfl rfl rfl rfl rfl [1, 2, 5] 8 rfl rfl rfl rfl rfl ⟨Nat.le_of_ble_eq_true rfl, Nat.le_of_ble_eq_true rfl⟩ (Nat.le_of_ble_eq_true rfl) dX9_order_24 [] rfl ?_
    refine gg_aload_n dX9_order_27 rfl ?_
    refine gg_get 0 fl_X9_17 dX9_order_28 rfl rfl ?_
    refine gg_iload_n dX9_order_31 rfl ?_
    refine gg_aload_n dX9_order_32 rfl ?_
    refine gg_get 0 fl_X9_184 dX9_order_33 rfl rfl ?_
    obtain ⟨hb36, h⟩ := gg_ck h
    refine gg_iast 1 (wd_X9_order c_latest c_asked c_upper c_lower c_n c_readAt c_readMany c_readFood c_isHead v4_0 c_deedMany c_whole c_wellSum c_strongSum c_hash (upd c_sizes a0.toNatClampNeg v4_0) c_rows c_kindOf c_winds c_now v4_2 v4_1) dX9_order_36 rfl hb36 rfl ?_
    refine gg_iconst (0 : Int32) dX9_order_37 (by decide) ?_
    refine gg_istore_n [some (.ref 0), some (.int a0), some (.int v2), some (.int (0 : Int32))] dX9_order_38 rfl (Nat.le_of_ble_eq_true rfl) rfl ?_
    refine gg_fg [true, true, false, true] [some (.ref 0), some (.int a0), none, some (.int (0 : Int32))] rfl ?_
    refine lq_X9_order_39 a0 c_latest c_asked c_upper c_lower c_n c_readAt c_readMany c_readFood c_isHead v4_0 c_deedMany c_whole c_wellSum c_strongSum c_hash (upd c_sizes a0.toNatClampNeg v4_0) c_kindOf c_winds c_now v4_2 v4_1 _ ?_ gg_fuel (0 : Int32) c_rows h
    intro c_rows_70 h
    refine gg_aload_n dX9_order_70 rfl ?_
    refine gg_get 0 fl_X9_184 dX9_order_71 rfl rfl ?_
    cases h
    exact gg_iret dX9_order_74 rfl
  · replace h := gg_el h hc
    refine gg_iload_n dX9_order_13 rfl ?_
    cases h
    exact gg_iret dX9_order_14 rfl
