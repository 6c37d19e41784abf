def wd_X8_mid (c_latestFinding : Int32) (c_told : Int32) (c_above : Int64) (c_below : Int64) (c_now_huts : Int32) (c_now_food : Int32) (c_now_due : Int32) (c_now_backs : Int32) (c_now_winds : Nat → Int32) (c_now_kind : Nat → Int32) (c_now_home : Nat → Int32) (c_now_strength : Nat → Int32) (c_now_brown : Nat → Int32) (c_now_brick : Nat → Int32) (c_aside_huts : Int32) (c_aside_food : Int32) (c_aside_due : Int32) (c_aside_backs : Int32) (c_aside_winds : Nat → Int32) (c_aside_kind : Nat → Int32) (c_aside_home : Nat → Int32) (c_aside_strength : Nat → Int32) (c_aside_brown : Nat → Int32) (c_aside_brick : Nat → Int32) (c_aside_back : Nat → Int32) : va_W := [(0, .inr (7, [.ref 1, .ref 10, .ref 17, .ref 19, .ref 27, .ref 35, .ref 43, .ref 45, .ref 52, .ref 56, .ref 60, .ref 67, .int c_latestFinding, .int c_told, .long c_above, .long c_below])), (27, .inr (2, [.int c_now_huts, .int c_now_food, .int c_now_due, .ref 28, .ref 29, .ref 30, .ref 31, .ref 32, .ref 33, .ref 34, .int c_now_backs])), (28, .inl (0, 4, .inl c_now_winds)), (29, .inl (0, 6, .inl c_now_kind)), (30, .inl (0, 6, .inl c_now_home)), (31, .inl (0, 6, .inl c_now_strength)), (32, .inl (0, 6, .inl c_now_brown)), (33, .inl (0, 6, .inl c_now_brick)), (35, .inr (2, [.int c_aside_huts, .int c_aside_food, .int c_aside_due, .ref 36, .ref 37, .ref 38, .ref 39, .ref 40, .ref 41, .ref 42, .int c_aside_backs])), (36, .inl (0, 4, .inl c_aside_winds)), (37, .inl (0, 6, .inl c_aside_kind)), (38, .inl (0, 6, .inl c_aside_home)), (39, .inl (0, 6, .inl c_aside_strength)), (40, .inl (0, 6, .inl c_aside_brown)), (41, .inl (0, 6, .inl c_aside_brick)), (42, .inl (0, 6, .inl c_aside_back))]
def MD_X8_mid : gg_M := (yX8_mid, cX8_mid, 7, some .int, 5, 110)
theorem nV_X8_mid : gg_nV MD_X8_mid 1 := ⟨⟨gg_mem (by decide +kernel) rfl, gg_mem cw_X8_mid rfl, by decide, by decide, by decide +kernel⟩, gg_mem (by decide +kernel) rfl, gg_mem (by decide +kernel) rfl⟩
def lp_X8_mid_35 {β : Type} (y1 : Int32) (y2 : Int32) (c_aside_huts : Int32) (c_aside_strength : Nat → Int32) (k96 : (Int64) → Option β) : Nat → (Int64) → (Int32) → Option β
  | 0, _, _ => none
  | n + 1, x3_35, x5_35 => (if y2 < x5_35 then (k96 x3_35) else (f_X2_strongestOf x5_35 c_aside_huts c_aside_strength).bind (fun v3 => (f_X8_isPartOf x5_35 y2).bind (fun v4 => gg_lt (fun (x3_90 : Int64) => (lp_X8_mid_35 y1 y2 c_aside_huts c_aside_strength k96 n x3_90 (x5_35 + (1 : Int32)))) (fun k90 => (if v4 = (0 : Int32) then (k90 x3_35) else (if v3 = (-9 : Int32) then (k90 x3_35) else (f_X8_weight x5_35 y2 y1).bind (fun v5 => gg_chk (gg_in v3 6) ((k90 (x3_35 + (v5 * ((c_aside_strength v3.toNatClampNeg).toInt64))))))))))))
def f_X8_mid (a0 : Int32) (c_above : Int64) (c_below : Int64) (c_now_huts : Int32) (c_now_food : Int32) (c_now_due : Int32) (c_now_winds : Nat → Int32) (c_now_kind : Nat → Int32) (c_now_home : Nat → Int32) (c_now_strength : Nat → Int32) (c_now_brown : Nat → Int32) (c_now_brick : Nat → Int32) (c_aside_huts : Int32) (c_aside_food : Int32) (c_aside_due : Int32) (c_aside_backs : Int32) (c_aside_winds : Nat → Int32) (c_aside_kind : Nat → Int32) (c_aside_home : Nat → Int32) (c_aside_strength : Nat → Int32) (c_aside_brown : Nat → Int32) (c_aside_brick : Nat → Int32) (c_aside_back : Nat → Int32) : Option (Int32 × (Int64) × (Int64) × (Int32) × (Int32) × (Int32) × (Int32) × (Nat → Int32) × (Nat → Int32) × (Nat → Int32) × (Nat → Int32) × (Nat → Int32) × (Nat → Int32) × (Nat → Int32)) := (f_X8_within a0 (0 : Int32) (12 : Int32)).bind (fun v1 => (if v1 = (0 : Int32) then (some ((-1 : Int32), c_above, c_below, c_aside_huts, c_aside_food, c_aside_due, c_aside_backs, c_aside_winds, c_aside_kind, c_aside_home, c_aside_strength, c_aside_brown, c_aside_brick, c_aside_back)) else (if c_now_huts = (0 : Int32) then (some ((-4 : Int32), c_above, c_below, c_aside_huts, c_aside_food, c_aside_due, c_aside_backs, c_aside_winds, c_aside_kind, c_aside_home, c_aside_strength, c_aside_brown, c_aside_brick, c_aside_back)) else gg_b12 (f_X8_thereBehindWinter c_now_huts c_now_food c_now_due c_now_winds c_now_kind c_now_home c_now_strength c_now_brown c_now_brick c_aside_huts c_aside_food c_aside_due c_aside_backs c_aside_winds c_aside_kind c_aside_home c_aside_strength c_aside_brown c_aside_brick c_aside_back) (fun v2_0 v2_1 v2_2 v2_3 v2_4 v2_5 v2_6 v2_7 v2_8 v2_9 v2_10 v2_11 => (lp_X8_mid_35 a0 v2_0 v2_1 v2_8 (fun (x3_96 : Int64) => (f_X8_weight v2_0 v2_0 (0 : Int32)).bind (fun v6 => gg_b2 (f_X8_tell x3_96 v6 c_above c_below) (fun v7_0 v7_1 => (some ((1 : Int32), v7_0, v7_1, v2_1, v2_2, v2_3, v2_4, v2_5, v2_6, v2_7, v2_8, v2_9, v2_10, v2_11))))) gg_fuel (0 : Int64) (0 : Int32))))))
set_option maxRecDepth 20000 in
set_option maxHeartbeats 4000000 in
theorem lq_X8_mid_35 {β : Type} {res : β} {rr : Option Value} {ww : va_W} (y1 : Int32) (y2 : Int32) (c_latestFinding : Int32) (c_told : Int32) (c_above : Int64) (c_below : Int64) (c_now_huts : Int32) (c_now_food : Int32) (c_now_due : Int32) (c_now_backs : Int32) (c_now_winds : Nat → Int32) (c_now_kind : Nat → Int32) (c_now_home : Nat → Int32) (c_now_strength : Nat → Int32) (c_now_brown : Nat → Int32) (c_now_brick : Nat → Int32) (c_aside_huts : Int32) (c_aside_food : Int32) (c_aside_due : Int32) (c_aside_backs : Int32) (c_aside_winds : Nat → Int32) (c_aside_kind : Nat → Int32) (c_aside_home : Nat → Int32) (c_aside_strength : Nat → Int32) (c_aside_brown : Nat → Int32) (c_aside_brick : Nat → Int32) (c_aside_back : Nat → Int32) (k96 : (Int64) → Option β) (hk96 : ∀ (x3_96 : Int64), k96 x3_96 = some res → gg_G MD_X8_mid 96 [some (.ref 0), none, some (.int y2), some (.long x3_96), none, none, none] [] (wd_X8_mid c_latestFinding c_told c_above c_below c_now_huts c_now_food c_now_due c_now_backs c_now_winds c_now_kind c_now_home c_now_strength c_now_brown c_now_brick c_aside_huts c_aside_food c_aside_due c_aside_backs c_aside_winds c_aside_kind c_aside_home c_aside_strength c_aside_brown c_aside_brick c_aside_back) rr ww) : ∀ (n : Nat) (x3_35 : Int64) (x5_35 : Int32), lp_X8_mid_35 y1 y2 c_aside_huts c_aside_strength k96 n x3_35 x5_35 = some res → gg_G MD_X8_mid 35 [some (.ref 0), some (.int y1), some (.int y2), some (.long x3_35), none, some (.int x5_35), none] [] (wd_X8_mid c_latestFinding c_told c_above c_below c_now_huts c_now_food c_now_due c_now_backs c_now_winds c_now_kind c_now_home c_now_strength c_now_brown c_now_brick c_aside_huts c_aside_food c_aside_due c_aside_backs c_aside_winds c_aside_kind c_aside_home c_aside_strength c_aside_brown c_aside_brick c_aside_back) rr ww := by
  intro n
  induction n with
  | zero =>
    intro x3_35 x5_35 h
    exact nomatch (show (none : Option β) = some res from h)
  | succ n ih =>
    intro x3_35 x5_35 h
    rw [lp_X8_mid_35] at h
    refine gg_iload dX8_mid_35 rfl ?_
    refine gg_iload_n dX8_mid_37 rfl ?_
    refine gg_icmp_gt 96 dX8_mid_38 (by decide) (fun hc => ?_) (fun hc => ?_)
    · replace h := gg_th h hc
      refine gg_fg [true, false, true, true, false, false, false] [some (.ref 0), none, some (.int y2), some (.long x3_35), none, none, none] rfl ?_
      exact hk96 x3_35 h
    · replace h := gg_el h hc
      refine gg_aload_n dX8_mid_41 rfl ?_
      refine gg_get 0 fl_X8_38 dX8_mid_42 rfl rfl ?_
      refine gg_iload dX8_mid_45 rfl ?_
      obtain ⟨v3, hv3, h⟩ := gg_bd h
      refine gg_callV (gg_sg [35]) [8, 12] (wd_X8_mid c_latestFinding c_told c_above c_below c_now_huts c_now_food c_now_due c_now_backs c_now_winds c_now_kind c_now_home c_now_strength c_now_brown c_now_brick c_aside_huts c_aside_food c_aside_due c_aside_backs c_aside_winds c_aside_kind c_aside_home c_aside_strength c_aside_brown c_aside_brick c_aside_back) 0 (C_X2_strongestOf x5_35 c_aside_huts c_aside_food c_aside_due c_aside_backs c_aside_strength hv3) nV_X2_strongestOf ml_X8_289 rfl rfl rfl rfl rfl rfl rfl rfl rfl rfl [0, 1, 2, 3, 4, 5, 6, 7, 9, 10, 11, 13, 14, 15] 16 rfl rfl rfl rfl rfl ⟨Nat.le_of_ble_eq_true rfl, Nat.le_of_ble_eq_true rfl⟩ (Nat.le_of_ble_eq_true rfl) dX8_mid_47 [.int v3] rfl ?_
      refine gg_istore [some (.ref 0), some (.int y1), some (.int y2), some (.long x3_35), none, some (.int x5_35), some (.int v3)] dX8_mid_50 rfl (Nat.le_of_ble_eq_true rfl) rfl ?_
      refine gg_iload dX8_mid_52 rfl ?_
      refine gg_iload_n dX8_mid_54 rfl ?_
      obtain ⟨v4, hv4, h⟩ := gg_bd h
      refine gg_callS (gg_sg []) [] (wd_X8_mid c_latestFinding c_told c_above c_below c_now_huts c_now_food c_now_due c_now_backs c_now_winds c_now_kind c_now_home c_now_strength c_now_brown c_now_brick c_aside_huts c_aside_food c_aside_due c_aside_backs c_aside_winds c_aside_kind c_aside_home c_aside_strength c_aside_brown c_aside_brick c_aside_back) (C_X8_isPartOf x5_35 y2 hv4) nS_X8_isPartOf ml_X8_273 rfl rfl rfl rfl rfl rfl rfl [0, 1, 2, 3, 4, 5, 6, 7, 8, 9, 10, 11, 12, 13, 14, 15] 16 rfl rfl rfl rfl rfl ⟨Nat.le_of_ble_eq_true rfl, Nat.le_of_ble_eq_true rfl⟩ (Nat.le_of_ble_eq_true rfl) dX8_mid_55 [.int v4] rfl ?_
      obtain ⟨k90, hke90, h⟩ := gg_lte h
      have hk90 : ∀ (x3_90 : Int64), k90 x3_90 = some res → gg_G MD_X8_mid 90 [some (.ref 0), some (.int y1), some (.int y2), some (.long x3_90), none, some (.int x5_35), none] [] (wd_X8_mid c_latestFinding c_told c_above c_below c_now_huts c_now_food c_now_due c_now_backs c_now_winds c_now_kind c_now_home c_now_strength c_now_brown c_now_brick c_aside_huts c_aside_food c_aside_due c_aside_backs c_aside_winds c_aside_kind c_aside_home c_aside_strength c_aside_brown c_aside_brick c_aside_back) rr ww := by
        intro x3_90 h
        subst hke90
        refine gg_iinc (x5_35 + (1 : Int32)) [some (.ref 0), some (.int y1), some (.int y2), some (.long x3_90), none, some (.int (x5_35 + (1 : Int32))), none] dX8_mid_90 rfl rfl rfl (Nat.le_of_ble_eq_true rfl) rfl ?_
        refine gg_goto 35 dX8_mid_93 (by decide) ?_
        exact ih x3_90 (x5_35 + (1 : Int32)) h
      clear hke90
      refine gg_if_eq 90 dX8_mid_58 (by decide) (fun hc => ?_) (fun hc => ?_)
      · replace h := gg_th h hc
        refine gg_fg [true, true, true, true, false, true, false] [some (.ref 0), some (.int y1), some (.int y2), some (.long x3_35), none, some (.int x5_35), none] rfl ?_
        exact hk90 x3_35 h
      · replace h := gg_el h hc
        refine gg_iload dX8_mid_61 rfl ?_
        refine gg_bipush (-9 : Int32) dX8_mid_63 (by decide) ?_
        refine gg_icmp_eq 90 dX8_mid_65 (by decide) (fun hc => ?_) (fun hc => ?_)
        · replace h := gg_th h hc
          refine gg_fg [true, true, true, true, false, true, false] [some (.ref 0), some (.int y1), some (.int y2), some (.long x3_35), none, some (.int x5_35), none] rfl ?_
          exact hk90 x3_35 h
        · replace h := gg_el h hc
          refine gg_lload_n dX8_mid_68 rfl ?_
          refine gg_iload dX8_mid_69 rfl ?_
          refine gg_iload_n dX8_mid_71 rfl ?_
          refine gg_iload_n dX8_mid_72 rfl ?_
          obtain ⟨v5, hv5, h⟩ := gg_bd h
          refine gg_callS (gg_sg []) [] (wd_X8_mid c_latestFinding c_told c_above c_below c_now_huts c_now_food c_now_due c_now_backs c_now_winds c_now_kind c_now_home c_now_strength c_now_brown c_now_brick c_aside_huts c_aside_food c_aside_due c_aside_backs c_aside_winds c_aside_kind c_aside_home c_aside_strength c_aside_brown c_aside_brick c_aside_back) (C_X8_weight x5_35 y2 y1 hv5) nS_X8_weight ml_X8_281 rfl rfl rfl rfl rfl rfl rfl [0, 1, 2, 3, 4, 5, 6, 7, 8, 9, 10, 11, 12, 13, 14, 15] 16 rfl rfl rfl rfl rfl ⟨Nat.le_of_ble_eq_true rfl, Nat.le_of_ble_eq_true rfl⟩ (Nat.le_of_ble_eq_true rfl) dX8_mid_73 [.long v5, .long x3_35] rfl ?_
          refine gg_aload_n dX8_mid_76 rfl ?_
          refine gg_get 0 fl_X8_38 dX8_mid_77 rfl rfl ?_
          refine gg_get 8 fl_X8_205 dX8_mid_80 rfl rfl ?_
          refine gg_iload dX8_mid_83 rfl ?_
          obtain ⟨hb85, h⟩ := gg_ck h
          refine gg_iald 12 dX8_mid_85 rfl hb85 ?_
          refine gg_i2l dX8_mid_86 ?_
          refine gg_lmul dX8_mid_87 ?_
          refine gg_ladd dX8_mid_88 ?_
          refine gg_lstore_n [some (.ref 0), some (.int y1), some (.int y2), some (.long (x3_35 + (v5 * ((c_aside_strength v3.toNatClampNeg).toInt64)))), none, some (.int x5_35), some (.int v3)] dX8_mid_89 rfl (Nat.le_of_ble_eq_true rfl) rfl ?_
          refine gg_fg [true, true, true, true, false, true, false] [some (.ref 0), some (.int y1), some (.int y2), some (.long (x3_35 + (v5 * ((c_aside_strength v3.toNatClampNeg).toInt64)))), none, some (.int x5_35), none] rfl ?_
          exact hk90 (x3_35 + (v5 * ((c_aside_strength v3.toNatClampNeg).toInt64))) h
set_option maxRecDepth 20000 in
set_option maxHeartbeats 8000000 in
theorem C_X8_mid (a0 : Int32) (c_latestFinding : Int32) (c_told : Int32) (c_above : Int64) (c_below : Int64) (c_now_huts : Int32) (c_now_food : Int32) (c_now_due : Int32) (c_now_backs : Int32) (c_now_winds : Nat → Int32) (c_now_kind : Nat → Int32) (c_now_home : Nat → Int32) (c_now_strength : Nat → Int32) (c_now_brown : Nat → Int32) (c_now_brick : Nat → Int32) (c_aside_huts : Int32) (c_aside_food : Int32) (c_aside_due : Int32) (c_aside_backs : Int32) (c_aside_winds : Nat → Int32) (c_aside_kind : Nat → Int32) (c_aside_home : Nat → Int32) (c_aside_strength : Nat → Int32) (c_aside_brown : Nat → Int32) (c_aside_brick : Nat → Int32) (c_aside_back : Nat → Int32) {r0 : Int32} {r1 : (Int64)} {r2 : (Int64)} {r3 : (Int32)} {r4 : (Int32)} {r5 : (Int32)} {r6 : (Int32)} {r7 : (Nat → Int32)} {r8 : (Nat → Int32)} {r9 : (Nat → Int32)} {r10 : (Nat → Int32)} {r11 : (Nat → Int32)} {r12 : (Nat → Int32)} {r13 : (Nat → Int32)} (h : f_X8_mid a0 c_above c_below c_now_huts c_now_food c_now_due c_now_winds c_now_kind c_now_home c_now_strength c_now_brown c_now_brick c_aside_huts c_aside_food c_aside_due c_aside_backs c_aside_winds c_aside_kind c_aside_home c_aside_strength c_aside_brown c_aside_brick c_aside_back = some (r0, r1, r2, r3, r4, r5, r6, r7, r8, r9, r10, r11, r12, r13)) : gg_C MD_X8_mid [.ref 0, .int a0] (wd_X8_mid c_latestFinding c_told c_above c_below c_now_huts c_now_food c_now_due c_now_backs c_now_winds c_now_kind c_now_home c_now_strength c_now_brown c_now_brick c_aside_huts c_aside_food c_aside_due c_aside_backs c_aside_winds c_aside_kind c_aside_home c_aside_strength c_aside_brown c_aside_brick c_aside_back) (some (.int r0)) (wd_X8_mid c_latestFinding c_told r1 r2 c_now_huts c_now_food c_now_due c_now_backs c_now_winds c_now_kind c_now_home c_now_strength c_now_brown c_now_brick r3 r4 r5 r6 r7 r8 r9 r10 r11 r12 r13) := by
  refine gg_ofG [some (.ref 0), some (.int a0), none, none, none, none, none] (plainFor_of_name (by decide)) (Nat.le_of_ble_eq_true rfl) rfl ?_
  unfold f_X8_mid at h
  refine gg_iload_n dX8_mid_0 rfl ?_
  refine gg_iconst (0 : Int32) dX8_mid_1 (by decide) ?_
  refine gg_bipush (12 : Int32) dX8_mid_2 (by decide) ?_
  obtain ⟨v1, hv1, h⟩ := gg_bd h
  refine gg_callS (gg_sg []) [] (wd_X8_mid c_latestFinding c_told c_above c_below c_now_huts c_now_food c_now_due c_now_backs c_now_winds c_now_kind c_now_home c_now_strength c_now_brown c_now_brick c_aside_huts c_aside_food c_aside_due c_aside_backs c_aside_winds c_aside_kind c_aside_home c_aside_strength c_aside_brown c_aside_brick c_aside_back) (C_X8_within a0 (0 : Int32) (12 : Int32) hv1) nS_X8_within ml_X8_155 rfl rfl rfl rfl rfl rfl rfl [0, 1, 2, 3, 4, 5, 6, 7, 8, 9, 10, 11, 12, 13, 14, 15] 16 rfl rfl rfl rfl rfl ⟨Nat.le_of_ble_eq_true rfl, Nat.le_of_ble_eq_true rfl⟩ (Nat.le_of_ble_eq_true rfl) dX8_mid_4 [.int v1] rfl ?_
  refine gg_if_ne 12 dX8_mid_7 (by decide) (fun hc => ?_) (fun hc => ?_)
  · replace h := gg_el h hc
    refine gg_aload_n dX8_mid_12 rfl ?_
    refine gg_get 0 fl_X8_35 dX8_mid_13 rfl rfl ?_
    refine gg_get 1 fl_X8_151 dX8_mid_16 rfl rfl ?_
    refine gg_if_ne 25 dX8_mid_19 (by decide) (fun hc => ?_) (fun hc => ?_)
    · replace h := gg_el h hc
      refine gg_aload_n dX8_mid_25 rfl ?_
      obtain ⟨v2_0, v2_1, v2_2, v2_3, v2_4, v2_5, v2_6, v2_7, v2_8, v2_9, v2_10, v2_11, hv2, h⟩ := gg_bd12 h
      refine gg_callV (gg_sg [0]) [0, 1, 2, 3, 4, 5, 6, 7, 8, 9, 10, 11, 12, 13, 14, 15] (wd_X8_mid c_latestFinding c_told c_above c_below c_now_huts c_now_food c_now_due c_now_backs c_now_winds c_now_kind c_now_home c_now_strength c_now_brown c_now_brick v2_1 v2_2 v2_3 v2_4 v2_5 v2_6 v2_7 v2_8 v2_9 v2_10 v2_11) 0 (C_X8_thereBehindWinter c_latestFinding c_told c_above c_below c_now_huts c_now_food c_now_due c_now_backs c_now_winds c_now_kind c_now_home c_now_strength c_now_brown c_now_brick c_aside_huts c_aside_food c_aside_due c_aside_backs c_aside_winds c_aside_kind c_aside_home c_aside_strength c_aside_brown c_aside_brick c_aside_back hv2) nV_X8_thereBehindWinter ml_X8_270 rfl rfl rfl rfl rfl rfl rfl rfl rfl rfl [] 16 rfl rfl rfl rfl rfl ⟨Nat.le_of_ble_eq_true rfl, Nat.le_of_ble_eq_true rfl⟩ (Nat.le_of_ble_eq_true rfl) dX8_mid_26 [.int v2_0] rfl ?_
      refine gg_istore_n [some (.ref 0), some (.int a0), some (.int v2_0), none, none, none, none] dX8_mid_29 rfl (Nat.le_of_ble_eq_true rfl) rfl ?_
      refine gg_lconst (0 : Int64) dX8_mid_30 (by decide) ?_
      refine gg_lstore_n [some (.ref 0), some (.int a0), some (.int v2_0), some (.long (0 : Int64)), none, none, none] dX8_mid_31 rfl (Nat.le_of_ble_eq_true rfl) rfl ?_
      refine gg_iconst (0 : Int32) dX8_mid_32 (by decide) ?_
      refine gg_istore [some (.ref 0), some (.int a0), some (.int v2_0), some (.long (0 : Int64)), none, some (.int (0 : Int32)), none] dX8_mid_33 rfl (Nat.le_of_ble_eq_true rfl) rfl ?_
      refine lq_X8_mid_35 a0 v2_0 c_latestFinding c_told c_above c_below c_now_huts c_now_food c_now_due c_now_backs c_now_winds c_now_kind c_now_home c_now_strength c_now_brown c_now_brick v2_1 v2_2 v2_3 v2_4 v2_5 v2_6 v2_7 v2_8 v2_9 v2_10 v2_11 _ ?_ gg_fuel (0 : Int64) (0 : Int32) h
      intro x3_96 h
      refine gg_aload_n dX8_mid_96 rfl ?_
      refine gg_lload_n dX8_mid_97 rfl ?_
      refine gg_iload_n dX8_mid_98 rfl ?_
      refine gg_iload_n dX8_mid_99 rfl ?_
      refine gg_iconst (0 : Int32) dX8_mid_100 (by decide) ?_
      obtain ⟨v6, hv6, h⟩ := gg_bd h
      refine gg_callS (gg_sg []) [] (wd_X8_mid c_latestFinding c_told c_above c_below c_now_huts c_now_food c_now_due c_now_backs c_now_winds c_now_kind c_now_home c_now_strength c_now_brown c_now_brick v2_1 v2_2 v2_3 v2_4 v2_5 v2_6 v2_7 v2_8 v2_9 v2_10 v2_11) (C_X8_weight v2_0 v2_0 (0 : Int32) hv6) nS_X8_weight ml_X8_281 rfl rfl rfl rfl rfl rfl rfl [0, 1, 2, 3, 4, 5, 6, 7, 8, 9, 10, 11, 12, 13, 14, 15] 16 rfl rfl rfl rfl rfl ⟨Nat.le_of_ble_eq_true rfl, Nat.le_of_ble_eq_true rfl⟩ (Nat.le_of_ble_eq_true rfl) dX8_mid_101 [.long v6, .long x3_96, .ref 0] rfl ?_
      obtain ⟨v7_0, v7_1, hv7, h⟩ := gg_bd2 h
      refine gg_callV (gg_sg [0]) [0] (wd_X8_mid c_latestFinding c_told v7_0 v7_1 c_now_huts c_now_food c_now_due c_now_backs c_now_winds c_now_kind c_now_home c_now_strength c_now_brown c_now_brick v2_1 v2_2 v2_3 v2_4 v2_5 v2_6 v2_7 v2_8 v2_9 v2_10 v2_11) 0 (C_X8_tell x3_96 v6 c_latestFinding c_told c_above c_below hv7) nV_X8_tell ml_X8_285 rfl rfl rfl rfl rfl rfl rfl rfl rfl rfl [1, 2, 3, 4, 5, 6, 7, 8, 9, 10, 11, 12, 13, 14, 15] 16 rfl rfl rfl rfl rfl ⟨Nat.le_of_ble_eq_true rfl, Nat.le_of_ble_eq_true rfl⟩ (Nat.le_of_ble_eq_true rfl) dX8_mid_104 [] rfl ?_
      refine gg_iconst (1 : Int32) dX8_mid_107 (by decide) ?_
      cases h
      exact gg_iret dX8_mid_108 rfl
    · replace h := gg_th h hc
      refine gg_bipush (-4 : Int32) dX8_mid_22 (by decide) ?_
      cases h
      exact gg_iret dX8_mid_24 rfl
  · replace h := gg_th h hc
    refine gg_iconst (-1 : Int32) dX8_mid_10 (by decide) ?_
    cases h
    exact gg_iret dX8_mid_11 rfl
def wd_X8_codeByLot (c_latestFinding : Int32) (c_told : Int32) (c_above : Int64) (c_below : Int64) (c_now_huts : Int32) (c_now_food : Int32) (c_now_due : Int32) (c_now_backs : Int32) (c_now_brick : Nat → Int32) : va_W := [(0, .inr (7, [.ref 1, .ref 10, .ref 17, .ref 19, .ref 27, .ref 35, .ref 43, .ref 45, .ref 52, .ref 56, .ref 60, .ref 67, .int c_latestFinding, .int c_told, .long c_above, .long c_below])), (27, .inr (2, [.int c_now_huts, .int c_now_food, .int c_now_due, .ref 28, .ref 29, .ref 30, .ref 31, .ref 32, .ref 33, .ref 34, .int c_now_backs])), (33, .inl (0, 6, .inl c_now_brick))]
def MD_X8_codeByLot : gg_M := (yX8_codeByLot, cX8_codeByLot, 4, some .int, 3, 63)
theorem nV_X8_codeByLot : gg_nV MD_X8_codeByLot 1 := ⟨⟨gg_mem (by decide +kernel) rfl, gg_mem cw_X8_codeByLot rfl, by decide, by decide, by decide +kernel⟩, gg_mem (by decide +kernel) rfl, gg_mem (by decide +kernel) rfl⟩
def f_X8_codeByLot (a0 : Int64) (c_now_huts : Int32) (c_now_food : Int32) (c_now_brick : Nat → Int32) : Option (Int32) := gg_lt (fun (s0_30 : Int32) => gg_lt ((f_X4_code (0 : Int32) (0 : Int32) (0 : Int32)).bind (fun v1 => (some v1))) (fun k59 => (if (lg_cmp (a0 - a0 / (3 : Int64) * (3 : Int64)) (0 : Int64)) = (0 : Int32) then (f_X2_canBeFed s0_30 c_now_huts c_now_food c_now_brick).bind (fun v2 => (if v2 = (0 : Int32) then k59 else (f_X4_code (1 : Int32) s0_30 (0 : Int32)).bind (fun v3 => (some v3)))) else k59))) (fun k30 => (if c_now_huts = (0 : Int32) then (k30 (-9 : Int32)) else gg_chk (!decide ((c_now_huts.toInt64) = 0)) ((k30 (((a0 / (8 : Int64)) - (a0 / (8 : Int64)) / (c_now_huts.toInt64) * (c_now_huts.toInt64)).toInt32)))))
set_option maxRecDepth 20000 in
set_option maxHeartbeats 8000000 in
theorem C_X8_codeByLot (a0 : Int64) (c_latestFinding : Int32) (c_told : Int32) (c_above : Int64) (c_below : Int64) (c_now_huts : Int32) (c_now_food : Int32) (c_now_due : Int32) (c_now_backs : Int32) (c_now_brick : Nat → Int32) {res : Int32} (h : f_X8_codeByLot a0 c_now_huts c_now_food c_now_brick = some res) : gg_C MD_X8_codeByLot [.ref 0, .long a0] (wd_X8_codeByLot c_latestFinding c_told c_above c_below c_now_huts c_now_food c_now_due c_now_backs c_now_brick) (some (.int res)) (wd_X8_codeByLot c_latestFinding c_told c_above c_below c_now_huts c_now_food c_now_due c_now_backs c_now_brick) := by
  refine gg_ofG [some (.ref 0), some (.long a0), none, none] (plainFor_of_name (by decide)) (Nat.le_of_ble_eq_true rfl) rfl ?_
  unfold f_X8_codeByLot at h
  refine gg_aload_n dX8_codeByLot_0 rfl ?_
  refine gg_get 0 fl_X8_35 dX8_codeByLot_1 rfl rfl ?_
  refine gg_get 1 fl_X8_151 dX8_codeByLot_4 rfl rfl ?_
  obtain ⟨k30, hke30, h⟩ := gg_lte h
  have hk30 : ∀ (s0_30 : Int32), k30 s0_30 = some res → gg_G MD_X8_codeByLot 30 [some (.ref 0), some (.long a0), none, none] [.int s0_30] (wd_X8_codeByLot c_latestFinding c_told c_above c_below c_now_huts c_now_food c_now_due c_now_backs c_now_brick) (some (.int res)) (wd_X8_codeByLot c_latestFinding c_told c_above c_below c_now_huts c_now_food c_now_due c_now_backs c_now_brick) := by
    intro s0_30 h
    subst hke30
    refine gg_istore_n [some (.ref 0), some (.long a0), none, some (.int s0_30)] dX8_codeByLot_30 rfl (Nat.le_of_ble_eq_true rfl) rfl ?_
    refine gg_lload_n dX8_codeByLot_31 rfl ?_
    refine gg_ldc2 (3 : Int64) dX8_codeByLot_32 (gg_mem (by decide +kernel) rfl) ?_
    refine gg_lrem dX8_codeByLot_35 (by decide) ?_
    refine gg_lconst (0 : Int64) dX8_codeByLot_36 (by decide) ?_
    refine gg_lcmp dX8_codeByLot_37 ?_
    obtain ⟨k59, hke59, h⟩ := gg_lte h
    have hk59 : k59 = some res → gg_G MD_X8_codeByLot 59 [none, none, none, none] [] (wd_X8_codeByLot c_latestFinding c_told c_above c_below c_now_huts c_now_food c_now_due c_now_backs c_now_brick) (some (.int res)) (wd_X8_codeByLot c_latestFinding c_told c_above c_below c_now_huts c_now_food c_now_due c_now_backs c_now_brick) := by
      intro  h
      subst hke59
      refine gg_iconst (0 : Int32) dX8_codeByLot_59 (by decide) ?_
      refine gg_iconst (0 : Int32) dX8_codeByLot_60 (by decide) ?_
      refine gg_iconst (0 : Int32) dX8_codeByLot_61 (by decide) ?_
      obtain ⟨v1, hv1, h⟩ := gg_bd h
      refine gg_callS (gg_sg []) [] (wd_X8_codeByLot c_latestFinding c_told c_above c_below c_now_huts c_now_food c_now_due c_now_backs c_now_brick) (C_X4_code (0 : Int32) (0 : Int32) (0 : Int32) hv1) nS_X4_code ml_X8_189 rfl rfl rfl rfl rfl rfl rfl [0, 1, 2] 3 rfl rfl rfl rfl rfl ⟨Nat.le_of_ble_eq_true rfl, Nat.le_of_ble_eq_true rfl⟩ (Nat.le_of_ble_eq_true rfl) dX8_codeByLot_62 [.int v1] rfl ?_
      cases h
      exact gg_iret dX8_codeByLot_65 rfl
    clear hke59
    refine gg_if_ne 59 dX8_codeByLot_38 (by decide) (fun hc => ?_) (fun hc => ?_)
    · replace h := gg_el h hc
      refine gg_fg [false, false, false, false] [none, none, none, none] rfl ?_
      exact hk59 h
    · replace h := gg_th h hc
      refine gg_aload_n dX8_codeByLot_41 rfl ?_
      refine gg_get 0 fl_X8_35 dX8_codeByLot_42 rfl rfl ?_
      refine gg_iload_n dX8_codeByLot_45 rfl ?_
      obtain ⟨v2, hv2, h⟩ := gg_bd h
      refine gg_callV (gg_sg [27]) [1, 2] (wd_X8_codeByLot c_latestFinding c_told c_above c_below c_now_huts c_now_food c_now_due c_now_backs c_now_brick) 0 (C_X2_canBeFed s0_30 c_now_huts c_now_food c_now_due c_now_backs c_now_brick hv2) nV_X2_canBeFed ml_X8_356 rfl rfl rfl rfl rfl rfl rfl rfl rfl rfl [0] 3 rfl rfl rfl rfl rfl ⟨Nat.le_of_ble_eq_true rfl, Nat.le_of_ble_eq_true rfl⟩ (Nat.le_of_ble_eq_true rfl) dX8_codeByLot_46 [.int v2] rfl ?_
      refine gg_if_eq 59 dX8_codeByLot_49 (by decide) (fun hc => ?_) (fun hc => ?_)
      · replace h := gg_th h hc
        refine gg_fg [false, false, false, false] [none, none, none, none] rfl ?_
        exact hk59 h
      · replace h := gg_el h hc
        refine gg_iconst (1 : Int32) dX8_codeByLot_52 (by decide) ?_
        refine gg_iload_n dX8_codeByLot_53 rfl ?_
        refine gg_iconst (0 : Int32) dX8_codeByLot_54 (by decide) ?_
        obtain ⟨v3, hv3, h⟩ := gg_bd h
        refine gg_callS (gg_sg []) [] (wd_X8_codeByLot c_latestFinding c_told c_above c_below c_now_huts c_now_food c_now_due c_now_backs c_now_brick) (C_X4_code (1 : Int32) s0_30 (0 : Int32) hv3) nS_X4_code ml_X8_189 rfl rfl rfl rfl rfl rfl rfl [0, 1, 2] 3 rfl rfl rfl rfl rfl ⟨Nat.le_of_ble_eq_true rfl, Nat.le_of_ble_eq_true rfl⟩ (Nat.le_of_ble_eq_true rfl) dX8_codeByLot_55 [.int v3] rfl ?_
        cases h
        exact gg_iret dX8_codeByLot_58 rfl
  clear hke30
  refine gg_if_ne 15 dX8_codeByLot_7 (by decide) (fun hc => ?_) (fun hc => ?_)
  · replace h := gg_el h hc
    refine gg_lload_n dX8_codeByLot_15 rfl ?_
    refine gg_ldc2 (8 : Int64) dX8_codeByLot_16 (gg_mem (by decide +kernel) rfl) ?_
    refine gg_ldiv dX8_codeByLot_19 (by decide) ?_
    refine gg_aload_n dX8_codeByLot_20 rfl ?_
    refine gg_get 0 fl_X8_35 dX8_codeByLot_21 rfl rfl ?_
    refine gg_get 1 fl_X8_151 dX8_codeByLot_24 rfl rfl ?_
    refine gg_i2l dX8_codeByLot_27 ?_
    obtain ⟨hz28, h⟩ := gg_ck h
    refine gg_lrem dX8_codeByLot_28 (gg_nz hz28) ?_
    refine gg_l2i dX8_codeByLot_29 ?_
    exact hk30 (((a0 / (8 : Int64)) - (a0 / (8 : Int64)) / (c_now_huts.toInt64) * (c_now_huts.toInt64)).toInt32) h
  · replace h := gg_th h hc
    refine gg_bipush (-9 : Int32) dX8_codeByLot_10 (by decide) ?_
    refine gg_goto 30 dX8_codeByLot_12 (by decide) ?_
    exact hk30 (-9 : Int32) h
def wd_X8_lots (c_latestFinding : Int32) (c_told : Int32) (c_above : Int64) (c_below : Int64) (c_now_huts : Int32) (c_now_food : Int32) (c_now_due : Int32) (c_now_backs : Int32) (c_now_winds : Nat → Int32) (c_now_kind : Nat → Int32) (c_now_home : Nat → Int32) (c_now_strength : Nat → Int32) (c_now_brown : Nat → Int32) (c_now_brick : Nat → Int32) (c_now_back : Nat → Int32) (c_log_size : Int32) (c_log_codes : Nat → Int32) : va_W := [(0, .inr (7, [.ref 1, .ref 10, .ref 17, .ref 19, .ref 27, .ref 35, .ref 43, .ref 45, .ref 52, .ref 56, .ref 60, .ref 67, .int c_latestFinding, .int c_told, .long c_above, .long c_below])), (27, .inr (2, [.int c_now_huts, .int c_now_food, .int c_now_due, .ref 28, .ref 29, .ref 30, .ref 31, .ref 32, .ref 33, .ref 34, .int c_now_backs])), (28, .inl (0, 4, .inl c_now_winds)), (29, .inl (0, 6, .inl c_now_kind)), (30, .inl (0, 6, .inl c_now_home)), (31, .inl (0, 6, .inl c_now_strength)), (32, .inl (0, 6, .inl c_now_brown)), (33, .inl (0, 6, .inl c_now_brick)), (34, .inl (0, 6, .inl c_now_back)), (43, .inr (3, [.int c_log_size, .ref 44])), (44, .inl (0, 40, .inl c_log_codes))]
def MD_X8_lots : gg_M := (yX8_lots, cX8_lots, 6, some .int, 6, 133)
theorem nV_X8_lots : gg_nV MD_X8_lots 2 := ⟨⟨gg_mem (by decide +kernel) rfl, gg_mem cw_X8_lots rfl, by decide, by decide, by decide +kernel⟩, gg_mem (by decide +kernel) rfl, gg_mem (by decide +kernel) rfl⟩
def lp_X8_lots_56 {β : Type} (y1 : Int32) (c_now_huts : Int32) (c_now_winds : Nat → Int32) (c_now_kind : Nat → Int32) (k87 : (Int32) → (Int32) → (Int32) → (Nat → Int32) → (Nat → Int32) → (Nat → Int32) → (Nat → Int32) → (Nat → Int32) → (Int32) → (Nat → Int32) → Option β) : Nat → (Int64) → (Int32) → (Int32) → (Int32) → (Int32) → (Nat → Int32) → (Nat → Int32) → (Nat → Int32) → (Nat → Int32) → (Nat → Int32) → (Int32) → (Nat → Int32) → Option β
  | 0, _, _, _, _, _, _, _, _, _, _, _, _ => none
  | n + 1, x3_56, x5_56, c_now_food_56, c_now_due_56, c_now_backs_56, c_now_home_56, c_now_strength_56, c_now_brown_56, c_now_brick_56, c_now_back_56, c_log_size_56, c_log_codes_56 => (if y1 ≤ x5_56 then (k87 c_now_food_56 c_now_due_56 c_now_backs_56 c_now_home_56 c_now_strength_56 c_now_brown_56 c_now_brick_56 c_now_back_56 c_log_size_56 c_log_codes_56) else (f_X8_codeByLot (((48271 : Int64) * x3_56) - ((48271 : Int64) * x3_56) / (2147483647 : Int64) * (2147483647 : Int64)) c_now_huts c_now_food_56 c_now_brick_56).bind (fun v4 => gg_b10 (f_X8_act v4 c_now_huts c_now_food_56 c_now_due_56 c_now_backs_56 c_now_winds c_now_kind c_now_home_56 c_now_strength_56 c_now_brown_56 c_now_brick_56 c_now_back_56 c_log_size_56 c_log_codes_56) (fun v5_0 v5_1 v5_2 v5_3 v5_4 v5_5 v5_6 v5_7 v5_8 v5_9 => (lp_X8_lots_56 y1 c_now_huts c_now_winds c_now_kind k87 n (((48271 : Int64) * x3_56) - ((48271 : Int64) * x3_56) / (2147483647 : Int64) * (2147483647 : Int64)) (x5_56 + (1 : Int32)) v5_0 v5_1 v5_2 v5_3 v5_4 v5_5 v5_6 v5_7 v5_8 v5_9))))
def f_X8_lots (a0 : Int32) (a1 : Int32) (c_now_huts : Int32) (c_now_food : Int32) (c_now_due : Int32) (c_now_backs : Int32) (c_now_winds : Nat → Int32) (c_now_kind : Nat → Int32) (c_now_home : Nat → Int32) (c_now_strength : Nat → Int32) (c_now_brown : Nat → Int32) (c_now_brick : Nat → Int32) (c_now_back : Nat → Int32) (c_log_size : Int32) (c_log_codes : Nat → Int32) : Option (Int32 × (Int32) × (Int32) × (Int32) × (Nat → Int32) × (Nat → Int32) × (Nat → Int32) × (Nat → Int32) × (Nat → Int32) × (Int32) × (Nat → Int32)) := (f_X8_within a0 (1 : Int32) (20 : Int32)).bind (fun v1 => gg_lt ((some ((-1 : Int32), c_now_food, c_now_due, c_now_backs, c_now_home, c_now_strength, c_now_brown, c_now_brick, c_now_back, c_log_size, c_log_codes))) (fun k21 => (if v1 = (0 : Int32) then k21 else (f_X8_within a1 (1 : Int32) (2147483646 : Int32)).bind (fun v2 => (if v2 = (0 : Int32) then k21 else (if c_now_huts = (0 : Int32) then (some ((-4 : Int32), c_now_food, c_now_due, c_now_backs, c_now_home, c_now_strength, c_now_brown, c_now_brick, c_now_back, c_log_size, c_log_codes)) else (f_X4_lacks a0 c_log_size).bind (fun v3 => (if v3 = (0 : Int32) then (lp_X8_lots_56 a0 c_now_huts c_now_winds c_now_kind (fun (c_now_food_87 : Int32) (c_now_due_87 : Int32) (c_now_backs_87 : Int32) (c_now_home_87 : Nat → Int32) (c_now_strength_87 : Nat → Int32) (c_now_brown_87 : Nat → Int32) (c_now_brick_87 : Nat → Int32) (c_now_back_87 : Nat → Int32) (c_log_size_87 : Int32) (c_log_codes_87 : Nat → Int32) => (f_X2_howManyThere c_now_huts c_now_brick_87).bind (fun v6 => (some (v6, c_now_food_87, c_now_due_87, c_now_backs_87, c_now_home_87, c_now_strength_87, c_now_brown_87, c_now_brick_87, c_now_back_87, c_log_size_87, c_log_codes_87)))) gg_fuel (a1.toInt64) (0 : Int32) c_now_food c_now_due c_now_backs c_now_home c_now_strength c_now_brown c_now_brick c_now_back c_log_size c_log_codes) else (some ((-2 : Int32), c_now_food, c_now_due, c_now_backs, c_now_home, c_now_strength, c_now_brown, c_now_brick, c_now_back, c_log_size, c_log_codes))))))))))
set_option maxRecDepth 20000 in
set_option maxHeartbeats 4000000 in
theorem lq_X8_lots_56 {β : Type} {res : β} {rr : Option Value} {ww : va_W} (y1 : Int32) (c_latestFinding : Int32) (c_told : Int32) (c_above : Int64) (c_below : Int64) (c_now_huts : Int32) (c_now_winds : Nat → Int32) (c_now_kind : Nat → Int32) (k87 : (Int32) → (Int32) → (Int32) → (Nat → Int32) → (Nat → Int32) → (Nat → Int32) → (Nat → Int32) → (Nat → Int32) → (Int32) → (Nat → Int32) → Option β) (hk87 : ∀ (c_now_food_87 : Int32) (c_now_due_87 : Int32) (c_now_backs_87 : Int32) (c_now_home_87 : Nat → Int32) (c_now_strength_87 : Nat → Int32) (c_now_brown_87 : Nat → Int32) (c_now_brick_87 : Nat → Int32) (c_now_back_87 : Nat → Int32) (c_log_size_87 : Int32) (c_log_codes_87 : Nat → Int32), k87 c_now_food_87 c_now_due_87 c_now_backs_87 c_now_home_87 c_now_strength_87 c_now_brown_87 c_now_brick_87 c_now_back_87 c_log_size_87 c_log_codes_87 = some res → gg_G MD_X8_lots 87 [some (.ref 0), none, none, none, none, none] [] (wd_X8_lots c_latestFinding c_told c_above c_below c_now_huts c_now_food_87 c_now_due_87 c_now_backs_87 c_now_winds c_now_kind c_now_home_87 c_now_strength_87 c_now_brown_87 c_now_brick_87 c_now_back_87 c_log_size_87 c_log_codes_87) rr ww) : ∀ (n : Nat) (x3_56 : Int64) (x5_56 : Int32) (c_now_food_56 : Int32) (c_now_due_56 : Int32) (c_now_backs_56 : Int32) (c_now_home_56 : Nat → Int32) (c_now_strength_56 : Nat → Int32) (c_now_brown_56 : Nat → Int32) (c_now_brick_56 : Nat → Int32) (c_now_back_56 : Nat → Int32) (c_log_size_56 : Int32) (c_log_codes_56 : Nat → Int32), lp_X8_lots_56 y1 c_now_huts c_now_winds c_now_kind k87 n x3_56 x5_56 c_now_food_56 c_now_due_56 c_now_backs_56 c_now_home_56 c_now_strength_56 c_now_brown_56 c_now_brick_56 c_now_back_56 c_log_size_56 c_log_codes_56 = some res → gg_G MD_X8_lots 56 [some (.ref 0), some (.int y1), none, some (.long x3_56), none, some (.int x5_56)] [] (wd_X8_lots c_latestFinding c_told c_above c_below c_now_huts c_now_food_56 c_now_due_56 c_now_backs_56 c_now_winds c_now_kind c_now_home_56 c_now_strength_56 c_now_brown_56 c_now_brick_56 c_now_back_56 c_log_size_56 c_log_codes_56) rr ww := by
  intro n
  induction n with
  | zero =>
    intro x3_56 x5_56 c_now_food_56 c_now_due_56 c_now_backs_56 c_now_home_56 c_now_strength_56 c_now_brown_56 c_now_brick_56 c_now_back_56 c_log_size_56 c_log_codes_56 h
    exact nomatch (show (none : Option β) = some res from h)
  | succ n ih =>
    intro x3_56 x5_56 c_now_food_56 c_now_due_56 c_now_backs_56 c_now_home_56 c_now_strength_56 c_now_brown_56 c_now_brick_56 c_now_back_56 c_log_size_56 c_log_codes_56 h
    rw [lp_X8_lots_56] at h
    refine gg_iload dX8_lots_56 rfl ?_
    refine gg_iload_n dX8_lots_58 rfl ?_
    refine gg_icmp_ge 87 dX8_lots_59 (by decide) (fun hc => ?_) (fun hc => ?_)
    · replace h := gg_th h hc
      refine gg_fg [true, false, false, false, false, false] [some (.ref 0), none, none, none, none, none] rfl ?_
      exact hk87 c_now_food_56 c_now_due_56 c_now_backs_56 c_now_home_56 c_now_strength_56 c_now_brown_56 c_now_brick_56 c_now_back_56 c_log_size_56 c_log_codes_56 h
    · replace h := gg_el h hc
      refine gg_ldc2 (48271 : Int64) dX8_lots_62 (gg_mem (by decide +kernel) rfl) ?_
      refine gg_lload_n dX8_lots_65 rfl ?_
      refine gg_lmul dX8_lots_66 ?_
      refine gg_ldc2 (2147483647 : Int64) dX8_lots_67 (gg_mem (by decide +kernel) rfl) ?_
      refine gg_lrem dX8_lots_70 (by decide) ?_
      refine gg_lstore_n [some (.ref 0), some (.int y1), none, some (.long (((48271 : Int64) * x3_56) - ((48271 : Int64) * x3_56) / (2147483647 : Int64) * (2147483647 : Int64))), none, some (.int x5_56)] dX8_lots_71 rfl (Nat.le_of_ble_eq_true rfl) rfl ?_
      refine gg_aload_n dX8_lots_72 rfl ?_
      refine gg_aload_n dX8_lots_73 rfl ?_
      refine gg_lload_n dX8_lots_74 rfl ?_
      obtain ⟨v4, hv4, h⟩ := gg_bd h
      refine gg_callV (gg_sg [0]) [0, 1, 7] (wd_X8_lots c_latestFinding c_told c_above c_below c_now_huts c_now_food_56 c_now_due_56 c_now_backs_56 c_now_winds c_now_kind c_now_home_56 c_now_strength_56 c_now_brown_56 c_now_brick_56 c_now_back_56 c_log_size_56 c_log_codes_56) 0 (C_X8_codeByLot (((48271 : Int64) * x3_56) - ((48271 : Int64) * x3_56) / (2147483647 : Int64) * (2147483647 : Int64)) c_latestFinding c_told c_above c_below c_now_huts c_now_food_56 c_now_due_56 c_now_backs_56 c_now_brick_56 hv4) nV_X8_codeByLot ml_X8_297 rfl rfl rfl rfl rfl rfl rfl rfl rfl rfl [2, 3, 4, 5, 6, 8, 9, 10] 11 rfl rfl rfl rfl rfl ⟨Nat.le_of_ble_eq_true rfl, Nat.le_of_ble_eq_true rfl⟩ (Nat.le_of_ble_eq_true rfl) dX8_lots_75 [.int v4, .ref 0] rfl ?_
      obtain ⟨v5_0, v5_1, v5_2, v5_3, v5_4, v5_5, v5_6, v5_7, v5_8, v5_9, hv5, h⟩ := gg_bd10 h
      refine gg_callV (gg_sg [0]) [0, 1, 2, 3, 4, 5, 6, 7, 8, 9, 10] (wd_X8_lots c_latestFinding c_told c_above c_below c_now_huts v5_0 v5_1 v5_2 c_now_winds c_now_kind v5_3 v5_4 v5_5 v5_6 v5_7 v5_8 v5_9) 0 (C_X8_act v4 c_latestFinding c_told c_above c_below c_now_huts c_now_food_56 c_now_due_56 c_now_backs_56 c_now_winds c_now_kind c_now_home_56 c_now_strength_56 c_now_brown_56 c_now_brick_56 c_now_back_56 c_log_size_56 c_log_codes_56 hv5) nV_X8_act ml_X8_193 rfl rfl rfl rfl rfl rfl rfl rfl rfl rfl [] 11 rfl rfl rfl rfl rfl ⟨Nat.le_of_ble_eq_true rfl, Nat.le_of_ble_eq_true rfl⟩ (Nat.le_of_ble_eq_true rfl) dX8_lots_78 [] rfl ?_
      refine gg_iinc (x5_56 + (1 : Int32)) [some (.ref 0), some (.int y1), none, some (.long (((48271 : Int64) * x3_56) - ((48271 : Int64) * x3_56) / (2147483647 : Int64) * (2147483647 : Int64))), none, some (.int (x5_56 + (1 : Int32)))] dX8_lots_81 rfl rfl rfl (Nat.le_of_ble_eq_true rfl) rfl ?_
      refine gg_goto 56 dX8_lots_84 (by decide) ?_
      exact ih (((48271 : Int64) * x3_56) - ((48271 : Int64) * x3_56) / (2147483647 : Int64) * (2147483647 : Int64)) (x5_56 + (1 : Int32)) v5_0 v5_1 v5_2 v5_3 v5_4 v5_5 v5_6 v5_7 v5_8 v5_9 h
set_option maxRecDepth 20000 in
set_option maxHeartbeats 8000000 in
theorem C_X8_lots (a0 : Int32) (a1 : Int32) (c_latestFinding : Int32) (c_told : Int32) (c_above : Int64) (c_below : Int64) (c_now_huts : Int32) (c_now_food : Int32) (c_now_due : Int32) (c_now_backs : Int32) (c_now_winds : Nat → Int32) (c_now_kind : Nat → Int32) (c_now_home : Nat → Int32) (c_now_strength : Nat → Int32) (c_now_brown : Nat → Int32) (c_now_brick : Nat → Int32) (c_now_back : Nat → Int32) (c_log_size : Int32) (c_log_codes : Nat → Int32) {r0 : Int32} {r1 : (Int32)} {r2 : (Int32)} {r3 : (Int32)} {r4 : (Nat → Int32)} {r5 : (Nat → Int32)} {r6 : (Nat → Int32)} {r7 : (Nat → Int32)} {r8 : (Nat → Int32)} {r9 : (Int32)} {r10 : (Nat → Int32)} (h : f_X8_lots a0 a1 c_now_huts c_now_food c_now_due c_now_backs c_now_winds c_now_kind c_now_home c_now_strength c_now_brown c_now_brick c_now_back c_log_size c_log_codes = some (r0, r1, r2, r3, r4, r5, r6, r7, r8, r9, r10)) : gg_C MD_X8_lots [.ref 0, .int a0, .int a1] (wd_X8_lots c_latestFinding c_told c_above c_below c_now_huts c_now_food c_now_due c_now_backs c_now_winds c_now_kind c_now_home c_now_strength c_now_brown c_now_brick c_now_back c_log_size c_log_codes) (some (.int r0)) (wd_X8_lots c_latestFinding c_told c_above c_below c_now_huts r1 r2 r3 c_now_winds c_now_kind r4 r5 r6 r7 r8 r9 r10) := by
  refine gg_ofG [some (.ref 0), some (.int a0), some (.int a1), none, none, none] (plainFor_of_name (by decide)) (Nat.le_of_ble_eq_true rfl) rfl ?_
  unfold f_X8_lots at h
  refine gg_iload_n dX8_lots_0 rfl ?_
  refine gg_iconst (1 : Int32) dX8_lots_1 (by decide) ?_
  refine gg_bipush (20 : Int32) dX8_lots_2 (by decide) ?_
  obtain ⟨v1, hv1, h⟩ := gg_bd h
  refine gg_callS (gg_sg []) [] (wd_X8_lots c_latestFinding c_told c_above c_below c_now_huts c_now_food c_now_due c_now_backs c_now_winds c_now_kind c_now_home c_now_strength c_now_brown c_now_brick c_now_back c_log_size c_log_codes) (C_X8_within a0 (1 : Int32) (20 : Int32) hv1) nS_X8_within ml_X8_155 rfl rfl rfl rfl rfl rfl rfl [0, 1, 2, 3, 4, 5, 6, 7, 8, 9, 10] 11 rfl rfl rfl rfl rfl ⟨Nat.le_of_ble_eq_true rfl, Nat.le_of_ble_eq_true rfl⟩ (Nat.le_of_ble_eq_true rfl) dX8_lots_4 [.int v1] rfl ?_
  obtain ⟨k21, hke21, h⟩ := gg_lte h
  have hk21 : k21 = some (r0, r1, r2, r3, r4, r5, r6, r7, r8, r9, r10) → gg_G MD_X8_lots 21 [none, none, none, none, none, none] [] (wd_X8_lots c_latestFinding c_told c_above c_below c_now_huts c_now_food c_now_due c_now_backs c_now_winds c_now_kind c_now_home c_now_strength c_now_brown c_now_brick c_now_back c_log_size c_log_codes) (some (.int r0)) (wd_X8_lots c_latestFinding c_told c_above c_below c_now_huts r1 r2 r3 c_now_winds c_now_kind r4 r5 r6 r7 r8 r9 r10) := by
    intro  h
    subst hke21
    refine gg_iconst (-1 : Int32) dX8_lots_21 (by decide) ?_
    cases h
    exact gg_iret dX8_lots_22 rfl
  clear hke21
  refine gg_if_eq 21 dX8_lots_7 (by decide) (fun hc => ?_) (fun hc => ?_)
  · replace h := gg_th h hc
    refine gg_fg [false, false, false, false, false, false] [none, none, none, none, none, none] rfl ?_
    exact hk21 h
  · replace h := gg_el h hc
    refine gg_iload_n dX8_lots_10 rfl ?_
    refine gg_iconst (1 : Int32) dX8_lots_11 (by decide) ?_
    refine gg_ldcw (2147483646 : Int32) dX8_lots_12 (gg_mem (by decide +kernel) rfl) ?_
    obtain ⟨v2, hv2, h⟩ := gg_bd h
    refine gg_callS (gg_sg []) [] (wd_X8_lots c_latestFinding c_told c_above c_below c_now_huts c_now_food c_now_due c_now_backs c_now_winds c_now_kind c_now_home c_now_strength c_now_brown c_now_brick c_now_back c_log_size c_log_codes) (C_X8_within a1 (1 : Int32) (2147483646 : Int32) hv2) nS_X8_within ml_X8_155 rfl rfl rfl rfl rfl rfl rfl [0, 1, 2, 3, 4, 5, 6, 7, 8, 9, 10] 11 rfl rfl rfl rfl rfl ⟨Nat.le_of_ble_eq_true rfl, Nat.le_of_ble_eq_true rfl⟩ (Nat.le_of_ble_eq_true rfl) dX8_lots_15 [.int v2] rfl ?_
    refine gg_if_ne 23 dX8_lots_18 (by decide) (fun hc => ?_) (fun hc => ?_)
    · replace h := gg_el h hc
      refine gg_aload_n dX8_lots_23 rfl ?_
      refine gg_get 0 fl_X8_35 dX8_lots_24 rfl rfl ?_
      refine gg_get 1 fl_X8_151 dX8_lots_27 rfl rfl ?_
      refine gg_if_ne 36 dX8_lots_30 (by decide) (fun hc => ?_) (fun hc => ?_)
      · replace h := gg_el h hc
        refine gg_aload_n dX8_lots_36 rfl ?_
        refine gg_get 0 fl_X8_46 dX8_lots_37 rfl rfl ?_
        refine gg_iload_n dX8_lots_40 rfl ?_
        obtain ⟨v3, hv3, h⟩ := gg_bd h
        refine gg_callV (gg_sg [43]) [9, 10] (wd_X8_lots c_latestFinding c_told c_above c_below c_now_huts c_now_food c_now_due c_now_backs c_now_winds c_now_kind c_now_home c_now_strength c_now_brown c_now_brick c_now_back c_log_size c_log_codes) 0 (C_X4_lacks a0 c_log_size c_log_codes hv3) nV_X4_lacks ml_X8_186 rfl rfl rfl rfl rfl rfl rfl rfl rfl rfl [0, 1, 2, 3, 4, 5, 6, 7, 8] 11 rfl rfl rfl rfl rfl ⟨Nat.le_of_ble_eq_true rfl, Nat.le_of_ble_eq_true rfl⟩ (Nat.le_of_ble_eq_true rfl) dX8_lots_41 [.int v3] rfl ?_
        refine gg_if_eq 50 dX8_lots_44 (by decide) (fun hc => ?_) (fun hc => ?_)
        · replace h := gg_th h hc
          refine gg_iload_n dX8_lots_50 rfl ?_
          refine gg_i2l dX8_lots_51 ?_
          refine gg_lstore_n [some (.ref 0), some (.int a0), some (.int a1), some (.long (a1.toInt64)), none, none] dX8_lots_52 rfl (Nat.le_of_ble_eq_true rfl) rfl ?_
          refine gg_iconst (0 : Int32) dX8_lots_53 (by decide) ?_
          refine gg_istore [some (.ref 0), some (.int a0), some (.int a1), some (.long (a1.toInt64)), none, some (.int (0 : Int32))] dX8_lots_54 rfl (Nat.le_of_ble_eq_true rfl) rfl ?_
          refine gg_fg [true, true, false, true, false, true] [some (.ref 0), some (.int a0), none, some (.long (a1.toInt64)), none, some (.int (0 : Int32))] rfl ?_
          refine lq_X8_lots_56 a0 c_latestFinding c_told c_above c_below c_now_huts c_now_winds c_now_kind _ ?_ gg_fuel (a1.toInt64) (0 : Int32) c_now_food c_now_due c_now_backs c_now_home c_now_strength c_now_brown c_now_brick c_now_back c_log_size c_log_codes h
          intro c_now_food_87 c_now_due_87 c_now_backs_87 c_now_home_87 c_now_strength_87 c_now_brown_87 c_now_brick_87 c_now_back_87 c_log_size_87 c_log_codes_87 h
          refine gg_aload_n dX8_lots_87 rfl ?_
          refine gg_get 0 fl_X8_35 dX8_lots_88 rfl rfl ?_
          obtain ⟨v6, hv6, h⟩ := gg_bd h
          refine gg_callV (gg_sg [27]) [1, 7] (wd_X8_lots c_latestFinding c_told c_above c_below c_now_huts c_now_food_87 c_now_due_87 c_now_backs_87 c_now_winds c_now_kind c_now_home_87 c_now_strength_87 c_now_brown_87 c_now_brick_87 c_now_back_87 c_log_size_87 c_log_codes_87) 0 (C_X2_howManyThere c_now_huts c_now_food_87 c_now_due_87 c_now_backs_87 c_now_brick_87 hv6) nV_X2_howManyThere ml_X8_196 rfl rfl rfl rfl rfl rfl rfl rfl rfl rfl [0, 2, 3, 4, 5, 6, 8, 9, 10] 11 rfl rfl rfl rfl rfl ⟨Nat.le_of_ble_eq_true rfl, Nat.le_of_ble_eq_true rfl⟩ (Nat.le_of_ble_eq_true rfl) dX8_lots_91 [.int v6] rfl ?_
          cases h
          exact gg_iret dX8_lots_94 rfl
        · replace h := gg_el h hc
          refine gg_bipush (-2 : Int32) dX8_lots_47 (by decide) ?_
          cases h
          exact gg_iret dX8_lots_49 rfl
      · replace h := gg_th h hc
        refine gg_bipush (-4 : Int32) dX8_lots_33 (by decide) ?_
        cases h
        exact gg_iret dX8_lots_35 rfl
    · replace h := gg_th h hc
      refine gg_fg [false, false, false, false, false, false] [none, none, none, none, none, none] rfl ?_
      exact hk21 h
def wd_X8_asked (c_latestFinding : Int32) (c_told : Int32) (c_above : Int64) (c_below : Int64) : va_W := [(0, .inr (7, [.ref 1, .ref 10, .ref 17, .ref 19, .ref 27, .ref 35, .ref 43, .ref 45, .ref 52, .ref 56, .ref 60, .ref 67, .int c_latestFinding, .int c_told, .long c_above, .long c_below]))]
def MD_X8_asked : gg_M := (yX8_asked, cX8_asked, 1, some .int, 0, 0)
theorem nV_X8_asked : gg_nV MD_X8_asked 0 := ⟨⟨gg_mem (by decide +kernel) rfl, gg_mem cw_X8_asked rfl, by decide, by decide, by decide +kernel⟩, gg_mem (by decide +kernel) rfl, gg_mem (by decide +kernel) rfl⟩
def f_X8_asked  (c_told : Int32) : Option (Int32) := (some c_told)
set_option maxRecDepth 20000 in
set_option maxHeartbeats 8000000 in
theorem C_X8_asked  (c_latestFinding : Int32) (c_told : Int32) (c_above : Int64) (c_below : Int64) {res : Int32} (h : f_X8_asked c_told = some res) : gg_C MD_X8_asked [.ref 0] (wd_X8_asked c_latestFinding c_told c_above c_below) (some (.int res)) (wd_X8_asked c_latestFinding c_told c_above c_below) := by
  refine gg_ofG [some (.ref 0)] (plainFor_of_name (by decide)) (Nat.le_of_ble_eq_true rfl) rfl ?_
  unfold f_X8_asked at h
  refine gg_aload_n dX8_asked_0 rfl ?_
  refine gg_get 0 fl_X8_83 dX8_asked_1 rfl rfl ?_
  cases h
  exact gg_iret dX8_asked_4 rfl
def wd_X8_upper (c_latestFinding : Int32) (c_told : Int32) (c_above : Int64) (c_below : Int64) : va_W := [(0, .inr (7, [.ref 1, .ref 10, .ref 17, .ref 19, .ref 27, .ref 35, .ref 43, .ref 45, .ref 52, .ref 56, .ref 60, .ref 67, .int c_latestFinding, .int c_told, .long c_above, .long c_below]))]
def MD_X8_upper : gg_M := (yX8_upper, cX8_upper, 1, some .long, 0, 0)
theorem nV_X8_upper : gg_nV MD_X8_upper 0 := ⟨⟨gg_mem (by decide +kernel) rfl, gg_mem cw_X8_upper rfl, by decide, by decide, by decide +kernel⟩, gg_mem (by decide +kernel) rfl, gg_mem (by decide +kernel) rfl⟩
def f_X8_upper  (c_above : Int64) : Option (Int64) := (some c_above)
set_option maxRecDepth 20000 in
set_option maxHeartbeats 8000000 in
theorem C_X8_upper  (c_latestFinding : Int32) (c_told : Int32) (c_above : Int64) (c_below : Int64) {res : Int64} (h : f_X8_upper c_above = some res) : gg_C MD_X8_upper [.ref 0] (wd_X8_upper c_latestFinding c_told c_above c_below) (some (.long res)) (wd_X8_upper c_latestFinding c_told c_above c_below) := by
  refine gg_ofG [some (.ref 0)] (plainFor_of_name (by decide)) (Nat.le_of_ble_eq_true rfl) rfl ?_
  unfold f_X8_upper at h
  refine gg_aload_n dX8_upper_0 rfl ?_
  refine gg_get 0 fl_X8_86 dX8_upper_1 rfl rfl ?_
  cases h
  exact gg_lret dX8_upper_4 rfl
def wd_X8_lower (c_latestFinding : Int32) (c_told : Int32) (c_above : Int64) (c_below : Int64) : va_W := [(0, .inr (7, [.ref 1, .ref 10, .ref 17, .ref 19, .ref 27, .ref 35, .ref 43, .ref 45, .ref 52, .ref 56, .ref 60, .ref 67, .int c_latestFinding, .int c_told, .long c_above, .long c_below]))]
def MD_X8_lower : gg_M := (yX8_lower, cX8_lower, 1, some .long, 0, 0)
theorem nV_X8_lower : gg_nV MD_X8_lower 0 := ⟨⟨gg_mem (by decide +kernel) rfl, gg_mem cw_X8_lower rfl, by decide, by decide, by decide +kernel⟩, gg_mem (by decide +kernel) rfl, gg_mem (by decide +kernel) rfl⟩
def f_X8_lower  (c_below : Int64) : Option (Int64) := (some c_below)
set_option maxRecDepth 20000 in
set_option maxHeartbeats 8000000 in
theorem C_X8_lower  (c_latestFinding : Int32) (c_told : Int32) (c_above : Int64) (c_below : Int64) {res : Int64} (h : f_X8_lower c_below = some res) : gg_C MD_X8_lower [.ref 0] (wd_X8_lower c_latestFinding c_told c_above c_below) (some (.long res)) (wd_X8_lower c_latestFinding c_told c_above c_below) := by
  refine gg_ofG [some (.ref 0)] (plainFor_of_name (by decide)) (Nat.le_of_ble_eq_true rfl) rfl ?_
  unfold f_X8_lower at h
  refine gg_aload_n dX8_lower_0 rfl ?_
  refine gg_get 0 fl_X8_90 dX8_lower_1 rfl rfl ?_
  cases h
  exact gg_lret dX8_lower_4 rfl
def wd_X8_howManyKept (c_latestFinding : Int32) (c_told : Int32) (c_above : Int64) (c_below : Int64) (c_kept_size : Nat → Int32) : va_W := [(0, .inr (7, [.ref 1, .ref 10, .ref 17, .ref 19, .ref 27, .ref 35, .ref 43, .ref 45, .ref 52, .ref 56, .ref 60, .ref 67, .int c_latestFinding, .int c_told, .long c_above, .long c_below])), (45, .inl (3, 3, .inr (.inr (.inr (.inr (gg_rf 1 2)))))), (46, .inr (3, [.int (c_kept_size 0), .ref 47])), (48, .inr (3, [.int (c_kept_size 1), .ref 49])), (50, .inr (3, [.int (c_kept_size 2), .ref 51]))]
def MD_X8_howManyKept : gg_M := (yX8_howManyKept, cX8_howManyKept, 3, some .int, 0, 0)
theorem nV_X8_howManyKept : gg_nV MD_X8_howManyKept 0 := ⟨⟨gg_mem (by decide +kernel) rfl, gg_mem cw_X8_howManyKept rfl, by decide, by decide, by decide +kernel⟩, gg_mem (by decide +kernel) rfl, gg_mem (by decide +kernel) rfl⟩
def lp_X8_howManyKept_4 {β : Type} (c_kept_size : Nat → Int32) (k35 : (Int32) → Option β) : Nat → (Int32) → (Int32) → Option β
  | 0, _, _ => none
  | n + 1, x1_4, x2_4 => (if (3 : Int32) ≤ x2_4 then (k35 x1_4) else (gg_k3 x2_4 (gg_lt (fun (x1_29 : Int32) => (lp_X8_howManyKept_4 c_kept_size k35 n x1_29 (x2_4 + (1 : Int32)))) (fun k29 => (if (c_kept_size 0) = (-1 : Int32) then (k29 x1_4) else (k29 (x1_4 + (1 : Int32)))))) (gg_lt (fun (x1_29 : Int32) => (lp_X8_howManyKept_4 c_kept_size k35 n x1_29 (x2_4 + (1 : Int32)))) (fun k29 => (if (c_kept_size 1) = (-1 : Int32) then (k29 x1_4) else (k29 (x1_4 + (1 : Int32)))))) (gg_lt (fun (x1_29 : Int32) => (lp_X8_howManyKept_4 c_kept_size k35 n x1_29 (x2_4 + (1 : Int32)))) (fun k29 => (if (c_kept_size 2) = (-1 : Int32) then (k29 x1_4) else (k29 (x1_4 + (1 : Int32))))))))
def f_X8_howManyKept  (c_kept_size : Nat → Int32) : Option (Int32) := (lp_X8_howManyKept_4 c_kept_size (fun (x1_35 : Int32) => (some x1_35)) gg_fuel (0 : Int32) (0 : Int32))
set_option maxRecDepth 20000 in
set_option maxHeartbeats 4000000 in
theorem lq_X8_howManyKept_4 {β : Type} {res : β} {rr : Option Value} {ww : va_W} (c_latestFinding : Int32) (c_told : Int32) (c_above : Int64) (c_below : Int64) (c_kept_size : Nat → Int32) (k35 : (Int32) → Option β) (hk35 : ∀ (x1_35 : Int32), k35 x1_35 = some res → gg_G MD_X8_howManyKept 35 [none, some (.int x1_35), none] [] (wd_X8_howManyKept c_latestFinding c_told c_above c_below c_kept_size) rr ww) : ∀ (n : Nat) (x1_4 : Int32) (x2_4 : Int32), lp_X8_howManyKept_4 c_kept_size k35 n x1_4 x2_4 = some res → gg_G MD_X8_howManyKept 4 [some (.ref 0), some (.int x1_4), some (.int x2_4)] [] (wd_X8_howManyKept c_latestFinding c_told c_above c_below c_kept_size) rr ww := by
  intro n
  induction n with
  | zero =>
    intro x1_4 x2_4 h
    exact nomatch (show (none : Option β) = some res from h)
  | succ n ih =>
    intro x1_4 x2_4 h
    rw [lp_X8_howManyKept_4] at h
    refine gg_iload_n dX8_howManyKept_4 rfl ?_
    refine gg_aload_n dX8_howManyKept_5 rfl ?_
    refine gg_get 0 fl_X8_50 dX8_howManyKept_6 rfl rfl ?_
    refine gg_alen (3 : Int32) 1 dX8_howManyKept_9 rfl (by decide) rfl ?_
    refine gg_icmp_ge 35 dX8_howManyKept_10 (by decide) (fun hc => ?_) (fun hc => ?_)
    · replace h := gg_th h hc
      refine gg_fg [false, true, false] [none, some (.int x1_4), none] rfl ?_
      exact hk35 x1_4 h
    · replace h := gg_el h hc
      refine gg_aload_n dX8_howManyKept_13 rfl ?_
      refine gg_get 0 fl_X8_50 dX8_howManyKept_14 rfl rfl ?_
      refine gg_iload_n dX8_howManyKept_17 rfl ?_
      rcases gg_k3c h with ⟨hk, h⟩ | ⟨hk, h⟩ | ⟨hk, h⟩
      · refine gg_aldq (d := 1) 1 46 dX8_howManyKept_18 rfl (by rw [hk]; rfl) (by rw [hk]; rfl) rfl ?_
        refine gg_get 2 fl_X8_149 dX8_howManyKept_19 rfl rfl ?_
        refine gg_iconst (-1 : Int32) dX8_howManyKept_22 (by decide) ?_
        obtain ⟨k29, hke29, h⟩ := gg_lte h
        have hk29 : ∀ (x1_29 : Int32), k29 x1_29 = some res → gg_G MD_X8_howManyKept 29 [some (.ref 0), some (.int x1_29), some (.int x2_4)] [] (wd_X8_howManyKept c_latestFinding c_told c_above c_below c_kept_size) rr ww := by
          intro x1_29 h
          subst hke29
          refine gg_iinc (x2_4 + (1 : Int32)) [some (.ref 0), some (.int x1_29), some (.int (x2_4 + (1 : Int32)))] dX8_howManyKept_29 rfl rfl rfl (Nat.le_of_ble_eq_true rfl) rfl ?_
          refine gg_goto 4 dX8_howManyKept_32 (by decide) ?_
          exact ih x1_29 (x2_4 + (1 : Int32)) h
        clear hke29
        refine gg_icmp_eq 29 dX8_howManyKept_23 (by decide) (fun hc => ?_) (fun hc => ?_)
        · replace h := gg_th h hc
          exact hk29 x1_4 h
        · replace h := gg_el h hc
          refine gg_iinc (x1_4 + (1 : Int32)) [some (.ref 0), some (.int (x1_4 + (1 : Int32))), some (.int x2_4)] dX8_howManyKept_26 rfl rfl rfl (Nat.le_of_ble_eq_true rfl) rfl ?_
          exact hk29 (x1_4 + (1 : Int32)) h
      · refine gg_aldq (d := 3) 1 48 dX8_howManyKept_18 rfl (by rw [hk]; rfl) (by rw [hk]; rfl) rfl ?_
        refine gg_get 3 fl_X8_149 dX8_howManyKept_19 rfl rfl ?_
        refine gg_iconst (-1 : Int32) dX8_howManyKept_22 (by decide) ?_
        obtain ⟨k29, hke29, h⟩ := gg_lte h
        have hk29 : ∀ (x1_29 : Int32), k29 x1_29 = some res → gg_G MD_X8_howManyKept 29 [some (.ref 0), some (.int x1_29), some (.int x2_4)] [] (wd_X8_howManyKept c_latestFinding c_told c_above c_below c_kept_size) rr ww := by
          intro x1_29 h
          subst hke29
          refine gg_iinc (x2_4 + (1 : Int32)) [some (.ref 0), some (.int x1_29), some (.int (x2_4 + (1 : Int32)))] dX8_howManyKept_29 rfl rfl rfl (Nat.le_of_ble_eq_true rfl) rfl ?_
          refine gg_goto 4 dX8_howManyKept_32 (by decide) ?_
          exact ih x1_29 (x2_4 + (1 : Int32)) h
        clear hke29
        refine gg_icmp_eq 29 dX8_howManyKept_23 (by decide) (fun hc => ?_) (fun hc => ?_)
        · replace h := gg_th h hc
          exact hk29 x1_4 h
        · replace h := gg_el h hc
          refine gg_iinc (x1_4 + (1 : Int32)) [some (.ref 0), some (.int (x1_4 + (1 : Int32))), some (.int x2_4)] dX8_howManyKept_26 rfl rfl rfl (Nat.le_of_ble_eq_true rfl) rfl ?_
          exact hk29 (x1_4 + (1 : Int32)) h
      · refine gg_aldq (d := 5) 1 50 dX8_howManyKept_18 rfl (by rw [hk]; rfl) (by rw [hk]; rfl) rfl ?_
        refine gg_get 4 fl_X8_149 dX8_howManyKept_19 rfl rfl ?_
        refine gg_iconst (-1 : Int32) dX8_howManyKept_22 (by decide) ?_
        obtain ⟨k29, hke29, h⟩ := gg_lte h
        have hk29 : ∀ (x1_29 : Int32), k29 x1_29 = some res → gg_G MD_X8_howManyKept 29 [some (.ref 0), some (.int x1_29), some (.int x2_4)] [] (wd_X8_howManyKept c_latestFinding c_told c_above c_below c_kept_size) rr ww := by
          intro x1_29 h
          subst hke29
          refine gg_iinc (x2_4 + (1 : Int32)) [some (.ref 0), some (.int x1_29), some (.int (x2_4 + (1 : Int32)))] dX8_howManyKept_29 rfl rfl rfl (Nat.le_of_ble_eq_true rfl) rfl ?_
          refine gg_goto 4 dX8_howManyKept_32 (by decide) ?_
          exact ih x1_29 (x2_4 + (1 : Int32)) h
        clear hke29
        refine gg_icmp_eq 29 dX8_howManyKept_23 (by decide) (fun hc => ?_) (fun hc => ?_)
        · replace h := gg_th h hc
          exact hk29 x1_4 h
        · replace h := gg_el h hc
          refine gg_iinc (x1_4 + (1 : Int32)) [some (.ref 0), some (.int (x1_4 + (1 : Int32))), some (.int x2_4)] dX8_howManyKept_26 rfl rfl rfl (Nat.le_of_ble_eq_true rfl) rfl ?_
          exact hk29 (x1_4 + (1 : Int32)) h
set_option maxRecDepth 20000 in
set_option maxHeartbeats 8000000 in
theorem C_X8_howManyKept  (c_latestFinding : Int32) (c_told : Int32) (c_above : Int64) (c_below : Int64) (c_kept_size : Nat → Int32) {res : Int32} (h : f_X8_howManyKept c_kept_size = some res) : gg_C MD_X8_howManyKept [.ref 0] (wd_X8_howManyKept c_latestFinding c_told c_above c_below c_kept_size) (some (.int res)) (wd_X8_howManyKept c_latestFinding c_told c_above c_below c_kept_size) := by
  refine gg_ofG [some (.ref 0), none, none] (plainFor_of_name (by decide)) (Nat.le_of_ble_eq_true rfl) rfl ?_
  unfold f_X8_howManyKept at h
  refine gg_iconst (0 : Int32) dX8_howManyKept_0 (by decide) ?_
  refine gg_istore_n [some (.ref 0), some (.int (0 : Int32)), none] dX8_howManyKept_1 rfl (Nat.le_of_ble_eq_true rfl) rfl ?_
  refine gg_iconst (0 : Int32) dX8_howManyKept_2 (by decide) ?_
  refine gg_istore_n [some (.ref 0), some (.int (0 : Int32)), some (.int (0 : Int32))] dX8_howManyKept_3 rfl (Nat.le_of_ble_eq_true rfl) rfl ?_
  refine lq_X8_howManyKept_4 c_latestFinding c_told c_above c_below c_kept_size _ ?_ gg_fuel (0 : Int32) (0 : Int32) h
  intro x1_35 h
  refine gg_iload_n dX8_howManyKept_35 rfl ?_
  cases h
  exact gg_iret dX8_howManyKept_36 rfl
def wd_X6_howMany_s4 (c_most : Int32) (c_sizes : Nat → Int32) : va_W := [(0, .inr (5, [.int c_most, .ref 1, .ref 2])), (2, .inl (0, 4, .inl c_sizes))]
def MD_X6_howMany_s4 : gg_M := (yX6_howMany, cX6_howMany, 3, some .int, 0, 0)
theorem nV_X6_howMany_s4 : gg_nV MD_X6_howMany_s4 0 := ⟨⟨gg_mem (by decide +kernel) rfl, gg_mem cw_X6_howMany rfl, by decide, by decide, by decide +kernel⟩, gg_mem (by decide +kernel) rfl, gg_mem (by decide +kernel) rfl⟩
def lp_X6_howMany_s4_4 {β : Type} (c_sizes : Nat → Int32) (k32 : (Int32) → Option β) : Nat → (Int32) → (Int32) → Option β
  | 0, _, _ => none
  | n + 1, x1_4, x2_4 => (if (4 : Int32) ≤ x2_4 then (k32 x1_4) else gg_chk (gg_in x2_4 4) (gg_lt (fun (x1_26 : Int32) => (lp_X6_howMany_s4_4 c_sizes k32 n x1_26 (x2_4 + (1 : Int32)))) (fun k26 => (if (c_sizes x2_4.toNatClampNeg) = (-1 : Int32) then (k26 x1_4) else (k26 (x1_4 + (1 : Int32)))))))
def f_X6_howMany_s4  (c_sizes : Nat → Int32) : Option (Int32) := (lp_X6_howMany_s4_4 c_sizes (fun (x1_32 : Int32) => (some x1_32)) gg_fuel (0 : Int32) (0 : Int32))
set_option maxRecDepth 20000 in
set_option maxHeartbeats 4000000 in
theorem lq_X6_howMany_s4_4 {β : Type} {res : β} {rr : Option Value} {ww : va_W} (c_most : Int32) (c_sizes : Nat → Int32) (k32 : (Int32) → Option β) (hk32 : ∀ (x1_32 : Int32), k32 x1_32 = some res → gg_G MD_X6_howMany_s4 32 [none, some (.int x1_32), none] [] (wd_X6_howMany_s4 c_most c_sizes) rr ww) : ∀ (n : Nat) (x1_4 : Int32) (x2_4 : Int32), lp_X6_howMany_s4_4 c_sizes k32 n x1_4 x2_4 = some res → gg_G MD_X6_howMany_s4 4 [some (.ref 0), some (.int x1_4), some (.int x2_4)] [] (wd_X6_howMany_s4 c_most c_sizes) rr ww := by
  intro n
  induction n with
  | zero =>
    intro x1_4 x2_4 h
    exact nomatch (show (none : Option β) = some res from h)
  | succ n ih =>
    intro x1_4 x2_4 h
    rw [lp_X6_howMany_s4_4] at h
    refine gg_iload_n dX6_howMany_4 rfl ?_
    refine gg_aload_n dX6_howMany_5 rfl ?_
    refine gg_get 0 fl_X6_18 dX6_howMany_6 rfl rfl ?_
    refine gg_alen (4 : Int32) 1 dX6_howMany_9 rfl (by decide) rfl ?_
    refine gg_icmp_ge 32 dX6_howMany_10 (by decide) (fun hc => ?_) (fun hc => ?_)
    · replace h := gg_th h hc
      refine gg_fg [false, true, false] [none, some (.int x1_4), none] rfl ?_
      exact hk32 x1_4 h
    · replace h := gg_el h hc
      refine gg_aload_n dX6_howMany_13 rfl ?_
      refine gg_get 0 fl_X6_18 dX6_howMany_14 rfl rfl ?_
      refine gg_iload_n dX6_howMany_17 rfl ?_
      obtain ⟨hb18, h⟩ := gg_ck h
      refine gg_iald 1 dX6_howMany_18 rfl hb18 ?_
      refine gg_iconst (-1 : Int32) dX6_howMany_19 (by decide) ?_
      obtain ⟨k26, hke26, h⟩ := gg_lte h
      have hk26 : ∀ (x1_26 : Int32), k26 x1_26 = some res → gg_G MD_X6_howMany_s4 26 [some (.ref 0), some (.int x1_26), some (.int x2_4)] [] (wd_X6_howMany_s4 c_most c_sizes) rr ww := by
        intro x1_26 h
        subst hke26
        refine gg_iinc (x2_4 + (1 : Int32)) [some (.ref 0), some (.int x1_26), some (.int (x2_4 + (1 : Int32)))] dX6_howMany_26 rfl rfl rfl (Nat.le_of_ble_eq_true rfl) rfl ?_
        refine gg_goto 4 dX6_howMany_29 (by decide) ?_
        exact ih x1_26 (x2_4 + (1 : Int32)) h
      clear hke26
      refine gg_icmp_eq 26 dX6_howMany_20 (by decide) (fun hc => ?_) (fun hc => ?_)
      · replace h := gg_th h hc
        exact hk26 x1_4 h
      · replace h := gg_el h hc
        refine gg_iinc (x1_4 + (1 : Int32)) [some (.ref 0), some (.int (x1_4 + (1 : Int32))), some (.int x2_4)] dX6_howMany_23 rfl rfl rfl (Nat.le_of_ble_eq_true rfl) rfl ?_
        exact hk26 (x1_4 + (1 : Int32)) h
set_option maxRecDepth 20000 in
set_option maxHeartbeats 8000000 in
theorem C_X6_howMany_s4  (c_most : Int32) (c_sizes : Nat → Int32) {res : Int32} (h : f_X6_howMany_s4 c_sizes = some res) : gg_C MD_X6_howMany_s4 [.ref 0] (wd_X6_howMany_s4 c_most c_sizes) (some (.int res)) (wd_X6_howMany_s4 c_most c_sizes) := by
  refine gg_ofG [some (.ref 0), none, none] (plainFor_of_name (by decide)) (Nat.le_of_ble_eq_true rfl) rfl ?_
  unfold f_X6_howMany_s4 at h
  refine gg_iconst (0 : Int32) dX6_howMany_0 (by decide) ?_
  refine gg_istore_n [some (.ref 0), some (.int (0 : Int32)), none] dX6_howMany_1 rfl (Nat.le_of_ble_eq_true rfl) rfl ?_
  refine gg_iconst (0 : Int32) dX6_howMany_2 (by decide) ?_
  refine gg_istore_n [some (.ref 0), some (.int (0 : Int32)), some (.int (0 : Int32))] dX6_howMany_3 rfl (Nat.le_of_ble_eq_true rfl) rfl ?_
  refine lq_X6_howMany_s4_4 c_most c_sizes _ ?_ gg_fuel (0 : Int32) (0 : Int32) h
  intro x1_32 h
  refine gg_iload_n dX6_howMany_32 rfl ?_
  cases h
  exact gg_iret dX6_howMany_33 rfl
def wd_X6_howMany_s6 (c_most : Int32) (c_sizes : Nat → Int32) : va_W := [(0, .inr (5, [.int c_most, .ref 1, .ref 2])), (2, .inl (0, 6, .inl c_sizes))]
def MD_X6_howMany_s6 : gg_M := (yX6_howMany, cX6_howMany, 3, some .int, 0, 0)
theorem nV_X6_howMany_s6 : gg_nV MD_X6_howMany_s6 0 := ⟨⟨gg_mem (by decide +kernel) rfl, gg_mem cw_X6_howMany rfl, by decide, by decide, by decide +kernel⟩, gg_mem (by decide +kernel) rfl, gg_mem (by decide +kernel) rfl⟩
def lp_X6_howMany_s6_4 {β : Type} (c_sizes : Nat → Int32) (k32 : (Int32) → Option β) : Nat → (Int32) → (Int32) → Option β
  | 0, _, _ => none
  | n + 1, x1_4, x2_4 => (if (6 : Int32) ≤ x2_4 then (k32 x1_4) else gg_chk (gg_in x2_4 6) (gg_lt (fun (x1_26 : Int32) => (lp_X6_howMany_s6_4 c_sizes k32 n x1_26 (x2_4 + (1 : Int32)))) (fun k26 => (if (c_sizes x2_4.toNatClampNeg) = (-1 : Int32) then (k26 x1_4) else (k26 (x1_4 + (1 : Int32)))))))
def f_X6_howMany_s6  (c_sizes : Nat → Int32) : Option (Int32) := (lp_X6_howMany_s6_4 c_sizes (fun (x1_32 : Int32) => (some x1_32)) gg_fuel (0 : Int32) (0 : Int32))
set_option maxRecDepth 20000 in
set_option maxHeartbeats 4000000 in
theorem lq_X6_howMany_s6_4 {β : Type} {res : β} {rr : Option Value} {ww : va_W} (c_most : Int32) (c_sizes : Nat → Int32) (k32 : (Int32) → Option β) (hk32 : ∀ (x1_32 : Int32), k32 x1_32 = some res → gg_G MD_X6_howMany_s6 32 [none, some (.int x1_32), none] [] (wd_X6_howMany_s6 c_most c_sizes) rr ww) : ∀ (n : Nat) (x1_4 : Int32) (x2_4 : Int32), lp_X6_howMany_s6_4 c_sizes k32 n x1_4 x2_4 = some res → gg_G MD_X6_howMany_s6 4 [some (.ref 0), some (.int x1_4), some (.int x2_4)] [] (wd_X6_howMany_s6 c_most c_sizes) rr ww := by
  intro n
  induction n with
  | zero =>
    intro x1_4 x2_4 h
    exact nomatch (show (none : Option β) = some res from h)
  | succ n ih =>
    intro x1_4 x2_4 h
    rw [lp_X6_howMany_s6_4] at h
    refine gg_iload_n dX6_howMany_4 rfl ?_
    refine gg_aload_n dX6_howMany_5 rfl ?_
    refine gg_get 0 fl_X6_18 dX6_howMany_6 rfl rfl ?_
    refine gg_alen (6 : Int32) 1 dX6_howMany_9 rfl (by decide) rfl ?_
    refine gg_icmp_ge 32 dX6_howMany_10 (by decide) (fun hc => ?_) (fun hc => ?_)
    · replace h := gg_th h hc
      refine gg_fg [false, true, false] [none, some (.int x1_4), none] rfl ?_
      exact hk32 x1_4 h
    · replace h := gg_el h hc
      refine gg_aload_n dX6_howMany_13 rfl ?_
      refine gg_get 0 fl_X6_18 dX6_howMany_14 rfl rfl ?_
      refine gg_iload_n dX6_howMany_17 rfl ?_
      obtain ⟨hb18, h⟩ := gg_ck h
      refine gg_iald 1 dX6_howMany_18 rfl hb18 ?_
      refine gg_iconst (-1 : Int32) dX6_howMany_19 (by decide) ?_
      obtain ⟨k26, hke26, h⟩ := gg_lte h
      have hk26 : ∀ (x1_26 : Int32), k26 x1_26 = some res → gg_G MD_X6_howMany_s6 26 [some (.ref 0), some (.int x1_26), some (.int x2_4)] [] (wd_X6_howMany_s6 c_most c_sizes) rr ww := by
        intro x1_26 h
        subst hke26
        refine gg_iinc (x2_4 + (1 : Int32)) [some (.ref 0), some (.int x1_26), some (.int (x2_4 + (1 : Int32)))] dX6_howMany_26 rfl rfl rfl (Nat.le_of_ble_eq_true rfl) rfl ?_
        refine gg_goto 4 dX6_howMany_29 (by decide) ?_
        exact ih x1_26 (x2_4 + (1 : Int32)) h
      clear hke26
      refine gg_icmp_eq 26 dX6_howMany_20 (by decide) (fun hc => ?_) (fun hc => ?_)
      · replace h := gg_th h hc
        exact hk26 x1_4 h
      · replace h := gg_el h hc
        refine gg_iinc (x1_4 + (1 : Int32)) [some (.ref 0), some (.int (x1_4 + (1 : Int32))), some (.int x2_4)] dX6_howMany_23 rfl rfl rfl (Nat.le_of_ble_eq_true rfl) rfl ?_
        exact hk26 (x1_4 + (1 : Int32)) h
set_option maxRecDepth 20000 in
set_option maxHeartbeats 8000000 in
theorem C_X6_howMany_s6  (c_most : Int32) (c_sizes : Nat → Int32) {res : Int32} (h : f_X6_howMany_s6 c_sizes = some res) : gg_C MD_X6_howMany_s6 [.ref 0] (wd_X6_howMany_s6 c_most c_sizes) (some (.int res)) (wd_X6_howMany_s6 c_most c_sizes) := by
  refine gg_ofG [some (.ref 0), none, none] (plainFor_of_name (by decide)) (Nat.le_of_ble_eq_true rfl) rfl ?_
  unfold f_X6_howMany_s6 at h
  refine gg_iconst (0 : Int32) dX6_howMany_0 (by decide) ?_
  refine gg_istore_n [some (.ref 0), some (.int (0 : Int32)), none] dX6_howMany_1 rfl (Nat.le_of_ble_eq_true rfl) rfl ?_
  refine gg_iconst (0 : Int32) dX6_howMany_2 (by decide) ?_
  refine gg_istore_n [some (.ref 0), some (.int (0 : Int32)), some (.int (0 : Int32))] dX6_howMany_3 rfl (Nat.le_of_ble_eq_true rfl) rfl ?_
  refine lq_X6_howMany_s6_4 c_most c_sizes _ ?_ gg_fuel (0 : Int32) (0 : Int32) h
  intro x1_32 h
  refine gg_iload_n dX6_howMany_32 rfl ?_
  cases h
  exact gg_iret dX6_howMany_33 rfl
def wd_X2_howManyGuards (c_huts : Int32) (c_food : Int32) (c_due : Int32) (c_backs : Int32) (c_kind : Nat → Int32) : va_W := [(0, .inr (2, [.int c_huts, .int c_food, .int c_due, .ref 1, .ref 2, .ref 3, .ref 4, .ref 5, .ref 6, .ref 7, .int c_backs])), (2, .inl (0, 6, .inl c_kind))]
def MD_X2_howManyGuards : gg_M := (yX2_howManyGuards, cX2_howManyGuards, 3, some .int, 1, 21)
theorem nV_X2_howManyGuards : gg_nV MD_X2_howManyGuards 0 := ⟨⟨gg_mem (by decide +kernel) rfl, gg_mem cw_X2_howManyGuards rfl, by decide, by decide, by decide +kernel⟩, gg_mem (by decide +kernel) rfl, gg_mem (by decide +kernel) rfl⟩
def lp_X2_howManyGuards_4 {β : Type} (c_huts : Int32) (c_kind : Nat → Int32) (k34 : (Int32) → Option β) : Nat → (Int32) → (Int32) → Option β
  | 0, _, _ => none
  | n + 1, x1_4, x2_4 => (if c_huts ≤ x2_4 then (k34 x1_4) else gg_chk (gg_in x2_4 6) ((f_X3_isOf (c_kind x2_4.toNatClampNeg) (3 : Int32)).bind (fun v1 => gg_lt (fun (x1_28 : Int32) => (lp_X2_howManyGuards_4 c_huts c_kind k34 n x1_28 (x2_4 + (1 : Int32)))) (fun k28 => (if v1 = (0 : Int32) then (k28 x1_4) else (k28 (x1_4 + (1 : Int32))))))))
def f_X2_howManyGuards  (c_huts : Int32) (c_kind : Nat → Int32) : Option (Int32) := (lp_X2_howManyGuards_4 c_huts c_kind (fun (x1_34 : Int32) => (some x1_34)) gg_fuel (0 : Int32) (0 : Int32))
set_option maxRecDepth 20000 in
set_option maxHeartbeats 4000000 in
theorem lq_X2_howManyGuards_4 {β : Type} {res : β} {rr : Option Value} {ww : va_W} (c_huts : Int32) (c_food : Int32) (c_due : Int32) (c_backs : Int32) (c_kind : Nat → Int32) (k34 : (Int32) → Option β) (hk34 : ∀ (x1_34 : Int32), k34 x1_34 = some res → gg_G MD_X2_howManyGuards 34 [none, some (.int x1_34), none] [] (wd_X2_howManyGuards c_huts c_food c_due c_backs c_kind) rr ww) : ∀ (n : Nat) (x1_4 : Int32) (x2_4 : Int32), lp_X2_howManyGuards_4 c_huts c_kind k34 n x1_4 x2_4 = some res → gg_G MD_X2_howManyGuards 4 [some (.ref 0), some (.int x1_4), some (.int x2_4)] [] (wd_X2_howManyGuards c_huts c_food c_due c_backs c_kind) rr ww := by
  intro n
  induction n with
  | zero =>
    intro x1_4 x2_4 h
    exact nomatch (show (none : Option β) = some res from h)
  | succ n ih =>
    intro x1_4 x2_4 h
    rw [lp_X2_howManyGuards_4] at h
    refine gg_iload_n dX2_howManyGuards_4 rfl ?_
    refine gg_aload_n dX2_howManyGuards_5 rfl ?_
    refine gg_get 0 fl_X2_9 dX2_howManyGuards_6 rfl rfl ?_
    refine gg_icmp_ge 34 dX2_howManyGuards_9 (by decide) (fun hc => ?_) (fun hc => ?_)
    · replace h := gg_th h hc
      refine gg_fg [false, true, false] [none, some (.int x1_4), none] rfl ?_
      exact hk34 x1_4 h
    · replace h := gg_el h hc
      refine gg_aload_n dX2_howManyGuards_12 rfl ?_
      refine gg_get 0 fl_X2_25 dX2_howManyGuards_13 rfl rfl ?_
      refine gg_iload_n dX2_howManyGuards_16 rfl ?_
      obtain ⟨hb17, h⟩ := gg_ck h
      refine gg_iald 1 dX2_howManyGuards_17 rfl hb17 ?_
      refine gg_iconst (3 : Int32) dX2_howManyGuards_18 (by decide) ?_
      obtain ⟨v1, hv1, h⟩ := gg_bd h
      refine gg_callS (gg_sg []) [] (wd_X2_howManyGuards c_huts c_food c_due c_backs c_kind) (C_X3_isOf (c_kind x2_4.toNatClampNeg) (3 : Int32) hv1) nS_X3_isOf ml_X2_86 rfl rfl rfl rfl rfl rfl rfl [0, 1] 2 rfl rfl rfl rfl rfl ⟨Nat.le_of_ble_eq_true rfl, Nat.le_of_ble_eq_true rfl⟩ (Nat.le_of_ble_eq_true rfl) dX2_howManyGuards_19 [.int v1] rfl ?_
      obtain ⟨k28, hke28, h⟩ := gg_lte h
      have hk28 : ∀ (x1_28 : Int32), k28 x1_28 = some res → gg_G MD_X2_howManyGuards 28 [some (.ref 0), some (.int x1_28), some (.int x2_4)] [] (wd_X2_howManyGuards c_huts c_food c_due c_backs c_kind) rr ww := by
        intro x1_28 h
        subst hke28
        refine gg_iinc (x2_4 + (1 : Int32)) [some (.ref 0), some (.int x1_28), some (.int (x2_4 + (1 : Int32)))] dX2_howManyGuards_28 rfl rfl rfl (Nat.le_of_ble_eq_true rfl) rfl ?_
        refine gg_goto 4 dX2_howManyGuards_31 (by decide) ?_
        exact ih x1_28 (x2_4 + (1 : Int32)) h
      clear hke28
      refine gg_if_eq 28 dX2_howManyGuards_22 (by decide) (fun hc => ?_) (fun hc => ?_)
      · replace h := gg_th h hc
        exact hk28 x1_4 h
      · replace h := gg_el h hc
        refine gg_iinc (x1_4 + (1 : Int32)) [some (.ref 0), some (.int (x1_4 + (1 : Int32))), some (.int x2_4)] dX2_howManyGuards_25 rfl rfl rfl (Nat.le_of_ble_eq_true rfl) rfl ?_
        exact hk28 (x1_4 + (1 : Int32)) h
set_option maxRecDepth 20000 in
set_option maxHeartbeats 8000000 in
theorem C_X2_howManyGuards  (c_huts : Int32) (c_food : Int32) (c_due : Int32) (c_backs : Int32) (c_kind : Nat → Int32) {res : Int32} (h : f_X2_howManyGuards c_huts c_kind = some res) : gg_C MD_X2_howManyGuards [.ref 0] (wd_X2_howManyGuards c_huts c_food c_due c_backs c_kind) (some (.int res)) (wd_X2_howManyGuards c_huts c_food c_due c_backs c_kind) := by
  refine gg_ofG [some (.ref 0), none, none] (plainFor_of_name (by decide)) (Nat.le_of_ble_eq_true rfl) rfl ?_
  unfold f_X2_howManyGuards at h
  refine gg_iconst (0 : Int32) dX2_howManyGuards_0 (by decide) ?_
  refine gg_istore_n [some (.ref 0), some (.int (0 : Int32)), none] dX2_howManyGuards_1 rfl (Nat.le_of_ble_eq_true rfl) rfl ?_
  refine gg_iconst (0 : Int32) dX2_howManyGuards_2 (by decide) ?_
  refine gg_istore_n [some (.ref 0), some (.int (0 : Int32)), some (.int (0 : Int32))] dX2_howManyGuards_3 rfl (Nat.le_of_ble_eq_true rfl) rfl ?_
  refine lq_X2_howManyGuards_4 c_huts c_food c_due c_backs c_kind _ ?_ gg_fuel (0 : Int32) (0 : Int32) h
  intro x1_34 h
  refine gg_iload_n dX2_howManyGuards_34 rfl ?_
  cases h
  exact gg_iret dX2_howManyGuards_35 rfl
def wd_X2_atHomeBits (c_huts : Int32) (c_food : Int32) (c_due : Int32) (c_backs : Int32) (c_home : Nat → Int32) (c_brick : Nat → Int32) : va_W := [(0, .inr (2, [.int c_huts, .int c_food, .int c_due, .ref 1, .ref 2, .ref 3, .ref 4, .ref 5, .ref 6, .ref 7, .int c_backs])), (3, .inl (0, 6, .inl c_home)), (6, .inl (0, 6, .inl c_brick))]
def MD_X2_atHomeBits : gg_M := (yX2_atHomeBits, cX2_atHomeBits, 3, some .int, 0, 0)
theorem nV_X2_atHomeBits : gg_nV MD_X2_atHomeBits 0 := ⟨⟨gg_mem (by decide +kernel) rfl, gg_mem cw_X2_atHomeBits rfl, by decide, by decide, by decide +kernel⟩, gg_mem (by decide +kernel) rfl, gg_mem (by decide +kernel) rfl⟩
def lp_X2_atHomeBits_4 {β : Type} (c_huts : Int32) (c_home : Nat → Int32) (c_brick : Nat → Int32) (k39 : (Int32) → Option β) : Nat → (Int32) → (Int32) → Option β
  | 0, _, _ => none
  | n + 1, x1_4, x2_4 => (if c_huts ≤ x2_4 then (k39 x1_4) else gg_chk (gg_in x2_4 6) (gg_chk (gg_in x2_4 6) (gg_lt (fun (x1_33 : Int32) => (lp_X2_atHomeBits_4 c_huts c_home c_brick k39 n x1_33 (x2_4 + (1 : Int32)))) (fun k33 => (if (c_brick x2_4.toNatClampNeg) = (c_home x2_4.toNatClampNeg) then (k33 (x1_4 ||| ((1 : Int32) <<< (x2_4 &&& 31)))) else (k33 x1_4))))))
def f_X2_atHomeBits  (c_huts : Int32) (c_home : Nat → Int32) (c_brick : Nat → Int32) : Option (Int32) := (lp_X2_atHomeBits_4 c_huts c_home c_brick (fun (x1_39 : Int32) => (some x1_39)) gg_fuel (0 : Int32) (0 : Int32))
set_option maxRecDepth 20000 in
set_option maxHeartbeats 4000000 in
theorem lq_X2_atHomeBits_4 {β : Type} {res : β} {rr : Option Value} {ww : va_W} (c_huts : Int32) (c_food : Int32) (c_due : Int32) (c_backs : Int32) (c_home : Nat → Int32) (c_brick : Nat → Int32) (k39 : (Int32) → Option β) (hk39 : ∀ (x1_39 : Int32), k39 x1_39 = some res → gg_G MD_X2_atHomeBits 39 [none, some (.int x1_39), none] [] (wd_X2_atHomeBits c_huts c_food c_due c_backs c_home c_brick) rr ww) : ∀ (n : Nat) (x1_4 : Int32) (x2_4 : Int32), lp_X2_atHomeBits_4 c_huts c_home c_brick k39 n x1_4 x2_4 = some res → gg_G MD_X2_atHomeBits 4 [some (.ref 0), some (.int x1_4), some (.int x2_4)] [] (wd_X2_atHomeBits c_huts c_food c_due c_backs c_home c_brick) rr ww := by
  intro n
  induction n with
  | zero =>
    intro x1_4 x2_4 h
    exact nomatch (show (none : Option β) = some res from h)
  | succ n ih =>
    intro x1_4 x2_4 h
    rw [lp_X2_atHomeBits_4] at h
    refine gg_iload_n dX2_atHomeBits_4 rfl ?_
    refine gg_aload_n dX2_atHomeBits_5 rfl ?_
    refine gg_get 0 fl_X2_9 dX2_atHomeBits_6 rfl rfl ?_
    refine gg_icmp_ge 39 dX2_atHomeBits_9 (by decide) (fun hc => ?_) (fun hc => ?_)
    · replace h := gg_th h hc
      refine gg_fg [false, true, false] [none, some (.int x1_4), none] rfl ?_
      exact hk39 x1_4 h
    · replace h := gg_el h hc
      refine gg_aload_n dX2_atHomeBits_12 rfl ?_
      refine gg_get 0 fl_X2_37 dX2_atHomeBits_13 rfl rfl ?_
      refine gg_iload_n dX2_atHomeBits_16 rfl ?_
      obtain ⟨hb17, h⟩ := gg_ck h
      refine gg_iald 2 dX2_atHomeBits_17 rfl hb17 ?_
      refine gg_aload_n dX2_atHomeBits_18 rfl ?_
      refine gg_get 0 fl_X2_28 dX2_atHomeBits_19 rfl rfl ?_
      refine gg_iload_n dX2_atHomeBits_22 rfl ?_
      obtain ⟨hb23, h⟩ := gg_ck h
      refine gg_iald 1 dX2_atHomeBits_23 rfl hb23 ?_
      obtain ⟨k33, hke33, h⟩ := gg_lte h
      have hk33 : ∀ (x1_33 : Int32), k33 x1_33 = some res → gg_G MD_X2_atHomeBits 33 [some (.ref 0), some (.int x1_33), some (.int x2_4)] [] (wd_X2_atHomeBits c_huts c_food c_due c_backs c_home c_brick) rr ww := by
        intro x1_33 h
        subst hke33
        refine gg_iinc (x2_4 + (1 : Int32)) [some (.ref 0), some (.int x1_33), some (.int (x2_4 + (1 : Int32)))] dX2_atHomeBits_33 rfl rfl rfl (Nat.le_of_ble_eq_true rfl) rfl ?_
        refine gg_goto 4 dX2_atHomeBits_36 (by decide) ?_
        exact ih x1_33 (x2_4 + (1 : Int32)) h
      clear hke33
      refine gg_icmp_ne 33 dX2_atHomeBits_24 (by decide) (fun hc => ?_) (fun hc => ?_)
      · replace h := gg_el h hc
        exact hk33 x1_4 h
      · replace h := gg_th h hc
        refine gg_iload_n dX2_atHomeBits_27 rfl ?_
        refine gg_iconst (1 : Int32) dX2_atHomeBits_28 (by decide) ?_
        refine gg_iload_n dX2_atHomeBits_29 rfl ?_
        refine gg_ishl dX2_atHomeBits_30 ?_
        refine gg_ior dX2_atHomeBits_31 ?_
        refine gg_istore_n [some (.ref 0), some (.int (x1_4 ||| ((1 : Int32) <<< (x2_4 &&& 31)))), some (.int x2_4)] dX2_atHomeBits_32 rfl (Nat.le_of_ble_eq_true rfl) rfl ?_
        exact hk33 (x1_4 ||| ((1 : Int32) <<< (x2_4 &&& 31))) h
set_option maxRecDepth 20000 in
set_option maxHeartbeats 8000000 in
theorem C_X2_atHomeBits  (c_huts : Int32) (c_food : Int32) (c_due : Int32) (c_backs : Int32) (c_home : Nat → Int32) (c_brick : Nat → Int32) {res : Int32} (h : f_X2_atHomeBits c_huts c_home c_brick = some res) : gg_C MD_X2_atHomeBits [.ref 0] (wd_X2_atHomeBits c_huts c_food c_due c_backs c_home c_brick) (some (.int res)) (wd_X2_atHomeBits c_huts c_food c_due c_backs c_home c_brick) := by
  refine gg_ofG [some (.ref 0), none, none] (plainFor_of_name (by decide)) (Nat.le_of_ble_eq_true rfl) rfl ?_
  unfold f_X2_atHomeBits at h
  refine gg_iconst (0 : Int32) dX2_atHomeBits_0 (by decide) ?_
  refine gg_istore_n [some (.ref 0), some (.int (0 : Int32)), none] dX2_atHomeBits_1 rfl (Nat.le_of_ble_eq_true rfl) rfl ?_
  refine gg_iconst (0 : Int32) dX2_atHomeBits_2 (by decide) ?_
  refine gg_istore_n [some (.ref 0), some (.int (0 : Int32)), some (.int (0 : Int32))] dX2_atHomeBits_3 rfl (Nat.le_of_ble_eq_true rfl) rfl ?_
  refine lq_X2_atHomeBits_4 c_huts c_food c_due c_backs c_home c_brick _ ?_ gg_fuel (0 : Int32) (0 : Int32) h
  intro x1_39 h
  refine gg_iload_n dX2_atHomeBits_39 rfl ?_
  cases h
  exact gg_iret dX2_atHomeBits_40 rfl
def wd_X2_strengthThere (c_huts : Int32) (c_food : Int32) (c_due : Int32) (c_backs : Int32) (c_strength : Nat → Int32) (c_brick : Nat → Int32) : va_W := [(0, .inr (2, [.int c_huts, .int c_food, .int c_due, .ref 1, .ref 2, .ref 3, .ref 4, .ref 5, .ref 6, .ref 7, .int c_backs])), (4, .inl (0, 6, .inl c_strength)), (6, .inl (0, 6, .inl c_brick))]
def MD_X2_strengthThere : gg_M := (yX2_strengthThere, cX2_strengthThere, 3, some .int, 2, 42)
theorem nV_X2_strengthThere : gg_nV MD_X2_strengthThere 0 := ⟨⟨gg_mem (by decide +kernel) rfl, gg_mem cw_X2_strengthThere rfl, by decide, by decide, by decide +kernel⟩, gg_mem (by decide +kernel) rfl, gg_mem (by decide +kernel) rfl⟩
def lp_X2_strengthThere_4 {β : Type} (c_huts : Int32) (c_strength : Nat → Int32) (c_brick : Nat → Int32) (k35 : (Int32) → Option β) : Nat → (Int32) → (Int32) → Option β
  | 0, _, _ => none
  | n + 1, x1_4, x2_4 => (if c_huts ≤ x2_4 then (k35 x1_4) else (f_X2_isThere x2_4 c_huts c_brick).bind (fun v1 => gg_lt (fun (x1_29 : Int32) => (lp_X2_strengthThere_4 c_huts c_strength c_brick k35 n x1_29 (x2_4 + (1 : Int32)))) (fun k29 => (if v1 = (0 : Int32) then (k29 x1_4) else gg_chk (gg_in x2_4 6) ((k29 (x1_4 + (c_strength x2_4.toNatClampNeg))))))))
def f_X2_strengthThere  (c_huts : Int32) (c_strength : Nat → Int32) (c_brick : Nat → Int32) : Option (Int32) := (lp_X2_strengthThere_4 c_huts c_strength c_brick (fun (x1_35 : Int32) => (some x1_35)) gg_fuel (0 : Int32) (0 : Int32))
set_option maxRecDepth 20000 in
set_option maxHeartbeats 4000000 in
theorem lq_X2_strengthThere_4 {β : Type} {res : β} {rr : Option Value} {ww : va_W} (c_huts : Int32) (c_food : Int32) (c_due : Int32) (c_backs : Int32) (c_strength : Nat → Int32) (c_brick : Nat → Int32) (k35 : (Int32) → Option β) (hk35 : ∀ (x1_35 : Int32), k35 x1_35 = some res → gg_G MD_X2_strengthThere 35 [none, some (.int x1_35), none] [] (wd_X2_strengthThere c_huts c_food c_due c_backs c_strength c_brick) rr ww) : ∀ (n : Nat) (x1_4 : Int32) (x2_4 : Int32), lp_X2_strengthThere_4 c_huts c_strength c_brick k35 n x1_4 x2_4 = some res → gg_G MD_X2_strengthThere 4 [some (.ref 0), some (.int x1_4), some (.int x2_4)] [] (wd_X2_strengthThere c_huts c_food c_due c_backs c_strength c_brick) rr ww := by
  intro n
  induction n with
  | zero =>
    intro x1_4 x2_4 h
    exact nomatch (show (none : Option β) = some res from h)
  | succ n ih =>
    intro x1_4 x2_4 h
    rw [lp_X2_strengthThere_4] at h
    refine gg_iload_n dX2_strengthThere_4 rfl ?_
    refine gg_aload_n dX2_strengthThere_5 rfl ?_
    refine gg_get 0 fl_X2_9 dX2_strengthThere_6 rfl rfl ?_
    refine gg_icmp_ge 35 dX2_strengthThere_9 (by decide) (fun hc => ?_) (fun hc => ?_)
    · replace h := gg_th h hc
      refine gg_fg [false, true, false] [none, some (.int x1_4), none] rfl ?_
      exact hk35 x1_4 h
    · replace h := gg_el h hc
      refine gg_aload_n dX2_strengthThere_12 rfl ?_
      refine gg_iload_n dX2_strengthThere_13 rfl ?_
      obtain ⟨v1, hv1, h⟩ := gg_bd h
      refine gg_callV (gg_sg [0]) [0, 2] (wd_X2_strengthThere c_huts c_food c_due c_backs c_strength c_brick) 0 (C_X2_isThere x2_4 c_huts c_food c_due c_backs c_brick hv1) nV_X2_isThere ml_X2_50 rfl rfl rfl rfl rfl rfl rfl rfl rfl rfl [1] 3 rfl rfl rfl rfl rfl ⟨Nat.le_of_ble_eq_true rfl, Nat.le_of_ble_eq_true rfl⟩ (Nat.le_of_ble_eq_true rfl) dX2_strengthThere_14 [.int v1] rfl ?_
      obtain ⟨k29, hke29, h⟩ := gg_lte h
      have hk29 : ∀ (x1_29 : Int32), k29 x1_29 = some res → gg_G MD_X2_strengthThere 29 [some (.ref 0), some (.int x1_29), some (.int x2_4)] [] (wd_X2_strengthThere c_huts c_food c_due c_backs c_strength c_brick) rr ww := by
        intro x1_29 h
        subst hke29
        refine gg_iinc (x2_4 + (1 : Int32)) [some (.ref 0), some (.int x1_29), some (.int (x2_4 + (1 : Int32)))] dX2_strengthThere_29 rfl rfl rfl (Nat.le_of_ble_eq_true rfl) rfl ?_
        refine gg_goto 4 dX2_strengthThere_32 (by decide) ?_
        exact ih x1_29 (x2_4 + (1 : Int32)) h
      clear hke29
      refine gg_if_eq 29 dX2_strengthThere_17 (by decide) (fun hc => ?_) (fun hc => ?_)
      · replace h := gg_th h hc
        exact hk29 x1_4 h
      · replace h := gg_el h hc
        refine gg_iload_n dX2_strengthThere_20 rfl ?_
        refine gg_aload_n dX2_strengthThere_21 rfl ?_
        refine gg_get 0 fl_X2_31 dX2_strengthThere_22 rfl rfl ?_
        refine gg_iload_n dX2_strengthThere_25 rfl ?_
        obtain ⟨hb26, h⟩ := gg_ck h
        refine gg_iald 1 dX2_strengthThere_26 rfl hb26 ?_
        refine gg_iadd dX2_strengthThere_27 ?_
        refine gg_istore_n [some (.ref 0), some (.int (x1_4 + (c_strength x2_4.toNatClampNeg))), some (.int x2_4)] dX2_strengthThere_28 rfl (Nat.le_of_ble_eq_true rfl) rfl ?_
        exact hk29 (x1_4 + (c_strength x2_4.toNatClampNeg)) h
set_option maxRecDepth 20000 in
set_option maxHeartbeats 8000000 in
theorem C_X2_strengthThere  (c_huts : Int32) (c_food : Int32) (c_due : Int32) (c_backs : Int32) (c_strength : Nat → Int32) (c_brick : Nat → Int32) {res : Int32} (h : f_X2_strengthThere c_huts c_strength c_brick = some res) : gg_C MD_X2_strengthThere [.ref 0] (wd_X2_strengthThere c_huts c_food c_due c_backs c_strength c_brick) (some (.int res)) (wd_X2_strengthThere c_huts c_food c_due c_backs c_strength c_brick) := by
  refine gg_ofG [some (.ref 0), none, none] (plainFor_of_name (by decide)) (Nat.le_of_ble_eq_true rfl) rfl ?_
  unfold f_X2_strengthThere at h
  refine gg_iconst (0 : Int32) dX2_strengthThere_0 (by decide) ?_
  refine gg_istore_n [some (.ref 0), some (.int (0 : Int32)), none] dX2_strengthThere_1 rfl (Nat.le_of_ble_eq_true rfl) rfl ?_
  refine gg_iconst (0 : Int32) dX2_strengthThere_2 (by decide) ?_
  refine gg_istore_n [some (.ref 0), some (.int (0 : Int32)), some (.int (0 : Int32))] dX2_strengthThere_3 rfl (Nat.le_of_ble_eq_true rfl) rfl ?_
  refine lq_X2_strengthThere_4 c_huts c_food c_due c_backs c_strength c_brick _ ?_ gg_fuel (0 : Int32) (0 : Int32) h
  intro x1_35 h
  refine gg_iload_n dX2_strengthThere_35 rfl ?_
  cases h
  exact gg_iret dX2_strengthThere_36 rfl
def wd_X8_count (c_latestFinding : Int32) (c_told : Int32) (c_above : Int64) (c_below : Int64) (c_rows_most : Int32) (c_rows_sizes : Nat → Int32) (c_texts_most : Int32) (c_texts_sizes : Nat → Int32) (c_now_huts : Int32) (c_now_food : Int32) (c_now_due : Int32) (c_now_backs : Int32) (c_now_kind : Nat → Int32) (c_now_home : Nat → Int32) (c_now_strength : Nat → Int32) (c_now_brick : Nat → Int32) (c_log_size : Int32) (c_kept_size : Nat → Int32) : va_W := [(0, .inr (7, [.ref 1, .ref 10, .ref 17, .ref 19, .ref 27, .ref 35, .ref 43, .ref 45, .ref 52, .ref 56, .ref 60, .ref 67, .int c_latestFinding, .int c_told, .long c_above, .long c_below])), (1, .inr (5, [.int c_rows_most, .ref 2, .ref 3])), (3, .inl (0, 6, .inl c_rows_sizes)), (10, .inr (5, [.int c_texts_most, .ref 11, .ref 12])), (12, .inl (0, 4, .inl c_texts_sizes)), (27, .inr (2, [.int c_now_huts, .int c_now_food, .int c_now_due, .ref 28, .ref 29, .ref 30, .ref 31, .ref 32, .ref 33, .ref 34, .int c_now_backs])), (29, .inl (0, 6, .inl c_now_kind)), (30, .inl (0, 6, .inl c_now_home)), (31, .inl (0, 6, .inl c_now_strength)), (33, .inl (0, 6, .inl c_now_brick)), (43, .inr (3, [.int c_log_size, .ref 44])), (45, .inl (3, 3, .inr (.inr (.inr (.inr (gg_rf 1 2)))))), (46, .inr (3, [.int (c_kept_size 0), .ref 47])), (48, .inr (3, [.int (c_kept_size 1), .ref 49])), (50, .inr (3, [.int (c_kept_size 2), .ref 51]))]
def MD_X8_count : gg_M := (yX8_count, cX8_count, 2, some .int, 3, 64)
theorem nV_X8_count : gg_nV MD_X8_count 1 := ⟨⟨gg_mem (by decide +kernel) rfl, gg_mem cw_X8_count rfl, by decide, by decide, by decide +kernel⟩, gg_mem (by decide +kernel) rfl, gg_mem (by decide +kernel) rfl⟩
def f_X8_count (a0 : Int32) (c_rows_sizes : Nat → Int32) (c_texts_sizes : Nat → Int32) (c_now_huts : Int32) (c_now_food : Int32) (c_now_due : Int32) (c_now_kind : Nat → Int32) (c_now_home : Nat → Int32) (c_now_strength : Nat → Int32) (c_now_brick : Nat → Int32) (c_log_size : Int32) (c_kept_size : Nat → Int32) : Option (Int32) := ((if a0 = (0 : Int32) then (some c_now_huts) else (if a0 = (1 : Int32) then (some c_now_due) else (if a0 = (2 : Int32) then (some c_log_size) else (if a0 = (3 : Int32) then (some c_now_food) else (if a0 = (4 : Int32) then (f_X2_thereBits c_now_huts c_now_brick).bind (fun v1 => (some v1)) else (if a0 = (5 : Int32) then (f_X2_strengthThere c_now_huts c_now_strength c_now_brick).bind (fun v2 => (some v2)) else (if a0 = (6 : Int32) then (f_X2_atHomeBits c_now_huts c_now_home c_now_brick).bind (fun v3 => (some v3)) else (if a0 = (7 : Int32) then (f_X2_howManyGuards c_now_huts c_now_kind).bind (fun v4 => (some v4)) else (if a0 = (8 : Int32) then (f_X6_howMany_s6 c_rows_sizes).bind (fun v5 => (some v5)) else (if a0 = (9 : Int32) then (f_X6_howMany_s4 c_texts_sizes).bind (fun v6 => (some v6)) else (if a0 = (10 : Int32) then (f_X8_howManyKept c_kept_size).bind (fun v7 => (some v7)) else (some (-1 : Int32))))))))))))))
set_option maxRecDepth 20000 in
set_option maxHeartbeats 8000000 in
theorem C_X8_count (a0 : Int32) (c_latestFinding : Int32) (c_told : Int32) (c_above : Int64) (c_below : Int64) (c_rows_most : Int32) (c_rows_sizes : Nat → Int32) (c_texts_most : Int32) (c_texts_sizes : Nat → Int32) (c_now_huts : Int32) (c_now_food : Int32) (c_now_due : Int32) (c_now_backs : Int32) (c_now_kind : Nat → Int32) (c_now_home : Nat → Int32) (c_now_strength : Nat → Int32) (c_now_brick : Nat → Int32) (c_log_size : Int32) (c_kept_size : Nat → Int32) {res : Int32} (h : f_X8_count a0 c_rows_sizes c_texts_sizes c_now_huts c_now_food c_now_due c_now_kind c_now_home c_now_strength c_now_brick c_log_size c_kept_size = some res) : gg_C MD_X8_count [.ref 0, .int a0] (wd_X8_count c_latestFinding c_told c_above c_below c_rows_most c_rows_sizes c_texts_most c_texts_sizes c_now_huts c_now_food c_now_due c_now_backs c_now_kind c_now_home c_now_strength c_now_brick c_log_size c_kept_size) (some (.int res)) (wd_X8_count c_latestFinding c_told c_above c_below c_rows_most c_rows_sizes c_texts_most c_texts_sizes c_now_huts c_now_food c_now_due c_now_backs c_now_kind c_now_home c_now_strength c_now_brick c_log_size c_kept_size) := by
  refine gg_ofG [some (.ref 0), some (.int a0)] (plainFor_of_name (by decide)) (Nat.le_of_ble_eq_true rfl) rfl ?_
  unfold f_X8_count at h
  refine gg_iload_n dX8_count_0 rfl ?_
  by_cases hs0 : a0 = (0 : Int32)
  · replace h := gg_th h hs0
    refine gg_swIn 60 dX8_count_1 (by rw [hs0]; decide) (by rw [hs0]; decide) (off := (59)) (by rw [hs0]; decide) (by decide) ?_
    refine gg_aload_n dX8_count_60 rfl ?_
    refine gg_get 0 fl_X8_35 dX8_count_61 rfl rfl ?_
    refine gg_get 5 fl_X8_151 dX8_count_64 rfl rfl ?_
    cases h
    exact gg_iret dX8_count_67 rfl
  replace h := gg_el h hs0
  by_cases hs1 : a0 = (1 : Int32)
  · replace h := gg_th h hs1
    refine gg_swIn 68 dX8_count_1 (by rw [hs1]; decide) (by rw [hs1]; decide) (off := (67)) (by rw [hs1]; decide) (by decide) ?_
    refine gg_aload_n dX8_count_68 rfl ?_
    refine gg_get 0 fl_X8_35 dX8_count_69 rfl rfl ?_
    refine gg_get 5 fl_X8_301 dX8_count_72 rfl rfl ?_
    cases h
    exact gg_iret dX8_count_75 rfl
  replace h := gg_el h hs1
  by_cases hs2 : a0 = (2 : Int32)
  · replace h := gg_th h hs2
    refine gg_swIn 76 dX8_count_1 (by rw [hs2]; decide) (by rw [hs2]; decide) (off := (75)) (by rw [hs2]; decide) (by decide) ?_
    refine gg_aload_n dX8_count_76 rfl ?_
    refine gg_get 0 fl_X8_46 dX8_count_77 rfl rfl ?_
    refine gg_get 10 fl_X8_149 dX8_count_80 rfl rfl ?_
    cases h
    exact gg_iret dX8_count_83 rfl
  replace h := gg_el h hs2
  by_cases hs3 : a0 = (3 : Int32)
  · replace h := gg_th h hs3
    refine gg_swIn 84 dX8_count_1 (by rw [hs3]; decide) (by rw [hs3]; decide) (off := (83)) (by rw [hs3]; decide) (by decide) ?_
    refine gg_aload_n dX8_count_84 rfl ?_
    refine gg_get 0 fl_X8_35 dX8_count_85 rfl rfl ?_
    refine gg_get 5 fl_X8_202 dX8_count_88 rfl rfl ?_
    cases h
    exact gg_iret dX8_count_91 rfl
  replace h := gg_el h hs3
  by_cases hs4 : a0 = (4 : Int32)
  · replace h := gg_th h hs4
    refine gg_swIn 92 dX8_count_1 (by rw [hs4]; decide) (by rw [hs4]; decide) (off := (91)) (by rw [hs4]; decide) (by decide) ?_
    refine gg_aload_n dX8_count_92 rfl ?_
    refine gg_get 0 fl_X8_35 dX8_count_93 rfl rfl ?_
    obtain ⟨v1, hv1, h⟩ := gg_bd h
    refine gg_callV (gg_sg [27]) [5, 9] (wd_X8_count c_latestFinding c_told c_above c_below c_rows_most c_rows_sizes c_texts_most c_texts_sizes c_now_huts c_now_food c_now_due c_now_backs c_now_kind c_now_home c_now_strength c_now_brick c_log_size c_kept_size) 0 (C_X2_thereBits c_now_huts c_now_food c_now_due c_now_backs c_now_brick hv1) nV_X2_thereBits ml_X8_304 rfl rfl rfl rfl rfl rfl rfl rfl rfl rfl [0, 1, 2, 3, 4, 6, 7, 8, 10, 11, 12, 13, 14] 15 rfl rfl rfl rfl rfl ⟨Nat.le_of_ble_eq_true rfl, Nat.le_of_ble_eq_true rfl⟩ (Nat.le_of_ble_eq_true rfl) dX8_count_96 [.int v1] rfl ?_
    cases h
    exact gg_iret dX8_count_99 rfl
  replace h := gg_el h hs4
  by_cases hs5 : a0 = (5 : Int32)
  · replace h := gg_th h hs5
    refine gg_swIn 100 dX8_count_1 (by rw [hs5]; decide) (by rw [hs5]; decide) (off := (99)) (by rw [hs5]; decide) (by decide) ?_
    refine gg_aload_n dX8_count_100 rfl ?_
    refine gg_get 0 fl_X8_35 dX8_count_101 rfl rfl ?_
    obtain ⟨v2, hv2, h⟩ := gg_bd h
    refine gg_callV (gg_sg [27]) [5, 8, 9] (wd_X8_count c_latestFinding c_told c_above c_below c_rows_most c_rows_sizes c_texts_most c_texts_sizes c_now_huts c_now_food c_now_due c_now_backs c_now_kind c_now_home c_now_strength c_now_brick c_log_size c_kept_size) 0 (C_X2_strengthThere c_now_huts c_now_food c_now_due c_now_backs c_now_strength c_now_brick hv2) nV_X2_strengthThere ml_X8_307 rfl rfl rfl rfl rfl rfl rfl rfl rfl rfl [0, 1, 2, 3, 4, 6, 7, 10, 11, 12, 13, 14] 15 rfl rfl rfl rfl rfl ⟨Nat.le_of_ble_eq_true rfl, Nat.le_of_ble_eq_true rfl⟩ (Nat.le_of_ble_eq_true rfl) dX8_count_104 [.int v2] rfl ?_
    cases h
    exact gg_iret dX8_count_107 rfl
  replace h := gg_el h hs5
  by_cases hs6 : a0 = (6 : Int32)
  · replace h := gg_th h hs6
    refine gg_swIn 108 dX8_count_1 (by rw [hs6]; decide) (by rw [hs6]; decide) (off := (107)) (by rw [hs6]; decide) (by decide) ?_
    refine gg_aload_n dX8_count_108 rfl ?_
    refine gg_get 0 fl_X8_35 dX8_count_109 rfl rfl ?_
    obtain ⟨v3, hv3, h⟩ := gg_bd h
    refine gg_callV (gg_sg [27]) [5, 7, 9] (wd_X8_count c_latestFinding c_told c_above c_below c_rows_most c_rows_sizes c_texts_most c_texts_sizes c_now_huts c_now_food c_now_due c_now_backs c_now_kind c_now_home c_now_strength c_now_brick c_log_size c_kept_size) 0 (C_X2_atHomeBits c_now_huts c_now_food c_now_due c_now_backs c_now_home c_now_brick hv3) nV_X2_atHomeBits ml_X8_310 rfl rfl rfl rfl rfl rfl rfl rfl rfl rfl [0, 1, 2, 3, 4, 6, 8, 10, 11, 12, 13, 14] 15 rfl rfl rfl rfl rfl ⟨Nat.le_of_ble_eq_true rfl, Nat.le_of_ble_eq_true rfl⟩ (Nat.le_of_ble_eq_true rfl) dX8_count_112 [.int v3] rfl ?_
    cases h
    exact gg_iret dX8_count_115 rfl
  replace h := gg_el h hs6
  by_cases hs7 : a0 = (7 : Int32)
  · replace h := gg_th h hs7
    refine gg_swIn 116 dX8_count_1 (by rw [hs7]; decide) (by rw [hs7]; decide) (off := (115)) (by rw [hs7]; decide) (by decide) ?_
    refine gg_aload_n dX8_count_116 rfl ?_
    refine gg_get 0 fl_X8_35 dX8_count_117 rfl rfl ?_
    obtain ⟨v4, hv4, h⟩ := gg_bd h
    refine gg_callV (gg_sg [27]) [5, 6] (wd_X8_count c_latestFinding c_told c_above c_below c_rows_most c_rows_sizes c_texts_most c_texts_sizes c_now_huts c_now_food c_now_due c_now_backs c_now_kind c_now_home c_now_strength c_now_brick c_log_size c_kept_size) 0 (C_X2_howManyGuards c_now_huts c_now_food c_now_due c_now_backs c_now_kind hv4) nV_X2_howManyGuards ml_X8_313 rfl rfl rfl rfl rfl rfl rfl rfl rfl rfl [0, 1, 2, 3, 4, 7, 8, 9, 10, 11, 12, 13, 14] 15 rfl rfl rfl rfl rfl ⟨Nat.le_of_ble_eq_true rfl, Nat.le_of_ble_eq_true rfl⟩ (Nat.le_of_ble_eq_true rfl) dX8_count_120 [.int v4] rfl ?_
    cases h
    exact gg_iret dX8_count_123 rfl
  replace h := gg_el h hs7
  by_cases hs8 : a0 = (8 : Int32)
  · replace h := gg_th h hs8
    refine gg_swIn 124 dX8_count_1 (by rw [hs8]; decide) (by rw [hs8]; decide) (off := (123)) (by rw [hs8]; decide) (by decide) ?_
    refine gg_aload_n dX8_count_124 rfl ?_
    refine gg_get 0 fl_X8_14 dX8_count_125 rfl rfl ?_
    obtain ⟨v5, hv5, h⟩ := gg_bd h
    refine gg_callV (gg_sg [1]) [1, 2] (wd_X8_count c_latestFinding c_told c_above c_below c_rows_most c_rows_sizes c_texts_most c_texts_sizes c_now_huts c_now_food c_now_due c_now_backs c_now_kind c_now_home c_now_strength c_now_brick c_log_size c_kept_size) 0 (C_X6_howMany_s6 c_rows_most c_rows_sizes hv5) nV_X6_howMany_s6 ml_X8_316 rfl rfl rfl rfl rfl rfl rfl rfl rfl rfl [0, 3, 4, 5, 6, 7, 8, 9, 10, 11, 12, 13, 14] 15 rfl rfl rfl rfl rfl ⟨Nat.le_of_ble_eq_true rfl, Nat.le_of_ble_eq_true rfl⟩ (Nat.le_of_ble_eq_true rfl) dX8_count_128 [.int v5] rfl ?_
    cases h
    exact gg_iret dX8_count_131 rfl
  replace h := gg_el h hs8
  by_cases hs9 : a0 = (9 : Int32)
  · replace h := gg_th h hs9
    refine gg_swIn 132 dX8_count_1 (by rw [hs9]; decide) (by rw [hs9]; decide) (off := (131)) (by rw [hs9]; decide) (by decide) ?_
    refine gg_aload_n dX8_count_132 rfl ?_
    refine gg_get 0 fl_X8_18 dX8_count_133 rfl rfl ?_
    obtain ⟨v6, hv6, h⟩ := gg_bd h
    refine gg_callV (gg_sg [10]) [3, 4] (wd_X8_count c_latestFinding c_told c_above c_below c_rows_most c_rows_sizes c_texts_most c_texts_sizes c_now_huts c_now_food c_now_due c_now_backs c_now_kind c_now_home c_now_strength c_now_brick c_log_size c_kept_size) 0 (C_X6_howMany_s4 c_texts_most c_texts_sizes hv6) nV_X6_howMany_s4 ml_X8_316 rfl rfl rfl rfl rfl rfl rfl rfl rfl rfl [0, 1, 2, 5, 6, 7, 8, 9, 10, 11, 12, 13, 14] 15 rfl rfl rfl rfl rfl ⟨Nat.le_of_ble_eq_true rfl, Nat.le_of_ble_eq_true rfl⟩ (Nat.le_of_ble_eq_true rfl) dX8_count_136 [.int v6] rfl ?_
    cases h
    exact gg_iret dX8_count_139 rfl
  replace h := gg_el h hs9
  by_cases hs10 : a0 = (10 : Int32)
  · replace h := gg_th h hs10
    refine gg_swIn 140 dX8_count_1 (by rw [hs10]; decide) (by rw [hs10]; decide) (off := (139)) (by rw [hs10]; decide) (by decide) ?_
    refine gg_aload_n dX8_count_140 rfl ?_
    obtain ⟨v7, hv7, h⟩ := gg_bd h
    refine gg_callV (gg_sg [0]) [0, 11, 12, 13, 14] (wd_X8_count c_latestFinding c_told c_above c_below c_rows_most c_rows_sizes c_texts_most c_texts_sizes c_now_huts c_now_food c_now_due c_now_backs c_now_kind c_now_home c_now_strength c_now_brick c_log_size c_kept_size) 0 (C_X8_howManyKept c_latestFinding c_told c_above c_below c_kept_size hv7) nV_X8_howManyKept ml_X8_319 rfl rfl rfl rfl rfl rfl rfl rfl rfl rfl [1, 2, 3, 4, 5, 6, 7, 8, 9, 10] 15 rfl rfl rfl rfl rfl ⟨Nat.le_of_ble_eq_true rfl, Nat.le_of_ble_eq_true rfl⟩ (Nat.le_of_ble_eq_true rfl) dX8_count_141 [.int v7] rfl ?_
    cases h
    exact gg_iret dX8_count_144 rfl
  replace h := gg_el h hs10
  refine gg_swOut 145 dX8_count_1 ?_ (by decide) ?_
  · have q0 := gg_ne32 hs0 (by decide : ((0 : Int32)).toInt = 0); have q1 := gg_ne32 hs1 (by decide : ((1 : Int32)).toInt = 1); have q2 := gg_ne32 hs2 (by decide : ((2 : Int32)).toInt = 2); have q3 := gg_ne32 hs3 (by decide : ((3 : Int32)).toInt = 3); have q4 := gg_ne32 hs4 (by decide : ((4 : Int32)).toInt = 4); have q5 := gg_ne32 hs5 (by decide : ((5 : Int32)).toInt = 5); have q6 := gg_ne32 hs6 (by decide : ((6 : Int32)).toInt = 6); have q7 := gg_ne32 hs7 (by decide : ((7 : Int32)).toInt = 7); have q8 := gg_ne32 hs8 (by decide : ((8 : Int32)).toInt = 8); have q9 := gg_ne32 hs9 (by decide : ((9 : Int32)).toInt = 9); have q10 := gg_ne32 hs10 (by decide : ((10 : Int32)).toInt = 10); omega
  refine gg_iconst (-1 : Int32) dX8_count_145 (by decide) ?_
  cases h
  exact gg_iret dX8_count_146 rfl
def wd_X8_finding (c_latestFinding : Int32) (c_told : Int32) (c_above : Int64) (c_below : Int64) : va_W := [(0, .inr (7, [.ref 1, .ref 10, .ref 17, .ref 19, .ref 27, .ref 35, .ref 43, .ref 45, .ref 52, .ref 56, .ref 60, .ref 67, .int c_latestFinding, .int c_told, .long c_above, .long c_below]))]
def MD_X8_finding : gg_M := (yX8_finding, cX8_finding, 1, some .int, 0, 0)
theorem nV_X8_finding : gg_nV MD_X8_finding 0 := ⟨⟨gg_mem (by decide +kernel) rfl, gg_mem cw_X8_finding rfl, by decide, by decide, by decide +kernel⟩, gg_mem (by decide +kernel) rfl, gg_mem (by decide +kernel) rfl⟩
def f_X8_finding  (c_latestFinding : Int32) : Option (Int32) := (some c_latestFinding)
set_option maxRecDepth 20000 in
set_option maxHeartbeats 8000000 in
theorem C_X8_finding  (c_latestFinding : Int32) (c_told : Int32) (c_above : Int64) (c_below : Int64) {res : Int32} (h : f_X8_finding c_latestFinding = some res) : gg_C MD_X8_finding [.ref 0] (wd_X8_finding c_latestFinding c_told c_above c_below) (some (.int res)) (wd_X8_finding c_latestFinding c_told c_above c_below) := by
  refine gg_ofG [some (.ref 0)] (plainFor_of_name (by decide)) (Nat.le_of_ble_eq_true rfl) rfl ?_
  unfold f_X8_finding at h
  refine gg_aload_n dX8_finding_0 rfl ?_
  refine gg_get 0 fl_X8_79 dX8_finding_1 rfl rfl ?_
  cases h
  exact gg_iret dX8_finding_4 rfl
def wd_X8_findings (c_latestFinding : Int32) (c_told : Int32) (c_above : Int64) (c_below : Int64) (c_found : Nat → Int32) : va_W := [(0, .inr (7, [.ref 1, .ref 10, .ref 17, .ref 19, .ref 27, .ref 35, .ref 43, .ref 45, .ref 52, .ref 56, .ref 60, .ref 67, .int c_latestFinding, .int c_told, .long c_above, .long c_below])), (67, .inl (0, 6, .inl c_found))]
def MD_X8_findings : gg_M := (yX8_findings, cX8_findings, 2, some .int, 1, 22)
theorem nV_X8_findings : gg_nV MD_X8_findings 1 := ⟨⟨gg_mem (by decide +kernel) rfl, gg_mem cw_X8_findings rfl, by decide, by decide, by decide +kernel⟩, gg_mem (by decide +kernel) rfl, gg_mem (by decide +kernel) rfl⟩
def f_X8_findings (a0 : Int32) (c_found : Nat → Int32) : Option (Int32) := (f_X8_within a0 (1 : Int32) (5 : Int32)).bind (fun v1 => gg_lt (fun (s0_19 : Int32) => (some s0_19)) (fun k19 => (if v1 = (0 : Int32) then (k19 (-1 : Int32)) else gg_chk (gg_in a0 6) ((k19 (c_found a0.toNatClampNeg))))))
set_option maxRecDepth 20000 in
set_option maxHeartbeats 8000000 in
theorem C_X8_findings (a0 : Int32) (c_latestFinding : Int32) (c_told : Int32) (c_above : Int64) (c_below : Int64) (c_found : Nat → Int32) {res : Int32} (h : f_X8_findings a0 c_found = some res) : gg_C MD_X8_findings [.ref 0, .int a0] (wd_X8_findings c_latestFinding c_told c_above c_below c_found) (some (.int res)) (wd_X8_findings c_latestFinding c_told c_above c_below c_found) := by
  refine gg_ofG [some (.ref 0), some (.int a0)] (plainFor_of_name (by decide)) (Nat.le_of_ble_eq_true rfl) rfl ?_
  unfold f_X8_findings at h
  refine gg_iload_n dX8_findings_0 rfl ?_
  refine gg_iconst (1 : Int32) dX8_findings_1 (by decide) ?_
  refine gg_iconst (5 : Int32) dX8_findings_2 (by decide) ?_
  obtain ⟨v1, hv1, h⟩ := gg_bd h
  refine gg_callS (gg_sg []) [] (wd_X8_findings c_latestFinding c_told c_above c_below c_found) (C_X8_within a0 (1 : Int32) (5 : Int32) hv1) nS_X8_within ml_X8_155 rfl rfl rfl rfl rfl rfl rfl [0, 1] 2 rfl rfl rfl rfl rfl ⟨Nat.le_of_ble_eq_true rfl, Nat.le_of_ble_eq_true rfl⟩ (Nat.le_of_ble_eq_true rfl) dX8_findings_3 [.int v1] rfl ?_
  obtain ⟨k19, hke19, h⟩ := gg_lte h
  have hk19 : ∀ (s0_19 : Int32), k19 s0_19 = some res → gg_G MD_X8_findings 19 [none, none] [.int s0_19] (wd_X8_findings c_latestFinding c_told c_above c_below c_found) (some (.int res)) (wd_X8_findings c_latestFinding c_told c_above c_below c_found) := by
    intro s0_19 h
    subst hke19
    cases h
    exact gg_iret dX8_findings_19 rfl
  clear hke19
  refine gg_if_eq 18 dX8_findings_6 (by decide) (fun hc => ?_) (fun hc => ?_)
  · replace h := gg_th h hc
    refine gg_iconst (-1 : Int32) dX8_findings_18 (by decide) ?_
    refine gg_fg [false, false] [none, none] rfl ?_
    exact hk19 (-1 : Int32) h
  · replace h := gg_el h hc
    refine gg_aload_n dX8_findings_9 rfl ?_
    refine gg_get 0 fl_X8_75 dX8_findings_10 rfl rfl ?_
    refine gg_iload_n dX8_findings_13 rfl ?_
    obtain ⟨hb14, h⟩ := gg_ck h
    refine gg_iald 1 dX8_findings_14 rfl hb14 ?_
    refine gg_goto 19 dX8_findings_15 (by decide) ?_
    refine gg_fg [false, false] [none, none] rfl ?_
    exact hk19 (c_found a0.toNatClampNeg) h
def wd_X6_digestOnto_s6 (c_most : Int32) (c_sizes : Nat → Int32) (c_cells : Nat → Nat → Int32) : va_W := [(0, .inr (5, [.int c_most, .ref 1, .ref 2])), (1, .inl (4, 6, .inr (.inr (.inr (.inr (gg_rf 2 1)))))), (2, .inl (0, 6, .inl c_sizes)), (3, .inl (0, 40, .inl (c_cells 0))), (4, .inl (0, 40, .inl (c_cells 1))), (5, .inl (0, 40, .inl (c_cells 2))), (6, .inl (0, 40, .inl (c_cells 3))), (7, .inl (0, 40, .inl (c_cells 4))), (8, .inl (0, 40, .inl (c_cells 5)))]
def MD_X6_digestOnto_s6 : gg_M := (yX6_digestOnto, cX6_digestOnto, 5, some .long, 3, 65)
theorem nV_X6_digestOnto_s6 : gg_nV MD_X6_digestOnto_s6 1 := ⟨⟨gg_mem (by decide +kernel) rfl, gg_mem cw_X6_digestOnto rfl, by decide, by decide, by decide +kernel⟩, gg_mem (by decide +kernel) rfl, gg_mem (by decide +kernel) rfl⟩
def lp_X6_digestOnto_s6_28 {β : Type} (y3 : Int32) (c_sizes : Nat → Int32) (c_cells : Nat → Nat → Int32) (k60 : (Int64) → Option β) : Nat → (Int64) → (Int32) → Option β
  | 0, _, _ => none
  | n + 1, x1_28, x4_28 => gg_chk (gg_in y3 6) ((if (c_sizes y3.toNatClampNeg) ≤ x4_28 then (k60 x1_28) else (f_X6_get_s6 y3 x4_28 c_sizes c_cells).bind (fun v1 => (lp_X6_digestOnto_s6_28 y3 c_sizes c_cells k60 n (((31 : Int64) * x1_28) + (v1.toInt64)) (x4_28 + (1 : Int32))))))
def lp_X6_digestOnto_s6_2 {β : Type} (c_sizes : Nat → Int32) (c_cells : Nat → Nat → Int32) (k66 : (Int64) → Option β) : Nat → (Int64) → (Int32) → Option β
  | 0, _, _ => none
  | n + 1, x1_2, x3_2 => (if (6 : Int32) ≤ x3_2 then (k66 x1_2) else gg_chk (gg_in x3_2 6) ((lp_X6_digestOnto_s6_28 x3_2 c_sizes c_cells (fun (x1_60 : Int64) => (lp_X6_digestOnto_s6_2 c_sizes c_cells k66 n x1_60 (x3_2 + (1 : Int32)))) gg_fuel (((31 : Int64) * x1_2) + ((c_sizes x3_2.toNatClampNeg).toInt64)) (0 : Int32))))
def f_X6_digestOnto_s6 (a0 : Int64) (c_sizes : Nat → Int32) (c_cells : Nat → Nat → Int32) : Option (Int64) := (lp_X6_digestOnto_s6_2 c_sizes c_cells (fun (x1_66 : Int64) => (some x1_66)) gg_fuel a0 (0 : Int32))
set_option maxRecDepth 20000 in
set_option maxHeartbeats 4000000 in
theorem lq_X6_digestOnto_s6_28 {β : Type} {res : β} {rr : Option Value} {ww : va_W} (y3 : Int32) (c_most : Int32) (c_sizes : Nat → Int32) (c_cells : Nat → Nat → Int32) (k60 : (Int64) → Option β) (hk60 : ∀ (x1_60 : Int64), k60 x1_60 = some res → gg_G MD_X6_digestOnto_s6 60 [some (.ref 0), some (.long x1_60), none, some (.int y3), none] [] (wd_X6_digestOnto_s6 c_most c_sizes c_cells) rr ww) : ∀ (n : Nat) (x1_28 : Int64) (x4_28 : Int32), lp_X6_digestOnto_s6_28 y3 c_sizes c_cells k60 n x1_28 x4_28 = some res → gg_G MD_X6_digestOnto_s6 28 [some (.ref 0), some (.long x1_28), none, some (.int y3), some (.int x4_28)] [] (wd_X6_digestOnto_s6 c_most c_sizes c_cells) rr ww := by
  intro n
  induction n with
  | zero =>
    intro x1_28 x4_28 h
    exact nomatch (show (none : Option β) = some res from h)
  | succ n ih =>
    intro x1_28 x4_28 h
    rw [lp_X6_digestOnto_s6_28] at h
    refine gg_iload dX6_digestOnto_28 rfl ?_
    refine gg_aload_n dX6_digestOnto_30 rfl ?_
    refine gg_get 0 fl_X6_18 dX6_digestOnto_31 rfl rfl ?_
    refine gg_iload_n dX6_digestOnto_34 rfl ?_
    obtain ⟨hb35, h⟩ := gg_ck h
    refine gg_iald 2 dX6_digestOnto_35 rfl hb35 ?_
    refine gg_icmp_ge 60 dX6_digestOnto_36 (by decide) (fun hc => ?_) (fun hc => ?_)
    · replace h := gg_th h hc
      refine gg_fg [true, true, false, true, false] [some (.ref 0), some (.long x1_28), none, some (.int y3), none] rfl ?_
      exact hk60 x1_28 h
    · replace h := gg_el h hc
      refine gg_ldc2 (31 : Int64) dX6_digestOnto_39 (gg_mem (by decide +kernel) rfl) ?_
      refine gg_lload_n dX6_digestOnto_42 rfl ?_
      refine gg_lmul dX6_digestOnto_43 ?_
      refine gg_aload_n dX6_digestOnto_44 rfl ?_
      refine gg_iload_n dX6_digestOnto_45 rfl ?_
      refine gg_iload dX6_digestOnto_46 rfl ?_
      obtain ⟨v1, hv1, h⟩ := gg_bd h
      refine gg_callV (gg_sg [0]) [0, 1, 2, 3, 4, 5, 6, 7, 8] (wd_X6_digestOnto_s6 c_most c_sizes c_cells) 0 (C_X6_get_s6 y3 x4_28 c_most c_sizes c_cells hv1) nV_X6_get_s6 ml_X6_55 rfl rfl rfl rfl rfl rfl rfl rfl rfl rfl [] 9 rfl rfl rfl rfl rfl ⟨Nat.le_of_ble_eq_true rfl, Nat.le_of_ble_eq_true rfl⟩ (Nat.le_of_ble_eq_true rfl) dX6_digestOnto_48 [.int v1, .long ((31 : Int64) * x1_28)] rfl ?_
      refine gg_i2l dX6_digestOnto_51 ?_
      refine gg_ladd dX6_digestOnto_52 ?_
      refine gg_lstore_n [some (.ref 0), some (.long (((31 : Int64) * x1_28) + (v1.toInt64))), none, some (.int y3), some (.int x4_28)] dX6_digestOnto_53 rfl (Nat.le_of_ble_eq_true rfl) rfl ?_
      refine gg_iinc (x4_28 + (1 : Int32)) [some (.ref 0), some (.long (((31 : Int64) * x1_28) + (v1.toInt64))), none, some (.int y3), some (.int (x4_28 + (1 : Int32)))] dX6_digestOnto_54 rfl rfl rfl (Nat.le_of_ble_eq_true rfl) rfl ?_
      refine gg_goto 28 dX6_digestOnto_57 (by decide) ?_
      exact ih (((31 : Int64) * x1_28) + (v1.toInt64)) (x4_28 + (1 : Int32)) h
set_option maxRecDepth 20000 in
set_option maxHeartbeats 4000000 in
theorem lq_X6_digestOnto_s6_2 {β : Type} {res : β} {rr : Option Value} {ww : va_W} (c_most : Int32) (c_sizes : Nat → Int32) (c_cells : Nat → Nat → Int32) (k66 : (Int64) → Option β) (hk66 : ∀ (x1_66 : Int64), k66 x1_66 = some res → gg_G MD_X6_digestOnto_s6 66 [none, some (.long x1_66), none, none, none] [] (wd_X6_digestOnto_s6 c_most c_sizes c_cells) rr ww) : ∀ (n : Nat) (x1_2 : Int64) (x3_2 : Int32), lp_X6_digestOnto_s6_2 c_sizes c_cells k66 n x1_2 x3_2 = some res → gg_G MD_X6_digestOnto_s6 2 [some (.ref 0), some (.long x1_2), none, some (.int x3_2), none] [] (wd_X6_digestOnto_s6 c_most c_sizes c_cells) rr ww := by
  intro n
  induction n with
  | zero =>
    intro x1_2 x3_2 h
    exact nomatch (show (none : Option β) = some res from h)
  | succ n ih =>
    intro x1_2 x3_2 h
    rw [lp_X6_digestOnto_s6_2] at h
    refine gg_iload_n dX6_digestOnto_2 rfl ?_
    refine gg_aload_n dX6_digestOnto_3 rfl ?_
    refine gg_get 0 fl_X6_18 dX6_digestOnto_4 rfl rfl ?_
    refine gg_alen (6 : Int32) 2 dX6_digestOnto_7 rfl (by decide) rfl ?_
    refine gg_icmp_ge 66 dX6_digestOnto_8 (by decide) (fun hc => ?_) (fun hc => ?_)
    · replace h := gg_th h hc
      refine gg_fg [false, true, false, false, false] [none, some (.long x1_2), none, none, none] rfl ?_
      exact hk66 x1_2 h
    · replace h := gg_el h hc
      refine gg_ldc2 (31 : Int64) dX6_digestOnto_11 (gg_mem (by decide +kernel) rfl) ?_
      refine gg_lload_n dX6_digestOnto_14 rfl ?_
      refine gg_lmul dX6_digestOnto_15 ?_
      refine gg_aload_n dX6_digestOnto_16 rfl ?_
      refine gg_get 0 fl_X6_18 dX6_digestOnto_17 rfl rfl ?_
      refine gg_iload_n dX6_digestOnto_20 rfl ?_
      obtain ⟨hb21, h⟩ := gg_ck h
      refine gg_iald 2 dX6_digestOnto_21 rfl hb21 ?_
      refine gg_i2l dX6_digestOnto_22 ?_
      refine gg_ladd dX6_digestOnto_23 ?_
      refine gg_lstore_n [some (.ref 0), some (.long (((31 : Int64) * x1_2) + ((c_sizes x3_2.toNatClampNeg).toInt64))), none, some (.int x3_2), none] dX6_digestOnto_24 rfl (Nat.le_of_ble_eq_true rfl) rfl ?_
      refine gg_iconst (0 : Int32) dX6_digestOnto_25 (by decide) ?_
      refine gg_istore [some (.ref 0), some (.long (((31 : Int64) * x1_2) + ((c_sizes x3_2.toNatClampNeg).toInt64))), none, some (.int x3_2), some (.int (0 : Int32))] dX6_digestOnto_26 rfl (Nat.le_of_ble_eq_true rfl) rfl ?_
      refine lq_X6_digestOnto_s6_28 x3_2 c_most c_sizes c_cells _ ?_ gg_fuel (((31 : Int64) * x1_2) + ((c_sizes x3_2.toNatClampNeg).toInt64)) (0 : Int32) h
      intro x1_60 h
      refine gg_iinc (x3_2 + (1 : Int32)) [some (.ref 0), some (.long x1_60), none, some (.int (x3_2 + (1 : Int32))), none] dX6_digestOnto_60 rfl rfl rfl (Nat.le_of_ble_eq_true rfl) rfl ?_
      refine gg_goto 2 dX6_digestOnto_63 (by decide) ?_
      exact ih x1_60 (x3_2 + (1 : Int32)) h
set_option maxRecDepth 20000 in
set_option maxHeartbeats 8000000 in
theorem C_X6_digestOnto_s6 (a0 : Int64) (c_most : Int32) (c_sizes : Nat → Int32) (c_cells : Nat → Nat → Int32) {res : Int64} (h : f_X6_digestOnto_s6 a0 c_sizes c_cells = some res) : gg_C MD_X6_digestOnto_s6 [.ref 0, .long a0] (wd_X6_digestOnto_s6 c_most c_sizes c_cells) (some (.long res)) (wd_X6_digestOnto_s6 c_most c_sizes c_cells) := by
  refine gg_ofG [some (.ref 0), some (.long a0), none, none, none] (plainFor_of_name (by decide)) (Nat.le_of_ble_eq_true rfl) rfl ?_
  unfold f_X6_digestOnto_s6 at h
  refine gg_iconst (0 : Int32) dX6_digestOnto_0 (by decide) ?_
  refine gg_istore_n [some (.ref 0), some (.long a0), none, some (.int (0 : Int32)), none] dX6_digestOnto_1 rfl (Nat.le_of_ble_eq_true rfl) rfl ?_
  refine lq_X6_digestOnto_s6_2 c_most c_sizes c_cells _ ?_ gg_fuel a0 (0 : Int32) h
  intro x1_66 h
  refine gg_lload_n dX6_digestOnto_66 rfl ?_
  cases h
  exact gg_lret dX6_digestOnto_67 rfl
def wd_X6_digestOnto_s4 (c_most : Int32) (c_sizes : Nat → Int32) (c_cells : Nat → Nat → Int32) : va_W := [(0, .inr (5, [.int c_most, .ref 1, .ref 2])), (1, .inl (4, 4, .inr (.inr (.inr (.inr (gg_rf 2 1)))))), (2, .inl (0, 4, .inl c_sizes)), (3, .inl (0, 60, .inl (c_cells 0))), (4, .inl (0, 60, .inl (c_cells 1))), (5, .inl (0, 60, .inl (c_cells 2))), (6, .inl (0, 60, .inl (c_cells 3)))]
def MD_X6_digestOnto_s4 : gg_M := (yX6_digestOnto, cX6_digestOnto, 5, some .long, 3, 65)
theorem nV_X6_digestOnto_s4 : gg_nV MD_X6_digestOnto_s4 1 := ⟨⟨gg_mem (by decide +kernel) rfl, gg_mem cw_X6_digestOnto rfl, by decide, by decide, by decide +kernel⟩, gg_mem (by decide +kernel) rfl, gg_mem (by decide +kernel) rfl⟩
def lp_X6_digestOnto_s4_28 {β : Type} (y3 : Int32) (c_sizes : Nat → Int32) (c_cells : Nat → Nat → Int32) (k60 : (Int64) → Option β) : Nat → (Int64) → (Int32) → Option β
  | 0, _, _ => none
  | n + 1, x1_28, x4_28 => gg_chk (gg_in y3 4) ((if (c_sizes y3.toNatClampNeg) ≤ x4_28 then (k60 x1_28) else (f_X6_get_s4 y3 x4_28 c_sizes c_cells).bind (fun v1 => (lp_X6_digestOnto_s4_28 y3 c_sizes c_cells k60 n (((31 : Int64) * x1_28) + (v1.toInt64)) (x4_28 + (1 : Int32))))))
def lp_X6_digestOnto_s4_2 {β : Type} (c_sizes : Nat → Int32) (c_cells : Nat → Nat → Int32) (k66 : (Int64) → Option β) : Nat → (Int64) → (Int32) → Option β
  | 0, _, _ => none
  | n + 1, x1_2, x3_2 => (if (4 : Int32) ≤ x3_2 then (k66 x1_2) else gg_chk (gg_in x3_2 4) ((lp_X6_digestOnto_s4_28 x3_2 c_sizes c_cells (fun (x1_60 : Int64) => (lp_X6_digestOnto_s4_2 c_sizes c_cells k66 n x1_60 (x3_2 + (1 : Int32)))) gg_fuel (((31 : Int64) * x1_2) + ((c_sizes x3_2.toNatClampNeg).toInt64)) (0 : Int32))))
def f_X6_digestOnto_s4 (a0 : Int64) (c_sizes : Nat → Int32) (c_cells : Nat → Nat → Int32) : Option (Int64) := (lp_X6_digestOnto_s4_2 c_sizes c_cells (fun (x1_66 : Int64) => (some x1_66)) gg_fuel a0 (0 : Int32))
set_option maxRecDepth 20000 in
set_option maxHeartbeats 4000000 in
theorem lq_X6_digestOnto_s4_28 {β : Type} {res : β} {rr : Option Value} {ww : va_W} (y3 : Int32) (c_most : Int32) (c_sizes : Nat → Int32) (c_cells : Nat → Nat → Int32) (k60 : (Int64) → Option β) (hk60 : ∀ (x1_60 : Int64), k60 x1_60 = some res → gg_G MD_X6_digestOnto_s4 60 [some (.ref 0), some (.long x1_60), none, some (.int y3), none] [] (wd_X6_digestOnto_s4 c_most c_sizes c_cells) rr ww) : ∀ (n : Nat) (x1_28 : Int64) (x4_28 : Int32), lp_X6_digestOnto_s4_28 y3 c_sizes c_cells k60 n x1_28 x4_28 = some res → gg_G MD_X6_digestOnto_s4 28 [some (.ref 0), some (.long x1_28), none, some (.int y3), some (.int x4_28)] [] (wd_X6_digestOnto_s4 c_most c_sizes c_cells) rr ww := by
  intro n
  induction n with
  | zero =>
    intro x1_28 x4_28 h
    exact nomatch (show (none : Option β) = some res from h)
  | succ n ih =>
    intro x1_28 x4_28 h
    rw [lp_X6_digestOnto_s4_28] at h
    refine gg_iload dX6_digestOnto_28 rfl ?_
    refine gg_aload_n dX6_digestOnto_30 rfl ?_
    refine gg_get 0 fl_X6_18 dX6_digestOnto_31 rfl rfl ?_
    refine gg_iload_n dX6_digestOnto_34 rfl ?_
    obtain ⟨hb35, h⟩ := gg_ck h
    refine gg_iald 2 dX6_digestOnto_35 rfl hb35 ?_
    refine gg_icmp_ge 60 dX6_digestOnto_36 (by decide) (fun hc => ?_) (fun hc => ?_)
    · replace h := gg_th h hc
      refine gg_fg [true, true, false, true, false] [some (.ref 0), some (.long x1_28), none, some (.int y3), none] rfl ?_
      exact hk60 x1_28 h
    · replace h := gg_el h hc
      refine gg_ldc2 (31 : Int64) dX6_digestOnto_39 (gg_mem (by decide +kernel) rfl) ?_
      refine gg_lload_n dX6_digestOnto_42 rfl ?_
      refine gg_lmul dX6_digestOnto_43 ?_
      refine gg_aload_n dX6_digestOnto_44 rfl ?_
      refine gg_iload_n dX6_digestOnto_45 rfl ?_
      refine gg_iload dX6_digestOnto_46 rfl ?_
      obtain ⟨v1, hv1, h⟩ := gg_bd h
      refine gg_callV (gg_sg [0]) [0, 1, 2, 3, 4, 5, 6] (wd_X6_digestOnto_s4 c_most c_sizes c_cells) 0 (C_X6_get_s4 y3 x4_28 c_most c_sizes c_cells hv1) nV_X6_get_s4 ml_X6_55 rfl rfl rfl rfl rfl rfl rfl rfl rfl rfl [] 7 rfl rfl rfl rfl rfl ⟨Nat.le_of_ble_eq_true rfl, Nat.le_of_ble_eq_true rfl⟩ (Nat.le_of_ble_eq_true rfl) dX6_digestOnto_48 [.int v1, .long ((31 : Int64) * x1_28)] rfl ?_
      refine gg_i2l dX6_digestOnto_51 ?_
      refine gg_ladd dX6_digestOnto_52 ?_
      refine gg_lstore_n [some (.ref 0), some (.long (((31 : Int64) * x1_28) + (v1.toInt64))), none, some (.int y3), some (.int x4_28)] dX6_digestOnto_53 rfl (Nat.le_of_ble_eq_true rfl) rfl ?_
      refine gg_iinc (x4_28 + (1 : Int32)) [some (.ref 0), some (.long (((31 : Int64) * x1_28) + (v1.toInt64))), none, some (.int y3), some (.int (x4_28 + (1 : Int32)))] dX6_digestOnto_54 rfl rfl rfl (Nat.le_of_ble_eq_true rfl) rfl ?_
      refine gg_goto 28 dX6_digestOnto_57 (by decide) ?_
      exact ih (((31 : Int64) * x1_28) + (v1.toInt64)) (x4_28 + (1 : Int32)) h
set_option maxRecDepth 20000 in
set_option maxHeartbeats 4000000 in
theorem lq_X6_digestOnto_s4_2 {β : Type} {res : β} {rr : Option Value} {ww : va_W} (c_most : Int32) (c_sizes : Nat → Int32) (c_cells : Nat → Nat → Int32) (k66 : (Int64) → Option β) (hk66 : ∀ (x1_66 : Int64), k66 x1_66 = some res → gg_G MD_X6_digestOnto_s4 66 [none, some (.long x1_66), none, none, none] [] (wd_X6_digestOnto_s4 c_most c_sizes c_cells) rr ww) : ∀ (n : Nat) (x1_2 : Int64) (x3_2 : Int32), lp_X6_digestOnto_s4_2 c_sizes c_cells k66 n x1_2 x3_2 = some res → gg_G MD_X6_digestOnto_s4 2 [some (.ref 0), some (.long x1_2), none, some (.int x3_2), none] [] (wd_X6_digestOnto_s4 c_most c_sizes c_cells) rr ww := by
  intro n
  induction n with
  | zero =>
    intro x1_2 x3_2 h
    exact nomatch (show (none : Option β) = some res from h)
  | succ n ih =>
    intro x1_2 x3_2 h
    rw [lp_X6_digestOnto_s4_2] at h
    refine gg_iload_n dX6_digestOnto_2 rfl ?_
    refine gg_aload_n dX6_digestOnto_3 rfl ?_
    refine gg_get 0 fl_X6_18 dX6_digestOnto_4 rfl rfl ?_
    refine gg_alen (4 : Int32) 2 dX6_digestOnto_7 rfl (by decide) rfl ?_
    refine gg_icmp_ge 66 dX6_digestOnto_8 (by decide) (fun hc => ?_) (fun hc => ?_)
    · replace h := gg_th h hc
      refine gg_fg [false, true, false, false, false] [none, some (.long x1_2), none, none, none] rfl ?_
      exact hk66 x1_2 h
    · replace h := gg_el h hc
      refine gg_ldc2 (31 : Int64) dX6_digestOnto_11 (gg_mem (by decide +kernel) rfl) ?_
      refine gg_lload_n dX6_digestOnto_14 rfl ?_
      refine gg_lmul dX6_digestOnto_15 ?_
      refine gg_aload_n dX6_digestOnto_16 rfl ?_
      refine gg_get 0 fl_X6_18 dX6_digestOnto_17 rfl rfl ?_
      refine gg_iload_n dX6_digestOnto_20 rfl ?_
      obtain ⟨hb21, h⟩ := gg_ck h
      refine gg_iald 2 dX6_digestOnto_21 rfl hb21 ?_
      refine gg_i2l dX6_digestOnto_22 ?_
      refine gg_ladd dX6_digestOnto_23 ?_
      refine gg_lstore_n [some (.ref 0), some (.long (((31 : Int64) * x1_2) + ((c_sizes x3_2.toNatClampNeg).toInt64))), none, some (.int x3_2), none] dX6_digestOnto_24 rfl (Nat.le_of_ble_eq_true rfl) rfl ?_
      refine gg_iconst (0 : Int32) dX6_digestOnto_25 (by decide) ?_
      refine gg_istore [some (.ref 0), some (.long (((31 : Int64) * x1_2) + ((c_sizes x3_2.toNatClampNeg).toInt64))), none, some (.int x3_2), some (.int (0 : Int32))] dX6_digestOnto_26 rfl (Nat.le_of_ble_eq_true rfl) rfl ?_
      refine lq_X6_digestOnto_s4_28 x3_2 c_most c_sizes c_cells _ ?_ gg_fuel (((31 : Int64) * x1_2) + ((c_sizes x3_2.toNatClampNeg).toInt64)) (0 : Int32) h
      intro x1_60 h
      refine gg_iinc (x3_2 + (1 : Int32)) [some (.ref 0), some (.long x1_60), none, some (.int (x3_2 + (1 : Int32))), none] dX6_digestOnto_60 rfl rfl rfl (Nat.le_of_ble_eq_true rfl) rfl ?_
      refine gg_goto 2 dX6_digestOnto_63 (by decide) ?_
      exact ih x1_60 (x3_2 + (1 : Int32)) h
set_option maxRecDepth 20000 in
set_option maxHeartbeats 8000000 in
theorem C_X6_digestOnto_s4 (a0 : Int64) (c_most : Int32) (c_sizes : Nat → Int32) (c_cells : Nat → Nat → Int32) {res : Int64} (h : f_X6_digestOnto_s4 a0 c_sizes c_cells = some res) : gg_C MD_X6_digestOnto_s4 [.ref 0, .long a0] (wd_X6_digestOnto_s4 c_most c_sizes c_cells) (some (.long res)) (wd_X6_digestOnto_s4 c_most c_sizes c_cells) := by
  refine gg_ofG [some (.ref 0), some (.long a0), none, none, none] (plainFor_of_name (by decide)) (Nat.le_of_ble_eq_true rfl) rfl ?_
  unfold f_X6_digestOnto_s4 at h
  refine gg_iconst (0 : Int32) dX6_digestOnto_0 (by decide) ?_
  refine gg_istore_n [some (.ref 0), some (.long a0), none, some (.int (0 : Int32)), none] dX6_digestOnto_1 rfl (Nat.le_of_ble_eq_true rfl) rfl ?_
  refine lq_X6_digestOnto_s4_2 c_most c_sizes c_cells _ ?_ gg_fuel a0 (0 : Int32) h
  intro x1_66 h
  refine gg_lload_n dX6_digestOnto_66 rfl ?_
  cases h
  exact gg_lret dX6_digestOnto_67 rfl
def wd_X8_digest (c_latestFinding : Int32) (c_told : Int32) (c_above : Int64) (c_below : Int64) (c_rows_most : Int32) (c_rows_sizes : Nat → Int32) (c_rows_cells : Nat → Nat → Int32) (c_texts_most : Int32) (c_texts_sizes : Nat → Int32) (c_texts_cells : Nat → Nat → Int32) (c_now_huts : Int32) (c_now_food : Int32) (c_now_due : Int32) (c_now_backs : Int32) (c_now_winds : Nat → Int32) (c_now_kind : Nat → Int32) (c_now_home : Nat → Int32) (c_now_strength : Nat → Int32) (c_now_brown : Nat → Int32) (c_now_brick : Nat → Int32) (c_log_size : Int32) (c_kept_size : Nat → Int32) : va_W := [(0, .inr (7, [.ref 1, .ref 10, .ref 17, .ref 19, .ref 27, .ref 35, .ref 43, .ref 45, .ref 52, .ref 56, .ref 60, .ref 67, .int c_latestFinding, .int c_told, .long c_above, .long c_below])), (1, .inr (5, [.int c_rows_most, .ref 2, .ref 3])), (2, .inl (4, 6, .inr (.inr (.inr (.inr (gg_rf 2 1)))))), (3, .inl (0, 6, .inl c_rows_sizes)), (4, .inl (0, 40, .inl (c_rows_cells 0))), (5, .inl (0, 40, .inl (c_rows_cells 1))), (6, .inl (0, 40, .inl (c_rows_cells 2))), (7, .inl (0, 40, .inl (c_rows_cells 3))), (8, .inl (0, 40, .inl (c_rows_cells 4))), (9, .inl (0, 40, .inl (c_rows_cells 5))), (10, .inr (5, [.int c_texts_most, .ref 11, .ref 12])), (11, .inl (4, 4, .inr (.inr (.inr (.inr (gg_rf 2 1)))))), (12, .inl (0, 4, .inl c_texts_sizes)), (13, .inl (0, 60, .inl (c_texts_cells 0))), (14, .inl (0, 60, .inl (c_texts_cells 1))), (15, .inl (0, 60, .inl (c_texts_cells 2))), (16, .inl (0, 60, .inl (c_texts_cells 3))), (27, .inr (2, [.int c_now_huts, .int c_now_food, .int c_now_due, .ref 28, .ref 29, .ref 30, .ref 31, .ref 32, .ref 33, .ref 34, .int c_now_backs])), (28, .inl (0, 4, .inl c_now_winds)), (29, .inl (0, 6, .inl c_now_kind)), (30, .inl (0, 6, .inl c_now_home)), (31, .inl (0, 6, .inl c_now_strength)), (32, .inl (0, 6, .inl c_now_brown)), (33, .inl (0, 6, .inl c_now_brick)), (43, .inr (3, [.int c_log_size, .ref 44])), (45, .inl (3, 3, .inr (.inr (.inr (.inr (gg_rf 1 2)))))), (46, .inr (3, [.int (c_kept_size 0), .ref 47])), (48, .inr (3, [.int (c_kept_size 1), .ref 49])), (50, .inr (3, [.int (c_kept_size 2), .ref 51]))]
def MD_X8_digest : gg_M := (yX8_digest, cX8_digest, 5, some .long, 4, 89)
theorem nV_X8_digest : gg_nV MD_X8_digest 0 := ⟨⟨gg_mem (by decide +kernel) rfl, gg_mem cw_X8_digest rfl, by decide, by decide, by decide +kernel⟩, gg_mem (by decide +kernel) rfl, gg_mem (by decide +kernel) rfl⟩
def lp_X8_digest_6 {β : Type} (c_rows_sizes : Nat → Int32) (c_texts_sizes : Nat → Int32) (c_now_huts : Int32) (c_now_food : Int32) (c_now_due : Int32) (c_now_kind : Nat → Int32) (c_now_home : Nat → Int32) (c_now_strength : Nat → Int32) (c_now_brick : Nat → Int32) (c_log_size : Int32) (c_kept_size : Nat → Int32) (k31 : (Int64) → Option β) : Nat → (Int64) → (Int32) → Option β
  | 0, _, _ => none
  | n + 1, x1_6, x3_6 => (if (11 : Int32) ≤ x3_6 then (k31 x1_6) else (f_X8_count x3_6 c_rows_sizes c_texts_sizes c_now_huts c_now_food c_now_due c_now_kind c_now_home c_now_strength c_now_brick c_log_size c_kept_size).bind (fun v1 => (lp_X8_digest_6 c_rows_sizes c_texts_sizes c_now_huts c_now_food c_now_due c_now_kind c_now_home c_now_strength c_now_brick c_log_size c_kept_size k31 n (((31 : Int64) * x1_6) + (v1.toInt64)) (x3_6 + (1 : Int32)))))
def lp_X8_digest_47 {β : Type} (y3 : Int32) (c_now_due : Int32) (c_now_winds : Nat → Int32) (c_now_kind : Nat → Int32) (c_now_home : Nat → Int32) (c_now_strength : Nat → Int32) (c_now_brown : Nat → Int32) (c_now_brick : Nat → Int32) (k78 : (Int64) → Option β) : Nat → (Int64) → (Int32) → Option β
  | 0, _, _ => none
  | n + 1, x1_47, x4_47 => (if (7 : Int32) ≤ x4_47 then (k78 x1_47) else (f_X2_ofHut y3 x4_47 c_now_due c_now_winds c_now_kind c_now_home c_now_strength c_now_brown c_now_brick).bind (fun v2 => (lp_X8_digest_47 y3 c_now_due c_now_winds c_now_kind c_now_home c_now_strength c_now_brown c_now_brick k78 n (((31 : Int64) * x1_47) + (v2.toInt64)) (x4_47 + (1 : Int32)))))
def lp_X8_digest_33 {β : Type} (c_now_huts : Int32) (c_now_due : Int32) (c_now_winds : Nat → Int32) (c_now_kind : Nat → Int32) (c_now_home : Nat → Int32) (c_now_strength : Nat → Int32) (c_now_brown : Nat → Int32) (c_now_brick : Nat → Int32) (k84 : (Int64) → Option β) : Nat → (Int64) → (Int32) → Option β
  | 0, _, _ => none
  | n + 1, x1_33, x3_33 => (if c_now_huts ≤ x3_33 then (k84 x1_33) else (lp_X8_digest_47 x3_33 c_now_due c_now_winds c_now_kind c_now_home c_now_strength c_now_brown c_now_brick (fun (x1_78 : Int64) => (lp_X8_digest_33 c_now_huts c_now_due c_now_winds c_now_kind c_now_home c_now_strength c_now_brown c_now_brick k84 n x1_78 (x3_33 + (1 : Int32)))) gg_fuel x1_33 (0 : Int32)))
def lp_X8_digest_86 {β : Type} (c_kept_size : Nat → Int32) (k118 : (Int64) → Option β) : Nat → (Int64) → (Int32) → Option β
  | 0, _, _ => none
  | n + 1, x1_86, x3_86 => (if (3 : Int32) ≤ x3_86 then (k118 x1_86) else (gg_k3 x3_86 ((lp_X8_digest_86 c_kept_size k118 n (((31 : Int64) * x1_86) + ((c_kept_size 0).toInt64)) (x3_86 + (1 : Int32)))) ((lp_X8_digest_86 c_kept_size k118 n (((31 : Int64) * x1_86) + ((c_kept_size 1).toInt64)) (x3_86 + (1 : Int32)))) ((lp_X8_digest_86 c_kept_size k118 n (((31 : Int64) * x1_86) + ((c_kept_size 2).toInt64)) (x3_86 + (1 : Int32))))))
def f_X8_digest  (c_rows_sizes : Nat → Int32) (c_rows_cells : Nat → Nat → Int32) (c_texts_sizes : Nat → Int32) (c_texts_cells : Nat → Nat → Int32) (c_now_huts : Int32) (c_now_food : Int32) (c_now_due : Int32) (c_now_winds : Nat → Int32) (c_now_kind : Nat → Int32) (c_now_home : Nat → Int32) (c_now_strength : Nat → Int32) (c_now_brown : Nat → Int32) (c_now_brick : Nat → Int32) (c_log_size : Int32) (c_kept_size : Nat → Int32) : Option (Int64) := (lp_X8_digest_6 c_rows_sizes c_texts_sizes c_now_huts c_now_food c_now_due c_now_kind c_now_home c_now_strength c_now_brick c_log_size c_kept_size (fun (x1_31 : Int64) => (lp_X8_digest_33 c_now_huts c_now_due c_now_winds c_now_kind c_now_home c_now_strength c_now_brown c_now_brick (fun (x1_84 : Int64) => (lp_X8_digest_86 c_kept_size (fun (x1_118 : Int64) => (f_X6_digestOnto_s6 x1_118 c_rows_sizes c_rows_cells).bind (fun v3 => (f_X6_digestOnto_s4 v3 c_texts_sizes c_texts_cells).bind (fun v4 => (some v4)))) gg_fuel x1_84 (0 : Int32))) gg_fuel x1_31 (0 : Int32))) gg_fuel (17 : Int64) (0 : Int32))
set_option maxRecDepth 20000 in
set_option maxHeartbeats 4000000 in
theorem lq_X8_digest_6 {β : Type} {res : β} {rr : Option Value} {ww : va_W} (c_latestFinding : Int32) (c_told : Int32) (c_above : Int64) (c_below : Int64) (c_rows_most : Int32) (c_rows_sizes : Nat → Int32) (c_rows_cells : Nat → Nat → Int32) (c_texts_most : Int32) (c_texts_sizes : Nat → Int32) (c_texts_cells : Nat → Nat → Int32) (c_now_huts : Int32) (c_now_food : Int32) (c_now_due : Int32) (c_now_backs : Int32) (c_now_winds : Nat → Int32) (c_now_kind : Nat → Int32) (c_now_home : Nat → Int32) (c_now_strength : Nat → Int32) (c_now_brown : Nat → Int32) (c_now_brick : Nat → Int32) (c_log_size : Int32) (c_kept_size : Nat → Int32) (k31 : (Int64) → Option β) (hk31 : ∀ (x1_31 : Int64), k31 x1_31 = some res → gg_G MD_X8_digest 31 [some (.ref 0), some (.long x1_31), none, none, none] [] (wd_X8_digest c_latestFinding c_told c_above c_below c_rows_most c_rows_sizes c_rows_cells c_texts_most c_texts_sizes c_texts_cells c_now_huts c_now_food c_now_due c_now_backs c_now_winds c_now_kind c_now_home c_now_strength c_now_brown c_now_brick c_log_size c_kept_size) rr ww) : ∀ (n : Nat) (x1_6 : Int64) (x3_6 : Int32), lp_X8_digest_6 c_rows_sizes c_texts_sizes c_now_huts c_now_food c_now_due c_now_kind c_now_home c_now_strength c_now_brick c_log_size c_kept_size k31 n x1_6 x3_6 = some res → gg_G MD_X8_digest 6 [some (.ref 0), some (.long x1_6), none, some (.int x3_6), none] [] (wd_X8_digest c_latestFinding c_told c_above c_below c_rows_most c_rows_sizes c_rows_cells c_texts_most c_texts_sizes c_texts_cells c_now_huts c_now_food c_now_due c_now_backs c_now_winds c_now_kind c_now_home c_now_strength c_now_brown c_now_brick c_log_size c_kept_size) rr ww := by
  intro n
  induction n with
  | zero =>
    intro x1_6 x3_6 h
    exact nomatch (show (none : Option β) = some res from h)
  | succ n ih =>
    intro x1_6 x3_6 h
    rw [lp_X8_digest_6] at h
    refine gg_iload_n dX8_digest_6 rfl ?_
    refine gg_bipush (11 : Int32) dX8_digest_7 (by decide) ?_
    refine gg_icmp_ge 31 dX8_digest_9 (by decide) (fun hc => ?_) (fun hc => ?_)
    · replace h := gg_th h hc
      refine gg_fg [true, true, false, false, false] [some (.ref 0), some (.long x1_6), none, none, none] rfl ?_
      exact hk31 x1_6 h
    · replace h := gg_el h hc
      refine gg_ldc2 (31 : Int64) dX8_digest_12 (gg_mem (by decide +kernel) rfl) ?_
      refine gg_lload_n dX8_digest_15 rfl ?_
      refine gg_lmul dX8_digest_16 ?_
      refine gg_aload_n dX8_digest_17 rfl ?_
      refine gg_iload_n dX8_digest_18 rfl ?_
      obtain ⟨v1, hv1, h⟩ := gg_bd h
      refine gg_callV (gg_sg [0]) [0, 1, 3, 10, 12, 17, 19, 20, 21, 23, 24, 25, 26, 27, 28] (wd_X8_digest c_latestFinding c_told c_above c_below c_rows_most c_rows_sizes c_rows_cells c_texts_most c_texts_sizes c_texts_cells c_now_huts c_now_food c_now_due c_now_backs c_now_winds c_now_kind c_now_home c_now_strength c_now_brown c_now_brick c_log_size c_kept_size) 0 (C_X8_count x3_6 c_latestFinding c_told c_above c_below c_rows_most c_rows_sizes c_texts_most c_texts_sizes c_now_huts c_now_food c_now_due c_now_backs c_now_kind c_now_home c_now_strength c_now_brick c_log_size c_kept_size hv1) nV_X8_count ml_X8_326 rfl rfl rfl rfl rfl rfl rfl rfl rfl rfl [2, 4, 5, 6, 7, 8, 9, 11, 13, 14, 15, 16, 18, 22] 29 rfl rfl rfl rfl rfl ⟨Nat.le_of_ble_eq_true rfl, Nat.le_of_ble_eq_true rfl⟩ (Nat.le_of_ble_eq_true rfl) dX8_digest_19 [.int v1, .long ((31 : Int64) * x1_6)] rfl ?_
      refine gg_i2l dX8_digest_22 ?_
      refine gg_ladd dX8_digest_23 ?_
      refine gg_lstore_n [some (.ref 0), some (.long (((31 : Int64) * x1_6) + (v1.toInt64))), none, some (.int x3_6), none] dX8_digest_24 rfl (Nat.le_of_ble_eq_true rfl) rfl ?_
      refine gg_iinc (x3_6 + (1 : Int32)) [some (.ref 0), some (.long (((31 : Int64) * x1_6) + (v1.toInt64))), none, some (.int (x3_6 + (1 : Int32))), none] dX8_digest_25 rfl rfl rfl (Nat.le_of_ble_eq_true rfl) rfl ?_
      refine gg_goto 6 dX8_digest_28 (by decide) ?_
      exact ih (((31 : Int64) * x1_6) + (v1.toInt64)) (x3_6 + (1 : Int32)) h
set_option maxRecDepth 20000 in
set_option maxHeartbeats 4000000 in
theorem lq_X8_digest_47 {β : Type} {res : β} {rr : Option Value} {ww : va_W} (y3 : Int32) (c_latestFinding : Int32) (c_told : Int32) (c_above : Int64) (c_below : Int64) (c_rows_most : Int32) (c_rows_sizes : Nat → Int32) (c_rows_cells : Nat → Nat → Int32) (c_texts_most : Int32) (c_texts_sizes : Nat → Int32) (c_texts_cells : Nat → Nat → Int32) (c_now_huts : Int32) (c_now_food : Int32) (c_now_due : Int32) (c_now_backs : Int32) (c_now_winds : Nat → Int32) (c_now_kind : Nat → Int32) (c_now_home : Nat → Int32) (c_now_strength : Nat → Int32) (c_now_brown : Nat → Int32) (c_now_brick : Nat → Int32) (c_log_size : Int32) (c_kept_size : Nat → Int32) (k78 : (Int64) → Option β) (hk78 : ∀ (x1_78 : Int64), k78 x1_78 = some res → gg_G MD_X8_digest 78 [some (.ref 0), some (.long x1_78), none, some (.int y3), none] [] (wd_X8_digest c_latestFinding c_told c_above c_below c_rows_most c_rows_sizes c_rows_cells c_texts_most c_texts_sizes c_texts_cells c_now_huts c_now_food c_now_due c_now_backs c_now_winds c_now_kind c_now_home c_now_strength c_now_brown c_now_brick c_log_size c_kept_size) rr ww) : ∀ (n : Nat) (x1_47 : Int64) (x4_47 : Int32), lp_X8_digest_47 y3 c_now_due c_now_winds c_now_kind c_now_home c_now_strength c_now_brown c_now_brick k78 n x1_47 x4_47 = some res → gg_G MD_X8_digest 47 [some (.ref 0), some (.long x1_47), none, some (.int y3), some (.int x4_47)] [] (wd_X8_digest c_latestFinding c_told c_above c_below c_rows_most c_rows_sizes c_rows_cells c_texts_most c_texts_sizes c_texts_cells c_now_huts c_now_food c_now_due c_now_backs c_now_winds c_now_kind c_now_home c_now_strength c_now_brown c_now_brick c_log_size c_kept_size) rr ww := by
  intro n
  induction n with
  | zero =>
    intro x1_47 x4_47 h
    exact nomatch (show (none : Option β) = some res from h)
  | succ n ih =>
    intro x1_47 x4_47 h
    rw [lp_X8_digest_47] at h
    refine gg_iload dX8_digest_47 rfl ?_
    refine gg_bipush (7 : Int32) dX8_digest_49 (by decide) ?_
    refine gg_icmp_ge 78 dX8_digest_51 (by decide) (fun hc => ?_) (fun hc => ?_)
    · replace h := gg_th h hc
      refine gg_fg [true, true, false, true, false] [some (.ref 0), some (.long x1_47), none, some (.int y3), none] rfl ?_
      exact hk78 x1_47 h
    · replace h := gg_el h hc
      refine gg_ldc2 (31 : Int64) dX8_digest_54 (gg_mem (by decide +kernel) rfl) ?_
      refine gg_lload_n dX8_digest_57 rfl ?_
      refine gg_lmul dX8_digest_58 ?_
      refine gg_aload_n dX8_digest_59 rfl ?_
      refine gg_get 0 fl_X8_35 dX8_digest_60 rfl rfl ?_
      refine gg_iload_n dX8_digest_63 rfl ?_
      refine gg_iload dX8_digest_64 rfl ?_
      obtain ⟨v2, hv2, h⟩ := gg_bd h
      refine gg_callV (gg_sg [27]) [17, 18, 19, 20, 21, 22, 23] (wd_X8_digest c_latestFinding c_told c_above c_below c_rows_most c_rows_sizes c_rows_cells c_texts_most c_texts_sizes c_texts_cells c_now_huts c_now_food c_now_due c_now_backs c_now_winds c_now_kind c_now_home c_now_strength c_now_brown c_now_brick c_log_size c_kept_size) 0 (C_X2_ofHut y3 x4_47 c_now_huts c_now_food c_now_due c_now_backs c_now_winds c_now_kind c_now_home c_now_strength c_now_brown c_now_brick hv2) nV_X2_ofHut ml_X8_158 rfl rfl rfl rfl rfl rfl rfl rfl rfl rfl [0, 1, 2, 3, 4, 5, 6, 7, 8, 9, 10, 11, 12, 13, 14, 15, 16, 24, 25, 26, 27, 28] 29 rfl rfl rfl rfl rfl ⟨Nat.le_of_ble_eq_true rfl, Nat.le_of_ble_eq_true rfl⟩ (Nat.le_of_ble_eq_true rfl) dX8_digest_66 [.int v2, .long ((31 : Int64) * x1_47)] rfl ?_
      refine gg_i2l dX8_digest_69 ?_
      refine gg_ladd dX8_digest_70 ?_
      refine gg_lstore_n [some (.ref 0), some (.long (((31 : Int64) * x1_47) + (v2.toInt64))), none, some (.int y3), some (.int x4_47)] dX8_digest_71 rfl (Nat.le_of_ble_eq_true rfl) rfl ?_
      refine gg_iinc (x4_47 + (1 : Int32)) [some (.ref 0), some (.long (((31 : Int64) * x1_47) + (v2.toInt64))), none, some (.int y3), some (.int (x4_47 + (1 : Int32)))] dX8_digest_72 rfl rfl rfl (Nat.le_of_ble_eq_true rfl) rfl ?_
      refine gg_goto 47 dX8_digest_75 (by decide) ?_
      exact ih (((31 : Int64) * x1_47) + (v2.toInt64)) (x4_47 + (1 : Int32)) h
set_option maxRecDepth 20000 in
set_option maxHeartbeats 4000000 in
theorem lq_X8_digest_33 {β : Type} {res : β} {rr : Option Value} {ww : va_W} (c_latestFinding : Int32) (c_told : Int32) (c_above : Int64) (c_below : Int64) (c_rows_most : Int32) (c_rows_sizes : Nat → Int32) (c_rows_cells : Nat → Nat → Int32) (c_texts_most : Int32) (c_texts_sizes : Nat → Int32) (c_texts_cells : Nat → Nat → Int32) (c_now_huts : Int32) (c_now_food : Int32) (c_now_due : Int32) (c_now_backs : Int32) (c_now_winds : Nat → Int32) (c_now_kind : Nat → Int32) (c_now_home : Nat → Int32) (c_now_strength : Nat → Int32) (c_now_brown : Nat → Int32) (c_now_brick : Nat → Int32) (c_log_size : Int32) (c_kept_size : Nat → Int32) (k84 : (Int64) → Option β) (hk84 : ∀ (x1_84 : Int64), k84 x1_84 = some res → gg_G MD_X8_digest 84 [some (.ref 0), some (.long x1_84), none, none, none] [] (wd_X8_digest c_latestFinding c_told c_above c_below c_rows_most c_rows_sizes c_rows_cells c_texts_most c_texts_sizes c_texts_cells c_now_huts c_now_food c_now_due c_now_backs c_now_winds c_now_kind c_now_home c_now_strength c_now_brown c_now_brick c_log_size c_kept_size) rr ww) : ∀ (n : Nat) (x1_33 : Int64) (x3_33 : Int32), lp_X8_digest_33 c_now_huts c_now_due c_now_winds c_now_kind c_now_home c_now_strength c_now_brown c_now_brick k84 n x1_33 x3_33 = some res → gg_G MD_X8_digest 33 [some (.ref 0), some (.long x1_33), none, some (.int x3_33), none] [] (wd_X8_digest c_latestFinding c_told c_above c_below c_rows_most c_rows_sizes c_rows_cells c_texts_most c_texts_sizes c_texts_cells c_now_huts c_now_food c_now_due c_now_backs c_now_winds c_now_kind c_now_home c_now_strength c_now_brown c_now_brick c_log_size c_kept_size) rr ww := by
  intro n
  induction n with
  | zero =>
    intro x1_33 x3_33 h
    exact nomatch (show (none : Option β) = some res from h)
  | succ n ih =>
    intro x1_33 x3_33 h
    rw [lp_X8_digest_33] at h
    refine gg_iload_n dX8_digest_33 rfl ?_
    refine gg_aload_n dX8_digest_34 rfl ?_
    refine gg_get 0 fl_X8_35 dX8_digest_35 rfl rfl ?_
    refine gg_get 17 fl_X8_151 dX8_digest_38 rfl rfl ?_
    refine gg_icmp_ge 84 dX8_digest_41 (by decide) (fun hc => ?_) (fun hc => ?_)
    · replace h := gg_th h hc
      refine gg_fg [true, true, false, false, false] [some (.ref 0), some (.long x1_33), none, none, none] rfl ?_
      exact hk84 x1_33 h
    · replace h := gg_el h hc
      refine gg_iconst (0 : Int32) dX8_digest_44 (by decide) ?_
      refine gg_istore [some (.ref 0), some (.long x1_33), none, some (.int x3_33), some (.int (0 : Int32))] dX8_digest_45 rfl (Nat.le_of_ble_eq_true rfl) rfl ?_
      refine lq_X8_digest_47 x3_33 c_latestFinding c_told c_above c_below c_rows_most c_rows_sizes c_rows_cells c_texts_most c_texts_sizes c_texts_cells c_now_huts c_now_food c_now_due c_now_backs c_now_winds c_now_kind c_now_home c_now_strength c_now_brown c_now_brick c_log_size c_kept_size _ ?_ gg_fuel x1_33 (0 : Int32) h
      intro x1_78 h
      refine gg_iinc (x3_33 + (1 : Int32)) [some (.ref 0), some (.long x1_78), none, some (.int (x3_33 + (1 : Int32))), none] dX8_digest_78 rfl rfl rfl (Nat.le_of_ble_eq_true rfl) rfl ?_
      refine gg_goto 33 dX8_digest_81 (by decide) ?_
      exact ih x1_78 (x3_33 + (1 : Int32)) h
set_option maxRecDepth 20000 in
set_option maxHeartbeats 4000000 in
theorem lq_X8_digest_86 {β : Type} {res : β} {rr : Option Value} {ww : va_W} (c_latestFinding : Int32) (c_told : Int32) (c_above : Int64) (c_below : Int64) (c_rows_most : Int32) (c_rows_sizes : Nat → Int32) (c_rows_cells : Nat → Nat → Int32) (c_texts_most : Int32) (c_texts_sizes : Nat → Int32) (c_texts_cells : Nat → Nat → Int32) (c_now_huts : Int32) (c_now_food : Int32) (c_now_due : Int32) (c_now_backs : Int32) (c_now_winds : Nat → Int32) (c_now_kind : Nat → Int32) (c_now_home : Nat → Int32) (c_now_strength : Nat → Int32) (c_now_brown : Nat → Int32) (c_now_brick : Nat → Int32) (c_log_size : Int32) (c_kept_size : Nat → Int32) (k118 : (Int64) → Option β) (hk118 : ∀ (x1_118 : Int64), k118 x1_118 = some res → gg_G MD_X8_digest 118 [some (.ref 0), some (.long x1_118), none, none, none] [] (wd_X8_digest c_latestFinding c_told c_above c_below c_rows_most c_rows_sizes c_rows_cells c_texts_most c_texts_sizes c_texts_cells c_now_huts c_now_food c_now_due c_now_backs c_now_winds c_now_kind c_now_home c_now_strength c_now_brown c_now_brick c_log_size c_kept_size) rr ww) : ∀ (n : Nat) (x1_86 : Int64) (x3_86 : Int32), lp_X8_digest_86 c_kept_size k118 n x1_86 x3_86 = some res → gg_G MD_X8_digest 86 [some (.ref 0), some (.long x1_86), none, some (.int x3_86), none] [] (wd_X8_digest c_latestFinding c_told c_above c_below c_rows_most c_rows_sizes c_rows_cells c_texts_most c_texts_sizes c_texts_cells c_now_huts c_now_food c_now_due c_now_backs c_now_winds c_now_kind c_now_home c_now_strength c_now_brown c_now_brick c_log_size c_kept_size) rr ww := by
  intro n
  induction n with
  | zero =>
    intro x1_86 x3_86 h
    exact nomatch (show (none : Option β) = some res from h)
  | succ n ih =>
    intro x1_86 x3_86 h
    rw [lp_X8_digest_86] at h
    refine gg_iload_n dX8_digest_86 rfl ?_
    refine gg_aload_n dX8_digest_87 rfl ?_
    refine gg_get 0 fl_X8_50 dX8_digest_88 rfl rfl ?_
    refine gg_alen (3 : Int32) 25 dX8_digest_91 rfl (by decide) rfl ?_
    refine gg_icmp_ge 118 dX8_digest_92 (by decide) (fun hc => ?_) (fun hc => ?_)
    · replace h := gg_th h hc
      refine gg_fg [true, true, false, false, false] [some (.ref 0), some (.long x1_86), none, none, none] rfl ?_
      exact hk118 x1_86 h
    · replace h := gg_el h hc
      refine gg_ldc2 (31 : Int64) dX8_digest_95 (gg_mem (by decide +kernel) rfl) ?_
      refine gg_lload_n dX8_digest_98 rfl ?_
      refine gg_lmul dX8_digest_99 ?_
      refine gg_aload_n dX8_digest_100 rfl ?_
      refine gg_get 0 fl_X8_50 dX8_digest_101 rfl rfl ?_
      refine gg_iload_n dX8_digest_104 rfl ?_
      rcases gg_k3c h with ⟨hk, h⟩ | ⟨hk, h⟩ | ⟨hk, h⟩
      · refine gg_aldq (d := 1) 25 46 dX8_digest_105 rfl (by rw [hk]; rfl) (by rw [hk]; rfl) rfl ?_
        refine gg_get 26 fl_X8_149 dX8_digest_106 rfl rfl ?_
        refine gg_i2l dX8_digest_109 ?_
        refine gg_ladd dX8_digest_110 ?_
        refine gg_lstore_n [some (.ref 0), some (.long (((31 : Int64) * x1_86) + ((c_kept_size 0).toInt64))), none, some (.int x3_86), none] dX8_digest_111 rfl (Nat.le_of_ble_eq_true rfl) rfl ?_
        refine gg_iinc (x3_86 + (1 : Int32)) [some (.ref 0), some (.long (((31 : Int64) * x1_86) + ((c_kept_size 0).toInt64))), none, some (.int (x3_86 + (1 : Int32))), none] dX8_digest_112 rfl rfl rfl (Nat.le_of_ble_eq_true rfl) rfl ?_
        refine gg_goto 86 dX8_digest_115 (by decide) ?_
        exact ih (((31 : Int64) * x1_86) + ((c_kept_size 0).toInt64)) (x3_86 + (1 : Int32)) h
      · refine gg_aldq (d := 3) 25 48 dX8_digest_105 rfl (by rw [hk]; rfl) (by rw [hk]; rfl) rfl ?_
        refine gg_get 27 fl_X8_149 dX8_digest_106 rfl rfl ?_
        refine gg_i2l dX8_digest_109 ?_
        refine gg_ladd dX8_digest_110 ?_
        refine gg_lstore_n [some (.ref 0), some (.long (((31 : Int64) * x1_86) + ((c_kept_size 1).toInt64))), none, some (.int x3_86), none] dX8_digest_111 rfl (Nat.le_of_ble_eq_true rfl) rfl ?_
        refine gg_iinc (x3_86 + (1 : Int32)) [some (.ref 0), some (.long (((31 : Int64) * x1_86) + ((c_kept_size 1).toInt64))), none, some (.int (x3_86 + (1 : Int32))), none] dX8_digest_112 rfl rfl rfl (Nat.le_of_ble_eq_true rfl) rfl ?_
        refine gg_goto 86 dX8_digest_115 (by decide) ?_
        exact ih (((31 : Int64) * x1_86) + ((c_kept_size 1).toInt64)) (x3_86 + (1 : Int32)) h
      · refine gg_aldq (d := 5) 25 50 dX8_digest_105 rfl (by rw [hk]; rfl) (by rw [hk]; rfl) rfl ?_
        refine gg_get 28 fl_X8_149 dX8_digest_106 rfl rfl ?_
        refine gg_i2l dX8_digest_109 ?_
        refine gg_ladd dX8_digest_110 ?_
        refine gg_lstore_n [some (.ref 0), some (.long (((31 : Int64) * x1_86) + ((c_kept_size 2).toInt64))), none, some (.int x3_86), none] dX8_digest_111 rfl (Nat.le_of_ble_eq_true rfl) rfl ?_
        refine gg_iinc (x3_86 + (1 : Int32)) [some (.ref 0), some (.long (((31 : Int64) * x1_86) + ((c_kept_size 2).toInt64))), none, some (.int (x3_86 + (1 : Int32))), none] dX8_digest_112 rfl rfl rfl (Nat.le_of_ble_eq_true rfl) rfl ?_
        refine gg_goto 86 dX8_digest_115 (by decide) ?_
        exact ih (((31 : Int64) * x1_86) + ((c_kept_size 2).toInt64)) (x3_86 + (1 : Int32)) h
set_option maxRecDepth 20000 in
set_option maxHeartbeats 8000000 in
theorem C_X8_digest  (c_latestFinding : Int32) (c_told : Int32) (c_above : Int64) (c_below : Int64) (c_rows_most : Int32) (c_rows_sizes : Nat → Int32) (c_rows_cells : Nat → Nat → Int32) (c_texts_most : Int32) (c_texts_sizes : Nat → Int32) (c_texts_cells : Nat → Nat → Int32) (c_now_huts : Int32) (c_now_food : Int32) (c_now_due : Int32) (c_now_backs : Int32) (c_now_winds : Nat → Int32) (c_now_kind : Nat → Int32) (c_now_home : Nat → Int32) (c_now_strength : Nat → Int32) (c_now_brown : Nat → Int32) (c_now_brick : Nat → Int32) (c_log_size : Int32) (c_kept_size : Nat → Int32) {res : Int64} (h : f_X8_digest c_rows_sizes c_rows_cells c_texts_sizes c_texts_cells c_now_huts c_now_food c_now_due c_now_winds c_now_kind c_now_home c_now_strength c_now_brown c_now_brick c_log_size c_kept_size = some res) : gg_C MD_X8_digest [.ref 0] (wd_X8_digest c_latestFinding c_told c_above c_below c_rows_most c_rows_sizes c_rows_cells c_texts_most c_texts_sizes c_texts_cells c_now_huts c_now_food c_now_due c_now_backs c_now_winds c_now_kind c_now_home c_now_strength c_now_brown c_now_brick c_log_size c_kept_size) (some (.long res)) (wd_X8_digest c_latestFinding c_told c_above c_below c_rows_most c_rows_sizes c_rows_cells c_texts_most c_texts_sizes c_texts_cells c_now_huts c_now_food c_now_due c_now_backs c_now_winds c_now_kind c_now_home c_now_strength c_now_brown c_now_brick c_log_size c_kept_size) := by
  refine gg_ofG [some (.ref 0), none, none, none, none] (plainFor_of_name (by decide)) (Nat.le_of_ble_eq_true rfl) rfl ?_
  unfold f_X8_digest at h
  refine gg_ldc2 (17 : Int64) dX8_digest_0 (gg_mem (by decide +kernel) rfl) ?_
  refine gg_lstore_n [some (.ref 0), some (.long (17 : Int64)), none, none, none] dX8_digest_3 rfl (Nat.le_of_ble_eq_true rfl) rfl ?_
  refine gg_iconst (0 : Int32) dX8_digest_4 (by decide) ?_
  refine gg_istore_n [some (.ref 0), some (.long (17 : Int64)), none, some (.int (0 : Int32)), none] dX8_digest_5 rfl (Nat.le_of_ble_eq_true rfl) rfl ?_
  refine lq_X8_digest_6 c_latestFinding c_told c_above c_below c_rows_most c_rows_sizes c_rows_cells c_texts_most c_texts_sizes c_texts_cells c_now_huts c_now_food c_now_due c_now_backs c_now_winds c_now_kind c_now_home c_now_strength c_now_brown c_now_brick c_log_size c_kept_size _ ?_ gg_fuel (17 : Int64) (0 : Int32) h
  intro x1_31 h
  refine gg_iconst (0 : Int32) dX8_digest_31 (by decide) ?_
  refine gg_istore_n [some (.ref 0), some (.long x1_31), none, some (.int (0 : Int32)), none] dX8_digest_32 rfl (Nat.le_of_ble_eq_true rfl) rfl ?_
  refine lq_X8_digest_33 c_latestFinding c_told c_above c_below c_rows_most c_rows_sizes c_rows_cells c_texts_most c_texts_sizes c_texts_cells c_now_huts c_now_food c_now_due c_now_backs c_now_winds c_now_kind c_now_home c_now_strength c_now_brown c_now_brick c_log_size c_kept_size _ ?_ gg_fuel x1_31 (0 : Int32) h
  intro x1_84 h
  refine gg_iconst (0 : Int32) dX8_digest_84 (by decide) ?_
  refine gg_istore_n [some (.ref 0), some (.long x1_84), none, some (.int (0 : Int32)), none] dX8_digest_85 rfl (Nat.le_of_ble_eq_true rfl) rfl ?_
  refine lq_X8_digest_86 c_latestFinding c_told c_above c_below c_rows_most c_rows_sizes c_rows_cells c_texts_most c_texts_sizes c_texts_cells c_now_huts c_now_food c_now_due c_now_backs c_now_winds c_now_kind c_now_home c_now_strength c_now_brown c_now_brick c_log_size c_kept_size _ ?_ gg_fuel x1_84 (0 : Int32) h
  intro x1_118 h
  refine gg_aload_n dX8_digest_118 rfl ?_
  refine gg_get 0 fl_X8_18 dX8_digest_119 rfl rfl ?_
  refine gg_aload_n dX8_digest_122 rfl ?_
  refine gg_get 0 fl_X8_14 dX8_digest_123 rfl rfl ?_
  refine gg_lload_n dX8_digest_126 rfl ?_
  obtain ⟨v3, hv3, h⟩ := gg_bd h
  refine gg_callV (gg_sg [1]) [1, 2, 3, 4, 5, 6, 7, 8, 9] (wd_X8_digest c_latestFinding c_told c_above c_below c_rows_most c_rows_sizes c_rows_cells c_texts_most c_texts_sizes c_texts_cells c_now_huts c_now_food c_now_due c_now_backs c_now_winds c_now_kind c_now_home c_now_strength c_now_brown c_now_brick c_log_size c_kept_size) 0 (C_X6_digestOnto_s6 x1_118 c_rows_most c_rows_sizes c_rows_cells hv3) nV_X6_digestOnto_s6 ml_X8_329 rfl rfl rfl rfl rfl rfl rfl rfl rfl rfl [0, 10, 11, 12, 13, 14, 15, 16, 17, 18, 19, 20, 21, 22, 23, 24, 25, 26, 27, 28] 29 rfl rfl rfl rfl rfl ⟨Nat.le_of_ble_eq_true rfl, Nat.le_of_ble_eq_true rfl⟩ (Nat.le_of_ble_eq_true rfl) dX8_digest_127 [.long v3, .ref 10] rfl ?_
  obtain ⟨v4, hv4, h⟩ := gg_bd h
  refine gg_callV (gg_sg [10]) [10, 11, 12, 13, 14, 15, 16] (wd_X8_digest c_latestFinding c_told c_above c_below c_rows_most c_rows_sizes c_rows_cells c_texts_most c_texts_sizes c_texts_cells c_now_huts c_now_food c_now_due c_now_backs c_now_winds c_now_kind c_now_home c_now_strength c_now_brown c_now_brick c_log_size c_kept_size) 0 (C_X6_digestOnto_s4 v3 c_texts_most c_texts_sizes c_texts_cells hv4) nV_X6_digestOnto_s4 ml_X8_329 rfl rfl rfl rfl rfl rfl rfl rfl rfl rfl [0, 1, 2, 3, 4, 5, 6, 7, 8, 9, 17, 18, 19, 20, 21, 22, 23, 24, 25, 26, 27, 28] 29 rfl rfl rfl rfl rfl ⟨Nat.le_of_ble_eq_true rfl, Nat.le_of_ble_eq_true rfl⟩ (Nat.le_of_ble_eq_true rfl) dX8_digest_130 [.long v4] rfl ?_
  cases h
  exact gg_lret dX8_digest_133 rfl
