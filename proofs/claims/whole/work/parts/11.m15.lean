def wd_X9_layParts (c_latest : Int32) (c_asked : Int32) (c_upper : Int64) (c_lower : Int64) (c_n : Int32) (c_readAt : Int32) (c_readMany : Int32) (c_readFood : Int32) (c_isHead : Int32) (c_backMany : Int32) (c_deedMany : Int32) (c_whole : Int64) (c_wellSum : Int64) (c_strongSum : Int64) (c_hash : Int64) (c_kindOf : Nat → Int32) (c_winds : Nat → Int32) (c_now : Nat → Int32) (c_tried : Nat → Int32) (c_back : Nat → Int32) : va_W := [(0, .inr (8, [.int c_latest, .ref 1, .int c_asked, .long c_upper, .long c_lower, .ref 2, .ref 3, .ref 4, .ref 5, .ref 6, .int c_n, .ref 7, .ref 8, .ref 9, .ref 10, .int c_readAt, .int c_readMany, .int c_readFood, .int c_isHead, .ref 11, .ref 12, .ref 13, .int c_backMany, .int c_deedMany, .ref 14, .ref 15, .ref 16, .ref 17, .ref 18, .ref 19, .ref 20, .ref 21, .ref 22, .ref 23, .ref 24, .long c_whole, .long c_wellSum, .long c_strongSum, .long c_hash])), (7, .inl (0, 6, .inl c_kindOf)), (8, .inl (0, 4, .inl c_winds)), (9, .inl (0, 26, .inl c_now)), (10, .inl (0, 26, .inl c_tried)), (13, .inl (0, 6, .inl c_back))]
def MD_X9_layParts : gg_M := (yX9_layParts, cX9_layParts, 9, none, 3, 72)
theorem nV_X9_layParts : gg_nV MD_X9_layParts 2 := ⟨⟨gg_mem (by decide +kernel) rfl, gg_mem cw_X9_layParts rfl, by decide, by decide, by decide +kernel⟩, gg_mem (by decide +kernel) rfl, gg_mem (by decide +kernel) rfl⟩
def lp_X9_layParts_39 {β : Type} (y3 : Int32) (k66 : (Int64) → Option β) : Nat → (Int32) → (Int64) → Option β
  | 0, _, _ => none
  | n + 1, x4_39, c_whole_39 => (f_X9_bits y3).bind (fun v4 => (if v4 ≤ x4_39 then (k66 c_whole_39) else (lp_X9_layParts_39 y3 k66 n (x4_39 + (1 : Int32)) (c_whole_39 * (12 : Int64)))))
def lp_X9_layParts_93 {β : Type} (y2 : Int32) (y3 : Int32) (y4 : Int32) (c_n : Int32) (c_tried : Nat → Int32) (k188 : (Int64) → (Int32) → Option β) : Nat → (Int64) → (Int32) → (Int32) → Option β
  | 0, _, _, _ => none
  | n + 1, x5_93, x7_93, x8_93 => (if c_n ≤ x8_93 then (k188 x5_93 x7_93) else (f_X9_has y3 x8_93).bind (fun v5 => gg_lt (fun (s1_137 : Int64) => (f_X9_has y4 x8_93).bind (fun v6 => gg_lt (fun (s0_180 : Int32) => (lp_X9_layParts_93 y2 y3 y4 c_n c_tried k188 n (x5_93 * s1_137) s0_180 (x8_93 + (1 : Int32)))) (fun k180 => gg_lt ((k180 x7_93)) (fun k178 => (if v6 = (0 : Int32) then k178 else gg_chk (gg_in ((8 : Int32) + x8_93) 26) ((if (c_tried ((8 : Int32) + x8_93).toNatClampNeg) ≤ x7_93 then k178 else gg_chk (gg_in ((8 : Int32) + x8_93) 26) ((k180 (c_tried ((8 : Int32) + x8_93).toNatClampNeg)))))))))) (fun k137 => (if v5 = (0 : Int32) then (k137 (1 : Int64)) else (f_X9_has y4 x8_93).bind (fun v7 => (if v7 = (0 : Int32) then (k137 (y2.toInt64)) else (k137 (((12 : Int32) - y2).toInt64))))))))
def lp_X9_layParts_69 {β : Type} (y1 : Int32) (y2 : Int32) (y3 : Int32) (c_n : Int32) (c_tried : Nat → Int32) (k233 : (Int64) → (Int64) → Option β) : Nat → (Int32) → (Int64) → (Int64) → Option β
  | 0, _, _, _ => none
  | n + 1, x4_69, c_wellSum_69, c_strongSum_69 => (if y3 < x4_69 then (k233 c_wellSum_69 c_strongSum_69) else gg_lt (fun (c_wellSum_227 : Int64) (c_strongSum_227 : Int64) => (lp_X9_layParts_69 y1 y2 y3 c_n c_tried k233 n (x4_69 + (1 : Int32)) c_wellSum_227 c_strongSum_227)) (fun k227 => (if (x4_69 &&& (y3 ^^^ (-1 : Int32))) = (0 : Int32) then (lp_X9_layParts_93 y2 y3 x4_69 c_n c_tried (fun (x5_188 : Int64) (x7_188 : Int32) => (f_X9_bits x4_69).bind (fun v8 => gg_lt (fun (s2_208 : Int64) => (k227 (c_wellSum_69 + s2_208) (c_strongSum_69 + (x5_188 * (x7_188.toInt64))))) (fun k208 => (if v8 < y1 then (k208 (0 : Int64)) else (k208 x5_188))))) gg_fuel (1 : Int64) (0 : Int32) (0 : Int32)) else (k227 c_wellSum_69 c_strongSum_69))))
def f_X9_layParts (a0 : Int32) (a1 : Int32) (c_n : Int32) (c_backMany : Int32) (c_whole : Int64) (c_wellSum : Int64) (c_strongSum : Int64) (c_kindOf : Nat → Int32) (c_winds : Nat → Int32) (c_now : Nat → Int32) (c_tried : Nat → Int32) (c_back : Nat → Int32) : Option ((Int32) × (Int64) × (Int64) × (Int64) × (Nat → Int32) × (Nat → Int32)) := (f_X9_copyNow c_now c_tried).bind (fun v1 => gg_b3 (f_X9_passes_a26 c_n c_backMany c_kindOf c_winds c_back v1) (fun v2_0 v2_1 v2_2 => (f_X9_there_a26 c_n v2_2).bind (fun v3 => (lp_X9_layParts_39 v3 (fun (c_whole_66 : Int64) => (lp_X9_layParts_69 a0 a1 v3 c_n v2_2 (fun (c_wellSum_233 : Int64) (c_strongSum_233 : Int64) => (some (v2_0, c_whole_66, c_wellSum_233, c_strongSum_233, v2_2, v2_1))) gg_fuel (0 : Int32) (0 : Int64) (0 : Int64))) gg_fuel (0 : Int32) (1 : Int64)))))
set_option maxRecDepth 20000 in
set_option maxHeartbeats 4000000 in
theorem lq_X9_layParts_39 {β : Type} {res : β} {rr : Option Value} {ww : va_W} (y1 : Int32) (y2 : Int32) (y3 : Int32) (c_latest : Int32) (c_asked : Int32) (c_upper : Int64) (c_lower : Int64) (c_n : Int32) (c_readAt : Int32) (c_readMany : Int32) (c_readFood : Int32) (c_isHead : Int32) (c_backMany : Int32) (c_deedMany : Int32) (c_wellSum : Int64) (c_strongSum : Int64) (c_hash : Int64) (c_kindOf : Nat → Int32) (c_winds : Nat → Int32) (c_now : Nat → Int32) (c_tried : Nat → Int32) (c_back : Nat → Int32) (k66 : (Int64) → Option β) (hk66 : ∀ (c_whole_66 : Int64), k66 c_whole_66 = some res → gg_G MD_X9_layParts 66 [some (.ref 0), some (.int y1), some (.int y2), some (.int y3), none, none, none, none, none] [] (wd_X9_layParts c_latest c_asked c_upper c_lower c_n c_readAt c_readMany c_readFood c_isHead c_backMany c_deedMany c_whole_66 c_wellSum c_strongSum c_hash c_kindOf c_winds c_now c_tried c_back) rr ww) : ∀ (n : Nat) (x4_39 : Int32) (c_whole_39 : Int64), lp_X9_layParts_39 y3 k66 n x4_39 c_whole_39 = some res → gg_G MD_X9_layParts 39 [some (.ref 0), some (.int y1), some (.int y2), some (.int y3), some (.int x4_39), none, none, none, none] [] (wd_X9_layParts c_latest c_asked c_upper c_lower c_n c_readAt c_readMany c_readFood c_isHead c_backMany c_deedMany c_whole_39 c_wellSum c_strongSum c_hash c_kindOf c_winds c_now c_tried c_back) rr ww := by
  intro n
  induction n with
  | zero =>
    intro x4_39 c_whole_39 h
    exact nomatch (show (none : Option β) = some res from h)
  | succ n ih =>
    intro x4_39 c_whole_39 h
    rw [lp_X9_layParts_39] at h
    refine gg_iload dX9_layParts_39 rfl ?_
    refine gg_iload_n dX9_layParts_41 rfl ?_
    obtain ⟨v4, hv4, h⟩ := gg_bd h
    refine gg_callS (gg_sg []) [] (wd_X9_layParts c_latest c_asked c_upper c_lower c_n c_readAt c_readMany c_readFood c_isHead c_backMany c_deedMany c_whole_39 c_wellSum c_strongSum c_hash c_kindOf c_winds c_now c_tried c_back) (C_X9_bits y3 hv4) nS_X9_bits ml_X9_220 rfl rfl rfl rfl rfl rfl rfl [0, 1, 2, 3, 4, 5] 6 rfl rfl rfl rfl rfl ⟨Nat.le_of_ble_eq_true rfl, Nat.le_of_ble_eq_true rfl⟩ (Nat.le_of_ble_eq_true rfl) dX9_layParts_42 [.int v4, .int x4_39] rfl ?_
    refine gg_icmp_ge 66 dX9_layParts_45 (by decide) (fun hc => ?_) (fun hc => ?_)
    · replace h := gg_th h hc
      refine gg_fg [true, true, true, true, false, false, false, false, false] [some (.ref 0), some (.int y1), some (.int y2), some (.int y3), none, none, none, none, none] rfl ?_
      exact hk66 c_whole_39 h
    · replace h := gg_el h hc
      refine gg_aload_n dX9_layParts_48 rfl ?_
      refine gg_dup dX9_layParts_49 rfl ?_
      refine gg_get 0 fl_X9_265 dX9_layParts_50 rfl rfl ?_
      refine gg_ldc2 (12 : Int64) dX9_layParts_53 (gg_mem (by decide +kernel) rfl) ?_
      refine gg_lmul dX9_layParts_56 ?_
      refine gg_putf 0 (wd_X9_layParts c_latest c_asked c_upper c_lower c_n c_readAt c_readMany c_readFood c_isHead c_backMany c_deedMany (c_whole_39 * (12 : Int64)) c_wellSum c_strongSum c_hash c_kindOf c_winds c_now c_tried c_back) fl_X9_265 dX9_layParts_57 rfl (Nat.le_of_ble_eq_true rfl) (fun _ => ⟨rfl, rfl⟩) rfl ?_
      refine gg_iinc (x4_39 + (1 : Int32)) [some (.ref 0), some (.int y1), some (.int y2), some (.int y3), some (.int (x4_39 + (1 : Int32))), none, none, none, none] dX9_layParts_60 rfl rfl rfl (Nat.le_of_ble_eq_true rfl) rfl ?_
      refine gg_goto 39 dX9_layParts_63 (by decide) ?_
      exact ih (x4_39 + (1 : Int32)) (c_whole_39 * (12 : Int64)) h
set_option maxRecDepth 20000 in
set_option maxHeartbeats 4000000 in
theorem lq_X9_layParts_93 {β : Type} {res : β} {rr : Option Value} {ww : va_W} (y1 : Int32) (y2 : Int32) (y3 : Int32) (y4 : Int32) (c_latest : Int32) (c_asked : Int32) (c_upper : Int64) (c_lower : Int64) (c_n : Int32) (c_readAt : Int32) (c_readMany : Int32) (c_readFood : Int32) (c_isHead : Int32) (c_backMany : Int32) (c_deedMany : Int32) (c_whole : Int64) (c_wellSum : Int64) (c_strongSum : Int64) (c_hash : Int64) (c_kindOf : Nat → Int32) (c_winds : Nat → Int32) (c_now : Nat → Int32) (c_tried : Nat → Int32) (c_back : Nat → Int32) (k188 : (Int64) → (Int32) → Option β) (hk188 : ∀ (x5_188 : Int64) (x7_188 : Int32), k188 x5_188 x7_188 = some res → gg_G MD_X9_layParts 188 [some (.ref 0), some (.int y1), some (.int y2), some (.int y3), some (.int y4), some (.long x5_188), none, some (.int x7_188), none] [] (wd_X9_layParts c_latest c_asked c_upper c_lower c_n c_readAt c_readMany c_readFood c_isHead c_backMany c_deedMany c_whole c_wellSum c_strongSum c_hash c_kindOf c_winds c_now c_tried c_back) rr ww) : ∀ (n : Nat) (x5_93 : Int64) (x7_93 : Int32) (x8_93 : Int32), lp_X9_layParts_93 y2 y3 y4 c_n c_tried k188 n x5_93 x7_93 x8_93 = some res → gg_G MD_X9_layParts 93 [some (.ref 0), some (.int y1), some (.int y2), some (.int y3), some (.int y4), some (.long x5_93), none, some (.int x7_93), some (.int x8_93)] [] (wd_X9_layParts c_latest c_asked c_upper c_lower c_n c_readAt c_readMany c_readFood c_isHead c_backMany c_deedMany c_whole c_wellSum c_strongSum c_hash c_kindOf c_winds c_now c_tried c_back) rr ww := by
  intro n
  induction n with
  | zero =>
    intro x5_93 x7_93 x8_93 h
    exact nomatch (show (none : Option β) = some res from h)
  | succ n ih =>
    intro x5_93 x7_93 x8_93 h
    rw [lp_X9_layParts_93] at h
    refine gg_iload dX9_layParts_93 rfl ?_
    refine gg_aload_n dX9_layParts_95 rfl ?_
    refine gg_get 0 fl_X9_154 dX9_layParts_96 rfl rfl ?_
    refine gg_icmp_ge 188 dX9_layParts_99 (by decide) (fun hc => ?_) (fun hc => ?_)
    · replace h := gg_th h hc
      refine gg_fg [true, true, true, true, true, true, false, true, false] [some (.ref 0), some (.int y1), some (.int y2), some (.int y3), some (.int y4), some (.long x5_93), none, some (.int x7_93), none] rfl ?_
      exact hk188 x5_93 x7_93 h
    · replace h := gg_el h hc
      refine gg_lload dX9_layParts_102 rfl ?_
      refine gg_iload_n dX9_layParts_104 rfl ?_
      refine gg_iload dX9_layParts_105 rfl ?_
      obtain ⟨v5, hv5, h⟩ := gg_bd h
      refine gg_callS (gg_sg []) [] (wd_X9_layParts c_latest c_asked c_upper c_lower c_n c_readAt c_readMany c_readFood c_isHead c_backMany c_deedMany c_whole c_wellSum c_strongSum c_hash c_kindOf c_winds c_now c_tried c_back) (C_X9_has y3 x8_93 hv5) nS_X9_has ml_X9_167 rfl rfl rfl rfl rfl rfl rfl [0, 1, 2, 3, 4, 5] 6 rfl rfl rfl rfl rfl ⟨Nat.le_of_ble_eq_true rfl, Nat.le_of_ble_eq_true rfl⟩ (Nat.le_of_ble_eq_true rfl) dX9_layParts_107 [.int v5, .long x5_93] rfl ?_
      obtain ⟨k137, hke137, h⟩ := gg_lte h
      have hk137 : ∀ (s1_137 : Int64), k137 s1_137 = some res → gg_G MD_X9_layParts 137 [some (.ref 0), some (.int y1), some (.int y2), some (.int y3), some (.int y4), none, none, some (.int x7_93), some (.int x8_93)] [.long s1_137, .long x5_93] (wd_X9_layParts c_latest c_asked c_upper c_lower c_n c_readAt c_readMany c_readFood c_isHead c_backMany c_deedMany c_whole c_wellSum c_strongSum c_hash c_kindOf c_winds c_now c_tried c_back) rr ww := by
        intro s1_137 h
        subst hke137
        refine gg_lmul dX9_layParts_137 ?_
        refine gg_lstore [some (.ref 0), some (.int y1), some (.int y2), some (.int y3), some (.int y4), some (.long (x5_93 * s1_137)), none, some (.int x7_93), some (.int x8_93)] dX9_layParts_138 rfl (Nat.le_of_ble_eq_true rfl) rfl ?_
        refine gg_iload dX9_layParts_140 rfl ?_
        refine gg_iload dX9_layParts_142 rfl ?_
        obtain ⟨v6, hv6, h⟩ := gg_bd h
        refine gg_callS (gg_sg []) [] (wd_X9_layParts c_latest c_asked c_upper c_lower c_n c_readAt c_readMany c_readFood c_isHead c_backMany c_deedMany c_whole c_wellSum c_strongSum c_hash c_kindOf c_winds c_now c_tried c_back) (C_X9_has y4 x8_93 hv6) nS_X9_has ml_X9_167 rfl rfl rfl rfl rfl rfl rfl [0, 1, 2, 3, 4, 5] 6 rfl rfl rfl rfl rfl ⟨Nat.le_of_ble_eq_true rfl, Nat.le_of_ble_eq_true rfl⟩ (Nat.le_of_ble_eq_true rfl) dX9_layParts_144 [.int v6] rfl ?_
        obtain ⟨k180, hke180, h⟩ := gg_lte h
        have hk180 : ∀ (s0_180 : Int32), k180 s0_180 = some res → gg_G MD_X9_layParts 180 [some (.ref 0), some (.int y1), some (.int y2), some (.int y3), some (.int y4), some (.long (x5_93 * s1_137)), none, none, some (.int x8_93)] [.int s0_180] (wd_X9_layParts c_latest c_asked c_upper c_lower c_n c_readAt c_readMany c_readFood c_isHead c_backMany c_deedMany c_whole c_wellSum c_strongSum c_hash c_kindOf c_winds c_now c_tried c_back) rr ww := by
          intro s0_180 h
          subst hke180
          refine gg_istore [some (.ref 0), some (.int y1), some (.int y2), some (.int y3), some (.int y4), some (.long (x5_93 * s1_137)), none, some (.int s0_180), some (.int x8_93)] dX9_layParts_180 rfl (Nat.le_of_ble_eq_true rfl) rfl ?_
          refine gg_iinc (x8_93 + (1 : Int32)) [some (.ref 0), some (.int y1), some (.int y2), some (.int y3), some (.int y4), some (.long (x5_93 * s1_137)), none, some (.int s0_180), some (.int (x8_93 + (1 : Int32)))] dX9_layParts_182 rfl rfl rfl (Nat.le_of_ble_eq_true rfl) rfl ?_
          refine gg_goto 93 dX9_layParts_185 (by decide) ?_
          exact ih (x5_93 * s1_137) s0_180 (x8_93 + (1 : Int32)) h
        clear hke180
        obtain ⟨k178, hke178, h⟩ := gg_lte h
        have hk178 : k178 = some res → gg_G MD_X9_layParts 178 [some (.ref 0), some (.int y1), some (.int y2), some (.int y3), some (.int y4), some (.long (x5_93 * s1_137)), none, some (.int x7_93), some (.int x8_93)] [] (wd_X9_layParts c_latest c_asked c_upper c_lower c_n c_readAt c_readMany c_readFood c_isHead c_backMany c_deedMany c_whole c_wellSum c_strongSum c_hash c_kindOf c_winds c_now c_tried c_back) rr ww := by
          intro  h
          subst hke178
          refine gg_iload dX9_layParts_178 rfl ?_
          refine gg_fg [true, true, true, true, true, true, false, false, true] [some (.ref 0), some (.int y1), some (.int y2), some (.int y3), some (.int y4), some (.long (x5_93 * s1_137)), none, none, some (.int x8_93)] rfl ?_
          exact hk180 x7_93 h
        clear hke178
        refine gg_if_eq 178 dX9_layParts_147 (by decide) (fun hc => ?_) (fun hc => ?_)
        · replace h := gg_th h hc
          exact hk178 h
        · replace h := gg_el h hc
          refine gg_aload_n dX9_layParts_150 rfl ?_
          refine gg_get 0 fl_X9_42 dX9_layParts_151 rfl rfl ?_
          refine gg_bipush (8 : Int32) dX9_layParts_154 (by decide) ?_
          refine gg_iload dX9_layParts_156 rfl ?_
          refine gg_iadd dX9_layParts_158 ?_
          obtain ⟨hb159, h⟩ := gg_ck h
          refine gg_iald 4 dX9_layParts_159 rfl hb159 ?_
          refine gg_iload dX9_layParts_160 rfl ?_
          refine gg_icmp_le 178 dX9_layParts_162 (by decide) (fun hc => ?_) (fun hc => ?_)
          · replace h := gg_th h hc
            exact hk178 h
          · replace h := gg_el h hc
            refine gg_aload_n dX9_layParts_165 rfl ?_
            refine gg_get 0 fl_X9_42 dX9_layParts_166 rfl rfl ?_
            refine gg_bipush (8 : Int32) dX9_layParts_169 (by decide) ?_
            refine gg_iload dX9_layParts_171 rfl ?_
            refine gg_iadd dX9_layParts_173 ?_
            obtain ⟨hb174, h⟩ := gg_ck h
            refine gg_iald 4 dX9_layParts_174 rfl hb174 ?_
            refine gg_goto 180 dX9_layParts_175 (by decide) ?_
            refine gg_fg [true, true, true, true, true, true, false, false, true] [some (.ref 0), some (.int y1), some (.int y2), some (.int y3), some (.int y4), some (.long (x5_93 * s1_137)), none, none, some (.int x8_93)] rfl ?_
            exact hk180 (c_tried ((8 : Int32) + x8_93).toNatClampNeg) h
      clear hke137
      refine gg_if_ne 117 dX9_layParts_110 (by decide) (fun hc => ?_) (fun hc => ?_)
      · replace h := gg_el h hc
        refine gg_iload dX9_layParts_117 rfl ?_
        refine gg_iload dX9_layParts_119 rfl ?_
        obtain ⟨v7, hv7, h⟩ := gg_bd h
        refine gg_callS (gg_sg []) [] (wd_X9_layParts c_latest c_asked c_upper c_lower c_n c_readAt c_readMany c_readFood c_isHead c_backMany c_deedMany c_whole c_wellSum c_strongSum c_hash c_kindOf c_winds c_now c_tried c_back) (C_X9_has y4 x8_93 hv7) nS_X9_has ml_X9_167 rfl rfl rfl rfl rfl rfl rfl [0, 1, 2, 3, 4, 5] 6 rfl rfl rfl rfl rfl ⟨Nat.le_of_ble_eq_true rfl, Nat.le_of_ble_eq_true rfl⟩ (Nat.le_of_ble_eq_true rfl) dX9_layParts_121 [.int v7, .long x5_93] rfl ?_
        refine gg_if_eq 135 dX9_layParts_124 (by decide) (fun hc => ?_) (fun hc => ?_)
        · replace h := gg_th h hc
          refine gg_iload_n dX9_layParts_135 rfl ?_
          refine gg_i2l dX9_layParts_136 ?_
          refine gg_fg [true, true, true, true, true, false, false, true, true] [some (.ref 0), some (.int y1), some (.int y2), some (.int y3), some (.int y4), none, none, some (.int x7_93), some (.int x8_93)] rfl ?_
          exact hk137 (y2.toInt64) h
        · replace h := gg_el h hc
          refine gg_bipush (12 : Int32) dX9_layParts_127 (by decide) ?_
          refine gg_iload_n dX9_layParts_129 rfl ?_
          refine gg_isub dX9_layParts_130 ?_
          refine gg_i2l dX9_layParts_131 ?_
          refine gg_goto 137 dX9_layParts_132 (by decide) ?_
          refine gg_fg [true, true, true, true, true, false, false, true, true] [some (.ref 0), some (.int y1), some (.int y2), some (.int y3), some (.int y4), none, none, some (.int x7_93), some (.int x8_93)] rfl ?_
          exact hk137 (((12 : Int32) - y2).toInt64) h
      · replace h := gg_th h hc
        refine gg_lconst (1 : Int64) dX9_layParts_113 (by decide) ?_
        refine gg_goto 137 dX9_layParts_114 (by decide) ?_
        refine gg_fg [true, true, true, true, true, false, false, true, true] [some (.ref 0), some (.int y1), some (.int y2), some (.int y3), some (.int y4), none, none, some (.int x7_93), some (.int x8_93)] rfl ?_
        exact hk137 (1 : Int64) h
set_option maxRecDepth 20000 in
set_option maxHeartbeats 4000000 in
theorem lq_X9_layParts_69 {β : Type} {res : β} {rr : Option Value} {ww : va_W} (y1 : Int32) (y2 : Int32) (y3 : Int32) (c_latest : Int32) (c_asked : Int32) (c_upper : Int64) (c_lower : Int64) (c_n : Int32) (c_readAt : Int32) (c_readMany : Int32) (c_readFood : Int32) (c_isHead : Int32) (c_backMany : Int32) (c_deedMany : Int32) (c_whole : Int64) (c_hash : Int64) (c_kindOf : Nat → Int32) (c_winds : Nat → Int32) (c_now : Nat → Int32) (c_tried : Nat → Int32) (c_back : Nat → Int32) (k233 : (Int64) → (Int64) → Option β) (hk233 : ∀ (c_wellSum_233 : Int64) (c_strongSum_233 : Int64), k233 c_wellSum_233 c_strongSum_233 = some res → gg_G MD_X9_layParts 233 [none, none, none, none, none, none, none, none, none] [] (wd_X9_layParts c_latest c_asked c_upper c_lower c_n c_readAt c_readMany c_readFood c_isHead c_backMany c_deedMany c_whole c_wellSum_233 c_strongSum_233 c_hash c_kindOf c_winds c_now c_tried c_back) rr ww) : ∀ (n : Nat) (x4_69 : Int32) (c_wellSum_69 : Int64) (c_strongSum_69 : Int64), lp_X9_layParts_69 y1 y2 y3 c_n c_tried k233 n x4_69 c_wellSum_69 c_strongSum_69 = some res → gg_G MD_X9_layParts 69 [some (.ref 0), some (.int y1), some (.int y2), some (.int y3), some (.int x4_69), none, none, none, none] [] (wd_X9_layParts c_latest c_asked c_upper c_lower c_n c_readAt c_readMany c_readFood c_isHead c_backMany c_deedMany c_whole c_wellSum_69 c_strongSum_69 c_hash c_kindOf c_winds c_now c_tried c_back) rr ww := by
  intro n
  induction n with
  | zero =>
    intro x4_69 c_wellSum_69 c_strongSum_69 h
    exact nomatch (show (none : Option β) = some res from h)
  | succ n ih =>
    intro x4_69 c_wellSum_69 c_strongSum_69 h
    rw [lp_X9_layParts_69] at h
    refine gg_iload dX9_layParts_69 rfl ?_
    refine gg_iload_n dX9_layParts_71 rfl ?_
    refine gg_icmp_gt 233 dX9_layParts_72 (by decide) (fun hc => ?_) (fun hc => ?_)
    · replace h := gg_th h hc
      refine gg_fg [false, false, false, false, false, false, false, false, false] [none, none, none, none, none, none, none, none, none] rfl ?_
      exact hk233 c_wellSum_69 c_strongSum_69 h
    · replace h := gg_el h hc
      refine gg_iload dX9_layParts_75 rfl ?_
      refine gg_iload_n dX9_layParts_77 rfl ?_
      refine gg_iconst (-1 : Int32) dX9_layParts_78 (by decide) ?_
      refine gg_ixor dX9_layParts_79 ?_
      refine gg_iand dX9_layParts_80 ?_
      obtain ⟨k227, hke227, h⟩ := gg_lte h
      have hk227 : ∀ (c_wellSum_227 : Int64) (c_strongSum_227 : Int64), k227 c_wellSum_227 c_strongSum_227 = some res → gg_G MD_X9_layParts 227 [some (.ref 0), some (.int y1), some (.int y2), some (.int y3), some (.int x4_69), none, none, none, none] [] (wd_X9_layParts c_latest c_asked c_upper c_lower c_n c_readAt c_readMany c_readFood c_isHead c_backMany c_deedMany c_whole c_wellSum_227 c_strongSum_227 c_hash c_kindOf c_winds c_now c_tried c_back) rr ww := by
        intro c_wellSum_227 c_strongSum_227 h
        subst hke227
        refine gg_iinc (x4_69 + (1 : Int32)) [some (.ref 0), some (.int y1), some (.int y2), some (.int y3), some (.int (x4_69 + (1 : Int32))), none, none, none, none] dX9_layParts_227 rfl rfl rfl (Nat.le_of_ble_eq_true rfl) rfl ?_
        refine gg_goto 69 dX9_layParts_230 (by decide) ?_
        exact ih (x4_69 + (1 : Int32)) c_wellSum_227 c_strongSum_227 h
      clear hke227
      refine gg_if_ne 227 dX9_layParts_81 (by decide) (fun hc => ?_) (fun hc => ?_)
      · replace h := gg_el h hc
        exact hk227 c_wellSum_69 c_strongSum_69 h
      · replace h := gg_th h hc
        refine gg_lconst (1 : Int64) dX9_layParts_84 (by decide) ?_
        refine gg_lstore [some (.ref 0), some (.int y1), some (.int y2), some (.int y3), some (.int x4_69), some (.long (1 : Int64)), none, none, none] dX9_layParts_85 rfl (Nat.le_of_ble_eq_true rfl) rfl ?_
        refine gg_iconst (0 : Int32) dX9_layParts_87 (by decide) ?_
        refine gg_istore [some (.ref 0), some (.int y1), some (.int y2), some (.int y3), some (.int x4_69), some (.long (1 : Int64)), none, some (.int (0 : Int32)), none] dX9_layParts_88 rfl (Nat.le_of_ble_eq_true rfl) rfl ?_
        refine gg_iconst (0 : Int32) dX9_layParts_90 (by decide) ?_
        refine gg_istore [some (.ref 0), some (.int y1), some (.int y2), some (.int y3), some (.int x4_69), some (.long (1 : Int64)), none, some (.int (0 : Int32)), some (.int (0 : Int32))] dX9_layParts_91 rfl (Nat.le_of_ble_eq_true rfl) rfl ?_
        refine lq_X9_layParts_93 y1 y2 y3 x4_69 c_latest c_asked c_upper c_lower c_n c_readAt c_readMany c_readFood c_isHead c_backMany c_deedMany c_whole c_wellSum_69 c_strongSum_69 c_hash c_kindOf c_winds c_now c_tried c_back _ ?_ gg_fuel (1 : Int64) (0 : Int32) (0 : Int32) h
        intro x5_188 x7_188 h
        refine gg_aload_n dX9_layParts_188 rfl ?_
        refine gg_dup dX9_layParts_189 rfl ?_
        refine gg_get 0 fl_X9_268 dX9_layParts_190 rfl rfl ?_
        refine gg_iload dX9_layParts_193 rfl ?_
        obtain ⟨v8, hv8, h⟩ := gg_bd h
        refine gg_callS (gg_sg []) [] (wd_X9_layParts c_latest c_asked c_upper c_lower c_n c_readAt c_readMany c_readFood c_isHead c_backMany c_deedMany c_whole c_wellSum_69 c_strongSum_69 c_hash c_kindOf c_winds c_now c_tried c_back) (C_X9_bits x4_69 hv8) nS_X9_bits ml_X9_220 rfl rfl rfl rfl rfl rfl rfl [0, 1, 2, 3, 4, 5] 6 rfl rfl rfl rfl rfl ⟨Nat.le_of_ble_eq_true rfl, Nat.le_of_ble_eq_true rfl⟩ (Nat.le_of_ble_eq_true rfl) dX9_layParts_195 [.int v8, .long c_wellSum_69, .ref 0] rfl ?_
        refine gg_iload_n dX9_layParts_198 rfl ?_
        obtain ⟨k208, hke208, h⟩ := gg_lte h
        have hk208 : ∀ (s2_208 : Int64), k208 s2_208 = some res → gg_G MD_X9_layParts 208 [some (.ref 0), some (.int y1), some (.int y2), some (.int y3), some (.int x4_69), some (.long x5_188), none, some (.int x7_188), none] [.long s2_208, .long c_wellSum_69, .ref 0] (wd_X9_layParts c_latest c_asked c_upper c_lower c_n c_readAt c_readMany c_readFood c_isHead c_backMany c_deedMany c_whole c_wellSum_69 c_strongSum_69 c_hash c_kindOf c_winds c_now c_tried c_back) rr ww := by
          intro s2_208 h
          subst hke208
          refine gg_ladd dX9_layParts_208 ?_
          refine gg_putf 0 (wd_X9_layParts c_latest c_asked c_upper c_lower c_n c_readAt c_readMany c_readFood c_isHead c_backMany c_deedMany c_whole (c_wellSum_69 + s2_208) c_strongSum_69 c_hash c_kindOf c_winds c_now c_tried c_back) fl_X9_268 dX9_layParts_209 rfl (Nat.le_of_ble_eq_true rfl) (fun _ => ⟨rfl, rfl⟩) rfl ?_
          refine gg_aload_n dX9_layParts_212 rfl ?_
          refine gg_dup dX9_layParts_213 rfl ?_
          refine gg_get 0 fl_X9_271 dX9_layParts_214 rfl rfl ?_
          refine gg_lload dX9_layParts_217 rfl ?_
          refine gg_iload dX9_layParts_219 rfl ?_
          refine gg_i2l dX9_layParts_221 ?_
          refine gg_lmul dX9_layParts_222 ?_
          refine gg_ladd dX9_layParts_223 ?_
          refine gg_putf 0 (wd_X9_layParts c_latest c_asked c_upper c_lower c_n c_readAt c_readMany c_readFood c_isHead c_backMany c_deedMany c_whole (c_wellSum_69 + s2_208) (c_strongSum_69 + (x5_188 * (x7_188.toInt64))) c_hash c_kindOf c_winds c_now c_tried c_back) fl_X9_271 dX9_layParts_224 rfl (Nat.le_of_ble_eq_true rfl) (fun _ => ⟨rfl, rfl⟩) rfl ?_
          refine gg_fg [true, true, true, true, true, false, false, false, false] [some (.ref 0), some (.int y1), some (.int y2), some (.int y3), some (.int x4_69), none, none, none, none] rfl ?_
          exact hk227 (c_wellSum_69 + s2_208) (c_strongSum_69 + (x5_188 * (x7_188.toInt64))) h
        clear hke208
        refine gg_icmp_lt 207 dX9_layParts_199 (by decide) (fun hc => ?_) (fun hc => ?_)
        · replace h := gg_th h hc
          refine gg_lconst (0 : Int64) dX9_layParts_207 (by decide) ?_
          exact hk208 (0 : Int64) h
        · replace h := gg_el h hc
          refine gg_lload dX9_layParts_202 rfl ?_
          refine gg_goto 208 dX9_layParts_204 (by decide) ?_
          exact hk208 x5_188 h
set_option maxRecDepth 20000 in
set_option maxHeartbeats 8000000 in
theorem C_X9_layParts (a0 : Int32) (a1 : Int32) (c_latest : Int32) (c_asked : Int32) (c_upper : Int64) (c_lower : Int64) (c_n : Int32) (c_readAt : Int32) (c_readMany : Int32) (c_readFood : Int32) (c_isHead : Int32) (c_backMany : Int32) (c_deedMany : Int32) (c_whole : Int64) (c_wellSum : Int64) (c_strongSum : Int64) (c_hash : Int64) (c_kindOf : Nat → Int32) (c_winds : Nat → Int32) (c_now : Nat → Int32) (c_tried : Nat → Int32) (c_back : Nat → Int32) {r0 : (Int32)} {r1 : (Int64)} {r2 : (Int64)} {r3 : (Int64)} {r4 : (Nat → Int32)} {r5 : (Nat → Int32)} (h : f_X9_layParts a0 a1 c_n c_backMany c_whole c_wellSum c_strongSum c_kindOf c_winds c_now c_tried c_back = some (r0, r1, r2, r3, r4, r5)) : gg_C MD_X9_layParts [.ref 0, .int a0, .int a1] (wd_X9_layParts c_latest c_asked c_upper c_lower c_n c_readAt c_readMany c_readFood c_isHead c_backMany c_deedMany c_whole c_wellSum c_strongSum c_hash c_kindOf c_winds c_now c_tried c_back) (none) (wd_X9_layParts c_latest c_asked c_upper c_lower c_n c_readAt c_readMany c_readFood c_isHead r0 c_deedMany r1 r2 r3 c_hash c_kindOf c_winds c_now r4 r5) := by
  refine gg_ofG [some (.ref 0), some (.int a0), some (.int a1), none, none, none, none, none, none] (plainFor_of_name (by decide)) (Nat.le_of_ble_eq_true rfl) rfl ?_
  unfold f_X9_layParts at h
  refine gg_aload_n dX9_layParts_0 rfl ?_
  obtain ⟨v1, hv1, h⟩ := gg_bd h
  refine gg_callV (gg_sg [0]) [0, 3, 4] (wd_X9_layParts c_latest c_asked c_upper c_lower c_n c_readAt c_readMany c_readFood c_isHead c_backMany c_deedMany c_whole c_wellSum c_strongSum c_hash c_kindOf c_winds c_now v1 c_back) 0 (C_X9_copyNow c_latest c_asked c_upper c_lower c_n c_readAt c_readMany c_readFood c_isHead c_backMany c_deedMany c_whole c_wellSum c_strongSum c_hash c_now c_tried hv1) nV_X9_copyNow ml_X9_227 rfl rfl rfl rfl rfl rfl rfl rfl rfl rfl [1, 2, 5] 6 rfl rfl rfl rfl rfl ⟨Nat.le_of_ble_eq_true rfl, Nat.le_of_ble_eq_true rfl⟩ (Nat.le_of_ble_eq_true rfl) dX9_layParts_1 [] rfl ?_
  refine gg_aload_n dX9_layParts_4 rfl ?_
  refine gg_aload_n dX9_layParts_5 rfl ?_
  refine gg_get 0 fl_X9_42 dX9_layParts_6 rfl rfl ?_
  obtain ⟨v2_0, v2_1, v2_2, hv2, h⟩ := gg_bd3 h
  refine gg_callV (gg_sg [0, 10]) [0, 1, 2, 5, 4] (wd_X9_layParts c_latest c_asked c_upper c_lower c_n c_readAt c_readMany c_readFood c_isHead v2_0 c_deedMany c_whole c_wellSum c_strongSum c_hash c_kindOf c_winds c_now v2_2 v2_1) 0 (C_X9_passes_a26 c_latest c_asked c_upper c_lower c_n c_readAt c_readMany c_readFood c_isHead c_backMany c_deedMany c_whole c_wellSum c_strongSum c_hash c_kindOf c_winds c_back v1 hv2) nV_X9_passes_a26 ml_X9_213 rfl rfl rfl rfl rfl rfl rfl rfl rfl rfl [3] 6 rfl rfl rfl rfl rfl ⟨Nat.le_of_ble_eq_true rfl, Nat.le_of_ble_eq_true rfl⟩ (Nat.le_of_ble_eq_true rfl) dX9_layParts_9 [] rfl ?_
  refine gg_aload_n dX9_layParts_12 rfl ?_
  refine gg_aload_n dX9_layParts_13 rfl ?_
  refine gg_get 0 fl_X9_42 dX9_layParts_14 rfl rfl ?_
  obtain ⟨v3, hv3, h⟩ := gg_bd h
  refine gg_callV (gg_sg [0, 10]) [0, 4] (wd_X9_layParts c_latest c_asked c_upper c_lower c_n c_readAt c_readMany c_readFood c_isHead v2_0 c_deedMany c_whole c_wellSum c_strongSum c_hash c_kindOf c_winds c_now v2_2 v2_1) 0 (C_X9_there_a26 c_latest c_asked c_upper c_lower c_n c_readAt c_readMany c_readFood c_isHead v2_0 c_deedMany c_whole c_wellSum c_strongSum c_hash v2_2 hv3) nV_X9_there_a26 ml_X9_217 rfl rfl rfl rfl rfl rfl rfl rfl rfl rfl [1, 2, 3, 5] 6 rfl rfl rfl rfl rfl ⟨Nat.le_of_ble_eq_true rfl, Nat.le_of_ble_eq_true rfl⟩ (Nat.le_of_ble_eq_true rfl) dX9_layParts_17 [.int v3] rfl ?_
  refine gg_istore_n [some (.ref 0), some (.int a0), some (.int a1), some (.int v3), none, none, none, none, none] dX9_layParts_20 rfl (Nat.le_of_ble_eq_true rfl) rfl ?_
  refine gg_aload_n dX9_layParts_21 rfl ?_
  refine gg_lconst (1 : Int64) dX9_layParts_22 (by decide) ?_
  refine gg_putf 0 (wd_X9_layParts c_latest c_asked c_upper c_lower c_n c_readAt c_readMany c_readFood c_isHead v2_0 c_deedMany (1 : Int64) c_wellSum c_strongSum c_hash c_kindOf c_winds c_now v2_2 v2_1) fl_X9_265 dX9_layParts_23 rfl (Nat.le_of_ble_eq_true rfl) (fun _ => ⟨rfl, rfl⟩) rfl ?_
  refine gg_aload_n dX9_layParts_26 rfl ?_
  refine gg_lconst (0 : Int64) dX9_layParts_27 (by decide) ?_
  refine gg_putf 0 (wd_X9_layParts c_latest c_asked c_upper c_lower c_n c_readAt c_readMany c_readFood c_isHead v2_0 c_deedMany (1 : Int64) (0 : Int64) c_strongSum c_hash c_kindOf c_winds c_now v2_2 v2_1) fl_X9_268 dX9_layParts_28 rfl (Nat.le_of_ble_eq_true rfl) (fun _ => ⟨rfl, rfl⟩) rfl ?_
  refine gg_aload_n dX9_layParts_31 rfl ?_
  refine gg_lconst (0 : Int64) dX9_layParts_32 (by decide) ?_
  refine gg_putf 0 (wd_X9_layParts c_latest c_asked c_upper c_lower c_n c_readAt c_readMany c_readFood c_isHead v2_0 c_deedMany (1 : Int64) (0 : Int64) (0 : Int64) c_hash c_kindOf c_winds c_now v2_2 v2_1) fl_X9_271 dX9_layParts_33 rfl (Nat.le_of_ble_eq_true rfl) (fun _ => ⟨rfl, rfl⟩) rfl ?_
  refine gg_iconst (0 : Int32) dX9_layParts_36 (by decide) ?_
  refine gg_istore [some (.ref 0), some (.int a0), some (.int a1), some (.int v3), some (.int (0 : Int32)), none, none, none, none] dX9_layParts_37 rfl (Nat.le_of_ble_eq_true rfl) rfl ?_
  refine lq_X9_layParts_39 a0 a1 v3 c_latest c_asked c_upper c_lower c_n c_readAt c_readMany c_readFood c_isHead v2_0 c_deedMany (0 : Int64) (0 : Int64) c_hash c_kindOf c_winds c_now v2_2 v2_1 _ ?_ gg_fuel (0 : Int32) (1 : Int64) h
  intro c_whole_66 h
  refine gg_iconst (0 : Int32) dX9_layParts_66 (by decide) ?_
  refine gg_istore [some (.ref 0), some (.int a0), some (.int a1), some (.int v3), some (.int (0 : Int32)), none, none, none, none] dX9_layParts_67 rfl (Nat.le_of_ble_eq_true rfl) rfl ?_
  refine lq_X9_layParts_69 a0 a1 v3 c_latest c_asked c_upper c_lower c_n c_readAt c_readMany c_readFood c_isHead v2_0 c_deedMany c_whole_66 c_hash c_kindOf c_winds c_now v2_2 v2_1 _ ?_ gg_fuel (0 : Int32) (0 : Int64) (0 : Int64) h
  intro c_wellSum_233 c_strongSum_233 h
  cases h
  exact gg_vret dX9_layParts_233 rfl
def wd_X9_odds (c_latest : Int32) (c_asked : Int32) (c_upper : Int64) (c_lower : Int64) (c_n : Int32) (c_readAt : Int32) (c_readMany : Int32) (c_readFood : Int32) (c_isHead : Int32) (c_backMany : Int32) (c_deedMany : Int32) (c_whole : Int64) (c_wellSum : Int64) (c_strongSum : Int64) (c_hash : Int64) (c_kindOf : Nat → Int32) (c_winds : Nat → Int32) (c_now : Nat → Int32) (c_tried : Nat → Int32) (c_back : Nat → Int32) : va_W := [(0, .inr (8, [.int c_latest, .ref 1, .int c_asked, .long c_upper, .long c_lower, .ref 2, .ref 3, .ref 4, .ref 5, .ref 6, .int c_n, .ref 7, .ref 8, .ref 9, .ref 10, .int c_readAt, .int c_readMany, .int c_readFood, .int c_isHead, .ref 11, .ref 12, .ref 13, .int c_backMany, .int c_deedMany, .ref 14, .ref 15, .ref 16, .ref 17, .ref 18, .ref 19, .ref 20, .ref 21, .ref 22, .ref 23, .ref 24, .long c_whole, .long c_wellSum, .long c_strongSum, .long c_hash])), (7, .inl (0, 6, .inl c_kindOf)), (8, .inl (0, 4, .inl c_winds)), (9, .inl (0, 26, .inl c_now)), (10, .inl (0, 26, .inl c_tried)), (13, .inl (0, 6, .inl c_back))]
def MD_X9_odds : gg_M := (yX9_odds, cX9_odds, 4, some .int, 4, 100)
theorem nV_X9_odds : gg_nV MD_X9_odds 2 := ⟨⟨gg_mem (by decide +kernel) rfl, gg_mem cw_X9_odds rfl, by decide, by decide, by decide +kernel⟩, gg_mem (by decide +kernel) rfl, gg_mem (by decide +kernel) rfl⟩
def f_X9_odds (a0 : Int32) (a1 : Int32) (c_upper : Int64) (c_lower : Int64) (c_n : Int32) (c_backMany : Int32) (c_whole : Int64) (c_wellSum : Int64) (c_strongSum : Int64) (c_kindOf : Nat → Int32) (c_winds : Nat → Int32) (c_now : Nat → Int32) (c_tried : Nat → Int32) (c_back : Nat → Int32) : Option (Int32 × (Int64) × (Int64) × (Int32) × (Int64) × (Int64) × (Int64) × (Nat → Int32) × (Nat → Int32)) := (f_X9_in a0 (0 : Int32) (6 : Int32)).bind (fun v1 => gg_lt (fun (s1_26 : Int32) => (f_X9_need s1_26 c_n).bind (fun v2 => (if (0 : Int32) ≤ v2 then gg_b6 (f_X9_layParts a0 a1 c_n c_backMany c_whole c_wellSum c_strongSum c_kindOf c_winds c_now c_tried c_back) (fun v3_0 v3_1 v3_2 v3_3 v3_4 v3_5 => gg_b3 (f_X9_fraction v3_2 v3_1 c_upper c_lower) (fun v4_0 v4_1 v4_2 => (some (v4_0, v4_1, v4_2, v3_0, v3_1, v3_2, v3_3, v3_4, v3_5)))) else (some (v2, c_upper, c_lower, c_backMany, c_whole, c_wellSum, c_strongSum, c_tried, c_back))))) (fun k26 => gg_lt ((k26 (0 : Int32))) (fun k25 => (if v1 = (0 : Int32) then k25 else (f_X9_in a1 (0 : Int32) (12 : Int32)).bind (fun v5 => (if v5 = (0 : Int32) then k25 else (k26 (1 : Int32))))))))
set_option maxRecDepth 20000 in
set_option maxHeartbeats 8000000 in
theorem C_X9_odds (a0 : Int32) (a1 : Int32) (c_latest : Int32) (c_asked : Int32) (c_upper : Int64) (c_lower : Int64) (c_n : Int32) (c_readAt : Int32) (c_readMany : Int32) (c_readFood : Int32) (c_isHead : Int32) (c_backMany : Int32) (c_deedMany : Int32) (c_whole : Int64) (c_wellSum : Int64) (c_strongSum : Int64) (c_hash : Int64) (c_kindOf : Nat → Int32) (c_winds : Nat → Int32) (c_now : Nat → Int32) (c_tried : Nat → Int32) (c_back : Nat → Int32) {r0 : Int32} {r1 : (Int64)} {r2 : (Int64)} {r3 : (Int32)} {r4 : (Int64)} {r5 : (Int64)} {r6 : (Int64)} {r7 : (Nat → Int32)} {r8 : (Nat → Int32)} (h : f_X9_odds a0 a1 c_upper c_lower c_n c_backMany c_whole c_wellSum c_strongSum c_kindOf c_winds c_now c_tried c_back = some (r0, r1, r2, r3, r4, r5, r6, r7, r8)) : gg_C MD_X9_odds [.ref 0, .int a0, .int a1] (wd_X9_odds c_latest c_asked c_upper c_lower c_n c_readAt c_readMany c_readFood c_isHead c_backMany c_deedMany c_whole c_wellSum c_strongSum c_hash c_kindOf c_winds c_now c_tried c_back) (some (.int r0)) (wd_X9_odds c_latest c_asked r1 r2 c_n c_readAt c_readMany c_readFood c_isHead r3 c_deedMany r4 r5 r6 c_hash c_kindOf c_winds c_now r7 r8) := by
  refine gg_ofG [some (.ref 0), some (.int a0), some (.int a1), none] (plainFor_of_name (by decide)) (Nat.le_of_ble_eq_true rfl) rfl ?_
  unfold f_X9_odds at h
  refine gg_aload_n dX9_odds_0 rfl ?_
  refine gg_iload_n dX9_odds_1 rfl ?_
  refine gg_iconst (0 : Int32) dX9_odds_2 (by decide) ?_
  refine gg_bipush (6 : Int32) dX9_odds_3 (by decide) ?_
  obtain ⟨v1, hv1, h⟩ := gg_bd h
  refine gg_callS (gg_sg []) [] (wd_X9_odds c_latest c_asked c_upper c_lower c_n c_readAt c_readMany c_readFood c_isHead c_backMany c_deedMany c_whole c_wellSum c_strongSum c_hash c_kindOf c_winds c_now c_tried c_back) (C_X9_in a0 (0 : Int32) (6 : Int32) hv1) nS_X9_in ml_X9_92 rfl rfl rfl rfl rfl rfl rfl [0, 1, 2, 3, 4, 5] 6 rfl rfl rfl rfl rfl ⟨Nat.le_of_ble_eq_true rfl, Nat.le_of_ble_eq_true rfl⟩ (Nat.le_of_ble_eq_true rfl) dX9_odds_5 [.int v1, .ref 0] rfl ?_
  obtain ⟨k26, hke26, h⟩ := gg_lte h
  have hk26 : ∀ (s1_26 : Int32), k26 s1_26 = some (r0, r1, r2, r3, r4, r5, r6, r7, r8) → gg_G MD_X9_odds 26 [some (.ref 0), some (.int a0), some (.int a1), none] [.int s1_26, .ref 0] (wd_X9_odds c_latest c_asked c_upper c_lower c_n c_readAt c_readMany c_readFood c_isHead c_backMany c_deedMany c_whole c_wellSum c_strongSum c_hash c_kindOf c_winds c_now c_tried c_back) (some (.int r0)) (wd_X9_odds c_latest c_asked r1 r2 c_n c_readAt c_readMany c_readFood c_isHead r3 c_deedMany r4 r5 r6 c_hash c_kindOf c_winds c_now r7 r8) := by
    intro s1_26 h
    subst hke26
    obtain ⟨v2, hv2, h⟩ := gg_bd h
    refine gg_callV (gg_sg [0]) [0] (wd_X9_odds c_latest c_asked c_upper c_lower c_n c_readAt c_readMany c_readFood c_isHead c_backMany c_deedMany c_whole c_wellSum c_strongSum c_hash c_kindOf c_winds c_now c_tried c_back) 0 (C_X9_need s1_26 c_latest c_asked c_upper c_lower c_n c_readAt c_readMany c_readFood c_isHead c_backMany c_deedMany c_whole c_wellSum c_strongSum c_hash hv2) nV_X9_need ml_X9_230 rfl rfl rfl rfl rfl rfl rfl rfl rfl rfl [1, 2, 3, 4, 5] 6 rfl rfl rfl rfl rfl ⟨Nat.le_of_ble_eq_true rfl, Nat.le_of_ble_eq_true rfl⟩ (Nat.le_of_ble_eq_true rfl) dX9_odds_26 [.int v2] rfl ?_
    refine gg_istore_n [some (.ref 0), some (.int a0), some (.int a1), some (.int v2)] dX9_odds_29 rfl (Nat.le_of_ble_eq_true rfl) rfl ?_
    refine gg_iload_n dX9_odds_30 rfl ?_
    refine gg_if_ge 36 dX9_odds_31 (by decide) (fun hc => ?_) (fun hc => ?_)
    · replace h := gg_th h hc
      refine gg_aload_n dX9_odds_36 rfl ?_
      refine gg_iload_n dX9_odds_37 rfl ?_
      refine gg_iload_n dX9_odds_38 rfl ?_
      obtain ⟨v3_0, v3_1, v3_2, v3_3, v3_4, v3_5, hv3, h⟩ := gg_bd6 h
      refine gg_callV (gg_sg [0]) [0, 1, 2, 3, 4, 5] (wd_X9_odds c_latest c_asked c_upper c_lower c_n c_readAt c_readMany c_readFood c_isHead v3_0 c_deedMany v3_1 v3_2 v3_3 c_hash c_kindOf c_winds c_now v3_4 v3_5) 0 (C_X9_layParts a0 a1 c_latest c_asked c_upper c_lower c_n c_readAt c_readMany c_readFood c_isHead c_backMany c_deedMany c_whole c_wellSum c_strongSum c_hash c_kindOf c_winds c_now c_tried c_back hv3) nV_X9_layParts ml_X9_276 rfl rfl rfl rfl rfl rfl rfl rfl rfl rfl [] 6 rfl rfl rfl rfl rfl ⟨Nat.le_of_ble_eq_true rfl, Nat.le_of_ble_eq_true rfl⟩ (Nat.le_of_ble_eq_true rfl) dX9_odds_39 [] rfl ?_
      refine gg_aload_n dX9_odds_42 rfl ?_
      refine gg_aload_n dX9_odds_43 rfl ?_
      refine gg_get 0 fl_X9_268 dX9_odds_44 rfl rfl ?_
      refine gg_aload_n dX9_odds_47 rfl ?_
      refine gg_get 0 fl_X9_265 dX9_odds_48 rfl rfl ?_
      obtain ⟨v4_0, v4_1, v4_2, hv4, h⟩ := gg_bd3 h
      refine gg_callV (gg_sg [0]) [0] (wd_X9_odds c_latest c_asked v4_1 v4_2 c_n c_readAt c_readMany c_readFood c_isHead v3_0 c_deedMany v3_1 v3_2 v3_3 c_hash c_kindOf c_winds c_now v3_4 v3_5) 0 (C_X9_fraction v3_2 v3_1 c_latest c_asked c_upper c_lower c_n c_readAt c_readMany c_readFood c_isHead v3_0 c_deedMany v3_1 v3_2 v3_3 c_hash hv4) nV_X9_fraction ml_X9_280 rfl rfl rfl rfl rfl rfl rfl rfl rfl rfl [1, 2, 3, 4, 5] 6 rfl rfl rfl rfl rfl ⟨Nat.le_of_ble_eq_true rfl, Nat.le_of_ble_eq_true rfl⟩ (Nat.le_of_ble_eq_true rfl) dX9_odds_51 [.int v4_0] rfl ?_
      cases h
      exact gg_iret dX9_odds_54 rfl
    · replace h := gg_el h hc
      refine gg_iload_n dX9_odds_34 rfl ?_
      cases h
      exact gg_iret dX9_odds_35 rfl
  clear hke26
  obtain ⟨k25, hke25, h⟩ := gg_lte h
  have hk25 : k25 = some (r0, r1, r2, r3, r4, r5, r6, r7, r8) → gg_G MD_X9_odds 25 [some (.ref 0), some (.int a0), some (.int a1), none] [.ref 0] (wd_X9_odds c_latest c_asked c_upper c_lower c_n c_readAt c_readMany c_readFood c_isHead c_backMany c_deedMany c_whole c_wellSum c_strongSum c_hash c_kindOf c_winds c_now c_tried c_back) (some (.int r0)) (wd_X9_odds c_latest c_asked r1 r2 c_n c_readAt c_readMany c_readFood c_isHead r3 c_deedMany r4 r5 r6 c_hash c_kindOf c_winds c_now r7 r8) := by
    intro  h
    subst hke25
    refine gg_iconst (0 : Int32) dX9_odds_25 (by decide) ?_
    exact hk26 (0 : Int32) h
  clear hke25
  refine gg_if_eq 25 dX9_odds_8 (by decide) (fun hc => ?_) (fun hc => ?_)
  · replace h := gg_th h hc
    exact hk25 h
  · replace h := gg_el h hc
    refine gg_iload_n dX9_odds_11 rfl ?_
    refine gg_iconst (0 : Int32) dX9_odds_12 (by decide) ?_
    refine gg_bipush (12 : Int32) dX9_odds_13 (by decide) ?_
    obtain ⟨v5, hv5, h⟩ := gg_bd h
    refine gg_callS (gg_sg []) [] (wd_X9_odds c_latest c_asked c_upper c_lower c_n c_readAt c_readMany c_readFood c_isHead c_backMany c_deedMany c_whole c_wellSum c_strongSum c_hash c_kindOf c_winds c_now c_tried c_back) (C_X9_in a1 (0 : Int32) (12 : Int32) hv5) nS_X9_in ml_X9_92 rfl rfl rfl rfl rfl rfl rfl [0, 1, 2, 3, 4, 5] 6 rfl rfl rfl rfl rfl ⟨Nat.le_of_ble_eq_true rfl, Nat.le_of_ble_eq_true rfl⟩ (Nat.le_of_ble_eq_true rfl) dX9_odds_15 [.int v5, .ref 0] rfl ?_
    refine gg_if_eq 25 dX9_odds_18 (by decide) (fun hc => ?_) (fun hc => ?_)
    · replace h := gg_th h hc
      exact hk25 h
    · replace h := gg_el h hc
      refine gg_iconst (1 : Int32) dX9_odds_21 (by decide) ?_
      refine gg_goto 26 dX9_odds_22 (by decide) ?_
      exact hk26 (1 : Int32) h
def wd_X9_mid (c_latest : Int32) (c_asked : Int32) (c_upper : Int64) (c_lower : Int64) (c_n : Int32) (c_readAt : Int32) (c_readMany : Int32) (c_readFood : Int32) (c_isHead : Int32) (c_backMany : Int32) (c_deedMany : Int32) (c_whole : Int64) (c_wellSum : Int64) (c_strongSum : Int64) (c_hash : Int64) (c_kindOf : Nat → Int32) (c_winds : Nat → Int32) (c_now : Nat → Int32) (c_tried : Nat → Int32) (c_back : Nat → Int32) : va_W := [(0, .inr (8, [.int c_latest, .ref 1, .int c_asked, .long c_upper, .long c_lower, .ref 2, .ref 3, .ref 4, .ref 5, .ref 6, .int c_n, .ref 7, .ref 8, .ref 9, .ref 10, .int c_readAt, .int c_readMany, .int c_readFood, .int c_isHead, .ref 11, .ref 12, .ref 13, .int c_backMany, .int c_deedMany, .ref 14, .ref 15, .ref 16, .ref 17, .ref 18, .ref 19, .ref 20, .ref 21, .ref 22, .ref 23, .ref 24, .long c_whole, .long c_wellSum, .long c_strongSum, .long c_hash])), (7, .inl (0, 6, .inl c_kindOf)), (8, .inl (0, 4, .inl c_winds)), (9, .inl (0, 26, .inl c_now)), (10, .inl (0, 26, .inl c_tried)), (13, .inl (0, 6, .inl c_back))]
def MD_X9_mid : gg_M := (yX9_mid, cX9_mid, 3, some .int, 4, 100)
theorem nV_X9_mid : gg_nV MD_X9_mid 1 := ⟨⟨gg_mem (by decide +kernel) rfl, gg_mem cw_X9_mid rfl, by decide, by decide, by decide +kernel⟩, gg_mem (by decide +kernel) rfl, gg_mem (by decide +kernel) rfl⟩
def f_X9_mid (a0 : Int32) (c_upper : Int64) (c_lower : Int64) (c_n : Int32) (c_backMany : Int32) (c_whole : Int64) (c_wellSum : Int64) (c_strongSum : Int64) (c_kindOf : Nat → Int32) (c_winds : Nat → Int32) (c_now : Nat → Int32) (c_tried : Nat → Int32) (c_back : Nat → Int32) : Option (Int32 × (Int64) × (Int64) × (Int32) × (Int64) × (Int64) × (Int64) × (Nat → Int32) × (Nat → Int32)) := (f_X9_in a0 (0 : Int32) (12 : Int32)).bind (fun v1 => (f_X9_need v1 c_n).bind (fun v2 => (if (0 : Int32) ≤ v2 then gg_b6 (f_X9_layParts (0 : Int32) a0 c_n c_backMany c_whole c_wellSum c_strongSum c_kindOf c_winds c_now c_tried c_back) (fun v3_0 v3_1 v3_2 v3_3 v3_4 v3_5 => gg_b3 (f_X9_fraction v3_3 v3_1 c_upper c_lower) (fun v4_0 v4_1 v4_2 => (some (v4_0, v4_1, v4_2, v3_0, v3_1, v3_2, v3_3, v3_4, v3_5)))) else (some (v2, c_upper, c_lower, c_backMany, c_whole, c_wellSum, c_strongSum, c_tried, c_back)))))
set_option maxRecDepth 20000 in
set_option maxHeartbeats 8000000 in
theorem C_X9_mid (a0 : Int32) (c_latest : Int32) (c_asked : Int32) (c_upper : Int64) (c_lower : Int64) (c_n : Int32) (c_readAt : Int32) (c_readMany : Int32) (c_readFood : Int32) (c_isHead : Int32) (c_backMany : Int32) (c_deedMany : Int32) (c_whole : Int64) (c_wellSum : Int64) (c_strongSum : Int64) (c_hash : Int64) (c_kindOf : Nat → Int32) (c_winds : Nat → Int32) (c_now : Nat → Int32) (c_tried : Nat → Int32) (c_back : Nat → Int32) {r0 : Int32} {r1 : (Int64)} {r2 : (Int64)} {r3 : (Int32)} {r4 : (Int64)} {r5 : (Int64)} {r6 : (Int64)} {r7 : (Nat → Int32)} {r8 : (Nat → Int32)} (h : f_X9_mid a0 c_upper c_lower c_n c_backMany c_whole c_wellSum c_strongSum c_kindOf c_winds c_now c_tried c_back = some (r0, r1, r2, r3, r4, r5, r6, r7, r8)) : gg_C MD_X9_mid [.ref 0, .int a0] (wd_X9_mid c_latest c_asked c_upper c_lower c_n c_readAt c_readMany c_readFood c_isHead c_backMany c_deedMany c_whole c_wellSum c_strongSum c_hash c_kindOf c_winds c_now c_tried c_back) (some (.int r0)) (wd_X9_mid c_latest c_asked r1 r2 c_n c_readAt c_readMany c_readFood c_isHead r3 c_deedMany r4 r5 r6 c_hash c_kindOf c_winds c_now r7 r8) := by
  refine gg_ofG [some (.ref 0), some (.int a0), none] (plainFor_of_name (by decide)) (Nat.le_of_ble_eq_true rfl) rfl ?_
  unfold f_X9_mid at h
  refine gg_aload_n dX9_mid_0 rfl ?_
  refine gg_iload_n dX9_mid_1 rfl ?_
  refine gg_iconst (0 : Int32) dX9_mid_2 (by decide) ?_
  refine gg_bipush (12 : Int32) dX9_mid_3 (by decide) ?_
  obtain ⟨v1, hv1, h⟩ := gg_bd h
  refine gg_callS (gg_sg []) [] (wd_X9_mid c_latest c_asked c_upper c_lower c_n c_readAt c_readMany c_readFood c_isHead c_backMany c_deedMany c_whole c_wellSum c_strongSum c_hash c_kindOf c_winds c_now c_tried c_back) (C_X9_in a0 (0 : Int32) (12 : Int32) hv1) nS_X9_in ml_X9_92 rfl rfl rfl rfl rfl rfl rfl [0, 1, 2, 3, 4, 5] 6 rfl rfl rfl rfl rfl ⟨Nat.le_of_ble_eq_true rfl, Nat.le_of_ble_eq_true rfl⟩ (Nat.le_of_ble_eq_true rfl) dX9_mid_5 [.int v1, .ref 0] rfl ?_
  obtain ⟨v2, hv2, h⟩ := gg_bd h
  refine gg_callV (gg_sg [0]) [0] (wd_X9_mid c_latest c_asked c_upper c_lower c_n c_readAt c_readMany c_readFood c_isHead c_backMany c_deedMany c_whole c_wellSum c_strongSum c_hash c_kindOf c_winds c_now c_tried c_back) 0 (C_X9_need v1 c_latest c_asked c_upper c_lower c_n c_readAt c_readMany c_readFood c_isHead c_backMany c_deedMany c_whole c_wellSum c_strongSum c_hash hv2) nV_X9_need ml_X9_230 rfl rfl rfl rfl rfl rfl rfl rfl rfl rfl [1, 2, 3, 4, 5] 6 rfl rfl rfl rfl rfl ⟨Nat.le_of_ble_eq_true rfl, Nat.le_of_ble_eq_true rfl⟩ (Nat.le_of_ble_eq_true rfl) dX9_mid_8 [.int v2] rfl ?_
  refine gg_istore_n [some (.ref 0), some (.int a0), some (.int v2)] dX9_mid_11 rfl (Nat.le_of_ble_eq_true rfl) rfl ?_
  refine gg_iload_n dX9_mid_12 rfl ?_
  refine gg_if_ge 18 dX9_mid_13 (by decide) (fun hc => ?_) (fun hc => ?_)
  · replace h := gg_th h hc
    refine gg_aload_n dX9_mid_18 rfl ?_
    refine gg_iconst (0 : Int32) dX9_mid_19 (by decide) ?_
    refine gg_iload_n dX9_mid_20 rfl ?_
    obtain ⟨v3_0, v3_1, v3_2, v3_3, v3_4, v3_5, hv3, h⟩ := gg_bd6 h
    refine gg_callV (gg_sg [0]) [0, 1, 2, 3, 4, 5] (wd_X9_mid c_latest c_asked c_upper c_lower c_n c_readAt c_readMany c_readFood c_isHead v3_0 c_deedMany v3_1 v3_2 v3_3 c_hash c_kindOf c_winds c_now v3_4 v3_5) 0 (C_X9_layParts (0 : Int32) a0 c_latest c_asked c_upper c_lower c_n c_readAt c_readMany c_readFood c_isHead c_backMany c_deedMany c_whole c_wellSum c_strongSum c_hash c_kindOf c_winds c_now c_tried c_back hv3) nV_X9_layParts ml_X9_276 rfl rfl rfl rfl rfl rfl rfl rfl rfl rfl [] 6 rfl rfl rfl rfl rfl ⟨Nat.le_of_ble_eq_true rfl, Nat.le_of_ble_eq_true rfl⟩ (Nat.le_of_ble_eq_true rfl) dX9_mid_21 [] rfl ?_
    refine gg_aload_n dX9_mid_24 rfl ?_
    refine gg_aload_n dX9_mid_25 rfl ?_
    refine gg_get 0 fl_X9_271 dX9_mid_26 rfl rfl ?_
    refine gg_aload_n dX9_mid_29 rfl ?_
    refine gg_get 0 fl_X9_265 dX9_mid_30 rfl rfl ?_
    obtain ⟨v4_0, v4_1, v4_2, hv4, h⟩ := gg_bd3 h
    refine gg_callV (gg_sg [0]) [0] (wd_X9_mid c_latest c_asked v4_1 v4_2 c_n c_readAt c_readMany c_readFood c_isHead v3_0 c_deedMany v3_1 v3_2 v3_3 c_hash c_kindOf c_winds c_now v3_4 v3_5) 0 (C_X9_fraction v3_3 v3_1 c_latest c_asked c_upper c_lower c_n c_readAt c_readMany c_readFood c_isHead v3_0 c_deedMany v3_1 v3_2 v3_3 c_hash hv4) nV_X9_fraction ml_X9_280 rfl rfl rfl rfl rfl rfl rfl rfl rfl rfl [1, 2, 3, 4, 5] 6 rfl rfl rfl rfl rfl ⟨Nat.le_of_ble_eq_true rfl, Nat.le_of_ble_eq_true rfl⟩ (Nat.le_of_ble_eq_true rfl) dX9_mid_33 [.int v4_0] rfl ?_
    cases h
    exact gg_iret dX9_mid_36 rfl
  · replace h := gg_el h hc
    refine gg_iload_n dX9_mid_16 rfl ?_
    cases h
    exact gg_iret dX9_mid_17 rfl
def wd_X9_lots (c_latest : Int32) (c_asked : Int32) (c_upper : Int64) (c_lower : Int64) (c_n : Int32) (c_readAt : Int32) (c_readMany : Int32) (c_readFood : Int32) (c_isHead : Int32) (c_backMany : Int32) (c_deedMany : Int32) (c_whole : Int64) (c_wellSum : Int64) (c_strongSum : Int64) (c_hash : Int64) (c_kindOf : Nat → Int32) (c_winds : Nat → Int32) (c_now : Nat → Int32) (c_back : Nat → Int32) (c_log : Nat → Int32) : va_W := [(0, .inr (8, [.int c_latest, .ref 1, .int c_asked, .long c_upper, .long c_lower, .ref 2, .ref 3, .ref 4, .ref 5, .ref 6, .int c_n, .ref 7, .ref 8, .ref 9, .ref 10, .int c_readAt, .int c_readMany, .int c_readFood, .int c_isHead, .ref 11, .ref 12, .ref 13, .int c_backMany, .int c_deedMany, .ref 14, .ref 15, .ref 16, .ref 17, .ref 18, .ref 19, .ref 20, .ref 21, .ref 22, .ref 23, .ref 24, .long c_whole, .long c_wellSum, .long c_strongSum, .long c_hash])), (7, .inl (0, 6, .inl c_kindOf)), (8, .inl (0, 4, .inl c_winds)), (9, .inl (0, 26, .inl c_now)), (13, .inl (0, 6, .inl c_back)), (14, .inl (0, 1040, .inl c_log))]
def MD_X9_lots : gg_M := (yX9_lots, cX9_lots, 8, some .int, 3, 72)
theorem nV_X9_lots : gg_nV MD_X9_lots 2 := ⟨⟨gg_mem (by decide +kernel) rfl, gg_mem cw_X9_lots rfl, by decide, by decide, by decide +kernel⟩, gg_mem (by decide +kernel) rfl, gg_mem (by decide +kernel) rfl⟩
def lp_X9_lots_58 {β : Type} (y1 : Int32) (c_n : Int32) (c_kindOf : Nat → Int32) (c_winds : Nat → Int32) (k150 : (Int32) → (Int32) → (Nat → Int32) → (Nat → Int32) → (Nat → Int32) → Option β) : Nat → (Int64) → (Int32) → (Int32) → (Int32) → (Nat → Int32) → (Nat → Int32) → (Nat → Int32) → Option β
  | 0, _, _, _, _, _, _, _ => none
  | n + 1, x4_58, x6_58, c_backMany_58, c_deedMany_58, c_now_58, c_back_58, c_log_58 => (if y1 ≤ x6_58 then (k150 c_backMany_58 c_deedMany_58 c_now_58 c_back_58 c_log_58) else gg_chk (!decide ((c_n.toInt64) = 0)) (gg_b2 (f_X9_remember c_deedMany_58 c_now_58 c_log_58) (fun v3_0 v3_1 => gg_lt (fun (c_backMany_144 : Int32) (c_now_144 : Nat → Int32) (c_back_144 : Nat → Int32) => (lp_X9_lots_58 y1 c_n c_kindOf c_winds k150 n (((48271 : Int64) * x4_58) - ((48271 : Int64) * x4_58) / (2147483647 : Int64) * (2147483647 : Int64)) (x6_58 + (1 : Int32)) c_backMany_144 v3_0 c_now_144 c_back_144 v3_1)) (fun k144 => gg_lt (gg_b3 (f_X9_passes_a26 c_n c_backMany_58 c_kindOf c_winds c_back_58 c_now_58) (fun v4_0 v4_1 v4_2 => (k144 v4_0 v4_2 v4_1))) (fun k136 => (if (lg_cmp ((((48271 : Int64) * x4_58) - ((48271 : Int64) * x4_58) / (2147483647 : Int64) * (2147483647 : Int64)) - (((48271 : Int64) * x4_58) - ((48271 : Int64) * x4_58) / (2147483647 : Int64) * (2147483647 : Int64)) / (3 : Int64) * (3 : Int64)) (0 : Int64)) = (0 : Int32) then (f_X9_isThere_a26 ((((((48271 : Int64) * x4_58) - ((48271 : Int64) * x4_58) / (2147483647 : Int64) * (2147483647 : Int64)) / (8 : Int64)) - ((((48271 : Int64) * x4_58) - ((48271 : Int64) * x4_58) / (2147483647 : Int64) * (2147483647 : Int64)) / (8 : Int64)) / (c_n.toInt64) * (c_n.toInt64)).toInt32) c_now_58).bind (fun v5 => (if v5 = (0 : Int32) then k136 else gg_chk (gg_in (1 : Int32) 26) ((if (c_now_58 (1 : Int32).toNatClampNeg) ≤ (0 : Int32) then k136 else (f_X9_fed ((((((48271 : Int64) * x4_58) - ((48271 : Int64) * x4_58) / (2147483647 : Int64) * (2147483647 : Int64)) / (8 : Int64)) - ((((48271 : Int64) * x4_58) - ((48271 : Int64) * x4_58) / (2147483647 : Int64) * (2147483647 : Int64)) / (8 : Int64)) / (c_n.toInt64) * (c_n.toInt64)).toInt32) c_now_58).bind (fun v6 => (k144 c_backMany_58 v6 c_back_58)))))) else k136))))))
def f_X9_lots (a0 : Int32) (a1 : Int32) (c_n : Int32) (c_backMany : Int32) (c_deedMany : Int32) (c_kindOf : Nat → Int32) (c_winds : Nat → Int32) (c_now : Nat → Int32) (c_back : Nat → Int32) (c_log : Nat → Int32) : Option (Int32 × (Int32) × (Int32) × (Nat → Int32) × (Nat → Int32) × (Nat → Int32)) := (f_X9_in a0 (1 : Int32) (20 : Int32)).bind (fun v1 => gg_lt (fun (s1_27 : Int32) => (f_X9_need s1_27 c_n).bind (fun v2 => (if (0 : Int32) ≤ v2 then (if (c_deedMany + a0) ≤ (40 : Int32) then (lp_X9_lots_58 a0 c_n c_kindOf c_winds (fun (c_backMany_150 : Int32) (c_deedMany_150 : Int32) (c_now_150 : Nat → Int32) (c_back_150 : Nat → Int32) (c_log_150 : Nat → Int32) => (f_X9_there_a26 c_n c_now_150).bind (fun v7 => (f_X9_bits v7).bind (fun v8 => (some (v8, c_backMany_150, c_deedMany_150, c_now_150, c_back_150, c_log_150))))) gg_fuel (a1.toInt64) (0 : Int32) c_backMany c_deedMany c_now c_back c_log) else (some ((-2 : Int32), c_backMany, c_deedMany, c_now, c_back, c_log))) else (some (v2, c_backMany, c_deedMany, c_now, c_back, c_log))))) (fun k27 => gg_lt ((k27 (0 : Int32))) (fun k26 => (if v1 = (0 : Int32) then k26 else (f_X9_in a1 (1 : Int32) (2147483646 : Int32)).bind (fun v9 => (if v9 = (0 : Int32) then k26 else (k27 (1 : Int32))))))))
set_option maxRecDepth 20000 in
set_option maxHeartbeats 4000000 in
theorem lq_X9_lots_58 {β : Type} {res : β} {rr : Option Value} {ww : va_W} (y1 : Int32) (c_latest : Int32) (c_asked : Int32) (c_upper : Int64) (c_lower : Int64) (c_n : Int32) (c_readAt : Int32) (c_readMany : Int32) (c_readFood : Int32) (c_isHead : Int32) (c_whole : Int64) (c_wellSum : Int64) (c_strongSum : Int64) (c_hash : Int64) (c_kindOf : Nat → Int32) (c_winds : Nat → Int32) (k150 : (Int32) → (Int32) → (Nat → Int32) → (Nat → Int32) → (Nat → Int32) → Option β) (hk150 : ∀ (c_backMany_150 : Int32) (c_deedMany_150 : Int32) (c_now_150 : Nat → Int32) (c_back_150 : Nat → Int32) (c_log_150 : Nat → Int32), k150 c_backMany_150 c_deedMany_150 c_now_150 c_back_150 c_log_150 = some res → gg_G MD_X9_lots 150 [some (.ref 0), none, none, none, none, none, none, none] [] (wd_X9_lots c_latest c_asked c_upper c_lower c_n c_readAt c_readMany c_readFood c_isHead c_backMany_150 c_deedMany_150 c_whole c_wellSum c_strongSum c_hash c_kindOf c_winds c_now_150 c_back_150 c_log_150) rr ww) : ∀ (n : Nat) (x4_58 : Int64) (x6_58 : Int32) (c_backMany_58 : Int32) (c_deedMany_58 : Int32) (c_now_58 : Nat → Int32) (c_back_58 : Nat → Int32) (c_log_58 : Nat → Int32), lp_X9_lots_58 y1 c_n c_kindOf c_winds k150 n x4_58 x6_58 c_backMany_58 c_deedMany_58 c_now_58 c_back_58 c_log_58 = some res → gg_G MD_X9_lots 58 [some (.ref 0), some (.int y1), none, none, some (.long x4_58), none, some (.int x6_58), none] [] (wd_X9_lots c_latest c_asked c_upper c_lower c_n c_readAt c_readMany c_readFood c_isHead c_backMany_58 c_deedMany_58 c_whole c_wellSum c_strongSum c_hash c_kindOf c_winds c_now_58 c_back_58 c_log_58) rr ww := by
  intro n
  induction n with
  | zero =>
    intro x4_58 x6_58 c_backMany_58 c_deedMany_58 c_now_58 c_back_58 c_log_58 h
    exact nomatch (show (none : Option β) = some res from h)
  | succ n ih =>
    intro x4_58 x6_58 c_backMany_58 c_deedMany_58 c_now_58 c_back_58 c_log_58 h
    rw [lp_X9_lots_58] at h
    refine gg_iload dX9_lots_58 rfl ?_
    refine gg_iload_n dX9_lots_60 rfl ?_
    refine gg_icmp_ge 150 dX9_lots_61 (by decide) (fun hc => ?_) (fun hc => ?_)
    · replace h := gg_th h hc
      refine gg_fg [true, false, false, false, false, false, false, false] [some (.ref 0), none, none, none, none, none, none, none] rfl ?_
      exact hk150 c_backMany_58 c_deedMany_58 c_now_58 c_back_58 c_log_58 h
    · replace h := gg_el h hc
      refine gg_ldc2 (48271 : Int64) dX9_lots_64 (gg_mem (by decide +kernel) rfl) ?_
      refine gg_lload dX9_lots_67 rfl ?_
      refine gg_lmul dX9_lots_69 ?_
      refine gg_ldc2 (2147483647 : Int64) dX9_lots_70 (gg_mem (by decide +kernel) rfl) ?_
      refine gg_lrem dX9_lots_73 (by decide) ?_
      refine gg_lstore [some (.ref 0), some (.int y1), none, none, some (.long (((48271 : Int64) * x4_58) - ((48271 : Int64) * x4_58) / (2147483647 : Int64) * (2147483647 : Int64))), none, some (.int x6_58), none] dX9_lots_74 rfl (Nat.le_of_ble_eq_true rfl) rfl ?_
      refine gg_lload dX9_lots_76 rfl ?_
      refine gg_ldc2 (8 : Int64) dX9_lots_78 (gg_mem (by decide +kernel) rfl) ?_
      refine gg_ldiv dX9_lots_81 (by decide) ?_
      refine gg_aload_n dX9_lots_82 rfl ?_
      refine gg_get 0 fl_X9_154 dX9_lots_83 rfl rfl ?_
      refine gg_i2l dX9_lots_86 ?_
      obtain ⟨hz87, h⟩ := gg_ck h
      refine gg_lrem dX9_lots_87 (gg_nz hz87) ?_
      refine gg_l2i dX9_lots_88 ?_
      refine gg_istore [some (.ref 0), some (.int y1), none, none, some (.long (((48271 : Int64) * x4_58) - ((48271 : Int64) * x4_58) / (2147483647 : Int64) * (2147483647 : Int64))), none, some (.int x6_58), some (.int ((((((48271 : Int64) * x4_58) - ((48271 : Int64) * x4_58) / (2147483647 : Int64) * (2147483647 : Int64)) / (8 : Int64)) - ((((48271 : Int64) * x4_58) - ((48271 : Int64) * x4_58) / (2147483647 : Int64) * (2147483647 : Int64)) / (8 : Int64)) / (c_n.toInt64) * (c_n.toInt64)).toInt32))] dX9_lots_89 rfl (Nat.le_of_ble_eq_true rfl) rfl ?_
      refine gg_aload_n dX9_lots_91 rfl ?_
      obtain ⟨v3_0, v3_1, hv3, h⟩ := gg_bd2 h
      refine gg_callV (gg_sg [0]) [0, 3, 5] (wd_X9_lots c_latest c_asked c_upper c_lower c_n c_readAt c_readMany c_readFood c_isHead c_backMany_58 v3_0 c_whole c_wellSum c_strongSum c_hash c_kindOf c_winds c_now_58 c_back_58 v3_1) 0 (C_X9_remember c_latest c_asked c_upper c_lower c_n c_readAt c_readMany c_readFood c_isHead c_backMany_58 c_deedMany_58 c_whole c_wellSum c_strongSum c_hash c_now_58 c_log_58 hv3) nV_X9_remember ml_X9_210 rfl rfl rfl rfl rfl rfl rfl rfl rfl rfl [1, 2, 4] 6 rfl rfl rfl rfl rfl ⟨Nat.le_of_ble_eq_true rfl, Nat.le_of_ble_eq_true rfl⟩ (Nat.le_of_ble_eq_true rfl) dX9_lots_92 [] rfl ?_
      refine gg_lload dX9_lots_95 rfl ?_
      refine gg_ldc2 (3 : Int64) dX9_lots_97 (gg_mem (by decide +kernel) rfl) ?_
      refine gg_lrem dX9_lots_100 (by decide) ?_
      refine gg_lconst (0 : Int64) dX9_lots_101 (by decide) ?_
      refine gg_lcmp dX9_lots_102 ?_
      obtain ⟨k144, hke144, h⟩ := gg_lte h
      have hk144 : ∀ (c_backMany_144 : Int32) (c_now_144 : Nat → Int32) (c_back_144 : Nat → Int32), k144 c_backMany_144 c_now_144 c_back_144 = some res → gg_G MD_X9_lots 144 [some (.ref 0), some (.int y1), none, none, some (.long (((48271 : Int64) * x4_58) - ((48271 : Int64) * x4_58) / (2147483647 : Int64) * (2147483647 : Int64))), none, some (.int x6_58), none] [] (wd_X9_lots c_latest c_asked c_upper c_lower c_n c_readAt c_readMany c_readFood c_isHead c_backMany_144 v3_0 c_whole c_wellSum c_strongSum c_hash c_kindOf c_winds c_now_144 c_back_144 v3_1) rr ww := by
        intro c_backMany_144 c_now_144 c_back_144 h
        subst hke144
        refine gg_iinc (x6_58 + (1 : Int32)) [some (.ref 0), some (.int y1), none, none, some (.long (((48271 : Int64) * x4_58) - ((48271 : Int64) * x4_58) / (2147483647 : Int64) * (2147483647 : Int64))), none, some (.int (x6_58 + (1 : Int32))), none] dX9_lots_144 rfl rfl rfl (Nat.le_of_ble_eq_true rfl) rfl ?_
        refine gg_goto 58 dX9_lots_147 (by decide) ?_
        exact ih (((48271 : Int64) * x4_58) - ((48271 : Int64) * x4_58) / (2147483647 : Int64) * (2147483647 : Int64)) (x6_58 + (1 : Int32)) c_backMany_144 v3_0 c_now_144 c_back_144 v3_1 h
      clear hke144
      obtain ⟨k136, hke136, h⟩ := gg_lte h
      have hk136 : k136 = some res → gg_G MD_X9_lots 136 [some (.ref 0), some (.int y1), none, none, some (.long (((48271 : Int64) * x4_58) - ((48271 : Int64) * x4_58) / (2147483647 : Int64) * (2147483647 : Int64))), none, some (.int x6_58), none] [] (wd_X9_lots c_latest c_asked c_upper c_lower c_n c_readAt c_readMany c_readFood c_isHead c_backMany_58 v3_0 c_whole c_wellSum c_strongSum c_hash c_kindOf c_winds c_now_58 c_back_58 v3_1) rr ww := by
        intro  h
        subst hke136
        refine gg_aload_n dX9_lots_136 rfl ?_
        refine gg_aload_n dX9_lots_137 rfl ?_
        refine gg_get 0 fl_X9_39 dX9_lots_138 rfl rfl ?_
        obtain ⟨v4_0, v4_1, v4_2, hv4, h⟩ := gg_bd3 h
        refine gg_callV (gg_sg [0, 9]) [0, 1, 2, 4, 3] (wd_X9_lots c_latest c_asked c_upper c_lower c_n c_readAt c_readMany c_readFood c_isHead v4_0 v3_0 c_whole c_wellSum c_strongSum c_hash c_kindOf c_winds v4_2 v4_1 v3_1) 0 (C_X9_passes_a26 c_latest c_asked c_upper c_lower c_n c_readAt c_readMany c_readFood c_isHead c_backMany_58 v3_0 c_whole c_wellSum c_strongSum c_hash c_kindOf c_winds c_back_58 c_now_58 hv4) nV_X9_passes_a26 ml_X9_213 rfl rfl rfl rfl rfl rfl rfl rfl rfl rfl [5] 6 rfl rfl rfl rfl rfl ⟨Nat.le_of_ble_eq_true rfl, Nat.le_of_ble_eq_true rfl⟩ (Nat.le_of_ble_eq_true rfl) dX9_lots_141 [] rfl ?_
        exact hk144 v4_0 v4_2 v4_1 h
      clear hke136
      refine gg_if_ne 136 dX9_lots_103 (by decide) (fun hc => ?_) (fun hc => ?_)
      · replace h := gg_el h hc
        refine gg_fg [true, true, false, false, true, false, true, false] [some (.ref 0), some (.int y1), none, none, some (.long (((48271 : Int64) * x4_58) - ((48271 : Int64) * x4_58) / (2147483647 : Int64) * (2147483647 : Int64))), none, some (.int x6_58), none] rfl ?_
        exact hk136 h
      · replace h := gg_th h hc
        refine gg_aload_n dX9_lots_106 rfl ?_
        refine gg_get 0 fl_X9_39 dX9_lots_107 rfl rfl ?_
        refine gg_iload dX9_lots_110 rfl ?_
        obtain ⟨v5, hv5, h⟩ := gg_bd h
        refine gg_callS (gg_sg [9]) [3] (wd_X9_lots c_latest c_asked c_upper c_lower c_n c_readAt c_readMany c_readFood c_isHead c_backMany_58 v3_0 c_whole c_wellSum c_strongSum c_hash c_kindOf c_winds c_now_58 c_back_58 v3_1) (C_X9_isThere_a26 ((((((48271 : Int64) * x4_58) - ((48271 : Int64) * x4_58) / (2147483647 : Int64) * (2147483647 : Int64)) / (8 : Int64)) - ((((48271 : Int64) * x4_58) - ((48271 : Int64) * x4_58) / (2147483647 : Int64) * (2147483647 : Int64)) / (8 : Int64)) / (c_n.toInt64) * (c_n.toInt64)).toInt32) c_now_58 hv5) nS_X9_isThere_a26 ml_X9_160 rfl rfl rfl rfl rfl rfl rfl [0, 1, 2, 4, 5] 6 rfl rfl rfl rfl rfl ⟨Nat.le_of_ble_eq_true rfl, Nat.le_of_ble_eq_true rfl⟩ (Nat.le_of_ble_eq_true rfl) dX9_lots_112 [.int v5] rfl ?_
        refine gg_if_eq 136 dX9_lots_115 (by decide) (fun hc => ?_) (fun hc => ?_)
        · replace h := gg_th h hc
          refine gg_fg [true, true, false, false, true, false, true, false] [some (.ref 0), some (.int y1), none, none, some (.long (((48271 : Int64) * x4_58) - ((48271 : Int64) * x4_58) / (2147483647 : Int64) * (2147483647 : Int64))), none, some (.int x6_58), none] rfl ?_
          exact hk136 h
        · replace h := gg_el h hc
          refine gg_aload_n dX9_lots_118 rfl ?_
          refine gg_get 0 fl_X9_39 dX9_lots_119 rfl rfl ?_
          refine gg_iconst (1 : Int32) dX9_lots_122 (by decide) ?_
          obtain ⟨hb123, h⟩ := gg_ck h
          refine gg_iald 3 dX9_lots_123 rfl hb123 ?_
          refine gg_if_le 136 dX9_lots_124 (by decide) (fun hc => ?_) (fun hc => ?_)
          · replace h := gg_th h hc
            refine gg_fg [true, true, false, false, true, false, true, false] [some (.ref 0), some (.int y1), none, none, some (.long (((48271 : Int64) * x4_58) - ((48271 : Int64) * x4_58) / (2147483647 : Int64) * (2147483647 : Int64))), none, some (.int x6_58), none] rfl ?_
            exact hk136 h
          · replace h := gg_el h hc
            refine gg_aload_n dX9_lots_127 rfl ?_
            refine gg_iload dX9_lots_128 rfl ?_
            obtain ⟨v6, hv6, h⟩ := gg_bd h
            refine gg_callV (gg_sg [0]) [0, 3] (wd_X9_lots c_latest c_asked c_upper c_lower c_n c_readAt c_readMany c_readFood c_isHead c_backMany_58 v3_0 c_whole c_wellSum c_strongSum c_hash c_kindOf c_winds v6 c_back_58 v3_1) 0 (C_X9_fed ((((((48271 : Int64) * x4_58) - ((48271 : Int64) * x4_58) / (2147483647 : Int64) * (2147483647 : Int64)) / (8 : Int64)) - ((((48271 : Int64) * x4_58) - ((48271 : Int64) * x4_58) / (2147483647 : Int64) * (2147483647 : Int64)) / (8 : Int64)) / (c_n.toInt64) * (c_n.toInt64)).toInt32) c_latest c_asked c_upper c_lower c_n c_readAt c_readMany c_readFood c_isHead c_backMany_58 v3_0 c_whole c_wellSum c_strongSum c_hash c_now_58 hv6) nV_X9_fed ml_X9_223 rfl rfl rfl rfl rfl rfl rfl rfl rfl rfl [1, 2, 4, 5] 6 rfl rfl rfl rfl rfl ⟨Nat.le_of_ble_eq_true rfl, Nat.le_of_ble_eq_true rfl⟩ (Nat.le_of_ble_eq_true rfl) dX9_lots_130 [] rfl ?_
            refine gg_goto 144 dX9_lots_133 (by decide) ?_
            refine gg_fg [true, true, false, false, true, false, true, false] [some (.ref 0), some (.int y1), none, none, some (.long (((48271 : Int64) * x4_58) - ((48271 : Int64) * x4_58) / (2147483647 : Int64) * (2147483647 : Int64))), none, some (.int x6_58), none] rfl ?_
            exact hk144 c_backMany_58 v6 c_back_58 h
set_option maxRecDepth 20000 in
set_option maxHeartbeats 8000000 in
theorem C_X9_lots (a0 : Int32) (a1 : Int32) (c_latest : Int32) (c_asked : Int32) (c_upper : Int64) (c_lower : Int64) (c_n : Int32) (c_readAt : Int32) (c_readMany : Int32) (c_readFood : Int32) (c_isHead : Int32) (c_backMany : Int32) (c_deedMany : Int32) (c_whole : Int64) (c_wellSum : Int64) (c_strongSum : Int64) (c_hash : Int64) (c_kindOf : Nat → Int32) (c_winds : Nat → Int32) (c_now : Nat → Int32) (c_back : Nat → Int32) (c_log : Nat → Int32) {r0 : Int32} {r1 : (Int32)} {r2 : (Int32)} {r3 : (Nat → Int32)} {r4 : (Nat → Int32)} {r5 : (Nat → Int32)} (h : f_X9_lots a0 a1 c_n c_backMany c_deedMany c_kindOf c_winds c_now c_back c_log = some (r0, r1, r2, r3, r4, r5)) : gg_C MD_X9_lots [.ref 0, .int a0, .int a1] (wd_X9_lots c_latest c_asked c_upper c_lower c_n c_readAt c_readMany c_readFood c_isHead c_backMany c_deedMany c_whole c_wellSum c_strongSum c_hash c_kindOf c_winds c_now c_back c_log) (some (.int r0)) (wd_X9_lots c_latest c_asked c_upper c_lower c_n c_readAt c_readMany c_readFood c_isHead r1 r2 c_whole c_wellSum c_strongSum c_hash c_kindOf c_winds r3 r4 r5) := by
  refine gg_ofG [some (.ref 0), some (.int a0), some (.int a1), none, none, none, none, none] (plainFor_of_name (by decide)) (Nat.le_of_ble_eq_true rfl) rfl ?_
  unfold f_X9_lots at h
  refine gg_aload_n dX9_lots_0 rfl ?_
  refine gg_iload_n dX9_lots_1 rfl ?_
  refine gg_iconst (1 : Int32) dX9_lots_2 (by decide) ?_
  refine gg_bipush (20 : Int32) dX9_lots_3 (by decide) ?_
  obtain ⟨v1, hv1, h⟩ := gg_bd h
  refine gg_callS (gg_sg []) [] (wd_X9_lots c_latest c_asked c_upper c_lower c_n c_readAt c_readMany c_readFood c_isHead c_backMany c_deedMany c_whole c_wellSum c_strongSum c_hash c_kindOf c_winds c_now c_back c_log) (C_X9_in a0 (1 : Int32) (20 : Int32) hv1) nS_X9_in ml_X9_92 rfl rfl rfl rfl rfl rfl rfl [0, 1, 2, 3, 4, 5] 6 rfl rfl rfl rfl rfl ⟨Nat.le_of_ble_eq_true rfl, Nat.le_of_ble_eq_true rfl⟩ (Nat.le_of_ble_eq_true rfl) dX9_lots_5 [.int v1, .ref 0] rfl ?_
  obtain ⟨k27, hke27, h⟩ := gg_lte h
  have hk27 : ∀ (s1_27 : Int32), k27 s1_27 = some (r0, r1, r2, r3, r4, r5) → gg_G MD_X9_lots 27 [some (.ref 0), some (.int a0), some (.int a1), none, none, none, none, none] [.int s1_27, .ref 0] (wd_X9_lots c_latest c_asked c_upper c_lower c_n c_readAt c_readMany c_readFood c_isHead c_backMany c_deedMany c_whole c_wellSum c_strongSum c_hash c_kindOf c_winds c_now c_back c_log) (some (.int r0)) (wd_X9_lots c_latest c_asked c_upper c_lower c_n c_readAt c_readMany c_readFood c_isHead r1 r2 c_whole c_wellSum c_strongSum c_hash c_kindOf c_winds r3 r4 r5) := by
    intro s1_27 h
    subst hke27
    obtain ⟨v2, hv2, h⟩ := gg_bd h
    refine gg_callV (gg_sg [0]) [0] (wd_X9_lots c_latest c_asked c_upper c_lower c_n c_readAt c_readMany c_readFood c_isHead c_backMany c_deedMany c_whole c_wellSum c_strongSum c_hash c_kindOf c_winds c_now c_back c_log) 0 (C_X9_need s1_27 c_latest c_asked c_upper c_lower c_n c_readAt c_readMany c_readFood c_isHead c_backMany c_deedMany c_whole c_wellSum c_strongSum c_hash hv2) nV_X9_need ml_X9_230 rfl rfl rfl rfl rfl rfl rfl rfl rfl rfl [1, 2, 3, 4, 5] 6 rfl rfl rfl rfl rfl ⟨Nat.le_of_ble_eq_true rfl, Nat.le_of_ble_eq_true rfl⟩ (Nat.le_of_ble_eq_true rfl) dX9_lots_27 [.int v2] rfl ?_
    refine gg_istore_n [some (.ref 0), some (.int a0), some (.int a1), some (.int v2), none, none, none, none] dX9_lots_30 rfl (Nat.le_of_ble_eq_true rfl) rfl ?_
    refine gg_iload_n dX9_lots_31 rfl ?_
    refine gg_if_ge 37 dX9_lots_32 (by decide) (fun hc => ?_) (fun hc => ?_)
    · replace h := gg_th h hc
      refine gg_aload_n dX9_lots_37 rfl ?_
      refine gg_get 0 fl_X9_157 dX9_lots_38 rfl rfl ?_
      refine gg_iload_n dX9_lots_41 rfl ?_
      refine gg_iadd dX9_lots_42 ?_
      refine gg_bipush (40 : Int32) dX9_lots_43 (by decide) ?_
      refine gg_icmp_le 51 dX9_lots_45 (by decide) (fun hc => ?_) (fun hc => ?_)
      · replace h := gg_th h hc
        refine gg_iload_n dX9_lots_51 rfl ?_
        refine gg_i2l dX9_lots_52 ?_
        refine gg_lstore [some (.ref 0), some (.int a0), some (.int a1), some (.int v2), some (.long (a1.toInt64)), none, none, none] dX9_lots_53 rfl (Nat.le_of_ble_eq_true rfl) rfl ?_
        refine gg_iconst (0 : Int32) dX9_lots_55 (by decide) ?_
        refine gg_istore [some (.ref 0), some (.int a0), some (.int a1), some (.int v2), some (.long (a1.toInt64)), none, some (.int (0 : Int32)), none] dX9_lots_56 rfl (Nat.le_of_ble_eq_true rfl) rfl ?_
        refine gg_fg [true, true, false, false, true, false, true, false] [some (.ref 0), some (.int a0), none, none, some (.long (a1.toInt64)), none, some (.int (0 : Int32)), none] rfl ?_
        refine lq_X9_lots_58 a0 c_latest c_asked c_upper c_lower c_n c_readAt c_readMany c_readFood c_isHead c_whole c_wellSum c_strongSum c_hash c_kindOf c_winds _ ?_ gg_fuel (a1.toInt64) (0 : Int32) c_backMany c_deedMany c_now c_back c_log h
        intro c_backMany_150 c_deedMany_150 c_now_150 c_back_150 c_log_150 h
        refine gg_aload_n dX9_lots_150 rfl ?_
        refine gg_aload_n dX9_lots_151 rfl ?_
        refine gg_get 0 fl_X9_39 dX9_lots_152 rfl rfl ?_
        obtain ⟨v7, hv7, h⟩ := gg_bd h
        refine gg_callV (gg_sg [0, 9]) [0, 3] (wd_X9_lots c_latest c_asked c_upper c_lower c_n c_readAt c_readMany c_readFood c_isHead c_backMany_150 c_deedMany_150 c_whole c_wellSum c_strongSum c_hash c_kindOf c_winds c_now_150 c_back_150 c_log_150) 0 (C_X9_there_a26 c_latest c_asked c_upper c_lower c_n c_readAt c_readMany c_readFood c_isHead c_backMany_150 c_deedMany_150 c_whole c_wellSum c_strongSum c_hash c_now_150 hv7) nV_X9_there_a26 ml_X9_217 rfl rfl rfl rfl rfl rfl rfl rfl rfl rfl [1, 2, 4, 5] 6 rfl rfl rfl rfl rfl ⟨Nat.le_of_ble_eq_true rfl, Nat.le_of_ble_eq_true rfl⟩ (Nat.le_of_ble_eq_true rfl) dX9_lots_155 [.int v7] rfl ?_
        obtain ⟨v8, hv8, h⟩ := gg_bd h
        refine gg_callS (gg_sg []) [] (wd_X9_lots c_latest c_asked c_upper c_lower c_n c_readAt c_readMany c_readFood c_isHead c_backMany_150 c_deedMany_150 c_whole c_wellSum c_strongSum c_hash c_kindOf c_winds c_now_150 c_back_150 c_log_150) (C_X9_bits v7 hv8) nS_X9_bits ml_X9_220 rfl rfl rfl rfl rfl rfl rfl [0, 1, 2, 3, 4, 5] 6 rfl rfl rfl rfl rfl ⟨Nat.le_of_ble_eq_true rfl, Nat.le_of_ble_eq_true rfl⟩ (Nat.le_of_ble_eq_true rfl) dX9_lots_158 [.int v8] rfl ?_
        cases h
        exact gg_iret dX9_lots_161 rfl
      · replace h := gg_el h hc
        refine gg_bipush (-2 : Int32) dX9_lots_48 (by decide) ?_
        cases h
        exact gg_iret dX9_lots_50 rfl
    · replace h := gg_el h hc
      refine gg_iload_n dX9_lots_35 rfl ?_
      cases h
      exact gg_iret dX9_lots_36 rfl
  clear hke27
  obtain ⟨k26, hke26, h⟩ := gg_lte h
  have hk26 : k26 = some (r0, r1, r2, r3, r4, r5) → gg_G MD_X9_lots 26 [some (.ref 0), some (.int a0), some (.int a1), none, none, none, none, none] [.ref 0] (wd_X9_lots c_latest c_asked c_upper c_lower c_n c_readAt c_readMany c_readFood c_isHead c_backMany c_deedMany c_whole c_wellSum c_strongSum c_hash c_kindOf c_winds c_now c_back c_log) (some (.int r0)) (wd_X9_lots c_latest c_asked c_upper c_lower c_n c_readAt c_readMany c_readFood c_isHead r1 r2 c_whole c_wellSum c_strongSum c_hash c_kindOf c_winds r3 r4 r5) := by
    intro  h
    subst hke26
    refine gg_iconst (0 : Int32) dX9_lots_26 (by decide) ?_
    exact hk27 (0 : Int32) h
  clear hke26
  refine gg_if_eq 26 dX9_lots_8 (by decide) (fun hc => ?_) (fun hc => ?_)
  · replace h := gg_th h hc
    exact hk26 h
  · replace h := gg_el h hc
    refine gg_iload_n dX9_lots_11 rfl ?_
    refine gg_iconst (1 : Int32) dX9_lots_12 (by decide) ?_
    refine gg_ldcw (2147483646 : Int32) dX9_lots_13 (gg_mem (by decide +kernel) rfl) ?_
    obtain ⟨v9, hv9, h⟩ := gg_bd h
    refine gg_callS (gg_sg []) [] (wd_X9_lots c_latest c_asked c_upper c_lower c_n c_readAt c_readMany c_readFood c_isHead c_backMany c_deedMany c_whole c_wellSum c_strongSum c_hash c_kindOf c_winds c_now c_back c_log) (C_X9_in a1 (1 : Int32) (2147483646 : Int32) hv9) nS_X9_in ml_X9_92 rfl rfl rfl rfl rfl rfl rfl [0, 1, 2, 3, 4, 5] 6 rfl rfl rfl rfl rfl ⟨Nat.le_of_ble_eq_true rfl, Nat.le_of_ble_eq_true rfl⟩ (Nat.le_of_ble_eq_true rfl) dX9_lots_16 [.int v9, .ref 0] rfl ?_
    refine gg_if_eq 26 dX9_lots_19 (by decide) (fun hc => ?_) (fun hc => ?_)
    · replace h := gg_th h hc
      exact hk26 h
    · replace h := gg_el h hc
      refine gg_iconst (1 : Int32) dX9_lots_22 (by decide) ?_
      refine gg_goto 27 dX9_lots_23 (by decide) ?_
      exact hk27 (1 : Int32) h
def wd_X9_strongOf (c_latest : Int32) (c_asked : Int32) (c_upper : Int64) (c_lower : Int64) (c_n : Int32) (c_readAt : Int32) (c_readMany : Int32) (c_readFood : Int32) (c_isHead : Int32) (c_backMany : Int32) (c_deedMany : Int32) (c_whole : Int64) (c_wellSum : Int64) (c_strongSum : Int64) (c_hash : Int64) (c_now : Nat → Int32) : va_W := [(0, .inr (8, [.int c_latest, .ref 1, .int c_asked, .long c_upper, .long c_lower, .ref 2, .ref 3, .ref 4, .ref 5, .ref 6, .int c_n, .ref 7, .ref 8, .ref 9, .ref 10, .int c_readAt, .int c_readMany, .int c_readFood, .int c_isHead, .ref 11, .ref 12, .ref 13, .int c_backMany, .int c_deedMany, .ref 14, .ref 15, .ref 16, .ref 17, .ref 18, .ref 19, .ref 20, .ref 21, .ref 22, .ref 23, .ref 24, .long c_whole, .long c_wellSum, .long c_strongSum, .long c_hash])), (9, .inl (0, 26, .inl c_now))]
def MD_X9_strongOf : gg_M := (yX9_strongOf, cX9_strongOf, 3, some .int, 1, 21)
theorem nV_X9_strongOf : gg_nV MD_X9_strongOf 0 := ⟨⟨gg_mem (by decide +kernel) rfl, gg_mem cw_X9_strongOf rfl, by decide, by decide, by decide +kernel⟩, gg_mem (by decide +kernel) rfl, gg_mem (by decide +kernel) rfl⟩
def lp_X9_strongOf_4 {β : Type} (c_n : Int32) (c_now : Nat → Int32) (k45 : (Int32) → Option β) : Nat → (Int32) → (Int32) → Option β
  | 0, _, _ => none
  | n + 1, x1_4, x2_4 => (if c_n ≤ x2_4 then (k45 x1_4) else (f_X9_isThere_a26 x2_4 c_now).bind (fun v1 => gg_lt (fun (s1_37 : Int32) => (lp_X9_strongOf_4 c_n c_now k45 n (x1_4 + s1_37) (x2_4 + (1 : Int32)))) (fun k37 => (if v1 = (0 : Int32) then (k37 (0 : Int32)) else gg_chk (gg_in ((8 : Int32) + x2_4) 26) ((k37 (c_now ((8 : Int32) + x2_4).toNatClampNeg)))))))
def f_X9_strongOf  (c_n : Int32) (c_now : Nat → Int32) : Option (Int32) := (lp_X9_strongOf_4 c_n c_now (fun (x1_45 : Int32) => (some x1_45)) gg_fuel (0 : Int32) (0 : Int32))
set_option maxRecDepth 20000 in
set_option maxHeartbeats 4000000 in
theorem lq_X9_strongOf_4 {β : Type} {res : β} {rr : Option Value} {ww : va_W} (c_latest : Int32) (c_asked : Int32) (c_upper : Int64) (c_lower : Int64) (c_n : Int32) (c_readAt : Int32) (c_readMany : Int32) (c_readFood : Int32) (c_isHead : Int32) (c_backMany : Int32) (c_deedMany : Int32) (c_whole : Int64) (c_wellSum : Int64) (c_strongSum : Int64) (c_hash : Int64) (c_now : Nat → Int32) (k45 : (Int32) → Option β) (hk45 : ∀ (x1_45 : Int32), k45 x1_45 = some res → gg_G MD_X9_strongOf 45 [none, some (.int x1_45), none] [] (wd_X9_strongOf c_latest c_asked c_upper c_lower c_n c_readAt c_readMany c_readFood c_isHead c_backMany c_deedMany c_whole c_wellSum c_strongSum c_hash c_now) rr ww) : ∀ (n : Nat) (x1_4 : Int32) (x2_4 : Int32), lp_X9_strongOf_4 c_n c_now k45 n x1_4 x2_4 = some res → gg_G MD_X9_strongOf 4 [some (.ref 0), some (.int x1_4), some (.int x2_4)] [] (wd_X9_strongOf c_latest c_asked c_upper c_lower c_n c_readAt c_readMany c_readFood c_isHead c_backMany c_deedMany c_whole c_wellSum c_strongSum c_hash c_now) rr ww := by
  intro n
  induction n with
  | zero =>
    intro x1_4 x2_4 h
    exact nomatch (show (none : Option β) = some res from h)
  | succ n ih =>
    intro x1_4 x2_4 h
    rw [lp_X9_strongOf_4] at h
    refine gg_iload_n dX9_strongOf_4 rfl ?_
    refine gg_aload_n dX9_strongOf_5 rfl ?_
    refine gg_get 0 fl_X9_154 dX9_strongOf_6 rfl rfl ?_
    refine gg_icmp_ge 45 dX9_strongOf_9 (by decide) (fun hc => ?_) (fun hc => ?_)
    · replace h := gg_th h hc
      refine gg_fg [false, true, false] [none, some (.int x1_4), none] rfl ?_
      exact hk45 x1_4 h
    · replace h := gg_el h hc
      refine gg_iload_n dX9_strongOf_12 rfl ?_
      refine gg_aload_n dX9_strongOf_13 rfl ?_
      refine gg_get 0 fl_X9_39 dX9_strongOf_14 rfl rfl ?_
      refine gg_iload_n dX9_strongOf_17 rfl ?_
      obtain ⟨v1, hv1, h⟩ := gg_bd h
      refine gg_callS (gg_sg [9]) [1] (wd_X9_strongOf c_latest c_asked c_upper c_lower c_n c_readAt c_readMany c_readFood c_isHead c_backMany c_deedMany c_whole c_wellSum c_strongSum c_hash c_now) (C_X9_isThere_a26 x2_4 c_now hv1) nS_X9_isThere_a26 ml_X9_160 rfl rfl rfl rfl rfl rfl rfl [0] 2 rfl rfl rfl rfl rfl ⟨Nat.le_of_ble_eq_true rfl, Nat.le_of_ble_eq_true rfl⟩ (Nat.le_of_ble_eq_true rfl) dX9_strongOf_18 [.int v1, .int x1_4] rfl ?_
      obtain ⟨k37, hke37, h⟩ := gg_lte h
      have hk37 : ∀ (s1_37 : Int32), k37 s1_37 = some res → gg_G MD_X9_strongOf 37 [some (.ref 0), none, some (.int x2_4)] [.int s1_37, .int x1_4] (wd_X9_strongOf c_latest c_asked c_upper c_lower c_n c_readAt c_readMany c_readFood c_isHead c_backMany c_deedMany c_whole c_wellSum c_strongSum c_hash c_now) rr ww := by
        intro s1_37 h
        subst hke37
        refine gg_iadd dX9_strongOf_37 ?_
        refine gg_istore_n [some (.ref 0), some (.int (x1_4 + s1_37)), some (.int x2_4)] dX9_strongOf_38 rfl (Nat.le_of_ble_eq_true rfl) rfl ?_
        refine gg_iinc (x2_4 + (1 : Int32)) [some (.ref 0), some (.int (x1_4 + s1_37)), some (.int (x2_4 + (1 : Int32)))] dX9_strongOf_39 rfl rfl rfl (Nat.le_of_ble_eq_true rfl) rfl ?_
        refine gg_goto 4 dX9_strongOf_42 (by decide) ?_
        exact ih (x1_4 + s1_37) (x2_4 + (1 : Int32)) h
      clear hke37
      refine gg_if_eq 36 dX9_strongOf_21 (by decide) (fun hc => ?_) (fun hc => ?_)
      · replace h := gg_th h hc
        refine gg_iconst (0 : Int32) dX9_strongOf_36 (by decide) ?_
        refine gg_fg [true, false, true] [some (.ref 0), none, some (.int x2_4)] rfl ?_
        exact hk37 (0 : Int32) h
      · replace h := gg_el h hc
        refine gg_aload_n dX9_strongOf_24 rfl ?_
        refine gg_get 0 fl_X9_39 dX9_strongOf_25 rfl rfl ?_
        refine gg_bipush (8 : Int32) dX9_strongOf_28 (by decide) ?_
        refine gg_iload_n dX9_strongOf_30 rfl ?_
        refine gg_iadd dX9_strongOf_31 ?_
        obtain ⟨hb32, h⟩ := gg_ck h
        refine gg_iald 1 dX9_strongOf_32 rfl hb32 ?_
        refine gg_goto 37 dX9_strongOf_33 (by decide) ?_
        refine gg_fg [true, false, true] [some (.ref 0), none, some (.int x2_4)] rfl ?_
        exact hk37 (c_now ((8 : Int32) + x2_4).toNatClampNeg) h
set_option maxRecDepth 20000 in
set_option maxHeartbeats 8000000 in
theorem C_X9_strongOf  (c_latest : Int32) (c_asked : Int32) (c_upper : Int64) (c_lower : Int64) (c_n : Int32) (c_readAt : Int32) (c_readMany : Int32) (c_readFood : Int32) (c_isHead : Int32) (c_backMany : Int32) (c_deedMany : Int32) (c_whole : Int64) (c_wellSum : Int64) (c_strongSum : Int64) (c_hash : Int64) (c_now : Nat → Int32) {res : Int32} (h : f_X9_strongOf c_n c_now = some res) : gg_C MD_X9_strongOf [.ref 0] (wd_X9_strongOf c_latest c_asked c_upper c_lower c_n c_readAt c_readMany c_readFood c_isHead c_backMany c_deedMany c_whole c_wellSum c_strongSum c_hash c_now) (some (.int res)) (wd_X9_strongOf c_latest c_asked c_upper c_lower c_n c_readAt c_readMany c_readFood c_isHead c_backMany c_deedMany c_whole c_wellSum c_strongSum c_hash c_now) := by
  refine gg_ofG [some (.ref 0), none, none] (plainFor_of_name (by decide)) (Nat.le_of_ble_eq_true rfl) rfl ?_
  unfold f_X9_strongOf at h
  refine gg_iconst (0 : Int32) dX9_strongOf_0 (by decide) ?_
  refine gg_istore_n [some (.ref 0), some (.int (0 : Int32)), none] dX9_strongOf_1 rfl (Nat.le_of_ble_eq_true rfl) rfl ?_
  refine gg_iconst (0 : Int32) dX9_strongOf_2 (by decide) ?_
  refine gg_istore_n [some (.ref 0), some (.int (0 : Int32)), some (.int (0 : Int32))] dX9_strongOf_3 rfl (Nat.le_of_ble_eq_true rfl) rfl ?_
  refine lq_X9_strongOf_4 c_latest c_asked c_upper c_lower c_n c_readAt c_readMany c_readFood c_isHead c_backMany c_deedMany c_whole c_wellSum c_strongSum c_hash c_now _ ?_ gg_fuel (0 : Int32) (0 : Int32) h
  intro x1_45 h
  refine gg_iload_n dX9_strongOf_45 rfl ?_
  cases h
  exact gg_iret dX9_strongOf_46 rfl
def wd_X9_homeOf (c_latest : Int32) (c_asked : Int32) (c_upper : Int64) (c_lower : Int64) (c_n : Int32) (c_readAt : Int32) (c_readMany : Int32) (c_readFood : Int32) (c_isHead : Int32) (c_backMany : Int32) (c_deedMany : Int32) (c_whole : Int64) (c_wellSum : Int64) (c_strongSum : Int64) (c_hash : Int64) (c_now : Nat → Int32) : va_W := [(0, .inr (8, [.int c_latest, .ref 1, .int c_asked, .long c_upper, .long c_lower, .ref 2, .ref 3, .ref 4, .ref 5, .ref 6, .int c_n, .ref 7, .ref 8, .ref 9, .ref 10, .int c_readAt, .int c_readMany, .int c_readFood, .int c_isHead, .ref 11, .ref 12, .ref 13, .int c_backMany, .int c_deedMany, .ref 14, .ref 15, .ref 16, .ref 17, .ref 18, .ref 19, .ref 20, .ref 21, .ref 22, .ref 23, .ref 24, .long c_whole, .long c_wellSum, .long c_strongSum, .long c_hash])), (9, .inl (0, 26, .inl c_now))]
def MD_X9_homeOf : gg_M := (yX9_homeOf, cX9_homeOf, 3, some .int, 0, 0)
theorem nV_X9_homeOf : gg_nV MD_X9_homeOf 0 := ⟨⟨gg_mem (by decide +kernel) rfl, gg_mem cw_X9_homeOf rfl, by decide, by decide, by decide +kernel⟩, gg_mem (by decide +kernel) rfl, gg_mem (by decide +kernel) rfl⟩
def lp_X9_homeOf_4 {β : Type} (c_n : Int32) (c_now : Nat → Int32) (k48 : (Int32) → Option β) : Nat → (Int32) → (Int32) → Option β
  | 0, _, _ => none
  | n + 1, x1_4, x2_4 => (if c_n ≤ x2_4 then (k48 x1_4) else gg_chk (gg_in ((20 : Int32) + x2_4) 26) (gg_chk (gg_in ((2 : Int32) + x2_4) 26) (gg_lt (fun (s1_40 : Int32) => (lp_X9_homeOf_4 c_n c_now k48 n (x1_4 ||| s1_40) (x2_4 + (1 : Int32)))) (fun k40 => (if (c_now ((20 : Int32) + x2_4).toNatClampNeg) = (c_now ((2 : Int32) + x2_4).toNatClampNeg) then (k40 ((1 : Int32) <<< (x2_4 &&& 31))) else (k40 (0 : Int32)))))))
def f_X9_homeOf  (c_n : Int32) (c_now : Nat → Int32) : Option (Int32) := (lp_X9_homeOf_4 c_n c_now (fun (x1_48 : Int32) => (some x1_48)) gg_fuel (0 : Int32) (0 : Int32))
set_option maxRecDepth 20000 in
set_option maxHeartbeats 4000000 in
theorem lq_X9_homeOf_4 {β : Type} {res : β} {rr : Option Value} {ww : va_W} (c_latest : Int32) (c_asked : Int32) (c_upper : Int64) (c_lower : Int64) (c_n : Int32) (c_readAt : Int32) (c_readMany : Int32) (c_readFood : Int32) (c_isHead : Int32) (c_backMany : Int32) (c_deedMany : Int32) (c_whole : Int64) (c_wellSum : Int64) (c_strongSum : Int64) (c_hash : Int64) (c_now : Nat → Int32) (k48 : (Int32) → Option β) (hk48 : ∀ (x1_48 : Int32), k48 x1_48 = some res → gg_G MD_X9_homeOf 48 [none, some (.int x1_48), none] [] (wd_X9_homeOf c_latest c_asked c_upper c_lower c_n c_readAt c_readMany c_readFood c_isHead c_backMany c_deedMany c_whole c_wellSum c_strongSum c_hash c_now) rr ww) : ∀ (n : Nat) (x1_4 : Int32) (x2_4 : Int32), lp_X9_homeOf_4 c_n c_now k48 n x1_4 x2_4 = some res → gg_G MD_X9_homeOf 4 [some (.ref 0), some (.int x1_4), some (.int x2_4)] [] (wd_X9_homeOf c_latest c_asked c_upper c_lower c_n c_readAt c_readMany c_readFood c_isHead c_backMany c_deedMany c_whole c_wellSum c_strongSum c_hash c_now) rr ww := by
  intro n
  induction n with
  | zero =>
    intro x1_4 x2_4 h
    exact nomatch (show (none : Option β) = some res from h)
  | succ n ih =>
    intro x1_4 x2_4 h
    rw [lp_X9_homeOf_4] at h
    refine gg_iload_n dX9_homeOf_4 rfl ?_
    refine gg_aload_n dX9_homeOf_5 rfl ?_
    refine gg_get 0 fl_X9_154 dX9_homeOf_6 rfl rfl ?_
    refine gg_icmp_ge 48 dX9_homeOf_9 (by decide) (fun hc => ?_) (fun hc => ?_)
    · replace h := gg_th h hc
      refine gg_fg [false, true, false] [none, some (.int x1_4), none] rfl ?_
      exact hk48 x1_4 h
    · replace h := gg_el h hc
      refine gg_iload_n dX9_homeOf_12 rfl ?_
      refine gg_aload_n dX9_homeOf_13 rfl ?_
      refine gg_get 0 fl_X9_39 dX9_homeOf_14 rfl rfl ?_
      refine gg_bipush (20 : Int32) dX9_homeOf_17 (by decide) ?_
      refine gg_iload_n dX9_homeOf_19 rfl ?_
      refine gg_iadd dX9_homeOf_20 ?_
      obtain ⟨hb21, h⟩ := gg_ck h
      refine gg_iald 1 dX9_homeOf_21 rfl hb21 ?_
      refine gg_aload_n dX9_homeOf_22 rfl ?_
      refine gg_get 0 fl_X9_39 dX9_homeOf_23 rfl rfl ?_
      refine gg_iconst (2 : Int32) dX9_homeOf_26 (by decide) ?_
      refine gg_iload_n dX9_homeOf_27 rfl ?_
      refine gg_iadd dX9_homeOf_28 ?_
      obtain ⟨hb29, h⟩ := gg_ck h
      refine gg_iald 1 dX9_homeOf_29 rfl hb29 ?_
      obtain ⟨k40, hke40, h⟩ := gg_lte h
      have hk40 : ∀ (s1_40 : Int32), k40 s1_40 = some res → gg_G MD_X9_homeOf 40 [some (.ref 0), none, some (.int x2_4)] [.int s1_40, .int x1_4] (wd_X9_homeOf c_latest c_asked c_upper c_lower c_n c_readAt c_readMany c_readFood c_isHead c_backMany c_deedMany c_whole c_wellSum c_strongSum c_hash c_now) rr ww := by
        intro s1_40 h
        subst hke40
        refine gg_ior dX9_homeOf_40 ?_
        refine gg_istore_n [some (.ref 0), some (.int (x1_4 ||| s1_40)), some (.int x2_4)] dX9_homeOf_41 rfl (Nat.le_of_ble_eq_true rfl) rfl ?_
        refine gg_iinc (x2_4 + (1 : Int32)) [some (.ref 0), some (.int (x1_4 ||| s1_40)), some (.int (x2_4 + (1 : Int32)))] dX9_homeOf_42 rfl rfl rfl (Nat.le_of_ble_eq_true rfl) rfl ?_
        refine gg_goto 4 dX9_homeOf_45 (by decide) ?_
        exact ih (x1_4 ||| s1_40) (x2_4 + (1 : Int32)) h
      clear hke40
      refine gg_icmp_ne 39 dX9_homeOf_30 (by decide) (fun hc => ?_) (fun hc => ?_)
      · replace h := gg_el h hc
        refine gg_iconst (0 : Int32) dX9_homeOf_39 (by decide) ?_
        refine gg_fg [true, false, true] [some (.ref 0), none, some (.int x2_4)] rfl ?_
        exact hk40 (0 : Int32) h
      · replace h := gg_th h hc
        refine gg_iconst (1 : Int32) dX9_homeOf_33 (by decide) ?_
        refine gg_iload_n dX9_homeOf_34 rfl ?_
        refine gg_ishl dX9_homeOf_35 ?_
        refine gg_goto 40 dX9_homeOf_36 (by decide) ?_
        refine gg_fg [true, false, true] [some (.ref 0), none, some (.int x2_4)] rfl ?_
        exact hk40 ((1 : Int32) <<< (x2_4 &&& 31)) h
set_option maxRecDepth 20000 in
set_option maxHeartbeats 8000000 in
theorem C_X9_homeOf  (c_latest : Int32) (c_asked : Int32) (c_upper : Int64) (c_lower : Int64) (c_n : Int32) (c_readAt : Int32) (c_readMany : Int32) (c_readFood : Int32) (c_isHead : Int32) (c_backMany : Int32) (c_deedMany : Int32) (c_whole : Int64) (c_wellSum : Int64) (c_strongSum : Int64) (c_hash : Int64) (c_now : Nat → Int32) {res : Int32} (h : f_X9_homeOf c_n c_now = some res) : gg_C MD_X9_homeOf [.ref 0] (wd_X9_homeOf c_latest c_asked c_upper c_lower c_n c_readAt c_readMany c_readFood c_isHead c_backMany c_deedMany c_whole c_wellSum c_strongSum c_hash c_now) (some (.int res)) (wd_X9_homeOf c_latest c_asked c_upper c_lower c_n c_readAt c_readMany c_readFood c_isHead c_backMany c_deedMany c_whole c_wellSum c_strongSum c_hash c_now) := by
  refine gg_ofG [some (.ref 0), none, none] (plainFor_of_name (by decide)) (Nat.le_of_ble_eq_true rfl) rfl ?_
  unfold f_X9_homeOf at h
  refine gg_iconst (0 : Int32) dX9_homeOf_0 (by decide) ?_
  refine gg_istore_n [some (.ref 0), some (.int (0 : Int32)), none] dX9_homeOf_1 rfl (Nat.le_of_ble_eq_true rfl) rfl ?_
  refine gg_iconst (0 : Int32) dX9_homeOf_2 (by decide) ?_
  refine gg_istore_n [some (.ref 0), some (.int (0 : Int32)), some (.int (0 : Int32))] dX9_homeOf_3 rfl (Nat.le_of_ble_eq_true rfl) rfl ?_
  refine lq_X9_homeOf_4 c_latest c_asked c_upper c_lower c_n c_readAt c_readMany c_readFood c_isHead c_backMany c_deedMany c_whole c_wellSum c_strongSum c_hash c_now _ ?_ gg_fuel (0 : Int32) (0 : Int32) h
  intro x1_48 h
  refine gg_iload_n dX9_homeOf_48 rfl ?_
  cases h
  exact gg_iret dX9_homeOf_49 rfl
def wd_X9_counted (c_latest : Int32) (c_asked : Int32) (c_upper : Int64) (c_lower : Int64) (c_n : Int32) (c_readAt : Int32) (c_readMany : Int32) (c_readFood : Int32) (c_isHead : Int32) (c_backMany : Int32) (c_deedMany : Int32) (c_whole : Int64) (c_wellSum : Int64) (c_strongSum : Int64) (c_hash : Int64) (c_sizes : Nat → Int32) (c_textSizes : Nat → Int32) (c_kindOf : Nat → Int32) (c_now : Nat → Int32) (c_isKept : Nat → Int32) : va_W := [(0, .inr (8, [.int c_latest, .ref 1, .int c_asked, .long c_upper, .long c_lower, .ref 2, .ref 3, .ref 4, .ref 5, .ref 6, .int c_n, .ref 7, .ref 8, .ref 9, .ref 10, .int c_readAt, .int c_readMany, .int c_readFood, .int c_isHead, .ref 11, .ref 12, .ref 13, .int c_backMany, .int c_deedMany, .ref 14, .ref 15, .ref 16, .ref 17, .ref 18, .ref 19, .ref 20, .ref 21, .ref 22, .ref 23, .ref 24, .long c_whole, .long c_wellSum, .long c_strongSum, .long c_hash])), (2, .inl (0, 6, .inl c_sizes)), (5, .inl (0, 4, .inl c_textSizes)), (7, .inl (0, 6, .inl c_kindOf)), (9, .inl (0, 26, .inl c_now)), (15, .inl (2, 3, .inl c_isKept))]
def MD_X9_counted : gg_M := (yX9_counted, cX9_counted, 4, some .int, 2, 44)
theorem nV_X9_counted : gg_nV MD_X9_counted 1 := ⟨⟨gg_mem (by decide +kernel) rfl, gg_mem cw_X9_counted rfl, by decide, by decide, by decide +kernel⟩, gg_mem (by decide +kernel) rfl, gg_mem (by decide +kernel) rfl⟩
def lp_X9_counted_4 {β : Type} (y1 : Int32) (c_n : Int32) (c_kindOf : Nat → Int32) (k52 : (Int32) → Option β) : Nat → (Int32) → (Int32) → Option β
  | 0, _, _ => none
  | n + 1, x2_4, x3_4 => (if c_n ≤ x3_4 then (k52 x2_4) else gg_lt (fun (s1_44 : Int32) => (lp_X9_counted_4 y1 c_n c_kindOf k52 n (x2_4 + s1_44) (x3_4 + (1 : Int32)))) (fun k44 => gg_lt ((k44 (0 : Int32))) (fun k43 => (if y1 = (7 : Int32) then gg_chk (gg_in x3_4 6) (gg_lt ((k44 (1 : Int32))) (fun k39 => (if (c_kindOf x3_4.toNatClampNeg) = (3 : Int32) then k39 else gg_chk (gg_in x3_4 6) ((if (c_kindOf x3_4.toNatClampNeg) = (5 : Int32) then k39 else k43))))) else k43))))
def lp_X9_counted_54 {β : Type} (y1 : Int32) (c_sizes : Nat → Int32) (k89 : (Int32) → Option β) : Nat → (Int32) → (Int32) → Option β
  | 0, _, _ => none
  | n + 1, x2_54, x3_54 => (if (6 : Int32) ≤ x3_54 then (k89 x2_54) else gg_lt (fun (s1_81 : Int32) => (lp_X9_counted_54 y1 c_sizes k89 n (x2_54 + s1_81) (x3_54 + (1 : Int32)))) (fun k81 => gg_lt ((k81 (0 : Int32))) (fun k80 => (if y1 = (8 : Int32) then gg_chk (gg_in x3_54 6) ((if (c_sizes x3_54.toNatClampNeg) < (0 : Int32) then k80 else (k81 (1 : Int32)))) else k80))))
def lp_X9_counted_91 {β : Type} (y1 : Int32) (c_textSizes : Nat → Int32) (k125 : (Int32) → Option β) : Nat → (Int32) → (Int32) → Option β
  | 0, _, _ => none
  | n + 1, x2_91, x3_91 => (if (4 : Int32) ≤ x3_91 then (k125 x2_91) else gg_lt (fun (s1_117 : Int32) => (lp_X9_counted_91 y1 c_textSizes k125 n (x2_91 + s1_117) (x3_91 + (1 : Int32)))) (fun k117 => gg_lt ((k117 (0 : Int32))) (fun k116 => (if y1 = (9 : Int32) then gg_chk (gg_in x3_91 4) ((if (c_textSizes x3_91.toNatClampNeg) < (0 : Int32) then k116 else (k117 (1 : Int32)))) else k116))))
def lp_X9_counted_127 {β : Type} (y1 : Int32) (c_isKept : Nat → Int32) (k161 : (Int32) → Option β) : Nat → (Int32) → (Int32) → Option β
  | 0, _, _ => none
  | n + 1, x2_127, x3_127 => (if (3 : Int32) ≤ x3_127 then (k161 x2_127) else gg_lt (fun (s1_153 : Int32) => (lp_X9_counted_127 y1 c_isKept k161 n (x2_127 + s1_153) (x3_127 + (1 : Int32)))) (fun k153 => gg_lt ((k153 (0 : Int32))) (fun k152 => (if y1 = (10 : Int32) then gg_chk (gg_in x3_127 3) ((if (c_isKept x3_127.toNatClampNeg) = (0 : Int32) then k152 else (k153 (1 : Int32)))) else k152))))
def f_X9_counted (a0 : Int32) (c_n : Int32) (c_deedMany : Int32) (c_sizes : Nat → Int32) (c_textSizes : Nat → Int32) (c_kindOf : Nat → Int32) (c_now : Nat → Int32) (c_isKept : Nat → Int32) : Option (Int32) := (lp_X9_counted_4 a0 c_n c_kindOf (fun (x2_52 : Int32) => (lp_X9_counted_54 a0 c_sizes (fun (x2_89 : Int32) => (lp_X9_counted_91 a0 c_textSizes (fun (x2_125 : Int32) => (lp_X9_counted_127 a0 c_isKept (fun (x2_161 : Int32) => ((if a0 = (0 : Int32) then (some c_n) else (if a0 = (1 : Int32) then gg_chk (gg_in (0 : Int32) 26) ((some (c_now (0 : Int32).toNatClampNeg))) else (if a0 = (2 : Int32) then (some c_deedMany) else (if a0 = (3 : Int32) then gg_chk (gg_in (1 : Int32) 26) ((some (c_now (1 : Int32).toNatClampNeg))) else (if a0 = (4 : Int32) then (f_X9_there_a26 c_n c_now).bind (fun v1 => (some v1)) else (if a0 = (5 : Int32) then (f_X9_strongOf c_n c_now).bind (fun v2 => (some v2)) else (if a0 = (6 : Int32) then (f_X9_homeOf c_n c_now).bind (fun v3 => (some v3)) else (some x2_161)))))))))) gg_fuel x2_125 (0 : Int32))) gg_fuel x2_89 (0 : Int32))) gg_fuel x2_52 (0 : Int32))) gg_fuel (0 : Int32) (0 : Int32))
set_option maxRecDepth 20000 in
set_option maxHeartbeats 4000000 in
theorem lq_X9_counted_4 {β : Type} {res : β} {rr : Option Value} {ww : va_W} (y1 : Int32) (c_latest : Int32) (c_asked : Int32) (c_upper : Int64) (c_lower : Int64) (c_n : Int32) (c_readAt : Int32) (c_readMany : Int32) (c_readFood : Int32) (c_isHead : Int32) (c_backMany : Int32) (c_deedMany : Int32) (c_whole : Int64) (c_wellSum : Int64) (c_strongSum : Int64) (c_hash : Int64) (c_sizes : Nat → Int32) (c_textSizes : Nat → Int32) (c_kindOf : Nat → Int32) (c_now : Nat → Int32) (c_isKept : Nat → Int32) (k52 : (Int32) → Option β) (hk52 : ∀ (x2_52 : Int32), k52 x2_52 = some res → gg_G MD_X9_counted 52 [some (.ref 0), some (.int y1), some (.int x2_52), none] [] (wd_X9_counted c_latest c_asked c_upper c_lower c_n c_readAt c_readMany c_readFood c_isHead c_backMany c_deedMany c_whole c_wellSum c_strongSum c_hash c_sizes c_textSizes c_kindOf c_now c_isKept) rr ww) : ∀ (n : Nat) (x2_4 : Int32) (x3_4 : Int32), lp_X9_counted_4 y1 c_n c_kindOf k52 n x2_4 x3_4 = some res → gg_G MD_X9_counted 4 [some (.ref 0), some (.int y1), some (.int x2_4), some (.int x3_4)] [] (wd_X9_counted c_latest c_asked c_upper c_lower c_n c_readAt c_readMany c_readFood c_isHead c_backMany c_deedMany c_whole c_wellSum c_strongSum c_hash c_sizes c_textSizes c_kindOf c_now c_isKept) rr ww := by
  intro n
  induction n with
  | zero =>
    intro x2_4 x3_4 h
    exact nomatch (show (none : Option β) = some res from h)
  | succ n ih =>
    intro x2_4 x3_4 h
    rw [lp_X9_counted_4] at h
    refine gg_iload_n dX9_counted_4 rfl ?_
    refine gg_aload_n dX9_counted_5 rfl ?_
    refine gg_get 0 fl_X9_154 dX9_counted_6 rfl rfl ?_
    refine gg_icmp_ge 52 dX9_counted_9 (by decide) (fun hc => ?_) (fun hc => ?_)
    · replace h := gg_th h hc
      refine gg_fg [true, true, true, false] [some (.ref 0), some (.int y1), some (.int x2_4), none] rfl ?_
      exact hk52 x2_4 h
    · replace h := gg_el h hc
      refine gg_iload_n dX9_counted_12 rfl ?_
      refine gg_iload_n dX9_counted_13 rfl ?_
      refine gg_bipush (7 : Int32) dX9_counted_14 (by decide) ?_
      obtain ⟨k44, hke44, h⟩ := gg_lte h
      have hk44 : ∀ (s1_44 : Int32), k44 s1_44 = some res → gg_G MD_X9_counted 44 [some (.ref 0), some (.int y1), none, some (.int x3_4)] [.int s1_44, .int x2_4] (wd_X9_counted c_latest c_asked c_upper c_lower c_n c_readAt c_readMany c_readFood c_isHead c_backMany c_deedMany c_whole c_wellSum c_strongSum c_hash c_sizes c_textSizes c_kindOf c_now c_isKept) rr ww := by
        intro s1_44 h
        subst hke44
        refine gg_iadd dX9_counted_44 ?_
        refine gg_istore_n [some (.ref 0), some (.int y1), some (.int (x2_4 + s1_44)), some (.int x3_4)] dX9_counted_45 rfl (Nat.le_of_ble_eq_true rfl) rfl ?_
        refine gg_iinc (x3_4 + (1 : Int32)) [some (.ref 0), some (.int y1), some (.int (x2_4 + s1_44)), some (.int (x3_4 + (1 : Int32)))] dX9_counted_46 rfl rfl rfl (Nat.le_of_ble_eq_true rfl) rfl ?_
        refine gg_goto 4 dX9_counted_49 (by decide) ?_
        exact ih (x2_4 + s1_44) (x3_4 + (1 : Int32)) h
      clear hke44
      obtain ⟨k43, hke43, h⟩ := gg_lte h
      have hk43 : k43 = some res → gg_G MD_X9_counted 43 [some (.ref 0), some (.int y1), none, some (.int x3_4)] [.int x2_4] (wd_X9_counted c_latest c_asked c_upper c_lower c_n c_readAt c_readMany c_readFood c_isHead c_backMany c_deedMany c_whole c_wellSum c_strongSum c_hash c_sizes c_textSizes c_kindOf c_now c_isKept) rr ww := by
        intro  h
        subst hke43
        refine gg_iconst (0 : Int32) dX9_counted_43 (by decide) ?_
        exact hk44 (0 : Int32) h
      clear hke43
      refine gg_icmp_ne 43 dX9_counted_16 (by decide) (fun hc => ?_) (fun hc => ?_)
      · replace h := gg_el h hc
        refine gg_fg [true, true, false, true] [some (.ref 0), some (.int y1), none, some (.int x3_4)] rfl ?_
        exact hk43 h
      · replace h := gg_th h hc
        refine gg_aload_n dX9_counted_19 rfl ?_
        refine gg_get 0 fl_X9_33 dX9_counted_20 rfl rfl ?_
        refine gg_iload_n dX9_counted_23 rfl ?_
        obtain ⟨hb24, h⟩ := gg_ck h
        refine gg_iald 3 dX9_counted_24 rfl hb24 ?_
        refine gg_iconst (3 : Int32) dX9_counted_25 (by decide) ?_
        obtain ⟨k39, hke39, h⟩ := gg_lte h
        have hk39 : k39 = some res → gg_G MD_X9_counted 39 [some (.ref 0), some (.int y1), none, some (.int x3_4)] [.int x2_4] (wd_X9_counted c_latest c_asked c_upper c_lower c_n c_readAt c_readMany c_readFood c_isHead c_backMany c_deedMany c_whole c_wellSum c_strongSum c_hash c_sizes c_textSizes c_kindOf c_now c_isKept) rr ww := by
          intro  h
          subst hke39
          refine gg_iconst (1 : Int32) dX9_counted_39 (by decide) ?_
          refine gg_goto 44 dX9_counted_40 (by decide) ?_
          exact hk44 (1 : Int32) h
        clear hke39
        refine gg_icmp_eq 39 dX9_counted_26 (by decide) (fun hc => ?_) (fun hc => ?_)
        · replace h := gg_th h hc
          refine gg_fg [true, true, false, true] [some (.ref 0), some (.int y1), none, some (.int x3_4)] rfl ?_
          exact hk39 h
        · replace h := gg_el h hc
          refine gg_aload_n dX9_counted_29 rfl ?_
          refine gg_get 0 fl_X9_33 dX9_counted_30 rfl rfl ?_
          refine gg_iload_n dX9_counted_33 rfl ?_
          obtain ⟨hb34, h⟩ := gg_ck h
          refine gg_iald 3 dX9_counted_34 rfl hb34 ?_
          refine gg_iconst (5 : Int32) dX9_counted_35 (by decide) ?_
          refine gg_icmp_ne 43 dX9_counted_36 (by decide) (fun hc => ?_) (fun hc => ?_)
          · replace h := gg_el h hc
            refine gg_fg [true, true, false, true] [some (.ref 0), some (.int y1), none, some (.int x3_4)] rfl ?_
            exact hk43 h
          · replace h := gg_th h hc
            refine gg_fg [true, true, false, true] [some (.ref 0), some (.int y1), none, some (.int x3_4)] rfl ?_
            exact hk39 h
set_option maxRecDepth 20000 in
set_option maxHeartbeats 4000000 in
theorem lq_X9_counted_54 {β : Type} {res : β} {rr : Option Value} {ww : va_W} (y1 : Int32) (c_latest : Int32) (c_asked : Int32) (c_upper : Int64) (c_lower : Int64) (c_n : Int32) (c_readAt : Int32) (c_readMany : Int32) (c_readFood : Int32) (c_isHead : Int32) (c_backMany : Int32) (c_deedMany : Int32) (c_whole : Int64) (c_wellSum : Int64) (c_strongSum : Int64) (c_hash : Int64) (c_sizes : Nat → Int32) (c_textSizes : Nat → Int32) (c_kindOf : Nat → Int32) (c_now : Nat → Int32) (c_isKept : Nat → Int32) (k89 : (Int32) → Option β) (hk89 : ∀ (x2_89 : Int32), k89 x2_89 = some res → gg_G MD_X9_counted 89 [some (.ref 0), some (.int y1), some (.int x2_89), none] [] (wd_X9_counted c_latest c_asked c_upper c_lower c_n c_readAt c_readMany c_readFood c_isHead c_backMany c_deedMany c_whole c_wellSum c_strongSum c_hash c_sizes c_textSizes c_kindOf c_now c_isKept) rr ww) : ∀ (n : Nat) (x2_54 : Int32) (x3_54 : Int32), lp_X9_counted_54 y1 c_sizes k89 n x2_54 x3_54 = some res → gg_G MD_X9_counted 54 [some (.ref 0), some (.int y1), some (.int x2_54), some (.int x3_54)] [] (wd_X9_counted c_latest c_asked c_upper c_lower c_n c_readAt c_readMany c_readFood c_isHead c_backMany c_deedMany c_whole c_wellSum c_strongSum c_hash c_sizes c_textSizes c_kindOf c_now c_isKept) rr ww := by
  intro n
  induction n with
  | zero =>
    intro x2_54 x3_54 h
    exact nomatch (show (none : Option β) = some res from h)
  | succ n ih =>
    intro x2_54 x3_54 h
    rw [lp_X9_counted_54] at h
    refine gg_iload_n dX9_counted_54 rfl ?_
    refine gg_bipush (6 : Int32) dX9_counted_55 (by decide) ?_
    refine gg_icmp_ge 89 dX9_counted_57 (by decide) (fun hc => ?_) (fun hc => ?_)
    · replace h := gg_th h hc
      refine gg_fg [true, true, true, false] [some (.ref 0), some (.int y1), some (.int x2_54), none] rfl ?_
      exact hk89 x2_54 h
    · replace h := gg_el h hc
      refine gg_iload_n dX9_counted_60 rfl ?_
      refine gg_iload_n dX9_counted_61 rfl ?_
      refine gg_bipush (8 : Int32) dX9_counted_62 (by decide) ?_
      obtain ⟨k81, hke81, h⟩ := gg_lte h
      have hk81 : ∀ (s1_81 : Int32), k81 s1_81 = some res → gg_G MD_X9_counted 81 [some (.ref 0), some (.int y1), none, some (.int x3_54)] [.int s1_81, .int x2_54] (wd_X9_counted c_latest c_asked c_upper c_lower c_n c_readAt c_readMany c_readFood c_isHead c_backMany c_deedMany c_whole c_wellSum c_strongSum c_hash c_sizes c_textSizes c_kindOf c_now c_isKept) rr ww := by
        intro s1_81 h
        subst hke81
        refine gg_iadd dX9_counted_81 ?_
        refine gg_istore_n [some (.ref 0), some (.int y1), some (.int (x2_54 + s1_81)), some (.int x3_54)] dX9_counted_82 rfl (Nat.le_of_ble_eq_true rfl) rfl ?_
        refine gg_iinc (x3_54 + (1 : Int32)) [some (.ref 0), some (.int y1), some (.int (x2_54 + s1_81)), some (.int (x3_54 + (1 : Int32)))] dX9_counted_83 rfl rfl rfl (Nat.le_of_ble_eq_true rfl) rfl ?_
        refine gg_goto 54 dX9_counted_86 (by decide) ?_
        exact ih (x2_54 + s1_81) (x3_54 + (1 : Int32)) h
      clear hke81
      obtain ⟨k80, hke80, h⟩ := gg_lte h
      have hk80 : k80 = some res → gg_G MD_X9_counted 80 [some (.ref 0), some (.int y1), none, some (.int x3_54)] [.int x2_54] (wd_X9_counted c_latest c_asked c_upper c_lower c_n c_readAt c_readMany c_readFood c_isHead c_backMany c_deedMany c_whole c_wellSum c_strongSum c_hash c_sizes c_textSizes c_kindOf c_now c_isKept) rr ww := by
        intro  h
        subst hke80
        refine gg_iconst (0 : Int32) dX9_counted_80 (by decide) ?_
        exact hk81 (0 : Int32) h
      clear hke80
      refine gg_icmp_ne 80 dX9_counted_64 (by decide) (fun hc => ?_) (fun hc => ?_)
      · replace h := gg_el h hc
        refine gg_fg [true, true, false, true] [some (.ref 0), some (.int y1), none, some (.int x3_54)] rfl ?_
        exact hk80 h
      · replace h := gg_th h hc
        refine gg_aload_n dX9_counted_67 rfl ?_
        refine gg_get 0 fl_X9_17 dX9_counted_68 rfl rfl ?_
        refine gg_iload_n dX9_counted_71 rfl ?_
        obtain ⟨hb72, h⟩ := gg_ck h
        refine gg_iald 1 dX9_counted_72 rfl hb72 ?_
        refine gg_if_lt 80 dX9_counted_73 (by decide) (fun hc => ?_) (fun hc => ?_)
        · replace h := gg_th h hc
          refine gg_fg [true, true, false, true] [some (.ref 0), some (.int y1), none, some (.int x3_54)] rfl ?_
          exact hk80 h
        · replace h := gg_el h hc
          refine gg_iconst (1 : Int32) dX9_counted_76 (by decide) ?_
          refine gg_goto 81 dX9_counted_77 (by decide) ?_
          refine gg_fg [true, true, false, true] [some (.ref 0), some (.int y1), none, some (.int x3_54)] rfl ?_
          exact hk81 (1 : Int32) h
set_option maxRecDepth 20000 in
set_option maxHeartbeats 4000000 in
theorem lq_X9_counted_91 {β : Type} {res : β} {rr : Option Value} {ww : va_W} (y1 : Int32) (c_latest : Int32) (c_asked : Int32) (c_upper : Int64) (c_lower : Int64) (c_n : Int32) (c_readAt : Int32) (c_readMany : Int32) (c_readFood : Int32) (c_isHead : Int32) (c_backMany : Int32) (c_deedMany : Int32) (c_whole : Int64) (c_wellSum : Int64) (c_strongSum : Int64) (c_hash : Int64) (c_sizes : Nat → Int32) (c_textSizes : Nat → Int32) (c_kindOf : Nat → Int32) (c_now : Nat → Int32) (c_isKept : Nat → Int32) (k125 : (Int32) → Option β) (hk125 : ∀ (x2_125 : Int32), k125 x2_125 = some res → gg_G MD_X9_counted 125 [some (.ref 0), some (.int y1), some (.int x2_125), none] [] (wd_X9_counted c_latest c_asked c_upper c_lower c_n c_readAt c_readMany c_readFood c_isHead c_backMany c_deedMany c_whole c_wellSum c_strongSum c_hash c_sizes c_textSizes c_kindOf c_now c_isKept) rr ww) : ∀ (n : Nat) (x2_91 : Int32) (x3_91 : Int32), lp_X9_counted_91 y1 c_textSizes k125 n x2_91 x3_91 = some res → gg_G MD_X9_counted 91 [some (.ref 0), some (.int y1), some (.int x2_91), some (.int x3_91)] [] (wd_X9_counted c_latest c_asked c_upper c_lower c_n c_readAt c_readMany c_readFood c_isHead c_backMany c_deedMany c_whole c_wellSum c_strongSum c_hash c_sizes c_textSizes c_kindOf c_now c_isKept) rr ww := by
  intro n
  induction n with
  | zero =>
    intro x2_91 x3_91 h
    exact nomatch (show (none : Option β) = some res from h)
  | succ n ih =>
    intro x2_91 x3_91 h
    rw [lp_X9_counted_91] at h
    refine gg_iload_n dX9_counted_91 rfl ?_
    refine gg_iconst (4 : Int32) dX9_counted_92 (by decide) ?_
    refine gg_icmp_ge 125 dX9_counted_93 (by decide) (fun hc => ?_) (fun hc => ?_)
    · replace h := gg_th h hc
      refine gg_fg [true, true, true, false] [some (.ref 0), some (.int y1), some (.int x2_91), none] rfl ?_
      exact hk125 x2_91 h
    · replace h := gg_el h hc
      refine gg_iload_n dX9_counted_96 rfl ?_
      refine gg_iload_n dX9_counted_97 rfl ?_
      refine gg_bipush (9 : Int32) dX9_counted_98 (by decide) ?_
      obtain ⟨k117, hke117, h⟩ := gg_lte h
      have hk117 : ∀ (s1_117 : Int32), k117 s1_117 = some res → gg_G MD_X9_counted 117 [some (.ref 0), some (.int y1), none, some (.int x3_91)] [.int s1_117, .int x2_91] (wd_X9_counted c_latest c_asked c_upper c_lower c_n c_readAt c_readMany c_readFood c_isHead c_backMany c_deedMany c_whole c_wellSum c_strongSum c_hash c_sizes c_textSizes c_kindOf c_now c_isKept) rr ww := by
        intro s1_117 h
        subst hke117
        refine gg_iadd dX9_counted_117 ?_
        refine gg_istore_n [some (.ref 0), some (.int y1), some (.int (x2_91 + s1_117)), some (.int x3_91)] dX9_counted_118 rfl (Nat.le_of_ble_eq_true rfl) rfl ?_
        refine gg_iinc (x3_91 + (1 : Int32)) [some (.ref 0), some (.int y1), some (.int (x2_91 + s1_117)), some (.int (x3_91 + (1 : Int32)))] dX9_counted_119 rfl rfl rfl (Nat.le_of_ble_eq_true rfl) rfl ?_
        refine gg_goto 91 dX9_counted_122 (by decide) ?_
        exact ih (x2_91 + s1_117) (x3_91 + (1 : Int32)) h
      clear hke117
      obtain ⟨k116, hke116, h⟩ := gg_lte h
      have hk116 : k116 = some res → gg_G MD_X9_counted 116 [some (.ref 0), some (.int y1), none, some (.int x3_91)] [.int x2_91] (wd_X9_counted c_latest c_asked c_upper c_lower c_n c_readAt c_readMany c_readFood c_isHead c_backMany c_deedMany c_whole c_wellSum c_strongSum c_hash c_sizes c_textSizes c_kindOf c_now c_isKept) rr ww := by
        intro  h
        subst hke116
        refine gg_iconst (0 : Int32) dX9_counted_116 (by decide) ?_
        exact hk117 (0 : Int32) h
      clear hke116
      refine gg_icmp_ne 116 dX9_counted_100 (by decide) (fun hc => ?_) (fun hc => ?_)
      · replace h := gg_el h hc
        refine gg_fg [true, true, false, true] [some (.ref 0), some (.int y1), none, some (.int x3_91)] rfl ?_
        exact hk116 h
      · replace h := gg_th h hc
        refine gg_aload_n dX9_counted_103 rfl ?_
        refine gg_get 0 fl_X9_26 dX9_counted_104 rfl rfl ?_
        refine gg_iload_n dX9_counted_107 rfl ?_
        obtain ⟨hb108, h⟩ := gg_ck h
        refine gg_iald 2 dX9_counted_108 rfl hb108 ?_
        refine gg_if_lt 116 dX9_counted_109 (by decide) (fun hc => ?_) (fun hc => ?_)
        · replace h := gg_th h hc
          refine gg_fg [true, true, false, true] [some (.ref 0), some (.int y1), none, some (.int x3_91)] rfl ?_
          exact hk116 h
        · replace h := gg_el h hc
          refine gg_iconst (1 : Int32) dX9_counted_112 (by decide) ?_
          refine gg_goto 117 dX9_counted_113 (by decide) ?_
          refine gg_fg [true, true, false, true] [some (.ref 0), some (.int y1), none, some (.int x3_91)] rfl ?_
          exact hk117 (1 : Int32) h
set_option maxRecDepth 20000 in
set_option maxHeartbeats 4000000 in
theorem lq_X9_counted_127 {β : Type} {res : β} {rr : Option Value} {ww : va_W} (y1 : Int32) (c_latest : Int32) (c_asked : Int32) (c_upper : Int64) (c_lower : Int64) (c_n : Int32) (c_readAt : Int32) (c_readMany : Int32) (c_readFood : Int32) (c_isHead : Int32) (c_backMany : Int32) (c_deedMany : Int32) (c_whole : Int64) (c_wellSum : Int64) (c_strongSum : Int64) (c_hash : Int64) (c_sizes : Nat → Int32) (c_textSizes : Nat → Int32) (c_kindOf : Nat → Int32) (c_now : Nat → Int32) (c_isKept : Nat → Int32) (k161 : (Int32) → Option β) (hk161 : ∀ (x2_161 : Int32), k161 x2_161 = some res → gg_G MD_X9_counted 161 [some (.ref 0), some (.int y1), some (.int x2_161), none] [] (wd_X9_counted c_latest c_asked c_upper c_lower c_n c_readAt c_readMany c_readFood c_isHead c_backMany c_deedMany c_whole c_wellSum c_strongSum c_hash c_sizes c_textSizes c_kindOf c_now c_isKept) rr ww) : ∀ (n : Nat) (x2_127 : Int32) (x3_127 : Int32), lp_X9_counted_127 y1 c_isKept k161 n x2_127 x3_127 = some res → gg_G MD_X9_counted 127 [some (.ref 0), some (.int y1), some (.int x2_127), some (.int x3_127)] [] (wd_X9_counted c_latest c_asked c_upper c_lower c_n c_readAt c_readMany c_readFood c_isHead c_backMany c_deedMany c_whole c_wellSum c_strongSum c_hash c_sizes c_textSizes c_kindOf c_now c_isKept) rr ww := by
  intro n
  induction n with
  | zero =>
    intro x2_127 x3_127 h
    exact nomatch (show (none : Option β) = some res from h)
  | succ n ih =>
    intro x2_127 x3_127 h
    rw [lp_X9_counted_127] at h
    refine gg_iload_n dX9_counted_127 rfl ?_
    refine gg_iconst (3 : Int32) dX9_counted_128 (by decide) ?_
    refine gg_icmp_ge 161 dX9_counted_129 (by decide) (fun hc => ?_) (fun hc => ?_)
    · replace h := gg_th h hc
      refine gg_fg [true, true, true, false] [some (.ref 0), some (.int y1), some (.int x2_127), none] rfl ?_
      exact hk161 x2_127 h
    · replace h := gg_el h hc
      refine gg_iload_n dX9_counted_132 rfl ?_
      refine gg_iload_n dX9_counted_133 rfl ?_
      refine gg_bipush (10 : Int32) dX9_counted_134 (by decide) ?_
      obtain ⟨k153, hke153, h⟩ := gg_lte h
      have hk153 : ∀ (s1_153 : Int32), k153 s1_153 = some res → gg_G MD_X9_counted 153 [some (.ref 0), some (.int y1), none, some (.int x3_127)] [.int s1_153, .int x2_127] (wd_X9_counted c_latest c_asked c_upper c_lower c_n c_readAt c_readMany c_readFood c_isHead c_backMany c_deedMany c_whole c_wellSum c_strongSum c_hash c_sizes c_textSizes c_kindOf c_now c_isKept) rr ww := by
        intro s1_153 h
        subst hke153
        refine gg_iadd dX9_counted_153 ?_
        refine gg_istore_n [some (.ref 0), some (.int y1), some (.int (x2_127 + s1_153)), some (.int x3_127)] dX9_counted_154 rfl (Nat.le_of_ble_eq_true rfl) rfl ?_
        refine gg_iinc (x3_127 + (1 : Int32)) [some (.ref 0), some (.int y1), some (.int (x2_127 + s1_153)), some (.int (x3_127 + (1 : Int32)))] dX9_counted_155 rfl rfl rfl (Nat.le_of_ble_eq_true rfl) rfl ?_
        refine gg_goto 127 dX9_counted_158 (by decide) ?_
        exact ih (x2_127 + s1_153) (x3_127 + (1 : Int32)) h
      clear hke153
      obtain ⟨k152, hke152, h⟩ := gg_lte h
      have hk152 : k152 = some res → gg_G MD_X9_counted 152 [some (.ref 0), some (.int y1), none, some (.int x3_127)] [.int x2_127] (wd_X9_counted c_latest c_asked c_upper c_lower c_n c_readAt c_readMany c_readFood c_isHead c_backMany c_deedMany c_whole c_wellSum c_strongSum c_hash c_sizes c_textSizes c_kindOf c_now c_isKept) rr ww := by
        intro  h
        subst hke152
        refine gg_iconst (0 : Int32) dX9_counted_152 (by decide) ?_
        exact hk153 (0 : Int32) h
      clear hke152
      refine gg_icmp_ne 152 dX9_counted_136 (by decide) (fun hc => ?_) (fun hc => ?_)
      · replace h := gg_el h hc
        refine gg_fg [true, true, false, true] [some (.ref 0), some (.int y1), none, some (.int x3_127)] rfl ?_
        exact hk152 h
      · replace h := gg_th h hc
        refine gg_aload_n dX9_counted_139 rfl ?_
        refine gg_get 0 fl_X9_57 dX9_counted_140 rfl rfl ?_
        refine gg_iload_n dX9_counted_143 rfl ?_
        obtain ⟨hb144, h⟩ := gg_ck h
        refine gg_zald 5 dX9_counted_144 rfl hb144 ?_
        refine gg_if_eq 152 dX9_counted_145 (by decide) (fun hc => ?_) (fun hc => ?_)
        · replace h := gg_th h hc
          refine gg_fg [true, true, false, true] [some (.ref 0), some (.int y1), none, some (.int x3_127)] rfl ?_
          exact hk152 h
        · replace h := gg_el h hc
          refine gg_iconst (1 : Int32) dX9_counted_148 (by decide) ?_
          refine gg_goto 153 dX9_counted_149 (by decide) ?_
          refine gg_fg [true, true, false, true] [some (.ref 0), some (.int y1), none, some (.int x3_127)] rfl ?_
          exact hk153 (1 : Int32) h
set_option maxRecDepth 20000 in
set_option maxHeartbeats 8000000 in
theorem C_X9_counted (a0 : Int32) (c_latest : Int32) (c_asked : Int32) (c_upper : Int64) (c_lower : Int64) (c_n : Int32) (c_readAt : Int32) (c_readMany : Int32) (c_readFood : Int32) (c_isHead : Int32) (c_backMany : Int32) (c_deedMany : Int32) (c_whole : Int64) (c_wellSum : Int64) (c_strongSum : Int64) (c_hash : Int64) (c_sizes : Nat → Int32) (c_textSizes : Nat → Int32) (c_kindOf : Nat → Int32) (c_now : Nat → Int32) (c_isKept : Nat → Int32) {res : Int32} (h : f_X9_counted a0 c_n c_deedMany c_sizes c_textSizes c_kindOf c_now c_isKept = some res) : gg_C MD_X9_counted [.ref 0, .int a0] (wd_X9_counted c_latest c_asked c_upper c_lower c_n c_readAt c_readMany c_readFood c_isHead c_backMany c_deedMany c_whole c_wellSum c_strongSum c_hash c_sizes c_textSizes c_kindOf c_now c_isKept) (some (.int res)) (wd_X9_counted c_latest c_asked c_upper c_lower c_n c_readAt c_readMany c_readFood c_isHead c_backMany c_deedMany c_whole c_wellSum c_strongSum c_hash c_sizes c_textSizes c_kindOf c_now c_isKept) := by
  refine gg_ofG [some (.ref 0), some (.int a0), none, none] (plainFor_of_name (by decide)) (Nat.le_of_ble_eq_true rfl) rfl ?_
  unfold f_X9_counted at h
  refine gg_iconst (0 : Int32) dX9_counted_0 (by decide) ?_
  refine gg_istore_n [some (.ref 0), some (.int a0), some (.int (0 : Int32)), none] dX9_counted_1 rfl (Nat.le_of_ble_eq_true rfl) rfl ?_
  refine gg_iconst (0 : Int32) dX9_counted_2 (by decide) ?_
  refine gg_istore_n [some (.ref 0), some (.int a0), some (.int (0 : Int32)), some (.int (0 : Int32))] dX9_counted_3 rfl (Nat.le_of_ble_eq_true rfl) rfl ?_
  refine lq_X9_counted_4 a0 c_latest c_asked c_upper c_lower c_n c_readAt c_readMany c_readFood c_isHead c_backMany c_deedMany c_whole c_wellSum c_strongSum c_hash c_sizes c_textSizes c_kindOf c_now c_isKept _ ?_ gg_fuel (0 : Int32) (0 : Int32) h
  intro x2_52 h
  refine gg_iconst (0 : Int32) dX9_counted_52 (by decide) ?_
  refine gg_istore_n [some (.ref 0), some (.int a0), some (.int x2_52), some (.int (0 : Int32))] dX9_counted_53 rfl (Nat.le_of_ble_eq_true rfl) rfl ?_
  refine lq_X9_counted_54 a0 c_latest c_asked c_upper c_lower c_n c_readAt c_readMany c_readFood c_isHead c_backMany c_deedMany c_whole c_wellSum c_strongSum c_hash c_sizes c_textSizes c_kindOf c_now c_isKept _ ?_ gg_fuel x2_52 (0 : Int32) h
  intro x2_89 h
  refine gg_iconst (0 : Int32) dX9_counted_89 (by decide) ?_
  refine gg_istore_n [some (.ref 0), some (.int a0), some (.int x2_89), some (.int (0 : Int32))] dX9_counted_90 rfl (Nat.le_of_ble_eq_true rfl) rfl ?_
  refine lq_X9_counted_91 a0 c_latest c_asked c_upper c_lower c_n c_readAt c_readMany c_readFood c_isHead c_backMany c_deedMany c_whole c_wellSum c_strongSum c_hash c_sizes c_textSizes c_kindOf c_now c_isKept _ ?_ gg_fuel x2_89 (0 : Int32) h
  intro x2_125 h
  refine gg_iconst (0 : Int32) dX9_counted_125 (by decide) ?_
  refine gg_istore_n [some (.ref 0), some (.int a0), some (.int x2_125), some (.int (0 : Int32))] dX9_counted_126 rfl (Nat.le_of_ble_eq_true rfl) rfl ?_
  refine lq_X9_counted_127 a0 c_latest c_asked c_upper c_lower c_n c_readAt c_readMany c_readFood c_isHead c_backMany c_deedMany c_whole c_wellSum c_strongSum c_hash c_sizes c_textSizes c_kindOf c_now c_isKept _ ?_ gg_fuel x2_125 (0 : Int32) h
  intro x2_161 h
  refine gg_iload_n dX9_counted_161 rfl ?_
  by_cases hs0 : a0 = (0 : Int32)
  · replace h := gg_th h hs0
    refine gg_swIn 204 dX9_counted_162 (by rw [hs0]; decide) (by rw [hs0]; decide) (off := (42)) (by rw [hs0]; decide) (by decide) ?_
    refine gg_aload_n dX9_counted_204 rfl ?_
    refine gg_get 0 fl_X9_154 dX9_counted_205 rfl rfl ?_
    cases h
    exact gg_iret dX9_counted_208 rfl
  replace h := gg_el h hs0
  by_cases hs1 : a0 = (1 : Int32)
  · replace h := gg_th h hs1
    refine gg_swIn 209 dX9_counted_162 (by rw [hs1]; decide) (by rw [hs1]; decide) (off := (47)) (by rw [hs1]; decide) (by decide) ?_
    refine gg_aload_n dX9_counted_209 rfl ?_
    refine gg_get 0 fl_X9_39 dX9_counted_210 rfl rfl ?_
    refine gg_iconst (0 : Int32) dX9_counted_213 (by decide) ?_
    obtain ⟨hb214, h⟩ := gg_ck h
    refine gg_iald 4 dX9_counted_214 rfl hb214 ?_
    cases h
    exact gg_iret dX9_counted_215 rfl
  replace h := gg_el h hs1
  by_cases hs2 : a0 = (2 : Int32)
  · replace h := gg_th h hs2
    refine gg_swIn 216 dX9_counted_162 (by rw [hs2]; decide) (by rw [hs2]; decide) (off := (54)) (by rw [hs2]; decide) (by decide) ?_
    refine gg_aload_n dX9_counted_216 rfl ?_
    refine gg_get 0 fl_X9_157 dX9_counted_217 rfl rfl ?_
    cases h
    exact gg_iret dX9_counted_220 rfl
  replace h := gg_el h hs2
  by_cases hs3 : a0 = (3 : Int32)
  · replace h := gg_th h hs3
    refine gg_swIn 221 dX9_counted_162 (by rw [hs3]; decide) (by rw [hs3]; decide) (off := (59)) (by rw [hs3]; decide) (by decide) ?_
    refine gg_aload_n dX9_counted_221 rfl ?_
    refine gg_get 0 fl_X9_39 dX9_counted_222 rfl rfl ?_
    refine gg_iconst (1 : Int32) dX9_counted_225 (by decide) ?_
    obtain ⟨hb226, h⟩ := gg_ck h
    refine gg_iald 4 dX9_counted_226 rfl hb226 ?_
    cases h
    exact gg_iret dX9_counted_227 rfl
  replace h := gg_el h hs3
  by_cases hs4 : a0 = (4 : Int32)
  · replace h := gg_th h hs4
    refine gg_swIn 228 dX9_counted_162 (by rw [hs4]; decide) (by rw [hs4]; decide) (off := (66)) (by rw [hs4]; decide) (by decide) ?_
    refine gg_aload_n dX9_counted_228 rfl ?_
    refine gg_aload_n dX9_counted_229 rfl ?_
    refine gg_get 0 fl_X9_39 dX9_counted_230 rfl rfl ?_
    obtain ⟨v1, hv1, h⟩ := gg_bd h
    refine gg_callV (gg_sg [0, 9]) [0, 4] (wd_X9_counted c_latest c_asked c_upper c_lower c_n c_readAt c_readMany c_readFood c_isHead c_backMany c_deedMany c_whole c_wellSum c_strongSum c_hash c_sizes c_textSizes c_kindOf c_now c_isKept) 0 (C_X9_there_a26 c_latest c_asked c_upper c_lower c_n c_readAt c_readMany c_readFood c_isHead c_backMany c_deedMany c_whole c_wellSum c_strongSum c_hash c_now hv1) nV_X9_there_a26 ml_X9_217 rfl rfl rfl rfl rfl rfl rfl rfl rfl rfl [1, 2, 3, 5] 6 rfl rfl rfl rfl rfl ⟨Nat.le_of_ble_eq_true rfl, Nat.le_of_ble_eq_true rfl⟩ (Nat.le_of_ble_eq_true rfl) dX9_counted_233 [.int v1] rfl ?_
    cases h
    exact gg_iret dX9_counted_236 rfl
  replace h := gg_el h hs4
  by_cases hs5 : a0 = (5 : Int32)
  · replace h := gg_th h hs5
    refine gg_swIn 237 dX9_counted_162 (by rw [hs5]; decide) (by rw [hs5]; decide) (off := (75)) (by rw [hs5]; decide) (by decide) ?_
    refine gg_aload_n dX9_counted_237 rfl ?_
    obtain ⟨v2, hv2, h⟩ := gg_bd h
    refine gg_callV (gg_sg [0]) [0, 4] (wd_X9_counted c_latest c_asked c_upper c_lower c_n c_readAt c_readMany c_readFood c_isHead c_backMany c_deedMany c_whole c_wellSum c_strongSum c_hash c_sizes c_textSizes c_kindOf c_now c_isKept) 0 (C_X9_strongOf c_latest c_asked c_upper c_lower c_n c_readAt c_readMany c_readFood c_isHead c_backMany c_deedMany c_whole c_wellSum c_strongSum c_hash c_now hv2) nV_X9_strongOf ml_X9_293 rfl rfl rfl rfl rfl rfl rfl rfl rfl rfl [1, 2, 3, 5] 6 rfl rfl rfl rfl rfl ⟨Nat.le_of_ble_eq_true rfl, Nat.le_of_ble_eq_true rfl⟩ (Nat.le_of_ble_eq_true rfl) dX9_counted_238 [.int v2] rfl ?_
    cases h
    exact gg_iret dX9_counted_241 rfl
  replace h := gg_el h hs5
  by_cases hs6 : a0 = (6 : Int32)
  · replace h := gg_th h hs6
    refine gg_swIn 242 dX9_counted_162 (by rw [hs6]; decide) (by rw [hs6]; decide) (off := (80)) (by rw [hs6]; decide) (by decide) ?_
    refine gg_aload_n dX9_counted_242 rfl ?_
    obtain ⟨v3, hv3, h⟩ := gg_bd h
    refine gg_callV (gg_sg [0]) [0, 4] (wd_X9_counted c_latest c_asked c_upper c_lower c_n c_readAt c_readMany c_readFood c_isHead c_backMany c_deedMany c_whole c_wellSum c_strongSum c_hash c_sizes c_textSizes c_kindOf c_now c_isKept) 0 (C_X9_homeOf c_latest c_asked c_upper c_lower c_n c_readAt c_readMany c_readFood c_isHead c_backMany c_deedMany c_whole c_wellSum c_strongSum c_hash c_now hv3) nV_X9_homeOf ml_X9_296 rfl rfl rfl rfl rfl rfl rfl rfl rfl rfl [1, 2, 3, 5] 6 rfl rfl rfl rfl rfl ⟨Nat.le_of_ble_eq_true rfl, Nat.le_of_ble_eq_true rfl⟩ (Nat.le_of_ble_eq_true rfl) dX9_counted_243 [.int v3] rfl ?_
    cases h
    exact gg_iret dX9_counted_246 rfl
  replace h := gg_el h hs6
  refine gg_swOut 247 dX9_counted_162 ?_ (by decide) ?_
  · have q0 := gg_ne32 hs0 (by decide : ((0 : Int32)).toInt = 0); have q1 := gg_ne32 hs1 (by decide : ((1 : Int32)).toInt = 1); have q2 := gg_ne32 hs2 (by decide : ((2 : Int32)).toInt = 2); have q3 := gg_ne32 hs3 (by decide : ((3 : Int32)).toInt = 3); have q4 := gg_ne32 hs4 (by decide : ((4 : Int32)).toInt = 4); have q5 := gg_ne32 hs5 (by decide : ((5 : Int32)).toInt = 5); have q6 := gg_ne32 hs6 (by decide : ((6 : Int32)).toInt = 6); omega
  refine gg_iload_n dX9_counted_247 rfl ?_
  cases h
  exact gg_iret dX9_counted_248 rfl
