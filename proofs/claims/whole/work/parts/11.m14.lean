def wd_X9_needPairs (c_latest : Int32) (c_asked : Int32) (c_upper : Int64) (c_lower : Int64) (c_n : Int32) (c_readAt : Int32) (c_readMany : Int32) (c_readFood : Int32) (c_isHead : Int32) (c_backMany : Int32) (c_deedMany : Int32) (c_whole : Int64) (c_wellSum : Int64) (c_strongSum : Int64) (c_hash : Int64) (c_came : Nat → Int32) (c_sizes : Nat → Int32) (c_rows : Nat → Int32) : va_W := [(0, .inr (8, [.int c_latest, .ref 1, .int c_asked, .long c_upper, .long c_lower, .ref 2, .ref 3, .ref 4, .ref 5, .ref 6, .int c_n, .ref 7, .ref 8, .ref 9, .ref 10, .int c_readAt, .int c_readMany, .int c_readFood, .int c_isHead, .ref 11, .ref 12, .ref 13, .int c_backMany, .int c_deedMany, .ref 14, .ref 15, .ref 16, .ref 17, .ref 18, .ref 19, .ref 20, .ref 21, .ref 22, .ref 23, .ref 24, .long c_whole, .long c_wellSum, .long c_strongSum, .long c_hash])), (1, .inl (0, 6, .inl c_came)), (2, .inl (0, 6, .inl c_sizes)), (3, .inl (0, 240, .inl c_rows))]
def MD_X9_needPairs : gg_M := (yX9_needPairs, cX9_needPairs, 5, some .int, 2, 43)
theorem nV_X9_needPairs : gg_nV MD_X9_needPairs 2 := ⟨⟨gg_mem (by decide +kernel) rfl, gg_mem cw_X9_needPairs rfl, by decide, by decide, by decide +kernel⟩, gg_mem (by decide +kernel) rfl, gg_mem (by decide +kernel) rfl⟩
def lp_X9_needPairs_54 {β : Type} (y2 : Int32) (c_sizes : Nat → Int32) (c_rows : Nat → Int32) (k115 : (Int32) → Option β) : Nat → (Int32) → (Int32) → Option β
  | 0, _, _ => none
  | n + 1, x3_54, x4_54 => gg_chk (gg_in y2 6) ((if (c_sizes y2.toNatClampNeg) ≤ x4_54 then (k115 x3_54) else gg_lt (fun (s0_108 : Int32) => (lp_X9_needPairs_54 y2 c_sizes c_rows k115 n s0_108 (x4_54 + (2 : Int32)))) (fun k108 => gg_lt ((k108 (0 : Int32))) (fun k107 => (if x3_54 = (0 : Int32) then k107 else (f_X9_rowAt y2 x4_54 c_rows).bind (fun v3 => (f_X9_in v3 (0 : Int32) (9 : Int32)).bind (fun v4 => (if v4 = (0 : Int32) then k107 else (f_X9_rowAt y2 (x4_54 + (1 : Int32)) c_rows).bind (fun v5 => (f_X9_in v5 (0 : Int32) (11 : Int32)).bind (fun v6 => (if v6 = (0 : Int32) then k107 else (k108 (1 : Int32)))))))))))))
def f_X9_needPairs (a0 : Int32) (a1 : Int32) (c_latest : Int32) (c_n : Int32) (c_came : Nat → Int32) (c_sizes : Nat → Int32) (c_rows : Nat → Int32) : Option (Int32 × (Int32) × (Nat → Int32)) := (f_X9_isHut a0 c_n).bind (fun v1 => gg_lt ((some ((-1 : Int32), c_latest, c_came))) (fun k15 => (if v1 = (0 : Int32) then k15 else (f_X9_isRow a1).bind (fun v2 => (if v2 = (0 : Int32) then k15 else gg_chk (gg_in a1 6) ((if (0 : Int32) ≤ (c_sizes a1.toNatClampNeg) then gg_chk (gg_in a1 6) ((if ((c_sizes a1.toNatClampNeg) - (c_sizes a1.toNatClampNeg) / (2 : Int32) * (2 : Int32)) = (0 : Int32) then (lp_X9_needPairs_54 a1 c_sizes c_rows (fun (x3_115 : Int32) => gg_lt (fun (s0_128 : Int32) (c_latest_128 : Int32) (c_came_128 : Nat → Int32) => (some (s0_128, c_latest_128, c_came_128))) (fun k128 => (if x3_115 = (0 : Int32) then gg_b3 (f_X9_meets (3 : Int32) c_latest c_came) (fun v7_0 v7_1 v7_2 => (k128 v7_0 v7_1 v7_2)) else (k128 (0 : Int32) c_latest c_came)))) gg_fuel (1 : Int32) (0 : Int32)) else gg_b3 (f_X9_meets (5 : Int32) c_latest c_came) (fun v8_0 v8_1 v8_2 => (some (v8_0, v8_1, v8_2))))) else gg_b3 (f_X9_meets (1 : Int32) c_latest c_came) (fun v9_0 v9_1 v9_2 => (some (v9_0, v9_1, v9_2))))))))))
set_option maxRecDepth 20000 in
set_option maxHeartbeats 4000000 in
theorem lq_X9_needPairs_54 {β : Type} {res : β} {rr : Option Value} {ww : va_W} (y2 : Int32) (c_latest : Int32) (c_asked : Int32) (c_upper : Int64) (c_lower : Int64) (c_n : Int32) (c_readAt : Int32) (c_readMany : Int32) (c_readFood : Int32) (c_isHead : Int32) (c_backMany : Int32) (c_deedMany : Int32) (c_whole : Int64) (c_wellSum : Int64) (c_strongSum : Int64) (c_hash : Int64) (c_came : Nat → Int32) (c_sizes : Nat → Int32) (c_rows : Nat → Int32) (k115 : (Int32) → Option β) (hk115 : ∀ (x3_115 : Int32), k115 x3_115 = some res → gg_G MD_X9_needPairs 115 [some (.ref 0), none, none, some (.int x3_115), none] [] (wd_X9_needPairs c_latest c_asked c_upper c_lower c_n c_readAt c_readMany c_readFood c_isHead c_backMany c_deedMany c_whole c_wellSum c_strongSum c_hash c_came c_sizes c_rows) rr ww) : ∀ (n : Nat) (x3_54 : Int32) (x4_54 : Int32), lp_X9_needPairs_54 y2 c_sizes c_rows k115 n x3_54 x4_54 = some res → gg_G MD_X9_needPairs 54 [some (.ref 0), none, some (.int y2), some (.int x3_54), some (.int x4_54)] [] (wd_X9_needPairs c_latest c_asked c_upper c_lower c_n c_readAt c_readMany c_readFood c_isHead c_backMany c_deedMany c_whole c_wellSum c_strongSum c_hash c_came c_sizes c_rows) rr ww := by
  intro n
  induction n with
  | zero =>
    intro x3_54 x4_54 h
    exact nomatch (show (none : Option β) = some res from h)
  | succ n ih =>
    intro x3_54 x4_54 h
    rw [lp_X9_needPairs_54] at h
    refine gg_iload dX9_needPairs_54 rfl ?_
    refine gg_aload_n dX9_needPairs_56 rfl ?_
    refine gg_get 0 fl_X9_17 dX9_needPairs_57 rfl rfl ?_
    refine gg_iload_n dX9_needPairs_60 rfl ?_
    obtain ⟨hb61, h⟩ := gg_ck h
    refine gg_iald 2 dX9_needPairs_61 rfl hb61 ?_
    refine gg_icmp_ge 115 dX9_needPairs_62 (by decide) (fun hc => ?_) (fun hc => ?_)
    · replace h := gg_th h hc
      refine gg_fg [true, false, false, true, false] [some (.ref 0), none, none, some (.int x3_54), none] rfl ?_
      exact hk115 x3_54 h
    · replace h := gg_el h hc
      refine gg_iload_n dX9_needPairs_65 rfl ?_
      obtain ⟨k108, hke108, h⟩ := gg_lte h
      have hk108 : ∀ (s0_108 : Int32), k108 s0_108 = some res → gg_G MD_X9_needPairs 108 [some (.ref 0), none, some (.int y2), none, some (.int x4_54)] [.int s0_108] (wd_X9_needPairs c_latest c_asked c_upper c_lower c_n c_readAt c_readMany c_readFood c_isHead c_backMany c_deedMany c_whole c_wellSum c_strongSum c_hash c_came c_sizes c_rows) rr ww := by
        intro s0_108 h
        subst hke108
        refine gg_istore_n [some (.ref 0), none, some (.int y2), some (.int s0_108), some (.int x4_54)] dX9_needPairs_108 rfl (Nat.le_of_ble_eq_true rfl) rfl ?_
        refine gg_iinc (x4_54 + (2 : Int32)) [some (.ref 0), none, some (.int y2), some (.int s0_108), some (.int (x4_54 + (2 : Int32)))] dX9_needPairs_109 rfl rfl rfl (Nat.le_of_ble_eq_true rfl) rfl ?_
        refine gg_goto 54 dX9_needPairs_112 (by decide) ?_
        exact ih s0_108 (x4_54 + (2 : Int32)) h
      clear hke108
      obtain ⟨k107, hke107, h⟩ := gg_lte h
      have hk107 : k107 = some res → gg_G MD_X9_needPairs 107 [some (.ref 0), none, some (.int y2), none, some (.int x4_54)] [] (wd_X9_needPairs c_latest c_asked c_upper c_lower c_n c_readAt c_readMany c_readFood c_isHead c_backMany c_deedMany c_whole c_wellSum c_strongSum c_hash c_came c_sizes c_rows) rr ww := by
        intro  h
        subst hke107
        refine gg_iconst (0 : Int32) dX9_needPairs_107 (by decide) ?_
        exact hk108 (0 : Int32) h
      clear hke107
      refine gg_if_eq 107 dX9_needPairs_66 (by decide) (fun hc => ?_) (fun hc => ?_)
      · replace h := gg_th h hc
        refine gg_fg [true, false, true, false, true] [some (.ref 0), none, some (.int y2), none, some (.int x4_54)] rfl ?_
        exact hk107 h
      · replace h := gg_el h hc
        refine gg_aload_n dX9_needPairs_69 rfl ?_
        refine gg_iload_n dX9_needPairs_70 rfl ?_
        refine gg_iload dX9_needPairs_71 rfl ?_
        obtain ⟨v3, hv3, h⟩ := gg_bd h
        refine gg_callV (gg_sg [0]) [0, 3] (wd_X9_needPairs c_latest c_asked c_upper c_lower c_n c_readAt c_readMany c_readFood c_isHead c_backMany c_deedMany c_whole c_wellSum c_strongSum c_hash c_came c_sizes c_rows) 0 (C_X9_rowAt y2 x4_54 c_latest c_asked c_upper c_lower c_n c_readAt c_readMany c_readFood c_isHead c_backMany c_deedMany c_whole c_wellSum c_strongSum c_hash c_rows hv3) nV_X9_rowAt ml_X9_110 rfl rfl rfl rfl rfl rfl rfl rfl rfl rfl [1, 2] 4 rfl rfl rfl rfl rfl ⟨Nat.le_of_ble_eq_true rfl, Nat.le_of_ble_eq_true rfl⟩ (Nat.le_of_ble_eq_true rfl) dX9_needPairs_73 [.int v3] rfl ?_
        refine gg_iconst (0 : Int32) dX9_needPairs_76 (by decide) ?_
        refine gg_bipush (9 : Int32) dX9_needPairs_77 (by decide) ?_
        obtain ⟨v4, hv4, h⟩ := gg_bd h
        refine gg_callS (gg_sg []) [] (wd_X9_needPairs c_latest c_asked c_upper c_lower c_n c_readAt c_readMany c_readFood c_isHead c_backMany c_deedMany c_whole c_wellSum c_strongSum c_hash c_came c_sizes c_rows) (C_X9_in v3 (0 : Int32) (9 : Int32) hv4) nS_X9_in ml_X9_92 rfl rfl rfl rfl rfl rfl rfl [0, 1, 2, 3] 4 rfl rfl rfl rfl rfl ⟨Nat.le_of_ble_eq_true rfl, Nat.le_of_ble_eq_true rfl⟩ (Nat.le_of_ble_eq_true rfl) dX9_needPairs_79 [.int v4] rfl ?_
        refine gg_if_eq 107 dX9_needPairs_82 (by decide) (fun hc => ?_) (fun hc => ?_)
        · replace h := gg_th h hc
          refine gg_fg [true, false, true, false, true] [some (.ref 0), none, some (.int y2), none, some (.int x4_54)] rfl ?_
          exact hk107 h
        · replace h := gg_el h hc
          refine gg_aload_n dX9_needPairs_85 rfl ?_
          refine gg_iload_n dX9_needPairs_86 rfl ?_
          refine gg_iload dX9_needPairs_87 rfl ?_
          refine gg_iconst (1 : Int32) dX9_needPairs_89 (by decide) ?_
          refine gg_iadd dX9_needPairs_90 ?_
          obtain ⟨v5, hv5, h⟩ := gg_bd h
          refine gg_callV (gg_sg [0]) [0, 3] (wd_X9_needPairs c_latest c_asked c_upper c_lower c_n c_readAt c_readMany c_readFood c_isHead c_backMany c_deedMany c_whole c_wellSum c_strongSum c_hash c_came c_sizes c_rows) 0 (C_X9_rowAt y2 (x4_54 + (1 : Int32)) c_latest c_asked c_upper c_lower c_n c_readAt c_readMany c_readFood c_isHead c_backMany c_deedMany c_whole c_wellSum c_strongSum c_hash c_rows hv5) nV_X9_rowAt ml_X9_110 rfl rfl rfl rfl rfl rfl rfl rfl rfl rfl [1, 2] 4 rfl rfl rfl rfl rfl ⟨Nat.le_of_ble_eq_true rfl, Nat.le_of_ble_eq_true rfl⟩ (Nat.le_of_ble_eq_true rfl) dX9_needPairs_91 [.int v5] rfl ?_
          refine gg_iconst (0 : Int32) dX9_needPairs_94 (by decide) ?_
          refine gg_bipush (11 : Int32) dX9_needPairs_95 (by decide) ?_
          obtain ⟨v6, hv6, h⟩ := gg_bd h
          refine gg_callS (gg_sg []) [] (wd_X9_needPairs c_latest c_asked c_upper c_lower c_n c_readAt c_readMany c_readFood c_isHead c_backMany c_deedMany c_whole c_wellSum c_strongSum c_hash c_came c_sizes c_rows) (C_X9_in v5 (0 : Int32) (11 : Int32) hv6) nS_X9_in ml_X9_92 rfl rfl rfl rfl rfl rfl rfl [0, 1, 2, 3] 4 rfl rfl rfl rfl rfl ⟨Nat.le_of_ble_eq_true rfl, Nat.le_of_ble_eq_true rfl⟩ (Nat.le_of_ble_eq_true rfl) dX9_needPairs_97 [.int v6] rfl ?_
          refine gg_if_eq 107 dX9_needPairs_100 (by decide) (fun hc => ?_) (fun hc => ?_)
          · replace h := gg_th h hc
            refine gg_fg [true, false, true, false, true] [some (.ref 0), none, some (.int y2), none, some (.int x4_54)] rfl ?_
            exact hk107 h
          · replace h := gg_el h hc
            refine gg_iconst (1 : Int32) dX9_needPairs_103 (by decide) ?_
            refine gg_goto 108 dX9_needPairs_104 (by decide) ?_
            refine gg_fg [true, false, true, false, true] [some (.ref 0), none, some (.int y2), none, some (.int x4_54)] rfl ?_
            exact hk108 (1 : Int32) h
set_option maxRecDepth 20000 in
set_option maxHeartbeats 8000000 in
theorem C_X9_needPairs (a0 : Int32) (a1 : Int32) (c_latest : Int32) (c_asked : Int32) (c_upper : Int64) (c_lower : Int64) (c_n : Int32) (c_readAt : Int32) (c_readMany : Int32) (c_readFood : Int32) (c_isHead : Int32) (c_backMany : Int32) (c_deedMany : Int32) (c_whole : Int64) (c_wellSum : Int64) (c_strongSum : Int64) (c_hash : Int64) (c_came : Nat → Int32) (c_sizes : Nat → Int32) (c_rows : Nat → Int32) {r0 : Int32} {r1 : (Int32)} {r2 : (Nat → Int32)} (h : f_X9_needPairs a0 a1 c_latest c_n c_came c_sizes c_rows = some (r0, r1, r2)) : gg_C MD_X9_needPairs [.ref 0, .int a0, .int a1] (wd_X9_needPairs c_latest c_asked c_upper c_lower c_n c_readAt c_readMany c_readFood c_isHead c_backMany c_deedMany c_whole c_wellSum c_strongSum c_hash c_came c_sizes c_rows) (some (.int r0)) (wd_X9_needPairs r1 c_asked c_upper c_lower c_n c_readAt c_readMany c_readFood c_isHead c_backMany c_deedMany c_whole c_wellSum c_strongSum c_hash r2 c_sizes c_rows) := by
  refine gg_ofG [some (.ref 0), some (.int a0), some (.int a1), none, none] (plainFor_of_name (by decide)) (Nat.le_of_ble_eq_true rfl) rfl ?_
  unfold f_X9_needPairs at h
  refine gg_aload_n dX9_needPairs_0 rfl ?_
  refine gg_iload_n dX9_needPairs_1 rfl ?_
  obtain ⟨v1, hv1, h⟩ := gg_bd h
  refine gg_callV (gg_sg [0]) [0] (wd_X9_needPairs c_latest c_asked c_upper c_lower c_n c_readAt c_readMany c_readFood c_isHead c_backMany c_deedMany c_whole c_wellSum c_strongSum c_hash c_came c_sizes c_rows) 0 (C_X9_isHut a0 c_latest c_asked c_upper c_lower c_n c_readAt c_readMany c_readFood c_isHead c_backMany c_deedMany c_whole c_wellSum c_strongSum c_hash hv1) nV_X9_isHut ml_X9_198 rfl rfl rfl rfl rfl rfl rfl rfl rfl rfl [1, 2, 3] 4 rfl rfl rfl rfl rfl ⟨Nat.le_of_ble_eq_true rfl, Nat.le_of_ble_eq_true rfl⟩ (Nat.le_of_ble_eq_true rfl) dX9_needPairs_2 [.int v1] rfl ?_
  obtain ⟨k15, hke15, h⟩ := gg_lte h
  have hk15 : k15 = some (r0, r1, r2) → gg_G MD_X9_needPairs 15 [none, none, none, none, none] [] (wd_X9_needPairs c_latest c_asked c_upper c_lower c_n c_readAt c_readMany c_readFood c_isHead c_backMany c_deedMany c_whole c_wellSum c_strongSum c_hash c_came c_sizes c_rows) (some (.int r0)) (wd_X9_needPairs r1 c_asked c_upper c_lower c_n c_readAt c_readMany c_readFood c_isHead c_backMany c_deedMany c_whole c_wellSum c_strongSum c_hash r2 c_sizes c_rows) := by
    intro  h
    subst hke15
    refine gg_iconst (-1 : Int32) dX9_needPairs_15 (by decide) ?_
    cases h
    exact gg_iret dX9_needPairs_16 rfl
  clear hke15
  refine gg_if_eq 15 dX9_needPairs_5 (by decide) (fun hc => ?_) (fun hc => ?_)
  · replace h := gg_th h hc
    refine gg_fg [false, false, false, false, false] [none, none, none, none, none] rfl ?_
    exact hk15 h
  · replace h := gg_el h hc
    refine gg_iload_n dX9_needPairs_8 rfl ?_
    obtain ⟨v2, hv2, h⟩ := gg_bd h
    refine gg_callS (gg_sg []) [] (wd_X9_needPairs c_latest c_asked c_upper c_lower c_n c_readAt c_readMany c_readFood c_isHead c_backMany c_deedMany c_whole c_wellSum c_strongSum c_hash c_came c_sizes c_rows) (C_X9_isRow a1 hv2) nS_X9_isRow ml_X9_102 rfl rfl rfl rfl rfl rfl rfl [0, 1, 2, 3] 4 rfl rfl rfl rfl rfl ⟨Nat.le_of_ble_eq_true rfl, Nat.le_of_ble_eq_true rfl⟩ (Nat.le_of_ble_eq_true rfl) dX9_needPairs_9 [.int v2] rfl ?_
    refine gg_if_ne 17 dX9_needPairs_12 (by decide) (fun hc => ?_) (fun hc => ?_)
    · replace h := gg_el h hc
      refine gg_aload_n dX9_needPairs_17 rfl ?_
      refine gg_get 0 fl_X9_17 dX9_needPairs_18 rfl rfl ?_
      refine gg_iload_n dX9_needPairs_21 rfl ?_
      obtain ⟨hb22, h⟩ := gg_ck h
      refine gg_iald 2 dX9_needPairs_22 rfl hb22 ?_
      refine gg_if_ge 32 dX9_needPairs_23 (by decide) (fun hc => ?_) (fun hc => ?_)
      · replace h := gg_th h hc
        refine gg_aload_n dX9_needPairs_32 rfl ?_
        refine gg_get 0 fl_X9_17 dX9_needPairs_33 rfl rfl ?_
        refine gg_iload_n dX9_needPairs_36 rfl ?_
        obtain ⟨hb37, h⟩ := gg_ck h
        refine gg_iald 2 dX9_needPairs_37 rfl hb37 ?_
        refine gg_iconst (2 : Int32) dX9_needPairs_38 (by decide) ?_
        refine gg_irem dX9_needPairs_39 (by decide) ?_
        refine gg_if_eq 49 dX9_needPairs_40 (by decide) (fun hc => ?_) (fun hc => ?_)
        · replace h := gg_th h hc
          refine gg_iconst (1 : Int32) dX9_needPairs_49 (by decide) ?_
          refine gg_istore_n [some (.ref 0), some (.int a0), some (.int a1), some (.int (1 : Int32)), none] dX9_needPairs_50 rfl (Nat.le_of_ble_eq_true rfl) rfl ?_
          refine gg_iconst (0 : Int32) dX9_needPairs_51 (by decide) ?_
          refine gg_istore [some (.ref 0), some (.int a0), some (.int a1), some (.int (1 : Int32)), some (.int (0 : Int32))] dX9_needPairs_52 rfl (Nat.le_of_ble_eq_true rfl) rfl ?_
          refine gg_fg [true, false, true, true, true] [some (.ref 0), none, some (.int a1), some (.int (1 : Int32)), some (.int (0 : Int32))] rfl ?_
          refine lq_X9_needPairs_54 a1 c_latest c_asked c_upper c_lower c_n c_readAt c_readMany c_readFood c_isHead c_backMany c_deedMany c_whole c_wellSum c_strongSum c_hash c_came c_sizes c_rows _ ?_ gg_fuel (1 : Int32) (0 : Int32) h
          intro x3_115 h
          refine gg_iload_n dX9_needPairs_115 rfl ?_
          obtain ⟨k128, hke128, h⟩ := gg_lte h
          have hk128 : ∀ (s0_128 : Int32) (c_latest_128 : Int32) (c_came_128 : Nat → Int32), k128 s0_128 c_latest_128 c_came_128 = some (r0, r1, r2) → gg_G MD_X9_needPairs 128 [none, none, none, none, none] [.int s0_128] (wd_X9_needPairs c_latest_128 c_asked c_upper c_lower c_n c_readAt c_readMany c_readFood c_isHead c_backMany c_deedMany c_whole c_wellSum c_strongSum c_hash c_came_128 c_sizes c_rows) (some (.int r0)) (wd_X9_needPairs r1 c_asked c_upper c_lower c_n c_readAt c_readMany c_readFood c_isHead c_backMany c_deedMany c_whole c_wellSum c_strongSum c_hash r2 c_sizes c_rows) := by
            intro s0_128 c_latest_128 c_came_128 h
            subst hke128
            cases h
            exact gg_iret dX9_needPairs_128 rfl
          clear hke128
          refine gg_if_eq 123 dX9_needPairs_116 (by decide) (fun hc => ?_) (fun hc => ?_)
          · replace h := gg_th h hc
            refine gg_aload_n dX9_needPairs_123 rfl ?_
            refine gg_iconst (3 : Int32) dX9_needPairs_124 (by decide) ?_
            obtain ⟨v7_0, v7_1, v7_2, hv7, h⟩ := gg_bd3 h
            refine gg_callV (gg_sg [0]) [0, 1] (wd_X9_needPairs v7_1 c_asked c_upper c_lower c_n c_readAt c_readMany c_readFood c_isHead c_backMany c_deedMany c_whole c_wellSum c_strongSum c_hash v7_2 c_sizes c_rows) 0 (C_X9_meets (3 : Int32) c_latest c_asked c_upper c_lower c_n c_readAt c_readMany c_readFood c_isHead c_backMany c_deedMany c_whole c_wellSum c_strongSum c_hash c_came hv7) nV_X9_meets ml_X9_106 rfl rfl rfl rfl rfl rfl rfl rfl rfl rfl [2, 3] 4 rfl rfl rfl rfl rfl ⟨Nat.le_of_ble_eq_true rfl, Nat.le_of_ble_eq_true rfl⟩ (Nat.le_of_ble_eq_true rfl) dX9_needPairs_125 [.int v7_0] rfl ?_
            refine gg_fg [false, false, false, false, false] [none, none, none, none, none] rfl ?_
            exact hk128 v7_0 v7_1 v7_2 h
          · replace h := gg_el h hc
            refine gg_iconst (0 : Int32) dX9_needPairs_119 (by decide) ?_
            refine gg_goto 128 dX9_needPairs_120 (by decide) ?_
            refine gg_fg [false, false, false, false, false] [none, none, none, none, none] rfl ?_
            exact hk128 (0 : Int32) c_latest c_came h
        · replace h := gg_el h hc
          refine gg_aload_n dX9_needPairs_43 rfl ?_
          refine gg_iconst (5 : Int32) dX9_needPairs_44 (by decide) ?_
          obtain ⟨v8_0, v8_1, v8_2, hv8, h⟩ := gg_bd3 h
          refine gg_callV (gg_sg [0]) [0, 1] (wd_X9_needPairs v8_1 c_asked c_upper c_lower c_n c_readAt c_readMany c_readFood c_isHead c_backMany c_deedMany c_whole c_wellSum c_strongSum c_hash v8_2 c_sizes c_rows) 0 (C_X9_meets (5 : Int32) c_latest c_asked c_upper c_lower c_n c_readAt c_readMany c_readFood c_isHead c_backMany c_deedMany c_whole c_wellSum c_strongSum c_hash c_came hv8) nV_X9_meets ml_X9_106 rfl rfl rfl rfl rfl rfl rfl rfl rfl rfl [2, 3] 4 rfl rfl rfl rfl rfl ⟨Nat.le_of_ble_eq_true rfl, Nat.le_of_ble_eq_true rfl⟩ (Nat.le_of_ble_eq_true rfl) dX9_needPairs_45 [.int v8_0] rfl ?_
          cases h
          exact gg_iret dX9_needPairs_48 rfl
      · replace h := gg_el h hc
        refine gg_aload_n dX9_needPairs_26 rfl ?_
        refine gg_iconst (1 : Int32) dX9_needPairs_27 (by decide) ?_
        obtain ⟨v9_0, v9_1, v9_2, hv9, h⟩ := gg_bd3 h
        refine gg_callV (gg_sg [0]) [0, 1] (wd_X9_needPairs v9_1 c_asked c_upper c_lower c_n c_readAt c_readMany c_readFood c_isHead c_backMany c_deedMany c_whole c_wellSum c_strongSum c_hash v9_2 c_sizes c_rows) 0 (C_X9_meets (1 : Int32) c_latest c_asked c_upper c_lower c_n c_readAt c_readMany c_readFood c_isHead c_backMany c_deedMany c_whole c_wellSum c_strongSum c_hash c_came hv9) nV_X9_meets ml_X9_106 rfl rfl rfl rfl rfl rfl rfl rfl rfl rfl [2, 3] 4 rfl rfl rfl rfl rfl ⟨Nat.le_of_ble_eq_true rfl, Nat.le_of_ble_eq_true rfl⟩ (Nat.le_of_ble_eq_true rfl) dX9_needPairs_28 [.int v9_0] rfl ?_
        cases h
        exact gg_iret dX9_needPairs_31 rfl
    · replace h := gg_th h hc
      refine gg_fg [false, false, false, false, false] [none, none, none, none, none] rfl ?_
      exact hk15 h
def wd_X9_kindSet (c_latest : Int32) (c_asked : Int32) (c_upper : Int64) (c_lower : Int64) (c_n : Int32) (c_readAt : Int32) (c_readMany : Int32) (c_readFood : Int32) (c_isHead : Int32) (c_backMany : Int32) (c_deedMany : Int32) (c_whole : Int64) (c_wellSum : Int64) (c_strongSum : Int64) (c_hash : Int64) (c_sizes : Nat → Int32) (c_rows : Nat → Int32) : va_W := [(0, .inr (8, [.int c_latest, .ref 1, .int c_asked, .long c_upper, .long c_lower, .ref 2, .ref 3, .ref 4, .ref 5, .ref 6, .int c_n, .ref 7, .ref 8, .ref 9, .ref 10, .int c_readAt, .int c_readMany, .int c_readFood, .int c_isHead, .ref 11, .ref 12, .ref 13, .int c_backMany, .int c_deedMany, .ref 14, .ref 15, .ref 16, .ref 17, .ref 18, .ref 19, .ref 20, .ref 21, .ref 22, .ref 23, .ref 24, .long c_whole, .long c_wellSum, .long c_strongSum, .long c_hash])), (2, .inl (0, 6, .inl c_sizes)), (3, .inl (0, 240, .inl c_rows))]
def MD_X9_kindSet : gg_M := (yX9_kindSet, cX9_kindSet, 6, some .int, 1, 22)
theorem nV_X9_kindSet : gg_nV MD_X9_kindSet 1 := ⟨⟨gg_mem (by decide +kernel) rfl, gg_mem cw_X9_kindSet rfl, by decide, by decide, by decide +kernel⟩, gg_mem (by decide +kernel) rfl, gg_mem (by decide +kernel) rfl⟩
def lp_X9_kindSet_15 {β : Type} (y1 : Int32) (y3 : Int32) (c_sizes : Nat → Int32) (c_rows : Nat → Int32) (k67 : (Int32) → Option β) : Nat → (Int32) → (Int32) → Option β
  | 0, _, _ => none
  | n + 1, x4_15, x5_15 => gg_chk (gg_in y1 6) ((if (c_sizes y1.toNatClampNeg) ≤ x5_15 then (k67 x4_15) else gg_lt (fun (s0_59 : Int32) => (lp_X9_kindSet_15 y1 y3 c_sizes c_rows k67 n s0_59 (x5_15 + (2 : Int32)))) (fun k59 => gg_lt ((k59 (0 : Int32))) (fun k58 => (if x4_15 = (0 : Int32) then k58 else (f_X9_rowAt y1 x5_15 c_rows).bind (fun v1 => (f_X9_tiredBy y3 v1).bind (fun v2 => (f_X9_rowAt y1 (x5_15 + (1 : Int32)) c_rows).bind (fun v3 => (if v2 = v3 then (k59 (1 : Int32)) else k58)))))))))
def lp_X9_kindSet_4 {β : Type} (y1 : Int32) (c_sizes : Nat → Int32) (c_rows : Nat → Int32) (k88 : (Int32) → Option β) : Nat → (Int32) → (Int32) → Option β
  | 0, _, _ => none
  | n + 1, x2_4, x3_4 => (if (5 : Int32) < x3_4 then (k88 x2_4) else (lp_X9_kindSet_15 y1 x3_4 c_sizes c_rows (fun (x4_67 : Int32) => gg_lt (fun (s1_80 : Int32) => (lp_X9_kindSet_4 y1 c_sizes c_rows k88 n (x2_4 ||| s1_80) (x3_4 + (1 : Int32)))) (fun k80 => (if x4_67 = (0 : Int32) then (k80 (0 : Int32)) else (k80 ((1 : Int32) <<< (x3_4 &&& 31)))))) gg_fuel (1 : Int32) (0 : Int32)))
def f_X9_kindSet (a0 : Int32) (c_sizes : Nat → Int32) (c_rows : Nat → Int32) : Option (Int32) := (lp_X9_kindSet_4 a0 c_sizes c_rows (fun (x2_88 : Int32) => (some x2_88)) gg_fuel (0 : Int32) (0 : Int32))
set_option maxRecDepth 20000 in
set_option maxHeartbeats 4000000 in
theorem lq_X9_kindSet_15 {β : Type} {res : β} {rr : Option Value} {ww : va_W} (y1 : Int32) (y2 : Int32) (y3 : Int32) (c_latest : Int32) (c_asked : Int32) (c_upper : Int64) (c_lower : Int64) (c_n : Int32) (c_readAt : Int32) (c_readMany : Int32) (c_readFood : Int32) (c_isHead : Int32) (c_backMany : Int32) (c_deedMany : Int32) (c_whole : Int64) (c_wellSum : Int64) (c_strongSum : Int64) (c_hash : Int64) (c_sizes : Nat → Int32) (c_rows : Nat → Int32) (k67 : (Int32) → Option β) (hk67 : ∀ (x4_67 : Int32), k67 x4_67 = some res → gg_G MD_X9_kindSet 67 [some (.ref 0), some (.int y1), some (.int y2), some (.int y3), some (.int x4_67), none] [] (wd_X9_kindSet c_latest c_asked c_upper c_lower c_n c_readAt c_readMany c_readFood c_isHead c_backMany c_deedMany c_whole c_wellSum c_strongSum c_hash c_sizes c_rows) rr ww) : ∀ (n : Nat) (x4_15 : Int32) (x5_15 : Int32), lp_X9_kindSet_15 y1 y3 c_sizes c_rows k67 n x4_15 x5_15 = some res → gg_G MD_X9_kindSet 15 [some (.ref 0), some (.int y1), some (.int y2), some (.int y3), some (.int x4_15), some (.int x5_15)] [] (wd_X9_kindSet c_latest c_asked c_upper c_lower c_n c_readAt c_readMany c_readFood c_isHead c_backMany c_deedMany c_whole c_wellSum c_strongSum c_hash c_sizes c_rows) rr ww := by
  intro n
  induction n with
  | zero =>
    intro x4_15 x5_15 h
    exact nomatch (show (none : Option β) = some res from h)
  | succ n ih =>
    intro x4_15 x5_15 h
    rw [lp_X9_kindSet_15] at h
    refine gg_iload dX9_kindSet_15 rfl ?_
    refine gg_aload_n dX9_kindSet_17 rfl ?_
    refine gg_get 0 fl_X9_17 dX9_kindSet_18 rfl rfl ?_
    refine gg_iload_n dX9_kindSet_21 rfl ?_
    obtain ⟨hb22, h⟩ := gg_ck h
    refine gg_iald 1 dX9_kindSet_22 rfl hb22 ?_
    refine gg_icmp_ge 67 dX9_kindSet_23 (by decide) (fun hc => ?_) (fun hc => ?_)
    · replace h := gg_th h hc
      refine gg_fg [true, true, true, true, true, false] [some (.ref 0), some (.int y1), some (.int y2), some (.int y3), some (.int x4_15), none] rfl ?_
      exact hk67 x4_15 h
    · replace h := gg_el h hc
      refine gg_iload dX9_kindSet_26 rfl ?_
      obtain ⟨k59, hke59, h⟩ := gg_lte h
      have hk59 : ∀ (s0_59 : Int32), k59 s0_59 = some res → gg_G MD_X9_kindSet 59 [some (.ref 0), some (.int y1), some (.int y2), some (.int y3), none, some (.int x5_15)] [.int s0_59] (wd_X9_kindSet c_latest c_asked c_upper c_lower c_n c_readAt c_readMany c_readFood c_isHead c_backMany c_deedMany c_whole c_wellSum c_strongSum c_hash c_sizes c_rows) rr ww := by
        intro s0_59 h
        subst hke59
        refine gg_istore [some (.ref 0), some (.int y1), some (.int y2), some (.int y3), some (.int s0_59), some (.int x5_15)] dX9_kindSet_59 rfl (Nat.le_of_ble_eq_true rfl) rfl ?_
        refine gg_iinc (x5_15 + (2 : Int32)) [some (.ref 0), some (.int y1), some (.int y2), some (.int y3), some (.int s0_59), some (.int (x5_15 + (2 : Int32)))] dX9_kindSet_61 rfl rfl rfl (Nat.le_of_ble_eq_true rfl) rfl ?_
        refine gg_goto 15 dX9_kindSet_64 (by decide) ?_
        exact ih s0_59 (x5_15 + (2 : Int32)) h
      clear hke59
      obtain ⟨k58, hke58, h⟩ := gg_lte h
      have hk58 : k58 = some res → gg_G MD_X9_kindSet 58 [some (.ref 0), some (.int y1), some (.int y2), some (.int y3), none, some (.int x5_15)] [] (wd_X9_kindSet c_latest c_asked c_upper c_lower c_n c_readAt c_readMany c_readFood c_isHead c_backMany c_deedMany c_whole c_wellSum c_strongSum c_hash c_sizes c_rows) rr ww := by
        intro  h
        subst hke58
        refine gg_iconst (0 : Int32) dX9_kindSet_58 (by decide) ?_
        exact hk59 (0 : Int32) h
      clear hke58
      refine gg_if_eq 58 dX9_kindSet_28 (by decide) (fun hc => ?_) (fun hc => ?_)
      · replace h := gg_th h hc
        refine gg_fg [true, true, true, true, false, true] [some (.ref 0), some (.int y1), some (.int y2), some (.int y3), none, some (.int x5_15)] rfl ?_
        exact hk58 h
      · replace h := gg_el h hc
        refine gg_iload_n dX9_kindSet_31 rfl ?_
        refine gg_aload_n dX9_kindSet_32 rfl ?_
        refine gg_iload_n dX9_kindSet_33 rfl ?_
        refine gg_iload dX9_kindSet_34 rfl ?_
        obtain ⟨v1, hv1, h⟩ := gg_bd h
        refine gg_callV (gg_sg [0]) [0, 2] (wd_X9_kindSet c_latest c_asked c_upper c_lower c_n c_readAt c_readMany c_readFood c_isHead c_backMany c_deedMany c_whole c_wellSum c_strongSum c_hash c_sizes c_rows) 0 (C_X9_rowAt y1 x5_15 c_latest c_asked c_upper c_lower c_n c_readAt c_readMany c_readFood c_isHead c_backMany c_deedMany c_whole c_wellSum c_strongSum c_hash c_rows hv1) nV_X9_rowAt ml_X9_110 rfl rfl rfl rfl rfl rfl rfl rfl rfl rfl [1] 3 rfl rfl rfl rfl rfl ⟨Nat.le_of_ble_eq_true rfl, Nat.le_of_ble_eq_true rfl⟩ (Nat.le_of_ble_eq_true rfl) dX9_kindSet_36 [.int v1, .int y3] rfl ?_
        obtain ⟨v2, hv2, h⟩ := gg_bd h
        refine gg_callS (gg_sg []) [] (wd_X9_kindSet c_latest c_asked c_upper c_lower c_n c_readAt c_readMany c_readFood c_isHead c_backMany c_deedMany c_whole c_wellSum c_strongSum c_hash c_sizes c_rows) (C_X9_tiredBy y3 v1 hv2) nS_X9_tiredBy ml_X9_181 rfl rfl rfl rfl rfl rfl rfl [0, 1, 2] 3 rfl rfl rfl rfl rfl ⟨Nat.le_of_ble_eq_true rfl, Nat.le_of_ble_eq_true rfl⟩ (Nat.le_of_ble_eq_true rfl) dX9_kindSet_39 [.int v2] rfl ?_
        refine gg_aload_n dX9_kindSet_42 rfl ?_
        refine gg_iload_n dX9_kindSet_43 rfl ?_
        refine gg_iload dX9_kindSet_44 rfl ?_
        refine gg_iconst (1 : Int32) dX9_kindSet_46 (by decide) ?_
        refine gg_iadd dX9_kindSet_47 ?_
        obtain ⟨v3, hv3, h⟩ := gg_bd h
        refine gg_callV (gg_sg [0]) [0, 2] (wd_X9_kindSet c_latest c_asked c_upper c_lower c_n c_readAt c_readMany c_readFood c_isHead c_backMany c_deedMany c_whole c_wellSum c_strongSum c_hash c_sizes c_rows) 0 (C_X9_rowAt y1 (x5_15 + (1 : Int32)) c_latest c_asked c_upper c_lower c_n c_readAt c_readMany c_readFood c_isHead c_backMany c_deedMany c_whole c_wellSum c_strongSum c_hash c_rows hv3) nV_X9_rowAt ml_X9_110 rfl rfl rfl rfl rfl rfl rfl rfl rfl rfl [1] 3 rfl rfl rfl rfl rfl ⟨Nat.le_of_ble_eq_true rfl, Nat.le_of_ble_eq_true rfl⟩ (Nat.le_of_ble_eq_true rfl) dX9_kindSet_48 [.int v3, .int v2] rfl ?_
        refine gg_icmp_ne 58 dX9_kindSet_51 (by decide) (fun hc => ?_) (fun hc => ?_)
        · replace h := gg_el h hc
          refine gg_fg [true, true, true, true, false, true] [some (.ref 0), some (.int y1), some (.int y2), some (.int y3), none, some (.int x5_15)] rfl ?_
          exact hk58 h
        · replace h := gg_th h hc
          refine gg_iconst (1 : Int32) dX9_kindSet_54 (by decide) ?_
          refine gg_goto 59 dX9_kindSet_55 (by decide) ?_
          refine gg_fg [true, true, true, true, false, true] [some (.ref 0), some (.int y1), some (.int y2), some (.int y3), none, some (.int x5_15)] rfl ?_
          exact hk59 (1 : Int32) h
set_option maxRecDepth 20000 in
set_option maxHeartbeats 4000000 in
theorem lq_X9_kindSet_4 {β : Type} {res : β} {rr : Option Value} {ww : va_W} (y1 : Int32) (c_latest : Int32) (c_asked : Int32) (c_upper : Int64) (c_lower : Int64) (c_n : Int32) (c_readAt : Int32) (c_readMany : Int32) (c_readFood : Int32) (c_isHead : Int32) (c_backMany : Int32) (c_deedMany : Int32) (c_whole : Int64) (c_wellSum : Int64) (c_strongSum : Int64) (c_hash : Int64) (c_sizes : Nat → Int32) (c_rows : Nat → Int32) (k88 : (Int32) → Option β) (hk88 : ∀ (x2_88 : Int32), k88 x2_88 = some res → gg_G MD_X9_kindSet 88 [none, none, some (.int x2_88), none, none, none] [] (wd_X9_kindSet c_latest c_asked c_upper c_lower c_n c_readAt c_readMany c_readFood c_isHead c_backMany c_deedMany c_whole c_wellSum c_strongSum c_hash c_sizes c_rows) rr ww) : ∀ (n : Nat) (x2_4 : Int32) (x3_4 : Int32), lp_X9_kindSet_4 y1 c_sizes c_rows k88 n x2_4 x3_4 = some res → gg_G MD_X9_kindSet 4 [some (.ref 0), some (.int y1), some (.int x2_4), some (.int x3_4), none, none] [] (wd_X9_kindSet c_latest c_asked c_upper c_lower c_n c_readAt c_readMany c_readFood c_isHead c_backMany c_deedMany c_whole c_wellSum c_strongSum c_hash c_sizes c_rows) rr ww := by
  intro n
  induction n with
  | zero =>
    intro x2_4 x3_4 h
    exact nomatch (show (none : Option β) = some res from h)
  | succ n ih =>
    intro x2_4 x3_4 h
    rw [lp_X9_kindSet_4] at h
    refine gg_iload_n dX9_kindSet_4 rfl ?_
    refine gg_iconst (5 : Int32) dX9_kindSet_5 (by decide) ?_
    refine gg_icmp_gt 88 dX9_kindSet_6 (by decide) (fun hc => ?_) (fun hc => ?_)
    · replace h := gg_th h hc
      refine gg_fg [false, false, true, false, false, false] [none, none, some (.int x2_4), none, none, none] rfl ?_
      exact hk88 x2_4 h
    · replace h := gg_el h hc
      refine gg_iconst (1 : Int32) dX9_kindSet_9 (by decide) ?_
      refine gg_istore [some (.ref 0), some (.int y1), some (.int x2_4), some (.int x3_4), some (.int (1 : Int32)), none] dX9_kindSet_10 rfl (Nat.le_of_ble_eq_true rfl) rfl ?_
      refine gg_iconst (0 : Int32) dX9_kindSet_12 (by decide) ?_
      refine gg_istore [some (.ref 0), some (.int y1), some (.int x2_4), some (.int x3_4), some (.int (1 : Int32)), some (.int (0 : Int32))] dX9_kindSet_13 rfl (Nat.le_of_ble_eq_true rfl) rfl ?_
      refine lq_X9_kindSet_15 y1 x2_4 x3_4 c_latest c_asked c_upper c_lower c_n c_readAt c_readMany c_readFood c_isHead c_backMany c_deedMany c_whole c_wellSum c_strongSum c_hash c_sizes c_rows _ ?_ gg_fuel (1 : Int32) (0 : Int32) h
      intro x4_67 h
      refine gg_iload_n dX9_kindSet_67 rfl ?_
      refine gg_iload dX9_kindSet_68 rfl ?_
      obtain ⟨k80, hke80, h⟩ := gg_lte h
      have hk80 : ∀ (s1_80 : Int32), k80 s1_80 = some res → gg_G MD_X9_kindSet 80 [some (.ref 0), some (.int y1), none, some (.int x3_4), none, none] [.int s1_80, .int x2_4] (wd_X9_kindSet c_latest c_asked c_upper c_lower c_n c_readAt c_readMany c_readFood c_isHead c_backMany c_deedMany c_whole c_wellSum c_strongSum c_hash c_sizes c_rows) rr ww := by
        intro s1_80 h
        subst hke80
        refine gg_ior dX9_kindSet_80 ?_
        refine gg_istore_n [some (.ref 0), some (.int y1), some (.int (x2_4 ||| s1_80)), some (.int x3_4), none, none] dX9_kindSet_81 rfl (Nat.le_of_ble_eq_true rfl) rfl ?_
        refine gg_iinc (x3_4 + (1 : Int32)) [some (.ref 0), some (.int y1), some (.int (x2_4 ||| s1_80)), some (.int (x3_4 + (1 : Int32))), none, none] dX9_kindSet_82 rfl rfl rfl (Nat.le_of_ble_eq_true rfl) rfl ?_
        refine gg_goto 4 dX9_kindSet_85 (by decide) ?_
        exact ih (x2_4 ||| s1_80) (x3_4 + (1 : Int32)) h
      clear hke80
      refine gg_if_eq 79 dX9_kindSet_70 (by decide) (fun hc => ?_) (fun hc => ?_)
      · replace h := gg_th h hc
        refine gg_iconst (0 : Int32) dX9_kindSet_79 (by decide) ?_
        refine gg_fg [true, true, false, true, false, false] [some (.ref 0), some (.int y1), none, some (.int x3_4), none, none] rfl ?_
        exact hk80 (0 : Int32) h
      · replace h := gg_el h hc
        refine gg_iconst (1 : Int32) dX9_kindSet_73 (by decide) ?_
        refine gg_iload_n dX9_kindSet_74 rfl ?_
        refine gg_ishl dX9_kindSet_75 ?_
        refine gg_goto 80 dX9_kindSet_76 (by decide) ?_
        refine gg_fg [true, true, false, true, false, false] [some (.ref 0), some (.int y1), none, some (.int x3_4), none, none] rfl ?_
        exact hk80 ((1 : Int32) <<< (x3_4 &&& 31)) h
set_option maxRecDepth 20000 in
set_option maxHeartbeats 8000000 in
theorem C_X9_kindSet (a0 : Int32) (c_latest : Int32) (c_asked : Int32) (c_upper : Int64) (c_lower : Int64) (c_n : Int32) (c_readAt : Int32) (c_readMany : Int32) (c_readFood : Int32) (c_isHead : Int32) (c_backMany : Int32) (c_deedMany : Int32) (c_whole : Int64) (c_wellSum : Int64) (c_strongSum : Int64) (c_hash : Int64) (c_sizes : Nat → Int32) (c_rows : Nat → Int32) {res : Int32} (h : f_X9_kindSet a0 c_sizes c_rows = some res) : gg_C MD_X9_kindSet [.ref 0, .int a0] (wd_X9_kindSet c_latest c_asked c_upper c_lower c_n c_readAt c_readMany c_readFood c_isHead c_backMany c_deedMany c_whole c_wellSum c_strongSum c_hash c_sizes c_rows) (some (.int res)) (wd_X9_kindSet c_latest c_asked c_upper c_lower c_n c_readAt c_readMany c_readFood c_isHead c_backMany c_deedMany c_whole c_wellSum c_strongSum c_hash c_sizes c_rows) := by
  refine gg_ofG [some (.ref 0), some (.int a0), none, none, none, none] (plainFor_of_name (by decide)) (Nat.le_of_ble_eq_true rfl) rfl ?_
  unfold f_X9_kindSet at h
  refine gg_iconst (0 : Int32) dX9_kindSet_0 (by decide) ?_
  refine gg_istore_n [some (.ref 0), some (.int a0), some (.int (0 : Int32)), none, none, none] dX9_kindSet_1 rfl (Nat.le_of_ble_eq_true rfl) rfl ?_
  refine gg_iconst (0 : Int32) dX9_kindSet_2 (by decide) ?_
  refine gg_istore_n [some (.ref 0), some (.int a0), some (.int (0 : Int32)), some (.int (0 : Int32)), none, none] dX9_kindSet_3 rfl (Nat.le_of_ble_eq_true rfl) rfl ?_
  refine lq_X9_kindSet_4 a0 c_latest c_asked c_upper c_lower c_n c_readAt c_readMany c_readFood c_isHead c_backMany c_deedMany c_whole c_wellSum c_strongSum c_hash c_sizes c_rows _ ?_ gg_fuel (0 : Int32) (0 : Int32) h
  intro x2_88 h
  refine gg_iload_n dX9_kindSet_88 rfl ?_
  cases h
  exact gg_iret dX9_kindSet_89 rfl
def wd_X9_kinds (c_latest : Int32) (c_asked : Int32) (c_upper : Int64) (c_lower : Int64) (c_n : Int32) (c_readAt : Int32) (c_readMany : Int32) (c_readFood : Int32) (c_isHead : Int32) (c_backMany : Int32) (c_deedMany : Int32) (c_whole : Int64) (c_wellSum : Int64) (c_strongSum : Int64) (c_hash : Int64) (c_came : Nat → Int32) (c_sizes : Nat → Int32) (c_rows : Nat → Int32) : va_W := [(0, .inr (8, [.int c_latest, .ref 1, .int c_asked, .long c_upper, .long c_lower, .ref 2, .ref 3, .ref 4, .ref 5, .ref 6, .int c_n, .ref 7, .ref 8, .ref 9, .ref 10, .int c_readAt, .int c_readMany, .int c_readFood, .int c_isHead, .ref 11, .ref 12, .ref 13, .int c_backMany, .int c_deedMany, .ref 14, .ref 15, .ref 16, .ref 17, .ref 18, .ref 19, .ref 20, .ref 21, .ref 22, .ref 23, .ref 24, .long c_whole, .long c_wellSum, .long c_strongSum, .long c_hash])), (1, .inl (0, 6, .inl c_came)), (2, .inl (0, 6, .inl c_sizes)), (3, .inl (0, 240, .inl c_rows))]
def MD_X9_kinds : gg_M := (yX9_kinds, cX9_kinds, 4, some .int, 3, 67)
theorem nV_X9_kinds : gg_nV MD_X9_kinds 2 := ⟨⟨gg_mem (by decide +kernel) rfl, gg_mem cw_X9_kinds rfl, by decide, by decide, by decide +kernel⟩, gg_mem (by decide +kernel) rfl, gg_mem (by decide +kernel) rfl⟩
def f_X9_kinds (a0 : Int32) (a1 : Int32) (c_latest : Int32) (c_n : Int32) (c_came : Nat → Int32) (c_sizes : Nat → Int32) (c_rows : Nat → Int32) : Option (Int32 × (Int32) × (Nat → Int32)) := gg_b3 (f_X9_needPairs a0 a1 c_latest c_n c_came c_sizes c_rows) (fun v1_0 v1_1 v1_2 => gg_lt (fun (s0_20 : Int32) => (some (s0_20, v1_1, v1_2))) (fun k20 => (if (0 : Int32) ≤ v1_0 then (f_X9_kindSet a1 c_sizes c_rows).bind (fun v2 => (k20 v2)) else (k20 v1_0))))
set_option maxRecDepth 20000 in
set_option maxHeartbeats 8000000 in
theorem C_X9_kinds (a0 : Int32) (a1 : Int32) (c_latest : Int32) (c_asked : Int32) (c_upper : Int64) (c_lower : Int64) (c_n : Int32) (c_readAt : Int32) (c_readMany : Int32) (c_readFood : Int32) (c_isHead : Int32) (c_backMany : Int32) (c_deedMany : Int32) (c_whole : Int64) (c_wellSum : Int64) (c_strongSum : Int64) (c_hash : Int64) (c_came : Nat → Int32) (c_sizes : Nat → Int32) (c_rows : Nat → Int32) {r0 : Int32} {r1 : (Int32)} {r2 : (Nat → Int32)} (h : f_X9_kinds a0 a1 c_latest c_n c_came c_sizes c_rows = some (r0, r1, r2)) : gg_C MD_X9_kinds [.ref 0, .int a0, .int a1] (wd_X9_kinds c_latest c_asked c_upper c_lower c_n c_readAt c_readMany c_readFood c_isHead c_backMany c_deedMany c_whole c_wellSum c_strongSum c_hash c_came c_sizes c_rows) (some (.int r0)) (wd_X9_kinds r1 c_asked c_upper c_lower c_n c_readAt c_readMany c_readFood c_isHead c_backMany c_deedMany c_whole c_wellSum c_strongSum c_hash r2 c_sizes c_rows) := by
  refine gg_ofG [some (.ref 0), some (.int a0), some (.int a1), none] (plainFor_of_name (by decide)) (Nat.le_of_ble_eq_true rfl) rfl ?_
  unfold f_X9_kinds at h
  refine gg_aload_n dX9_kinds_0 rfl ?_
  refine gg_iload_n dX9_kinds_1 rfl ?_
  refine gg_iload_n dX9_kinds_2 rfl ?_
  obtain ⟨v1_0, v1_1, v1_2, hv1, h⟩ := gg_bd3 h
  refine gg_callV (gg_sg [0]) [0, 1, 2, 3] (wd_X9_kinds v1_1 c_asked c_upper c_lower c_n c_readAt c_readMany c_readFood c_isHead c_backMany c_deedMany c_whole c_wellSum c_strongSum c_hash v1_2 c_sizes c_rows) 0 (C_X9_needPairs a0 a1 c_latest c_asked c_upper c_lower c_n c_readAt c_readMany c_readFood c_isHead c_backMany c_deedMany c_whole c_wellSum c_strongSum c_hash c_came c_sizes c_rows hv1) nV_X9_needPairs ml_X9_252 rfl rfl rfl rfl rfl rfl rfl rfl rfl rfl [] 4 rfl rfl rfl rfl rfl ⟨Nat.le_of_ble_eq_true rfl, Nat.le_of_ble_eq_true rfl⟩ (Nat.le_of_ble_eq_true rfl) dX9_kinds_3 [.int v1_0] rfl ?_
  refine gg_istore_n [some (.ref 0), some (.int a0), some (.int a1), some (.int v1_0)] dX9_kinds_6 rfl (Nat.le_of_ble_eq_true rfl) rfl ?_
  refine gg_iload_n dX9_kinds_7 rfl ?_
  obtain ⟨k20, hke20, h⟩ := gg_lte h
  have hk20 : ∀ (s0_20 : Int32), k20 s0_20 = some (r0, r1, r2) → gg_G MD_X9_kinds 20 [none, none, none, none] [.int s0_20] (wd_X9_kinds v1_1 c_asked c_upper c_lower c_n c_readAt c_readMany c_readFood c_isHead c_backMany c_deedMany c_whole c_wellSum c_strongSum c_hash v1_2 c_sizes c_rows) (some (.int r0)) (wd_X9_kinds r1 c_asked c_upper c_lower c_n c_readAt c_readMany c_readFood c_isHead c_backMany c_deedMany c_whole c_wellSum c_strongSum c_hash r2 c_sizes c_rows) := by
    intro s0_20 h
    subst hke20
    cases h
    exact gg_iret dX9_kinds_20 rfl
  clear hke20
  refine gg_if_ge 15 dX9_kinds_8 (by decide) (fun hc => ?_) (fun hc => ?_)
  · replace h := gg_th h hc
    refine gg_aload_n dX9_kinds_15 rfl ?_
    refine gg_iload_n dX9_kinds_16 rfl ?_
    obtain ⟨v2, hv2, h⟩ := gg_bd h
    refine gg_callV (gg_sg [0]) [0, 2, 3] (wd_X9_kinds v1_1 c_asked c_upper c_lower c_n c_readAt c_readMany c_readFood c_isHead c_backMany c_deedMany c_whole c_wellSum c_strongSum c_hash v1_2 c_sizes c_rows) 0 (C_X9_kindSet a1 v1_1 c_asked c_upper c_lower c_n c_readAt c_readMany c_readFood c_isHead c_backMany c_deedMany c_whole c_wellSum c_strongSum c_hash c_sizes c_rows hv2) nV_X9_kindSet ml_X9_255 rfl rfl rfl rfl rfl rfl rfl rfl rfl rfl [1] 4 rfl rfl rfl rfl rfl ⟨Nat.le_of_ble_eq_true rfl, Nat.le_of_ble_eq_true rfl⟩ (Nat.le_of_ble_eq_true rfl) dX9_kinds_17 [.int v2] rfl ?_
    refine gg_fg [false, false, false, false] [none, none, none, none] rfl ?_
    exact hk20 v2 h
  · replace h := gg_el h hc
    refine gg_iload_n dX9_kinds_11 rfl ?_
    refine gg_goto 20 dX9_kinds_12 (by decide) ?_
    refine gg_fg [false, false, false, false] [none, none, none, none] rfl ?_
    exact hk20 v1_0 h
def wd_X9_alike  : va_W := []
def MD_X9_alike : gg_M := (yX9_alike, cX9_alike, 6, some .int, 1, 21)
theorem nS_X9_alike : gg_nS MD_X9_alike 2 := ⟨⟨gg_mem (by decide +kernel) rfl, gg_mem cw_X9_alike rfl, by decide, by decide, by decide +kernel⟩, gg_mem (by decide +kernel) rfl⟩
def lp_X9_alike_16 {β : Type} (y0 : Int32) (y1 : Int32) (y3 : Int32) (k57 : (Int32) → Option β) : Nat → (Int32) → (Int32) → Option β
  | 0, _, _ => none
  | n + 1, x4_16, x5_16 => (if (5 : Int32) < x5_16 then (k57 x4_16) else (f_X9_has y0 x5_16).bind (fun v1 => gg_lt (fun (s1_48 : Int32) => (lp_X9_alike_16 y0 y1 y3 k57 n (x4_16 + s1_48) (x5_16 + (1 : Int32)))) (fun k48 => gg_lt ((k48 (0 : Int32))) (fun k47 => (if v1 = (0 : Int32) then k47 else (f_X9_tiredBy x5_16 y1).bind (fun v2 => (if v2 = y3 then (k48 (1 : Int32)) else k47)))))))
def lp_X9_alike_4 {β : Type} (y0 : Int32) (y1 : Int32) (k76 : (Int32) → Option β) : Nat → (Int32) → (Int32) → Option β
  | 0, _, _ => none
  | n + 1, x2_4, x3_4 => (if (12 : Int32) ≤ x3_4 then (k76 x2_4) else (lp_X9_alike_16 y0 y1 x3_4 (fun (x4_57 : Int32) => gg_lt (fun (s0_69 : Int32) => (lp_X9_alike_4 y0 y1 k76 n s0_69 (x3_4 + (1 : Int32)))) (fun k69 => (if x4_57 ≤ x2_4 then (k69 x2_4) else (k69 x4_57)))) gg_fuel (0 : Int32) (0 : Int32)))
def f_X9_alike (a0 : Int32) (a1 : Int32)  : Option (Int32) := (lp_X9_alike_4 a0 a1 (fun (x2_76 : Int32) => (some x2_76)) gg_fuel (0 : Int32) (0 : Int32))
set_option maxRecDepth 20000 in
set_option maxHeartbeats 4000000 in
theorem lq_X9_alike_16 {β : Type} {res : β} {rr : Option Value} {ww : va_W} (y0 : Int32) (y1 : Int32) (y2 : Int32) (y3 : Int32) (k57 : (Int32) → Option β) (hk57 : ∀ (x4_57 : Int32), k57 x4_57 = some res → gg_G MD_X9_alike 57 [some (.int y0), some (.int y1), some (.int y2), some (.int y3), some (.int x4_57), none] [] (wd_X9_alike) rr ww) : ∀ (n : Nat) (x4_16 : Int32) (x5_16 : Int32), lp_X9_alike_16 y0 y1 y3 k57 n x4_16 x5_16 = some res → gg_G MD_X9_alike 16 [some (.int y0), some (.int y1), some (.int y2), some (.int y3), some (.int x4_16), some (.int x5_16)] [] (wd_X9_alike) rr ww := by
  intro n
  induction n with
  | zero =>
    intro x4_16 x5_16 h
    exact nomatch (show (none : Option β) = some res from h)
  | succ n ih =>
    intro x4_16 x5_16 h
    rw [lp_X9_alike_16] at h
    refine gg_iload dX9_alike_16 rfl ?_
    refine gg_iconst (5 : Int32) dX9_alike_18 (by decide) ?_
    refine gg_icmp_gt 57 dX9_alike_19 (by decide) (fun hc => ?_) (fun hc => ?_)
    · replace h := gg_th h hc
      refine gg_fg [true, true, true, true, true, false] [some (.int y0), some (.int y1), some (.int y2), some (.int y3), some (.int x4_16), none] rfl ?_
      exact hk57 x4_16 h
    · replace h := gg_el h hc
      refine gg_iload dX9_alike_22 rfl ?_
      refine gg_iload_n dX9_alike_24 rfl ?_
      refine gg_iload dX9_alike_25 rfl ?_
      obtain ⟨v1, hv1, h⟩ := gg_bd h
      refine gg_callS (gg_sg []) [] (wd_X9_alike) (C_X9_has y0 x5_16 hv1) nS_X9_has ml_X9_167 rfl rfl rfl rfl rfl rfl rfl [] 0 rfl rfl rfl rfl rfl ⟨Nat.le_of_ble_eq_true rfl, Nat.le_of_ble_eq_true rfl⟩ (Nat.le_of_ble_eq_true rfl) dX9_alike_27 [.int v1, .int x4_16] rfl ?_
      obtain ⟨k48, hke48, h⟩ := gg_lte h
      have hk48 : ∀ (s1_48 : Int32), k48 s1_48 = some res → gg_G MD_X9_alike 48 [some (.int y0), some (.int y1), some (.int y2), some (.int y3), none, some (.int x5_16)] [.int s1_48, .int x4_16] (wd_X9_alike) rr ww := by
        intro s1_48 h
        subst hke48
        refine gg_iadd dX9_alike_48 ?_
        refine gg_istore [some (.int y0), some (.int y1), some (.int y2), some (.int y3), some (.int (x4_16 + s1_48)), some (.int x5_16)] dX9_alike_49 rfl (Nat.le_of_ble_eq_true rfl) rfl ?_
        refine gg_iinc (x5_16 + (1 : Int32)) [some (.int y0), some (.int y1), some (.int y2), some (.int y3), some (.int (x4_16 + s1_48)), some (.int (x5_16 + (1 : Int32)))] dX9_alike_51 rfl rfl rfl (Nat.le_of_ble_eq_true rfl) rfl ?_
        refine gg_goto 16 dX9_alike_54 (by decide) ?_
        exact ih (x4_16 + s1_48) (x5_16 + (1 : Int32)) h
      clear hke48
      obtain ⟨k47, hke47, h⟩ := gg_lte h
      have hk47 : k47 = some res → gg_G MD_X9_alike 47 [some (.int y0), some (.int y1), some (.int y2), some (.int y3), none, some (.int x5_16)] [.int x4_16] (wd_X9_alike) rr ww := by
        intro  h
        subst hke47
        refine gg_iconst (0 : Int32) dX9_alike_47 (by decide) ?_
        exact hk48 (0 : Int32) h
      clear hke47
      refine gg_if_eq 47 dX9_alike_30 (by decide) (fun hc => ?_) (fun hc => ?_)
      · replace h := gg_th h hc
        refine gg_fg [true, true, true, true, false, true] [some (.int y0), some (.int y1), some (.int y2), some (.int y3), none, some (.int x5_16)] rfl ?_
        exact hk47 h
      · replace h := gg_el h hc
        refine gg_iload dX9_alike_33 rfl ?_
        refine gg_iload_n dX9_alike_35 rfl ?_
        obtain ⟨v2, hv2, h⟩ := gg_bd h
        refine gg_callS (gg_sg []) [] (wd_X9_alike) (C_X9_tiredBy x5_16 y1 hv2) nS_X9_tiredBy ml_X9_181 rfl rfl rfl rfl rfl rfl rfl [] 0 rfl rfl rfl rfl rfl ⟨Nat.le_of_ble_eq_true rfl, Nat.le_of_ble_eq_true rfl⟩ (Nat.le_of_ble_eq_true rfl) dX9_alike_36 [.int v2, .int x4_16] rfl ?_
        refine gg_iload_n dX9_alike_39 rfl ?_
        refine gg_icmp_ne 47 dX9_alike_40 (by decide) (fun hc => ?_) (fun hc => ?_)
        · replace h := gg_el h hc
          refine gg_fg [true, true, true, true, false, true] [some (.int y0), some (.int y1), some (.int y2), some (.int y3), none, some (.int x5_16)] rfl ?_
          exact hk47 h
        · replace h := gg_th h hc
          refine gg_iconst (1 : Int32) dX9_alike_43 (by decide) ?_
          refine gg_goto 48 dX9_alike_44 (by decide) ?_
          refine gg_fg [true, true, true, true, false, true] [some (.int y0), some (.int y1), some (.int y2), some (.int y3), none, some (.int x5_16)] rfl ?_
          exact hk48 (1 : Int32) h
set_option maxRecDepth 20000 in
set_option maxHeartbeats 4000000 in
theorem lq_X9_alike_4 {β : Type} {res : β} {rr : Option Value} {ww : va_W} (y0 : Int32) (y1 : Int32) (k76 : (Int32) → Option β) (hk76 : ∀ (x2_76 : Int32), k76 x2_76 = some res → gg_G MD_X9_alike 76 [none, none, some (.int x2_76), none, none, none] [] (wd_X9_alike) rr ww) : ∀ (n : Nat) (x2_4 : Int32) (x3_4 : Int32), lp_X9_alike_4 y0 y1 k76 n x2_4 x3_4 = some res → gg_G MD_X9_alike 4 [some (.int y0), some (.int y1), some (.int x2_4), some (.int x3_4), none, none] [] (wd_X9_alike) rr ww := by
  intro n
  induction n with
  | zero =>
    intro x2_4 x3_4 h
    exact nomatch (show (none : Option β) = some res from h)
  | succ n ih =>
    intro x2_4 x3_4 h
    rw [lp_X9_alike_4] at h
    refine gg_iload_n dX9_alike_4 rfl ?_
    refine gg_bipush (12 : Int32) dX9_alike_5 (by decide) ?_
    refine gg_icmp_ge 76 dX9_alike_7 (by decide) (fun hc => ?_) (fun hc => ?_)
    · replace h := gg_th h hc
      refine gg_fg [false, false, true, false, false, false] [none, none, some (.int x2_4), none, none, none] rfl ?_
      exact hk76 x2_4 h
    · replace h := gg_el h hc
      refine gg_iconst (0 : Int32) dX9_alike_10 (by decide) ?_
      refine gg_istore [some (.int y0), some (.int y1), some (.int x2_4), some (.int x3_4), some (.int (0 : Int32)), none] dX9_alike_11 rfl (Nat.le_of_ble_eq_true rfl) rfl ?_
      refine gg_iconst (0 : Int32) dX9_alike_13 (by decide) ?_
      refine gg_istore [some (.int y0), some (.int y1), some (.int x2_4), some (.int x3_4), some (.int (0 : Int32)), some (.int (0 : Int32))] dX9_alike_14 rfl (Nat.le_of_ble_eq_true rfl) rfl ?_
      refine lq_X9_alike_16 y0 y1 x2_4 x3_4 _ ?_ gg_fuel (0 : Int32) (0 : Int32) h
      intro x4_57 h
      refine gg_iload dX9_alike_57 rfl ?_
      refine gg_iload_n dX9_alike_59 rfl ?_
      obtain ⟨k69, hke69, h⟩ := gg_lte h
      have hk69 : ∀ (s0_69 : Int32), k69 s0_69 = some res → gg_G MD_X9_alike 69 [some (.int y0), some (.int y1), none, some (.int x3_4), none, none] [.int s0_69] (wd_X9_alike) rr ww := by
        intro s0_69 h
        subst hke69
        refine gg_istore_n [some (.int y0), some (.int y1), some (.int s0_69), some (.int x3_4), none, none] dX9_alike_69 rfl (Nat.le_of_ble_eq_true rfl) rfl ?_
        refine gg_iinc (x3_4 + (1 : Int32)) [some (.int y0), some (.int y1), some (.int s0_69), some (.int (x3_4 + (1 : Int32))), none, none] dX9_alike_70 rfl rfl rfl (Nat.le_of_ble_eq_true rfl) rfl ?_
        refine gg_goto 4 dX9_alike_73 (by decide) ?_
        exact ih s0_69 (x3_4 + (1 : Int32)) h
      clear hke69
      refine gg_icmp_le 68 dX9_alike_60 (by decide) (fun hc => ?_) (fun hc => ?_)
      · replace h := gg_th h hc
        refine gg_iload_n dX9_alike_68 rfl ?_
        refine gg_fg [true, true, false, true, false, false] [some (.int y0), some (.int y1), none, some (.int x3_4), none, none] rfl ?_
        exact hk69 x2_4 h
      · replace h := gg_el h hc
        refine gg_iload dX9_alike_63 rfl ?_
        refine gg_goto 69 dX9_alike_65 (by decide) ?_
        refine gg_fg [true, true, false, true, false, false] [some (.int y0), some (.int y1), none, some (.int x3_4), none, none] rfl ?_
        exact hk69 x4_57 h
set_option maxRecDepth 20000 in
set_option maxHeartbeats 8000000 in
theorem C_X9_alike (a0 : Int32) (a1 : Int32)  {res : Int32} (h : f_X9_alike a0 a1 = some res) : gg_C MD_X9_alike [.int a0, .int a1] (wd_X9_alike) (some (.int res)) (wd_X9_alike) := by
  refine gg_ofG [some (.int a0), some (.int a1), none, none, none, none] (plainFor_of_name (by decide)) (Nat.le_of_ble_eq_true rfl) rfl ?_
  unfold f_X9_alike at h
  refine gg_iconst (0 : Int32) dX9_alike_0 (by decide) ?_
  refine gg_istore_n [some (.int a0), some (.int a1), some (.int (0 : Int32)), none, none, none] dX9_alike_1 rfl (Nat.le_of_ble_eq_true rfl) rfl ?_
  refine gg_iconst (0 : Int32) dX9_alike_2 (by decide) ?_
  refine gg_istore_n [some (.int a0), some (.int a1), some (.int (0 : Int32)), some (.int (0 : Int32)), none, none] dX9_alike_3 rfl (Nat.le_of_ble_eq_true rfl) rfl ?_
  refine lq_X9_alike_4 a0 a1 _ ?_ gg_fuel (0 : Int32) (0 : Int32) h
  intro x2_76 h
  refine gg_iload_n dX9_alike_76 rfl ?_
  cases h
  exact gg_iret dX9_alike_77 rfl
def wd_X9_test (c_latest : Int32) (c_asked : Int32) (c_upper : Int64) (c_lower : Int64) (c_n : Int32) (c_readAt : Int32) (c_readMany : Int32) (c_readFood : Int32) (c_isHead : Int32) (c_backMany : Int32) (c_deedMany : Int32) (c_whole : Int64) (c_wellSum : Int64) (c_strongSum : Int64) (c_hash : Int64) (c_came : Nat → Int32) (c_sizes : Nat → Int32) (c_rows : Nat → Int32) : va_W := [(0, .inr (8, [.int c_latest, .ref 1, .int c_asked, .long c_upper, .long c_lower, .ref 2, .ref 3, .ref 4, .ref 5, .ref 6, .int c_n, .ref 7, .ref 8, .ref 9, .ref 10, .int c_readAt, .int c_readMany, .int c_readFood, .int c_isHead, .ref 11, .ref 12, .ref 13, .int c_backMany, .int c_deedMany, .ref 14, .ref 15, .ref 16, .ref 17, .ref 18, .ref 19, .ref 20, .ref 21, .ref 22, .ref 23, .ref 24, .long c_whole, .long c_wellSum, .long c_strongSum, .long c_hash])), (1, .inl (0, 6, .inl c_came)), (2, .inl (0, 6, .inl c_sizes)), (3, .inl (0, 240, .inl c_rows))]
def MD_X9_test : gg_M := (yX9_test, cX9_test, 9, some .int, 3, 67)
theorem nV_X9_test : gg_nV MD_X9_test 2 := ⟨⟨gg_mem (by decide +kernel) rfl, gg_mem cw_X9_test rfl, by decide, by decide, by decide +kernel⟩, gg_mem (by decide +kernel) rfl, gg_mem (by decide +kernel) rfl⟩
def lp_X9_test_38 {β : Type} (y4 : Int32) (k92 : (Int32) → (Int32) → Option β) : Nat → (Int32) → (Int32) → (Int32) → Option β
  | 0, _, _, _ => none
  | n + 1, x5_38, x6_38, x7_38 => (if (10 : Int32) ≤ x7_38 then (k92 x5_38 x6_38) else (f_X9_alike y4 x7_38).bind (fun v3 => gg_lt (fun (s0_68 : Int32) => gg_lt (fun (s0_84 : Int32) => (lp_X9_test_38 y4 k92 n s0_68 s0_84 (x7_38 + (1 : Int32)))) (fun k84 => (if x6_38 ≤ v3 then (k84 x6_38) else (k84 v3)))) (fun k68 => (if x6_38 ≤ v3 then (k68 x5_38) else (k68 x7_38)))))
def f_X9_test (a0 : Int32) (a1 : Int32) (c_latest : Int32) (c_asked : Int32) (c_n : Int32) (c_came : Nat → Int32) (c_sizes : Nat → Int32) (c_rows : Nat → Int32) : Option (Int32 × (Int32) × (Int32) × (Nat → Int32)) := gg_b3 (f_X9_needPairs a0 a1 c_latest c_n c_came c_sizes c_rows) (fun v1_0 v1_1 v1_2 => (if (0 : Int32) ≤ v1_0 then (f_X9_kindSet a1 c_sizes c_rows).bind (fun v2 => (if v2 = (0 : Int32) then (some ((-9 : Int32), v1_1, c_asked, v1_2)) else (lp_X9_test_38 v2 (fun (x5_92 : Int32) (x6_92 : Int32) => gg_b2 (f_X9_tells x6_92 x5_92 c_asked) (fun v4_0 v4_1 => (some (v4_0, v1_1, v4_1, v1_2)))) gg_fuel (0 : Int32) (1000000 : Int32) (0 : Int32)))) else (some (v1_0, v1_1, c_asked, v1_2))))
set_option maxRecDepth 20000 in
set_option maxHeartbeats 4000000 in
theorem lq_X9_test_38 {β : Type} {res : β} {rr : Option Value} {ww : va_W} (y4 : Int32) (c_latest : Int32) (c_asked : Int32) (c_upper : Int64) (c_lower : Int64) (c_n : Int32) (c_readAt : Int32) (c_readMany : Int32) (c_readFood : Int32) (c_isHead : Int32) (c_backMany : Int32) (c_deedMany : Int32) (c_whole : Int64) (c_wellSum : Int64) (c_strongSum : Int64) (c_hash : Int64) (c_came : Nat → Int32) (c_sizes : Nat → Int32) (c_rows : Nat → Int32) (k92 : (Int32) → (Int32) → Option β) (hk92 : ∀ (x5_92 : Int32) (x6_92 : Int32), k92 x5_92 x6_92 = some res → gg_G MD_X9_test 92 [some (.ref 0), none, none, none, none, some (.int x5_92), some (.int x6_92), none, none] [] (wd_X9_test c_latest c_asked c_upper c_lower c_n c_readAt c_readMany c_readFood c_isHead c_backMany c_deedMany c_whole c_wellSum c_strongSum c_hash c_came c_sizes c_rows) rr ww) : ∀ (n : Nat) (x5_38 : Int32) (x6_38 : Int32) (x7_38 : Int32), lp_X9_test_38 y4 k92 n x5_38 x6_38 x7_38 = some res → gg_G MD_X9_test 38 [some (.ref 0), none, none, none, some (.int y4), some (.int x5_38), some (.int x6_38), some (.int x7_38), none] [] (wd_X9_test c_latest c_asked c_upper c_lower c_n c_readAt c_readMany c_readFood c_isHead c_backMany c_deedMany c_whole c_wellSum c_strongSum c_hash c_came c_sizes c_rows) rr ww := by
  intro n
  induction n with
  | zero =>
    intro x5_38 x6_38 x7_38 h
    exact nomatch (show (none : Option β) = some res from h)
  | succ n ih =>
    intro x5_38 x6_38 x7_38 h
    rw [lp_X9_test_38] at h
    refine gg_iload dX9_test_38 rfl ?_
    refine gg_bipush (10 : Int32) dX9_test_40 (by decide) ?_
    refine gg_icmp_ge 92 dX9_test_42 (by decide) (fun hc => ?_) (fun hc => ?_)
    · replace h := gg_th h hc
      refine gg_fg [true, false, false, false, false, true, true, false, false] [some (.ref 0), none, none, none, none, some (.int x5_38), some (.int x6_38), none, none] rfl ?_
      exact hk92 x5_38 x6_38 h
    · replace h := gg_el h hc
      refine gg_iload dX9_test_45 rfl ?_
      refine gg_iload dX9_test_47 rfl ?_
      obtain ⟨v3, hv3, h⟩ := gg_bd h
      refine gg_callS (gg_sg []) [] (wd_X9_test c_latest c_asked c_upper c_lower c_n c_readAt c_readMany c_readFood c_isHead c_backMany c_deedMany c_whole c_wellSum c_strongSum c_hash c_came c_sizes c_rows) (C_X9_alike y4 x7_38 hv3) nS_X9_alike ml_X9_258 rfl rfl rfl rfl rfl rfl rfl [0, 1, 2, 3] 4 rfl rfl rfl rfl rfl ⟨Nat.le_of_ble_eq_true rfl, Nat.le_of_ble_eq_true rfl⟩ (Nat.le_of_ble_eq_true rfl) dX9_test_49 [.int v3] rfl ?_
      refine gg_istore [some (.ref 0), none, none, none, some (.int y4), some (.int x5_38), some (.int x6_38), some (.int x7_38), some (.int v3)] dX9_test_52 rfl (Nat.le_of_ble_eq_true rfl) rfl ?_
      refine gg_iload dX9_test_54 rfl ?_
      refine gg_iload dX9_test_56 rfl ?_
      obtain ⟨k68, hke68, h⟩ := gg_lte h
      have hk68 : ∀ (s0_68 : Int32), k68 s0_68 = some res → gg_G MD_X9_test 68 [some (.ref 0), none, none, none, some (.int y4), none, some (.int x6_38), some (.int x7_38), some (.int v3)] [.int s0_68] (wd_X9_test c_latest c_asked c_upper c_lower c_n c_readAt c_readMany c_readFood c_isHead c_backMany c_deedMany c_whole c_wellSum c_strongSum c_hash c_came c_sizes c_rows) rr ww := by
        intro s0_68 h
        subst hke68
        refine gg_istore [some (.ref 0), none, none, none, some (.int y4), some (.int s0_68), some (.int x6_38), some (.int x7_38), some (.int v3)] dX9_test_68 rfl (Nat.le_of_ble_eq_true rfl) rfl ?_
        refine gg_iload dX9_test_70 rfl ?_
        refine gg_iload dX9_test_72 rfl ?_
        obtain ⟨k84, hke84, h⟩ := gg_lte h
        have hk84 : ∀ (s0_84 : Int32), k84 s0_84 = some res → gg_G MD_X9_test 84 [some (.ref 0), none, none, none, some (.int y4), some (.int s0_68), none, some (.int x7_38), none] [.int s0_84] (wd_X9_test c_latest c_asked c_upper c_lower c_n c_readAt c_readMany c_readFood c_isHead c_backMany c_deedMany c_whole c_wellSum c_strongSum c_hash c_came c_sizes c_rows) rr ww := by
          intro s0_84 h
          subst hke84
          refine gg_istore [some (.ref 0), none, none, none, some (.int y4), some (.int s0_68), some (.int s0_84), some (.int x7_38), none] dX9_test_84 rfl (Nat.le_of_ble_eq_true rfl) rfl ?_
          refine gg_iinc (x7_38 + (1 : Int32)) [some (.ref 0), none, none, none, some (.int y4), some (.int s0_68), some (.int s0_84), some (.int (x7_38 + (1 : Int32))), none] dX9_test_86 rfl rfl rfl (Nat.le_of_ble_eq_true rfl) rfl ?_
          refine gg_goto 38 dX9_test_89 (by decide) ?_
          exact ih s0_68 s0_84 (x7_38 + (1 : Int32)) h
        clear hke84
        refine gg_icmp_ge 82 dX9_test_74 (by decide) (fun hc => ?_) (fun hc => ?_)
        · replace h := gg_th h hc
          refine gg_iload dX9_test_82 rfl ?_
          refine gg_fg [true, false, false, false, true, true, false, true, false] [some (.ref 0), none, none, none, some (.int y4), some (.int s0_68), none, some (.int x7_38), none] rfl ?_
          exact hk84 x6_38 h
        · replace h := gg_el h hc
          refine gg_iload dX9_test_77 rfl ?_
          refine gg_goto 84 dX9_test_79 (by decide) ?_
          refine gg_fg [true, false, false, false, true, true, false, true, false] [some (.ref 0), none, none, none, some (.int y4), some (.int s0_68), none, some (.int x7_38), none] rfl ?_
          exact hk84 v3 h
      clear hke68
      refine gg_icmp_ge 66 dX9_test_58 (by decide) (fun hc => ?_) (fun hc => ?_)
      · replace h := gg_th h hc
        refine gg_iload dX9_test_66 rfl ?_
        refine gg_fg [true, false, false, false, true, false, true, true, true] [some (.ref 0), none, none, none, some (.int y4), none, some (.int x6_38), some (.int x7_38), some (.int v3)] rfl ?_
        exact hk68 x5_38 h
      · replace h := gg_el h hc
        refine gg_iload dX9_test_61 rfl ?_
        refine gg_goto 68 dX9_test_63 (by decide) ?_
        refine gg_fg [true, false, false, false, true, false, true, true, true] [some (.ref 0), none, none, none, some (.int y4), none, some (.int x6_38), some (.int x7_38), some (.int v3)] rfl ?_
        exact hk68 x7_38 h
set_option maxRecDepth 20000 in
set_option maxHeartbeats 8000000 in
theorem C_X9_test (a0 : Int32) (a1 : Int32) (c_latest : Int32) (c_asked : Int32) (c_upper : Int64) (c_lower : Int64) (c_n : Int32) (c_readAt : Int32) (c_readMany : Int32) (c_readFood : Int32) (c_isHead : Int32) (c_backMany : Int32) (c_deedMany : Int32) (c_whole : Int64) (c_wellSum : Int64) (c_strongSum : Int64) (c_hash : Int64) (c_came : Nat → Int32) (c_sizes : Nat → Int32) (c_rows : Nat → Int32) {r0 : Int32} {r1 : (Int32)} {r2 : (Int32)} {r3 : (Nat → Int32)} (h : f_X9_test a0 a1 c_latest c_asked c_n c_came c_sizes c_rows = some (r0, r1, r2, r3)) : gg_C MD_X9_test [.ref 0, .int a0, .int a1] (wd_X9_test c_latest c_asked c_upper c_lower c_n c_readAt c_readMany c_readFood c_isHead c_backMany c_deedMany c_whole c_wellSum c_strongSum c_hash c_came c_sizes c_rows) (some (.int r0)) (wd_X9_test r1 r2 c_upper c_lower c_n c_readAt c_readMany c_readFood c_isHead c_backMany c_deedMany c_whole c_wellSum c_strongSum c_hash r3 c_sizes c_rows) := by
  refine gg_ofG [some (.ref 0), some (.int a0), some (.int a1), none, none, none, none, none, none] (plainFor_of_name (by decide)) (Nat.le_of_ble_eq_true rfl) rfl ?_
  unfold f_X9_test at h
  refine gg_aload_n dX9_test_0 rfl ?_
  refine gg_iload_n dX9_test_1 rfl ?_
  refine gg_iload_n dX9_test_2 rfl ?_
  obtain ⟨v1_0, v1_1, v1_2, hv1, h⟩ := gg_bd3 h
  refine gg_callV (gg_sg [0]) [0, 1, 2, 3] (wd_X9_test v1_1 c_asked c_upper c_lower c_n c_readAt c_readMany c_readFood c_isHead c_backMany c_deedMany c_whole c_wellSum c_strongSum c_hash v1_2 c_sizes c_rows) 0 (C_X9_needPairs a0 a1 c_latest c_asked c_upper c_lower c_n c_readAt c_readMany c_readFood c_isHead c_backMany c_deedMany c_whole c_wellSum c_strongSum c_hash c_came c_sizes c_rows hv1) nV_X9_needPairs ml_X9_252 rfl rfl rfl rfl rfl rfl rfl rfl rfl rfl [] 4 rfl rfl rfl rfl rfl ⟨Nat.le_of_ble_eq_true rfl, Nat.le_of_ble_eq_true rfl⟩ (Nat.le_of_ble_eq_true rfl) dX9_test_3 [.int v1_0] rfl ?_
  refine gg_istore_n [some (.ref 0), some (.int a0), some (.int a1), some (.int v1_0), none, none, none, none, none] dX9_test_6 rfl (Nat.le_of_ble_eq_true rfl) rfl ?_
  refine gg_iload_n dX9_test_7 rfl ?_
  refine gg_if_ge 13 dX9_test_8 (by decide) (fun hc => ?_) (fun hc => ?_)
  · replace h := gg_th h hc
    refine gg_aload_n dX9_test_13 rfl ?_
    refine gg_iload_n dX9_test_14 rfl ?_
    obtain ⟨v2, hv2, h⟩ := gg_bd h
    refine gg_callV (gg_sg [0]) [0, 2, 3] (wd_X9_test v1_1 c_asked c_upper c_lower c_n c_readAt c_readMany c_readFood c_isHead c_backMany c_deedMany c_whole c_wellSum c_strongSum c_hash v1_2 c_sizes c_rows) 0 (C_X9_kindSet a1 v1_1 c_asked c_upper c_lower c_n c_readAt c_readMany c_readFood c_isHead c_backMany c_deedMany c_whole c_wellSum c_strongSum c_hash c_sizes c_rows hv2) nV_X9_kindSet ml_X9_255 rfl rfl rfl rfl rfl rfl rfl rfl rfl rfl [1] 4 rfl rfl rfl rfl rfl ⟨Nat.le_of_ble_eq_true rfl, Nat.le_of_ble_eq_true rfl⟩ (Nat.le_of_ble_eq_true rfl) dX9_test_15 [.int v2] rfl ?_
    refine gg_istore [some (.ref 0), some (.int a0), some (.int a1), some (.int v1_0), some (.int v2), none, none, none, none] dX9_test_18 rfl (Nat.le_of_ble_eq_true rfl) rfl ?_
    refine gg_iload dX9_test_20 rfl ?_
    refine gg_if_ne 28 dX9_test_22 (by decide) (fun hc => ?_) (fun hc => ?_)
    · replace h := gg_el h hc
      refine gg_iconst (0 : Int32) dX9_test_28 (by decide) ?_
      refine gg_istore [some (.ref 0), some (.int a0), some (.int a1), some (.int v1_0), some (.int v2), some (.int (0 : Int32)), none, none, none] dX9_test_29 rfl (Nat.le_of_ble_eq_true rfl) rfl ?_
      refine gg_ldc (1000000 : Int32) dX9_test_31 (gg_mem (by decide +kernel) rfl) ?_
      refine gg_istore [some (.ref 0), some (.int a0), some (.int a1), some (.int v1_0), some (.int v2), some (.int (0 : Int32)), some (.int (1000000 : Int32)), none, none] dX9_test_33 rfl (Nat.le_of_ble_eq_true rfl) rfl ?_
      refine gg_iconst (0 : Int32) dX9_test_35 (by decide) ?_
      refine gg_istore [some (.ref 0), some (.int a0), some (.int a1), some (.int v1_0), some (.int v2), some (.int (0 : Int32)), some (.int (1000000 : Int32)), some (.int (0 : Int32)), none] dX9_test_36 rfl (Nat.le_of_ble_eq_true rfl) rfl ?_
      refine gg_fg [true, false, false, false, true, true, true, true, false] [some (.ref 0), none, none, none, some (.int v2), some (.int (0 : Int32)), some (.int (1000000 : Int32)), some (.int (0 : Int32)), none] rfl ?_
      refine lq_X9_test_38 v2 v1_1 c_asked c_upper c_lower c_n c_readAt c_readMany c_readFood c_isHead c_backMany c_deedMany c_whole c_wellSum c_strongSum c_hash v1_2 c_sizes c_rows _ ?_ gg_fuel (0 : Int32) (1000000 : Int32) (0 : Int32) h
      intro x5_92 x6_92 h
      refine gg_aload_n dX9_test_92 rfl ?_
      refine gg_iload dX9_test_93 rfl ?_
      refine gg_iload dX9_test_95 rfl ?_
      obtain ⟨v4_0, v4_1, hv4, h⟩ := gg_bd2 h
      refine gg_callV (gg_sg [0]) [0] (wd_X9_test v1_1 v4_1 c_upper c_lower c_n c_readAt c_readMany c_readFood c_isHead c_backMany c_deedMany c_whole c_wellSum c_strongSum c_hash v1_2 c_sizes c_rows) 0 (C_X9_tells x6_92 x5_92 v1_1 c_asked c_upper c_lower c_n c_readAt c_readMany c_readFood c_isHead c_backMany c_deedMany c_whole c_wellSum c_strongSum c_hash hv4) nV_X9_tells ml_X9_114 rfl rfl rfl rfl rfl rfl rfl rfl rfl rfl [1, 2, 3] 4 rfl rfl rfl rfl rfl ⟨Nat.le_of_ble_eq_true rfl, Nat.le_of_ble_eq_true rfl⟩ (Nat.le_of_ble_eq_true rfl) dX9_test_97 [.int v4_0] rfl ?_
      cases h
      exact gg_iret dX9_test_100 rfl
    · replace h := gg_th h hc
      refine gg_bipush (-9 : Int32) dX9_test_25 (by decide) ?_
      cases h
      exact gg_iret dX9_test_27 rfl
  · replace h := gg_el h hc
    refine gg_iload_n dX9_test_11 rfl ?_
    cases h
    exact gg_iret dX9_test_12 rfl
def wd_X9_flown (c_latest : Int32) (c_asked : Int32) (c_upper : Int64) (c_lower : Int64) (c_n : Int32) (c_readAt : Int32) (c_readMany : Int32) (c_readFood : Int32) (c_isHead : Int32) (c_backMany : Int32) (c_deedMany : Int32) (c_whole : Int64) (c_wellSum : Int64) (c_strongSum : Int64) (c_hash : Int64) (c_kindOf : Nat → Int32) : va_W := [(0, .inr (8, [.int c_latest, .ref 1, .int c_asked, .long c_upper, .long c_lower, .ref 2, .ref 3, .ref 4, .ref 5, .ref 6, .int c_n, .ref 7, .ref 8, .ref 9, .ref 10, .int c_readAt, .int c_readMany, .int c_readFood, .int c_isHead, .ref 11, .ref 12, .ref 13, .int c_backMany, .int c_deedMany, .ref 14, .ref 15, .ref 16, .ref 17, .ref 18, .ref 19, .ref 20, .ref 21, .ref 22, .ref 23, .ref 24, .long c_whole, .long c_wellSum, .long c_strongSum, .long c_hash])), (7, .inl (0, 6, .inl c_kindOf))]
def MD_X9_flown : gg_M := (yX9_flown, cX9_flown, 11, some .int, 2, 43)
theorem nV_X9_flown : gg_nV MD_X9_flown 3 := ⟨⟨gg_mem (by decide +kernel) rfl, gg_mem cw_X9_flown rfl, by decide, by decide, by decide +kernel⟩, gg_mem (by decide +kernel) rfl, gg_mem (by decide +kernel) rfl⟩
def lp_X9_flown_35 {β : Type} (y2 : Int32) (k54 : (Int32) → Option β) : Nat → (Int32) → (Int32) → Option β
  | 0, _, _ => none
  | n + 1, x4_35, x5_35 => (if y2 ≤ x5_35 then (k54 x4_35) else (lp_X9_flown_35 y2 k54 n (x4_35 * (10 : Int32)) (x5_35 + (1 : Int32))))
def lp_X9_flown_81 {β : Type} (y1 : Int32) (y2 : Int32) (c_kindOf : Nat → Int32) (k119 : (Int32) → Option β) : Nat → (Int32) → (Int32) → (Int32) → Option β
  | 0, _, _, _ => none
  | n + 1, x8_81, x9_81, x10_81 => (if y2 ≤ x10_81 then (k119 x8_81) else gg_chk (gg_in y1 6) ((f_X9_tiredBy (c_kindOf y1.toNatClampNeg) (x9_81 - x9_81 / (10 : Int32) * (10 : Int32))).bind (fun v4 => (lp_X9_flown_81 y1 y2 c_kindOf k119 n (x8_81 + v4) (x9_81 / (10 : Int32)) (x10_81 + (1 : Int32))))))
def lp_X9_flown_64 {β : Type} (y1 : Int32) (y2 : Int32) (y3 : Int32) (y4 : Int32) (c_kindOf : Nat → Int32) (k161 : (Int32) → (Int32) → Option β) : Nat → (Int32) → (Int32) → (Int32) → Option β
  | 0, _, _, _ => none
  | n + 1, x5_64, x6_64, x7_64 => (if y4 ≤ x7_64 then (k161 x5_64 x6_64) else (lp_X9_flown_81 y1 y2 c_kindOf (fun (x8_119 : Int32) => gg_lt (fun (s0_137 : Int32) => gg_lt (fun (s1_152 : Int32) => (lp_X9_flown_64 y1 y2 y3 y4 c_kindOf k161 n (x5_64 + s1_152) s0_137 (x7_64 + (1 : Int32)))) (fun k152 => (if x8_119 = y3 then (k152 (1 : Int32)) else (k152 (0 : Int32))))) (fun k137 => gg_lt ((k137 x6_64)) (fun k135 => (if x8_119 = y3 then (if x5_64 = (0 : Int32) then (k137 x7_64) else k135) else k135)))) gg_fuel (0 : Int32) x7_64 (0 : Int32)))
def f_X9_flown (a0 : Int32) (a1 : Int32) (a2 : Int32) (c_asked : Int32) (c_n : Int32) (c_kindOf : Nat → Int32) : Option (Int32 × (Int32)) := (f_X9_isHut a0 c_n).bind (fun v1 => gg_lt ((some ((-1 : Int32), c_asked))) (fun k27 => (if v1 = (0 : Int32) then k27 else (f_X9_in a1 (0 : Int32) (4 : Int32)).bind (fun v2 => (if v2 = (0 : Int32) then k27 else (f_X9_in a2 (0 : Int32) (40 : Int32)).bind (fun v3 => (if v3 = (0 : Int32) then k27 else (lp_X9_flown_35 a1 (fun (x4_54 : Int32) => (lp_X9_flown_64 a0 a1 a2 x4_54 c_kindOf (fun (x5_161 : Int32) (x6_161 : Int32) => gg_lt (fun (s0_179 : Int32) (c_asked_179 : Int32) => (some (s0_179, c_asked_179))) (fun k179 => (if x5_161 = (0 : Int32) then (k179 (-9 : Int32) c_asked) else gg_b2 (f_X9_tells x6_161 x5_161 c_asked) (fun v5_0 v5_1 => (k179 v5_0 v5_1))))) gg_fuel (0 : Int32) (-9 : Int32) (0 : Int32))) gg_fuel (1 : Int32) (0 : Int32)))))))))
set_option maxRecDepth 20000 in
set_option maxHeartbeats 4000000 in
theorem lq_X9_flown_35 {β : Type} {res : β} {rr : Option Value} {ww : va_W} (y1 : Int32) (y2 : Int32) (y3 : Int32) (c_latest : Int32) (c_asked : Int32) (c_upper : Int64) (c_lower : Int64) (c_n : Int32) (c_readAt : Int32) (c_readMany : Int32) (c_readFood : Int32) (c_isHead : Int32) (c_backMany : Int32) (c_deedMany : Int32) (c_whole : Int64) (c_wellSum : Int64) (c_strongSum : Int64) (c_hash : Int64) (c_kindOf : Nat → Int32) (k54 : (Int32) → Option β) (hk54 : ∀ (x4_54 : Int32), k54 x4_54 = some res → gg_G MD_X9_flown 54 [some (.ref 0), some (.int y1), some (.int y2), some (.int y3), some (.int x4_54), none, none, none, none, none, none] [] (wd_X9_flown c_latest c_asked c_upper c_lower c_n c_readAt c_readMany c_readFood c_isHead c_backMany c_deedMany c_whole c_wellSum c_strongSum c_hash c_kindOf) rr ww) : ∀ (n : Nat) (x4_35 : Int32) (x5_35 : Int32), lp_X9_flown_35 y2 k54 n x4_35 x5_35 = some res → gg_G MD_X9_flown 35 [some (.ref 0), some (.int y1), some (.int y2), some (.int y3), some (.int x4_35), some (.int x5_35), none, none, none, none, none] [] (wd_X9_flown c_latest c_asked c_upper c_lower c_n c_readAt c_readMany c_readFood c_isHead c_backMany c_deedMany c_whole c_wellSum c_strongSum c_hash c_kindOf) rr ww := by
  intro n
  induction n with
  | zero =>
    intro x4_35 x5_35 h
    exact nomatch (show (none : Option β) = some res from h)
  | succ n ih =>
    intro x4_35 x5_35 h
    rw [lp_X9_flown_35] at h
    refine gg_iload dX9_flown_35 rfl ?_
    refine gg_iload_n dX9_flown_37 rfl ?_
    refine gg_icmp_ge 54 dX9_flown_38 (by decide) (fun hc => ?_) (fun hc => ?_)
    · replace h := gg_th h hc
      refine gg_fg [true, true, true, true, true, false, false, false, false, false, false] [some (.ref 0), some (.int y1), some (.int y2), some (.int y3), some (.int x4_35), none, none, none, none, none, none] rfl ?_
      exact hk54 x4_35 h
    · replace h := gg_el h hc
      refine gg_iload dX9_flown_41 rfl ?_
      refine gg_bipush (10 : Int32) dX9_flown_43 (by decide) ?_
      refine gg_imul dX9_flown_45 ?_
      refine gg_istore [some (.ref 0), some (.int y1), some (.int y2), some (.int y3), some (.int (x4_35 * (10 : Int32))), some (.int x5_35), none, none, none, none, none] dX9_flown_46 rfl (Nat.le_of_ble_eq_true rfl) rfl ?_
      refine gg_iinc (x5_35 + (1 : Int32)) [some (.ref 0), some (.int y1), some (.int y2), some (.int y3), some (.int (x4_35 * (10 : Int32))), some (.int (x5_35 + (1 : Int32))), none, none, none, none, none] dX9_flown_48 rfl rfl rfl (Nat.le_of_ble_eq_true rfl) rfl ?_
      refine gg_goto 35 dX9_flown_51 (by decide) ?_
      exact ih (x4_35 * (10 : Int32)) (x5_35 + (1 : Int32)) h
set_option maxRecDepth 20000 in
set_option maxHeartbeats 4000000 in
theorem lq_X9_flown_81 {β : Type} {res : β} {rr : Option Value} {ww : va_W} (y1 : Int32) (y2 : Int32) (y3 : Int32) (y4 : Int32) (y5 : Int32) (y6 : Int32) (y7 : Int32) (c_latest : Int32) (c_asked : Int32) (c_upper : Int64) (c_lower : Int64) (c_n : Int32) (c_readAt : Int32) (c_readMany : Int32) (c_readFood : Int32) (c_isHead : Int32) (c_backMany : Int32) (c_deedMany : Int32) (c_whole : Int64) (c_wellSum : Int64) (c_strongSum : Int64) (c_hash : Int64) (c_kindOf : Nat → Int32) (k119 : (Int32) → Option β) (hk119 : ∀ (x8_119 : Int32), k119 x8_119 = some res → gg_G MD_X9_flown 119 [some (.ref 0), some (.int y1), some (.int y2), some (.int y3), some (.int y4), some (.int y5), some (.int y6), some (.int y7), some (.int x8_119), none, none] [] (wd_X9_flown c_latest c_asked c_upper c_lower c_n c_readAt c_readMany c_readFood c_isHead c_backMany c_deedMany c_whole c_wellSum c_strongSum c_hash c_kindOf) rr ww) : ∀ (n : Nat) (x8_81 : Int32) (x9_81 : Int32) (x10_81 : Int32), lp_X9_flown_81 y1 y2 c_kindOf k119 n x8_81 x9_81 x10_81 = some res → gg_G MD_X9_flown 81 [some (.ref 0), some (.int y1), some (.int y2), some (.int y3), some (.int y4), some (.int y5), some (.int y6), some (.int y7), some (.int x8_81), some (.int x9_81), some (.int x10_81)] [] (wd_X9_flown c_latest c_asked c_upper c_lower c_n c_readAt c_readMany c_readFood c_isHead c_backMany c_deedMany c_whole c_wellSum c_strongSum c_hash c_kindOf) rr ww := by
  intro n
  induction n with
  | zero =>
    intro x8_81 x9_81 x10_81 h
    exact nomatch (show (none : Option β) = some res from h)
  | succ n ih =>
    intro x8_81 x9_81 x10_81 h
    rw [lp_X9_flown_81] at h
    refine gg_iload dX9_flown_81 rfl ?_
    refine gg_iload_n dX9_flown_83 rfl ?_
    refine gg_icmp_ge 119 dX9_flown_84 (by decide) (fun hc => ?_) (fun hc => ?_)
    · replace h := gg_th h hc
      refine gg_fg [true, true, true, true, true, true, true, true, true, false, false] [some (.ref 0), some (.int y1), some (.int y2), some (.int y3), some (.int y4), some (.int y5), some (.int y6), some (.int y7), some (.int x8_81), none, none] rfl ?_
      exact hk119 x8_81 h
    · replace h := gg_el h hc
      refine gg_iload dX9_flown_87 rfl ?_
      refine gg_aload_n dX9_flown_89 rfl ?_
      refine gg_get 0 fl_X9_33 dX9_flown_90 rfl rfl ?_
      refine gg_iload_n dX9_flown_93 rfl ?_
      obtain ⟨hb94, h⟩ := gg_ck h
      refine gg_iald 1 dX9_flown_94 rfl hb94 ?_
      refine gg_iload dX9_flown_95 rfl ?_
      refine gg_bipush (10 : Int32) dX9_flown_97 (by decide) ?_
      refine gg_irem dX9_flown_99 (by decide) ?_
      obtain ⟨v4, hv4, h⟩ := gg_bd h
      refine gg_callS (gg_sg []) [] (wd_X9_flown c_latest c_asked c_upper c_lower c_n c_readAt c_readMany c_readFood c_isHead c_backMany c_deedMany c_whole c_wellSum c_strongSum c_hash c_kindOf) (C_X9_tiredBy (c_kindOf y1.toNatClampNeg) (x9_81 - x9_81 / (10 : Int32) * (10 : Int32)) hv4) nS_X9_tiredBy ml_X9_181 rfl rfl rfl rfl rfl rfl rfl [0, 1] 2 rfl rfl rfl rfl rfl ⟨Nat.le_of_ble_eq_true rfl, Nat.le_of_ble_eq_true rfl⟩ (Nat.le_of_ble_eq_true rfl) dX9_flown_100 [.int v4, .int x8_81] rfl ?_
      refine gg_iadd dX9_flown_103 ?_
      refine gg_istore [some (.ref 0), some (.int y1), some (.int y2), some (.int y3), some (.int y4), some (.int y5), some (.int y6), some (.int y7), some (.int (x8_81 + v4)), some (.int x9_81), some (.int x10_81)] dX9_flown_104 rfl (Nat.le_of_ble_eq_true rfl) rfl ?_
      refine gg_iload dX9_flown_106 rfl ?_
      refine gg_bipush (10 : Int32) dX9_flown_108 (by decide) ?_
      refine gg_idiv dX9_flown_110 (by decide) ?_
      refine gg_istore [some (.ref 0), some (.int y1), some (.int y2), some (.int y3), some (.int y4), some (.int y5), some (.int y6), some (.int y7), some (.int (x8_81 + v4)), some (.int (x9_81 / (10 : Int32))), some (.int x10_81)] dX9_flown_111 rfl (Nat.le_of_ble_eq_true rfl) rfl ?_
      refine gg_iinc (x10_81 + (1 : Int32)) [some (.ref 0), some (.int y1), some (.int y2), some (.int y3), some (.int y4), some (.int y5), some (.int y6), some (.int y7), some (.int (x8_81 + v4)), some (.int (x9_81 / (10 : Int32))), some (.int (x10_81 + (1 : Int32)))] dX9_flown_113 rfl rfl rfl (Nat.le_of_ble_eq_true rfl) rfl ?_
      refine gg_goto 81 dX9_flown_116 (by decide) ?_
      exact ih (x8_81 + v4) (x9_81 / (10 : Int32)) (x10_81 + (1 : Int32)) h
set_option maxRecDepth 20000 in
set_option maxHeartbeats 4000000 in
theorem lq_X9_flown_64 {β : Type} {res : β} {rr : Option Value} {ww : va_W} (y1 : Int32) (y2 : Int32) (y3 : Int32) (y4 : Int32) (c_latest : Int32) (c_asked : Int32) (c_upper : Int64) (c_lower : Int64) (c_n : Int32) (c_readAt : Int32) (c_readMany : Int32) (c_readFood : Int32) (c_isHead : Int32) (c_backMany : Int32) (c_deedMany : Int32) (c_whole : Int64) (c_wellSum : Int64) (c_strongSum : Int64) (c_hash : Int64) (c_kindOf : Nat → Int32) (k161 : (Int32) → (Int32) → Option β) (hk161 : ∀ (x5_161 : Int32) (x6_161 : Int32), k161 x5_161 x6_161 = some res → gg_G MD_X9_flown 161 [some (.ref 0), none, none, none, none, some (.int x5_161), some (.int x6_161), none, none, none, none] [] (wd_X9_flown c_latest c_asked c_upper c_lower c_n c_readAt c_readMany c_readFood c_isHead c_backMany c_deedMany c_whole c_wellSum c_strongSum c_hash c_kindOf) rr ww) : ∀ (n : Nat) (x5_64 : Int32) (x6_64 : Int32) (x7_64 : Int32), lp_X9_flown_64 y1 y2 y3 y4 c_kindOf k161 n x5_64 x6_64 x7_64 = some res → gg_G MD_X9_flown 64 [some (.ref 0), some (.int y1), some (.int y2), some (.int y3), some (.int y4), some (.int x5_64), some (.int x6_64), some (.int x7_64), none, none, none] [] (wd_X9_flown c_latest c_asked c_upper c_lower c_n c_readAt c_readMany c_readFood c_isHead c_backMany c_deedMany c_whole c_wellSum c_strongSum c_hash c_kindOf) rr ww := by
  intro n
  induction n with
  | zero =>
    intro x5_64 x6_64 x7_64 h
    exact nomatch (show (none : Option β) = some res from h)
  | succ n ih =>
    intro x5_64 x6_64 x7_64 h
    rw [lp_X9_flown_64] at h
    refine gg_iload dX9_flown_64 rfl ?_
    refine gg_iload dX9_flown_66 rfl ?_
    refine gg_icmp_ge 161 dX9_flown_68 (by decide) (fun hc => ?_) (fun hc => ?_)
    · replace h := gg_th h hc
      refine gg_fg [true, false, false, false, false, true, true, false, false, false, false] [some (.ref 0), none, none, none, none, some (.int x5_64), some (.int x6_64), none, none, none, none] rfl ?_
      exact hk161 x5_64 x6_64 h
    · replace h := gg_el h hc
      refine gg_iconst (0 : Int32) dX9_flown_71 (by decide) ?_
      refine gg_istore [some (.ref 0), some (.int y1), some (.int y2), some (.int y3), some (.int y4), some (.int x5_64), some (.int x6_64), some (.int x7_64), some (.int (0 : Int32)), none, none] dX9_flown_72 rfl (Nat.le_of_ble_eq_true rfl) rfl ?_
      refine gg_iload dX9_flown_74 rfl ?_
      refine gg_istore [some (.ref 0), some (.int y1), some (.int y2), some (.int y3), some (.int y4), some (.int x5_64), some (.int x6_64), some (.int x7_64), some (.int (0 : Int32)), some (.int x7_64), none] dX9_flown_76 rfl (Nat.le_of_ble_eq_true rfl) rfl ?_
      refine gg_iconst (0 : Int32) dX9_flown_78 (by decide) ?_
      refine gg_istore [some (.ref 0), some (.int y1), some (.int y2), some (.int y3), some (.int y4), some (.int x5_64), some (.int x6_64), some (.int x7_64), some (.int (0 : Int32)), some (.int x7_64), some (.int (0 : Int32))] dX9_flown_79 rfl (Nat.le_of_ble_eq_true rfl) rfl ?_
      refine lq_X9_flown_81 y1 y2 y3 y4 x5_64 x6_64 x7_64 c_latest c_asked c_upper c_lower c_n c_readAt c_readMany c_readFood c_isHead c_backMany c_deedMany c_whole c_wellSum c_strongSum c_hash c_kindOf _ ?_ gg_fuel (0 : Int32) x7_64 (0 : Int32) h
      intro x8_119 h
      refine gg_iload dX9_flown_119 rfl ?_
      refine gg_iload_n dX9_flown_121 rfl ?_
      obtain ⟨k137, hke137, h⟩ := gg_lte h
      have hk137 : ∀ (s0_137 : Int32), k137 s0_137 = some res → gg_G MD_X9_flown 137 [some (.ref 0), some (.int y1), some (.int y2), some (.int y3), some (.int y4), some (.int x5_64), none, some (.int x7_64), some (.int x8_119), none, none] [.int s0_137] (wd_X9_flown c_latest c_asked c_upper c_lower c_n c_readAt c_readMany c_readFood c_isHead c_backMany c_deedMany c_whole c_wellSum c_strongSum c_hash c_kindOf) rr ww := by
        intro s0_137 h
        subst hke137
        refine gg_istore [some (.ref 0), some (.int y1), some (.int y2), some (.int y3), some (.int y4), some (.int x5_64), some (.int s0_137), some (.int x7_64), some (.int x8_119), none, none] dX9_flown_137 rfl (Nat.le_of_ble_eq_true rfl) rfl ?_
        refine gg_iload dX9_flown_139 rfl ?_
        refine gg_iload dX9_flown_141 rfl ?_
        refine gg_iload_n dX9_flown_143 rfl ?_
        obtain ⟨k152, hke152, h⟩ := gg_lte h
        have hk152 : ∀ (s1_152 : Int32), k152 s1_152 = some res → gg_G MD_X9_flown 152 [some (.ref 0), some (.int y1), some (.int y2), some (.int y3), some (.int y4), none, some (.int s0_137), some (.int x7_64), none, none, none] [.int s1_152, .int x5_64] (wd_X9_flown c_latest c_asked c_upper c_lower c_n c_readAt c_readMany c_readFood c_isHead c_backMany c_deedMany c_whole c_wellSum c_strongSum c_hash c_kindOf) rr ww := by
          intro s1_152 h
          subst hke152
          refine gg_iadd dX9_flown_152 ?_
          refine gg_istore [some (.ref 0), some (.int y1), some (.int y2), some (.int y3), some (.int y4), some (.int (x5_64 + s1_152)), some (.int s0_137), some (.int x7_64), none, none, none] dX9_flown_153 rfl (Nat.le_of_ble_eq_true rfl) rfl ?_
          refine gg_iinc (x7_64 + (1 : Int32)) [some (.ref 0), some (.int y1), some (.int y2), some (.int y3), some (.int y4), some (.int (x5_64 + s1_152)), some (.int s0_137), some (.int (x7_64 + (1 : Int32))), none, none, none] dX9_flown_155 rfl rfl rfl (Nat.le_of_ble_eq_true rfl) rfl ?_
          refine gg_goto 64 dX9_flown_158 (by decide) ?_
          exact ih (x5_64 + s1_152) s0_137 (x7_64 + (1 : Int32)) h
        clear hke152
        refine gg_icmp_ne 151 dX9_flown_144 (by decide) (fun hc => ?_) (fun hc => ?_)
        · replace h := gg_el h hc
          refine gg_iconst (0 : Int32) dX9_flown_151 (by decide) ?_
          refine gg_fg [true, true, true, true, true, false, true, true, false, false, false] [some (.ref 0), some (.int y1), some (.int y2), some (.int y3), some (.int y4), none, some (.int s0_137), some (.int x7_64), none, none, none] rfl ?_
          exact hk152 (0 : Int32) h
        · replace h := gg_th h hc
          refine gg_iconst (1 : Int32) dX9_flown_147 (by decide) ?_
          refine gg_goto 152 dX9_flown_148 (by decide) ?_
          refine gg_fg [true, true, true, true, true, false, true, true, false, false, false] [some (.ref 0), some (.int y1), some (.int y2), some (.int y3), some (.int y4), none, some (.int s0_137), some (.int x7_64), none, none, none] rfl ?_
          exact hk152 (1 : Int32) h
      clear hke137
      obtain ⟨k135, hke135, h⟩ := gg_lte h
      have hk135 : k135 = some res → gg_G MD_X9_flown 135 [some (.ref 0), some (.int y1), some (.int y2), some (.int y3), some (.int y4), some (.int x5_64), some (.int x6_64), some (.int x7_64), some (.int x8_119), none, none] [] (wd_X9_flown c_latest c_asked c_upper c_lower c_n c_readAt c_readMany c_readFood c_isHead c_backMany c_deedMany c_whole c_wellSum c_strongSum c_hash c_kindOf) rr ww := by
        intro  h
        subst hke135
        refine gg_iload dX9_flown_135 rfl ?_
        refine gg_fg [true, true, true, true, true, true, false, true, true, false, false] [some (.ref 0), some (.int y1), some (.int y2), some (.int y3), some (.int y4), some (.int x5_64), none, some (.int x7_64), some (.int x8_119), none, none] rfl ?_
        exact hk137 x6_64 h
      clear hke135
      refine gg_icmp_ne 135 dX9_flown_122 (by decide) (fun hc => ?_) (fun hc => ?_)
      · replace h := gg_el h hc
        exact hk135 h
      · replace h := gg_th h hc
        refine gg_iload dX9_flown_125 rfl ?_
        refine gg_if_ne 135 dX9_flown_127 (by decide) (fun hc => ?_) (fun hc => ?_)
        · replace h := gg_el h hc
          exact hk135 h
        · replace h := gg_th h hc
          refine gg_iload dX9_flown_130 rfl ?_
          refine gg_goto 137 dX9_flown_132 (by decide) ?_
          refine gg_fg [true, true, true, true, true, true, false, true, true, false, false] [some (.ref 0), some (.int y1), some (.int y2), some (.int y3), some (.int y4), some (.int x5_64), none, some (.int x7_64), some (.int x8_119), none, none] rfl ?_
          exact hk137 x7_64 h
set_option maxRecDepth 20000 in
set_option maxHeartbeats 8000000 in
theorem C_X9_flown (a0 : Int32) (a1 : Int32) (a2 : Int32) (c_latest : Int32) (c_asked : Int32) (c_upper : Int64) (c_lower : Int64) (c_n : Int32) (c_readAt : Int32) (c_readMany : Int32) (c_readFood : Int32) (c_isHead : Int32) (c_backMany : Int32) (c_deedMany : Int32) (c_whole : Int64) (c_wellSum : Int64) (c_strongSum : Int64) (c_hash : Int64) (c_kindOf : Nat → Int32) {r0 : Int32} {r1 : (Int32)} (h : f_X9_flown a0 a1 a2 c_asked c_n c_kindOf = some (r0, r1)) : gg_C MD_X9_flown [.ref 0, .int a0, .int a1, .int a2] (wd_X9_flown c_latest c_asked c_upper c_lower c_n c_readAt c_readMany c_readFood c_isHead c_backMany c_deedMany c_whole c_wellSum c_strongSum c_hash c_kindOf) (some (.int r0)) (wd_X9_flown c_latest r1 c_upper c_lower c_n c_readAt c_readMany c_readFood c_isHead c_backMany c_deedMany c_whole c_wellSum c_strongSum c_hash c_kindOf) := by
  refine gg_ofG [some (.ref 0), some (.int a0), some (.int a1), some (.int a2), none, none, none, none, none, none, none] (plainFor_of_name (by decide)) (Nat.le_of_ble_eq_true rfl) rfl ?_
  unfold f_X9_flown at h
  refine gg_aload_n dX9_flown_0 rfl ?_
  refine gg_iload_n dX9_flown_1 rfl ?_
  obtain ⟨v1, hv1, h⟩ := gg_bd h
  refine gg_callV (gg_sg [0]) [0] (wd_X9_flown c_latest c_asked c_upper c_lower c_n c_readAt c_readMany c_readFood c_isHead c_backMany c_deedMany c_whole c_wellSum c_strongSum c_hash c_kindOf) 0 (C_X9_isHut a0 c_latest c_asked c_upper c_lower c_n c_readAt c_readMany c_readFood c_isHead c_backMany c_deedMany c_whole c_wellSum c_strongSum c_hash hv1) nV_X9_isHut ml_X9_198 rfl rfl rfl rfl rfl rfl rfl rfl rfl rfl [1] 2 rfl rfl rfl rfl rfl ⟨Nat.le_of_ble_eq_true rfl, Nat.le_of_ble_eq_true rfl⟩ (Nat.le_of_ble_eq_true rfl) dX9_flown_2 [.int v1] rfl ?_
  obtain ⟨k27, hke27, h⟩ := gg_lte h
  have hk27 : k27 = some (r0, r1) → gg_G MD_X9_flown 27 [none, none, none, none, none, none, none, none, none, none, none] [] (wd_X9_flown c_latest c_asked c_upper c_lower c_n c_readAt c_readMany c_readFood c_isHead c_backMany c_deedMany c_whole c_wellSum c_strongSum c_hash c_kindOf) (some (.int r0)) (wd_X9_flown c_latest r1 c_upper c_lower c_n c_readAt c_readMany c_readFood c_isHead c_backMany c_deedMany c_whole c_wellSum c_strongSum c_hash c_kindOf) := by
    intro  h
    subst hke27
    refine gg_iconst (-1 : Int32) dX9_flown_27 (by decide) ?_
    cases h
    exact gg_iret dX9_flown_28 rfl
  clear hke27
  refine gg_if_eq 27 dX9_flown_5 (by decide) (fun hc => ?_) (fun hc => ?_)
  · replace h := gg_th h hc
    refine gg_fg [false, false, false, false, false, false, false, false, false, false, false] [none, none, none, none, none, none, none, none, none, none, none] rfl ?_
    exact hk27 h
  · replace h := gg_el h hc
    refine gg_iload_n dX9_flown_8 rfl ?_
    refine gg_iconst (0 : Int32) dX9_flown_9 (by decide) ?_
    refine gg_iconst (4 : Int32) dX9_flown_10 (by decide) ?_
    obtain ⟨v2, hv2, h⟩ := gg_bd h
    refine gg_callS (gg_sg []) [] (wd_X9_flown c_latest c_asked c_upper c_lower c_n c_readAt c_readMany c_readFood c_isHead c_backMany c_deedMany c_whole c_wellSum c_strongSum c_hash c_kindOf) (C_X9_in a1 (0 : Int32) (4 : Int32) hv2) nS_X9_in ml_X9_92 rfl rfl rfl rfl rfl rfl rfl [0, 1] 2 rfl rfl rfl rfl rfl ⟨Nat.le_of_ble_eq_true rfl, Nat.le_of_ble_eq_true rfl⟩ (Nat.le_of_ble_eq_true rfl) dX9_flown_11 [.int v2] rfl ?_
    refine gg_if_eq 27 dX9_flown_14 (by decide) (fun hc => ?_) (fun hc => ?_)
    · replace h := gg_th h hc
      refine gg_fg [false, false, false, false, false, false, false, false, false, false, false] [none, none, none, none, none, none, none, none, none, none, none] rfl ?_
      exact hk27 h
    · replace h := gg_el h hc
      refine gg_iload_n dX9_flown_17 rfl ?_
      refine gg_iconst (0 : Int32) dX9_flown_18 (by decide) ?_
      refine gg_bipush (40 : Int32) dX9_flown_19 (by decide) ?_
      obtain ⟨v3, hv3, h⟩ := gg_bd h
      refine gg_callS (gg_sg []) [] (wd_X9_flown c_latest c_asked c_upper c_lower c_n c_readAt c_readMany c_readFood c_isHead c_backMany c_deedMany c_whole c_wellSum c_strongSum c_hash c_kindOf) (C_X9_in a2 (0 : Int32) (40 : Int32) hv3) nS_X9_in ml_X9_92 rfl rfl rfl rfl rfl rfl rfl [0, 1] 2 rfl rfl rfl rfl rfl ⟨Nat.le_of_ble_eq_true rfl, Nat.le_of_ble_eq_true rfl⟩ (Nat.le_of_ble_eq_true rfl) dX9_flown_21 [.int v3] rfl ?_
      refine gg_if_ne 29 dX9_flown_24 (by decide) (fun hc => ?_) (fun hc => ?_)
      · replace h := gg_el h hc
        refine gg_iconst (1 : Int32) dX9_flown_29 (by decide) ?_
        refine gg_istore [some (.ref 0), some (.int a0), some (.int a1), some (.int a2), some (.int (1 : Int32)), none, none, none, none, none, none] dX9_flown_30 rfl (Nat.le_of_ble_eq_true rfl) rfl ?_
        refine gg_iconst (0 : Int32) dX9_flown_32 (by decide) ?_
        refine gg_istore [some (.ref 0), some (.int a0), some (.int a1), some (.int a2), some (.int (1 : Int32)), some (.int (0 : Int32)), none, none, none, none, none] dX9_flown_33 rfl (Nat.le_of_ble_eq_true rfl) rfl ?_
        refine lq_X9_flown_35 a0 a1 a2 c_latest c_asked c_upper c_lower c_n c_readAt c_readMany c_readFood c_isHead c_backMany c_deedMany c_whole c_wellSum c_strongSum c_hash c_kindOf _ ?_ gg_fuel (1 : Int32) (0 : Int32) h
        intro x4_54 h
        refine gg_iconst (0 : Int32) dX9_flown_54 (by decide) ?_
        refine gg_istore [some (.ref 0), some (.int a0), some (.int a1), some (.int a2), some (.int x4_54), some (.int (0 : Int32)), none, none, none, none, none] dX9_flown_55 rfl (Nat.le_of_ble_eq_true rfl) rfl ?_
        refine gg_bipush (-9 : Int32) dX9_flown_57 (by decide) ?_
        refine gg_istore [some (.ref 0), some (.int a0), some (.int a1), some (.int a2), some (.int x4_54), some (.int (0 : Int32)), some (.int (-9 : Int32)), none, none, none, none] dX9_flown_59 rfl (Nat.le_of_ble_eq_true rfl) rfl ?_
        refine gg_iconst (0 : Int32) dX9_flown_61 (by decide) ?_
        refine gg_istore [some (.ref 0), some (.int a0), some (.int a1), some (.int a2), some (.int x4_54), some (.int (0 : Int32)), some (.int (-9 : Int32)), some (.int (0 : Int32)), none, none, none] dX9_flown_62 rfl (Nat.le_of_ble_eq_true rfl) rfl ?_
        refine lq_X9_flown_64 a0 a1 a2 x4_54 c_latest c_asked c_upper c_lower c_n c_readAt c_readMany c_readFood c_isHead c_backMany c_deedMany c_whole c_wellSum c_strongSum c_hash c_kindOf _ ?_ gg_fuel (0 : Int32) (-9 : Int32) (0 : Int32) h
        intro x5_161 x6_161 h
        refine gg_iload dX9_flown_161 rfl ?_
        obtain ⟨k179, hke179, h⟩ := gg_lte h
        have hk179 : ∀ (s0_179 : Int32) (c_asked_179 : Int32), k179 s0_179 c_asked_179 = some (r0, r1) → gg_G MD_X9_flown 179 [none, none, none, none, none, none, none, none, none, none, none] [.int s0_179] (wd_X9_flown c_latest c_asked_179 c_upper c_lower c_n c_readAt c_readMany c_readFood c_isHead c_backMany c_deedMany c_whole c_wellSum c_strongSum c_hash c_kindOf) (some (.int r0)) (wd_X9_flown c_latest r1 c_upper c_lower c_n c_readAt c_readMany c_readFood c_isHead c_backMany c_deedMany c_whole c_wellSum c_strongSum c_hash c_kindOf) := by
          intro s0_179 c_asked_179 h
          subst hke179
          cases h
          exact gg_iret dX9_flown_179 rfl
        clear hke179
        refine gg_if_ne 171 dX9_flown_163 (by decide) (fun hc => ?_) (fun hc => ?_)
        · replace h := gg_el h hc
          refine gg_aload_n dX9_flown_171 rfl ?_
          refine gg_iload dX9_flown_172 rfl ?_
          refine gg_iload dX9_flown_174 rfl ?_
          obtain ⟨v5_0, v5_1, hv5, h⟩ := gg_bd2 h
          refine gg_callV (gg_sg [0]) [0] (wd_X9_flown c_latest v5_1 c_upper c_lower c_n c_readAt c_readMany c_readFood c_isHead c_backMany c_deedMany c_whole c_wellSum c_strongSum c_hash c_kindOf) 0 (C_X9_tells x6_161 x5_161 c_latest c_asked c_upper c_lower c_n c_readAt c_readMany c_readFood c_isHead c_backMany c_deedMany c_whole c_wellSum c_strongSum c_hash hv5) nV_X9_tells ml_X9_114 rfl rfl rfl rfl rfl rfl rfl rfl rfl rfl [1] 2 rfl rfl rfl rfl rfl ⟨Nat.le_of_ble_eq_true rfl, Nat.le_of_ble_eq_true rfl⟩ (Nat.le_of_ble_eq_true rfl) dX9_flown_176 [.int v5_0] rfl ?_
          refine gg_fg [false, false, false, false, false, false, false, false, false, false, false] [none, none, none, none, none, none, none, none, none, none, none] rfl ?_
          exact hk179 v5_0 v5_1 h
        · replace h := gg_th h hc
          refine gg_bipush (-9 : Int32) dX9_flown_166 (by decide) ?_
          refine gg_goto 179 dX9_flown_168 (by decide) ?_
          refine gg_fg [false, false, false, false, false, false, false, false, false, false, false] [none, none, none, none, none, none, none, none, none, none, none] rfl ?_
          exact hk179 (-9 : Int32) c_asked h
      · replace h := gg_th h hc
        refine gg_fg [false, false, false, false, false, false, false, false, false, false, false] [none, none, none, none, none, none, none, none, none, none, none] rfl ?_
        exact hk27 h
def wd_X9_lured (c_latest : Int32) (c_asked : Int32) (c_upper : Int64) (c_lower : Int64) (c_n : Int32) (c_readAt : Int32) (c_readMany : Int32) (c_readFood : Int32) (c_isHead : Int32) (c_backMany : Int32) (c_deedMany : Int32) (c_whole : Int64) (c_wellSum : Int64) (c_strongSum : Int64) (c_hash : Int64) (c_now : Nat → Int32) (c_more : Nat → Int32) : va_W := [(0, .inr (8, [.int c_latest, .ref 1, .int c_asked, .long c_upper, .long c_lower, .ref 2, .ref 3, .ref 4, .ref 5, .ref 6, .int c_n, .ref 7, .ref 8, .ref 9, .ref 10, .int c_readAt, .int c_readMany, .int c_readFood, .int c_isHead, .ref 11, .ref 12, .ref 13, .int c_backMany, .int c_deedMany, .ref 14, .ref 15, .ref 16, .ref 17, .ref 18, .ref 19, .ref 20, .ref 21, .ref 22, .ref 23, .ref 24, .long c_whole, .long c_wellSum, .long c_strongSum, .long c_hash])), (9, .inl (0, 26, .inl c_now)), (23, .inl (0, 64, .inl c_more))]
def MD_X9_lured : gg_M := (yX9_lured, cX9_lured, 8, some .int, 1, 21)
theorem nV_X9_lured : gg_nV MD_X9_lured 2 := ⟨⟨gg_mem (by decide +kernel) rfl, gg_mem cw_X9_lured rfl, by decide, by decide, by decide +kernel⟩, gg_mem (by decide +kernel) rfl, gg_mem (by decide +kernel) rfl⟩
def lp_X9_lured_9 {β : Type} (y1 : Int32) (y2 : Int32) (c_n : Int32) (c_now : Nat → Int32) (c_more : Nat → Int32) (k137 : (Int32) → (Int32) → Option β) : Nat → (Int32) → (Int32) → (Int32) → Option β
  | 0, _, _, _ => none
  | n + 1, x3_9, x4_9, x5_9 => (if c_n ≤ x5_9 then (k137 x3_9 x4_9) else (f_X9_has y1 x5_9).bind (fun v1 => gg_lt (fun (x3_131 : Int32) (x4_131 : Int32) => (lp_X9_lured_9 y1 y2 c_n c_now c_more k137 n x3_131 x4_131 (x5_9 + (1 : Int32)))) (fun k131 => (if v1 = (0 : Int32) then (k131 x3_9 x4_9) else gg_chk (gg_in (y1 &&& (((1 : Int32) <<< (x5_9 &&& 31)) ^^^ (-1 : Int32))) 64) (gg_lt (fun (s1_68 : Int32) => gg_lt (fun (s0_103 : Int32) => gg_lt (fun (s0_117 : Int32) => gg_lt (fun (s0_130 : Int32) => (k131 s0_130 s0_117)) (fun k130 => (if s0_103 = (0 : Int32) then (k130 x3_9) else (k130 x5_9)))) (fun k117 => (if s0_103 = (0 : Int32) then (k117 x4_9) else (k117 ((c_more (y1 &&& (((1 : Int32) <<< (x5_9 &&& 31)) ^^^ (-1 : Int32))).toNatClampNeg) + s1_68))))) (fun k103 => gg_lt ((k103 (1 : Int32))) (fun k98 => (if x3_9 = (-9 : Int32) then k98 else gg_lt ((k103 (0 : Int32))) (fun k102 => (if y2 = (0 : Int32) then (if x4_9 ≤ ((c_more (y1 &&& (((1 : Int32) <<< (x5_9 &&& 31)) ^^^ (-1 : Int32))).toNatClampNeg) + s1_68) then k102 else k98) else (if ((c_more (y1 &&& (((1 : Int32) <<< (x5_9 &&& 31)) ^^^ (-1 : Int32))).toNatClampNeg) + s1_68) ≤ x4_9 then k102 else k98))))))) (fun k68 => (if y2 = (0 : Int32) then gg_chk (gg_in ((8 : Int32) + x5_9) 26) ((k68 (-(c_now ((8 : Int32) + x5_9).toNatClampNeg)))) else gg_chk (gg_in ((8 : Int32) + x5_9) 26) ((k68 (c_now ((8 : Int32) + x5_9).toNatClampNeg))))))))))
def f_X9_lured (a0 : Int32) (a1 : Int32) (c_n : Int32) (c_now : Nat → Int32) (c_more : Nat → Int32) : Option (Int32) := (lp_X9_lured_9 a0 a1 c_n c_now c_more (fun (x3_137 : Int32) (x4_137 : Int32) => gg_lt (fun (s0_154 : Int32) => (some s0_154)) (fun k154 => (if x3_137 = (-9 : Int32) then gg_chk (gg_in a0 64) ((k154 (c_more a0.toNatClampNeg))) else (k154 x4_137)))) gg_fuel (-9 : Int32) (0 : Int32) (0 : Int32))
set_option maxRecDepth 20000 in
set_option maxHeartbeats 4000000 in
theorem lq_X9_lured_9 {β : Type} {res : β} {rr : Option Value} {ww : va_W} (y1 : Int32) (y2 : Int32) (c_latest : Int32) (c_asked : Int32) (c_upper : Int64) (c_lower : Int64) (c_n : Int32) (c_readAt : Int32) (c_readMany : Int32) (c_readFood : Int32) (c_isHead : Int32) (c_backMany : Int32) (c_deedMany : Int32) (c_whole : Int64) (c_wellSum : Int64) (c_strongSum : Int64) (c_hash : Int64) (c_now : Nat → Int32) (c_more : Nat → Int32) (k137 : (Int32) → (Int32) → Option β) (hk137 : ∀ (x3_137 : Int32) (x4_137 : Int32), k137 x3_137 x4_137 = some res → gg_G MD_X9_lured 137 [some (.ref 0), some (.int y1), none, some (.int x3_137), some (.int x4_137), none, none, none] [] (wd_X9_lured c_latest c_asked c_upper c_lower c_n c_readAt c_readMany c_readFood c_isHead c_backMany c_deedMany c_whole c_wellSum c_strongSum c_hash c_now c_more) rr ww) : ∀ (n : Nat) (x3_9 : Int32) (x4_9 : Int32) (x5_9 : Int32), lp_X9_lured_9 y1 y2 c_n c_now c_more k137 n x3_9 x4_9 x5_9 = some res → gg_G MD_X9_lured 9 [some (.ref 0), some (.int y1), some (.int y2), some (.int x3_9), some (.int x4_9), some (.int x5_9), none, none] [] (wd_X9_lured c_latest c_asked c_upper c_lower c_n c_readAt c_readMany c_readFood c_isHead c_backMany c_deedMany c_whole c_wellSum c_strongSum c_hash c_now c_more) rr ww := by
  intro n
  induction n with
  | zero =>
    intro x3_9 x4_9 x5_9 h
    exact nomatch (show (none : Option β) = some res from h)
  | succ n ih =>
    intro x3_9 x4_9 x5_9 h
    rw [lp_X9_lured_9] at h
    refine gg_iload dX9_lured_9 rfl ?_
    refine gg_aload_n dX9_lured_11 rfl ?_
    refine gg_get 0 fl_X9_154 dX9_lured_12 rfl rfl ?_
    refine gg_icmp_ge 137 dX9_lured_15 (by decide) (fun hc => ?_) (fun hc => ?_)
    · replace h := gg_th h hc
      refine gg_fg [true, true, false, true, true, false, false, false] [some (.ref 0), some (.int y1), none, some (.int x3_9), some (.int x4_9), none, none, none] rfl ?_
      exact hk137 x3_9 x4_9 h
    · replace h := gg_el h hc
      refine gg_iload_n dX9_lured_18 rfl ?_
      refine gg_iload dX9_lured_19 rfl ?_
      obtain ⟨v1, hv1, h⟩ := gg_bd h
      refine gg_callS (gg_sg []) [] (wd_X9_lured c_latest c_asked c_upper c_lower c_n c_readAt c_readMany c_readFood c_isHead c_backMany c_deedMany c_whole c_wellSum c_strongSum c_hash c_now c_more) (C_X9_has y1 x5_9 hv1) nS_X9_has ml_X9_167 rfl rfl rfl rfl rfl rfl rfl [0, 1, 2] 3 rfl rfl rfl rfl rfl ⟨Nat.le_of_ble_eq_true rfl, Nat.le_of_ble_eq_true rfl⟩ (Nat.le_of_ble_eq_true rfl) dX9_lured_21 [.int v1] rfl ?_
      obtain ⟨k131, hke131, h⟩ := gg_lte h
      have hk131 : ∀ (x3_131 : Int32) (x4_131 : Int32), k131 x3_131 x4_131 = some res → gg_G MD_X9_lured 131 [some (.ref 0), some (.int y1), some (.int y2), some (.int x3_131), some (.int x4_131), some (.int x5_9), none, none] [] (wd_X9_lured c_latest c_asked c_upper c_lower c_n c_readAt c_readMany c_readFood c_isHead c_backMany c_deedMany c_whole c_wellSum c_strongSum c_hash c_now c_more) rr ww := by
        intro x3_131 x4_131 h
        subst hke131
        refine gg_iinc (x5_9 + (1 : Int32)) [some (.ref 0), some (.int y1), some (.int y2), some (.int x3_131), some (.int x4_131), some (.int (x5_9 + (1 : Int32))), none, none] dX9_lured_131 rfl rfl rfl (Nat.le_of_ble_eq_true rfl) rfl ?_
        refine gg_goto 9 dX9_lured_134 (by decide) ?_
        exact ih x3_131 x4_131 (x5_9 + (1 : Int32)) h
      clear hke131
      refine gg_if_eq 131 dX9_lured_24 (by decide) (fun hc => ?_) (fun hc => ?_)
      · replace h := gg_th h hc
        exact hk131 x3_9 x4_9 h
      · replace h := gg_el h hc
        refine gg_aload_n dX9_lured_27 rfl ?_
        refine gg_get 0 fl_X9_82 dX9_lured_28 rfl rfl ?_
        refine gg_iload_n dX9_lured_31 rfl ?_
        refine gg_iconst (1 : Int32) dX9_lured_32 (by decide) ?_
        refine gg_iload dX9_lured_33 rfl ?_
        refine gg_ishl dX9_lured_35 ?_
        refine gg_iconst (-1 : Int32) dX9_lured_36 (by decide) ?_
        refine gg_ixor dX9_lured_37 ?_
        refine gg_iand dX9_lured_38 ?_
        obtain ⟨hb39, h⟩ := gg_ck h
        refine gg_iald 2 dX9_lured_39 rfl hb39 ?_
        refine gg_iload_n dX9_lured_40 rfl ?_
        obtain ⟨k68, hke68, h⟩ := gg_lte h
        have hk68 : ∀ (s1_68 : Int32), k68 s1_68 = some res → gg_G MD_X9_lured 68 [some (.ref 0), some (.int y1), some (.int y2), some (.int x3_9), some (.int x4_9), some (.int x5_9), none, none] [.int s1_68, .int (c_more (y1 &&& (((1 : Int32) <<< (x5_9 &&& 31)) ^^^ (-1 : Int32))).toNatClampNeg)] (wd_X9_lured c_latest c_asked c_upper c_lower c_n c_readAt c_readMany c_readFood c_isHead c_backMany c_deedMany c_whole c_wellSum c_strongSum c_hash c_now c_more) rr ww := by
          intro s1_68 h
          subst hke68
          refine gg_iadd dX9_lured_68 ?_
          refine gg_istore [some (.ref 0), some (.int y1), some (.int y2), some (.int x3_9), some (.int x4_9), some (.int x5_9), some (.int ((c_more (y1 &&& (((1 : Int32) <<< (x5_9 &&& 31)) ^^^ (-1 : Int32))).toNatClampNeg) + s1_68)), none] dX9_lured_69 rfl (Nat.le_of_ble_eq_true rfl) rfl ?_
          refine gg_iload_n dX9_lured_71 rfl ?_
          refine gg_bipush (-9 : Int32) dX9_lured_72 (by decide) ?_
          obtain ⟨k103, hke103, h⟩ := gg_lte h
          have hk103 : ∀ (s0_103 : Int32), k103 s0_103 = some res → gg_G MD_X9_lured 103 [some (.ref 0), some (.int y1), some (.int y2), some (.int x3_9), some (.int x4_9), some (.int x5_9), some (.int ((c_more (y1 &&& (((1 : Int32) <<< (x5_9 &&& 31)) ^^^ (-1 : Int32))).toNatClampNeg) + s1_68)), none] [.int s0_103] (wd_X9_lured c_latest c_asked c_upper c_lower c_n c_readAt c_readMany c_readFood c_isHead c_backMany c_deedMany c_whole c_wellSum c_strongSum c_hash c_now c_more) rr ww := by
            intro s0_103 h
            subst hke103
            refine gg_istore [some (.ref 0), some (.int y1), some (.int y2), some (.int x3_9), some (.int x4_9), some (.int x5_9), some (.int ((c_more (y1 &&& (((1 : Int32) <<< (x5_9 &&& 31)) ^^^ (-1 : Int32))).toNatClampNeg) + s1_68)), some (.int s0_103)] dX9_lured_103 rfl (Nat.le_of_ble_eq_true rfl) rfl ?_
            refine gg_iload dX9_lured_105 rfl ?_
            obtain ⟨k117, hke117, h⟩ := gg_lte h
            have hk117 : ∀ (s0_117 : Int32), k117 s0_117 = some res → gg_G MD_X9_lured 117 [some (.ref 0), some (.int y1), some (.int y2), some (.int x3_9), none, some (.int x5_9), none, some (.int s0_103)] [.int s0_117] (wd_X9_lured c_latest c_asked c_upper c_lower c_n c_readAt c_readMany c_readFood c_isHead c_backMany c_deedMany c_whole c_wellSum c_strongSum c_hash c_now c_more) rr ww := by
              intro s0_117 h
              subst hke117
              refine gg_istore [some (.ref 0), some (.int y1), some (.int y2), some (.int x3_9), some (.int s0_117), some (.int x5_9), none, some (.int s0_103)] dX9_lured_117 rfl (Nat.le_of_ble_eq_true rfl) rfl ?_
              refine gg_iload dX9_lured_119 rfl ?_
              obtain ⟨k130, hke130, h⟩ := gg_lte h
              have hk130 : ∀ (s0_130 : Int32), k130 s0_130 = some res → gg_G MD_X9_lured 130 [some (.ref 0), some (.int y1), some (.int y2), none, some (.int s0_117), some (.int x5_9), none, none] [.int s0_130] (wd_X9_lured c_latest c_asked c_upper c_lower c_n c_readAt c_readMany c_readFood c_isHead c_backMany c_deedMany c_whole c_wellSum c_strongSum c_hash c_now c_more) rr ww := by
                intro s0_130 h
                subst hke130
                refine gg_istore_n [some (.ref 0), some (.int y1), some (.int y2), some (.int s0_130), some (.int s0_117), some (.int x5_9), none, none] dX9_lured_130 rfl (Nat.le_of_ble_eq_true rfl) rfl ?_
                exact hk131 s0_130 s0_117 h
              clear hke130
              refine gg_if_eq 129 dX9_lured_121 (by decide) (fun hc => ?_) (fun hc => ?_)
              · replace h := gg_th h hc
                refine gg_iload_n dX9_lured_129 rfl ?_
                refine gg_fg [true, true, true, false, true, true, false, false] [some (.ref 0), some (.int y1), some (.int y2), none, some (.int s0_117), some (.int x5_9), none, none] rfl ?_
                exact hk130 x3_9 h
              · replace h := gg_el h hc
                refine gg_iload dX9_lured_124 rfl ?_
                refine gg_goto 130 dX9_lured_126 (by decide) ?_
                refine gg_fg [true, true, true, false, true, true, false, false] [some (.ref 0), some (.int y1), some (.int y2), none, some (.int s0_117), some (.int x5_9), none, none] rfl ?_
                exact hk130 x5_9 h
            clear hke117
            refine gg_if_eq 115 dX9_lured_107 (by decide) (fun hc => ?_) (fun hc => ?_)
            · replace h := gg_th h hc
              refine gg_iload dX9_lured_115 rfl ?_
              refine gg_fg [true, true, true, true, false, true, false, true] [some (.ref 0), some (.int y1), some (.int y2), some (.int x3_9), none, some (.int x5_9), none, some (.int s0_103)] rfl ?_
              exact hk117 x4_9 h
            · replace h := gg_el h hc
              refine gg_iload dX9_lured_110 rfl ?_
              refine gg_goto 117 dX9_lured_112 (by decide) ?_
              refine gg_fg [true, true, true, true, false, true, false, true] [some (.ref 0), some (.int y1), some (.int y2), some (.int x3_9), none, some (.int x5_9), none, some (.int s0_103)] rfl ?_
              exact hk117 ((c_more (y1 &&& (((1 : Int32) <<< (x5_9 &&& 31)) ^^^ (-1 : Int32))).toNatClampNeg) + s1_68) h
          clear hke103
          obtain ⟨k98, hke98, h⟩ := gg_lte h
          have hk98 : k98 = some res → gg_G MD_X9_lured 98 [some (.ref 0), some (.int y1), some (.int y2), some (.int x3_9), some (.int x4_9), some (.int x5_9), some (.int ((c_more (y1 &&& (((1 : Int32) <<< (x5_9 &&& 31)) ^^^ (-1 : Int32))).toNatClampNeg) + s1_68)), none] [] (wd_X9_lured c_latest c_asked c_upper c_lower c_n c_readAt c_readMany c_readFood c_isHead c_backMany c_deedMany c_whole c_wellSum c_strongSum c_hash c_now c_more) rr ww := by
            intro  h
            subst hke98
            refine gg_iconst (1 : Int32) dX9_lured_98 (by decide) ?_
            refine gg_goto 103 dX9_lured_99 (by decide) ?_
            exact hk103 (1 : Int32) h
          clear hke98
          refine gg_icmp_eq 98 dX9_lured_74 (by decide) (fun hc => ?_) (fun hc => ?_)
          · replace h := gg_th h hc
            exact hk98 h
          · replace h := gg_el h hc
            refine gg_iload_n dX9_lured_77 rfl ?_
            obtain ⟨k102, hke102, h⟩ := gg_lte h
            have hk102 : k102 = some res → gg_G MD_X9_lured 102 [some (.ref 0), some (.int y1), some (.int y2), some (.int x3_9), some (.int x4_9), some (.int x5_9), some (.int ((c_more (y1 &&& (((1 : Int32) <<< (x5_9 &&& 31)) ^^^ (-1 : Int32))).toNatClampNeg) + s1_68)), none] [] (wd_X9_lured c_latest c_asked c_upper c_lower c_n c_readAt c_readMany c_readFood c_isHead c_backMany c_deedMany c_whole c_wellSum c_strongSum c_hash c_now c_more) rr ww := by
              intro  h
              subst hke102
              refine gg_iconst (0 : Int32) dX9_lured_102 (by decide) ?_
              exact hk103 (0 : Int32) h
            clear hke102
            refine gg_if_eq 91 dX9_lured_78 (by decide) (fun hc => ?_) (fun hc => ?_)
            · replace h := gg_th h hc
              refine gg_iload dX9_lured_91 rfl ?_
              refine gg_iload dX9_lured_93 rfl ?_
              refine gg_icmp_ge 102 dX9_lured_95 (by decide) (fun hc => ?_) (fun hc => ?_)
              · replace h := gg_th h hc
                exact hk102 h
              · replace h := gg_el h hc
                exact hk98 h
            · replace h := gg_el h hc
              refine gg_iload dX9_lured_81 rfl ?_
              refine gg_iload dX9_lured_83 rfl ?_
              refine gg_icmp_le 102 dX9_lured_85 (by decide) (fun hc => ?_) (fun hc => ?_)
              · replace h := gg_th h hc
                exact hk102 h
              · replace h := gg_el h hc
                refine gg_goto 98 dX9_lured_88 (by decide) ?_
                exact hk98 h
        clear hke68
        refine gg_if_eq 57 dX9_lured_41 (by decide) (fun hc => ?_) (fun hc => ?_)
        · replace h := gg_th h hc
          refine gg_aload_n dX9_lured_57 rfl ?_
          refine gg_get 0 fl_X9_39 dX9_lured_58 rfl rfl ?_
          refine gg_bipush (8 : Int32) dX9_lured_61 (by decide) ?_
          refine gg_iload dX9_lured_63 rfl ?_
          refine gg_iadd dX9_lured_65 ?_
          obtain ⟨hb66, h⟩ := gg_ck h
          refine gg_iald 1 dX9_lured_66 rfl hb66 ?_
          refine gg_ineg dX9_lured_67 ?_
          exact hk68 (-(c_now ((8 : Int32) + x5_9).toNatClampNeg)) h
        · replace h := gg_el h hc
          refine gg_aload_n dX9_lured_44 rfl ?_
          refine gg_get 0 fl_X9_39 dX9_lured_45 rfl rfl ?_
          refine gg_bipush (8 : Int32) dX9_lured_48 (by decide) ?_
          refine gg_iload dX9_lured_50 rfl ?_
          refine gg_iadd dX9_lured_52 ?_
          obtain ⟨hb53, h⟩ := gg_ck h
          refine gg_iald 1 dX9_lured_53 rfl hb53 ?_
          refine gg_goto 68 dX9_lured_54 (by decide) ?_
          exact hk68 (c_now ((8 : Int32) + x5_9).toNatClampNeg) h
set_option maxRecDepth 20000 in
set_option maxHeartbeats 8000000 in
theorem C_X9_lured (a0 : Int32) (a1 : Int32) (c_latest : Int32) (c_asked : Int32) (c_upper : Int64) (c_lower : Int64) (c_n : Int32) (c_readAt : Int32) (c_readMany : Int32) (c_readFood : Int32) (c_isHead : Int32) (c_backMany : Int32) (c_deedMany : Int32) (c_whole : Int64) (c_wellSum : Int64) (c_strongSum : Int64) (c_hash : Int64) (c_now : Nat → Int32) (c_more : Nat → Int32) {res : Int32} (h : f_X9_lured a0 a1 c_n c_now c_more = some res) : gg_C MD_X9_lured [.ref 0, .int a0, .int a1] (wd_X9_lured c_latest c_asked c_upper c_lower c_n c_readAt c_readMany c_readFood c_isHead c_backMany c_deedMany c_whole c_wellSum c_strongSum c_hash c_now c_more) (some (.int res)) (wd_X9_lured c_latest c_asked c_upper c_lower c_n c_readAt c_readMany c_readFood c_isHead c_backMany c_deedMany c_whole c_wellSum c_strongSum c_hash c_now c_more) := by
  refine gg_ofG [some (.ref 0), some (.int a0), some (.int a1), none, none, none, none, none] (plainFor_of_name (by decide)) (Nat.le_of_ble_eq_true rfl) rfl ?_
  unfold f_X9_lured at h
  refine gg_bipush (-9 : Int32) dX9_lured_0 (by decide) ?_
  refine gg_istore_n [some (.ref 0), some (.int a0), some (.int a1), some (.int (-9 : Int32)), none, none, none, none] dX9_lured_2 rfl (Nat.le_of_ble_eq_true rfl) rfl ?_
  refine gg_iconst (0 : Int32) dX9_lured_3 (by decide) ?_
  refine gg_istore [some (.ref 0), some (.int a0), some (.int a1), some (.int (-9 : Int32)), some (.int (0 : Int32)), none, none, none] dX9_lured_4 rfl (Nat.le_of_ble_eq_true rfl) rfl ?_
  refine gg_iconst (0 : Int32) dX9_lured_6 (by decide) ?_
  refine gg_istore [some (.ref 0), some (.int a0), some (.int a1), some (.int (-9 : Int32)), some (.int (0 : Int32)), some (.int (0 : Int32)), none, none] dX9_lured_7 rfl (Nat.le_of_ble_eq_true rfl) rfl ?_
  refine lq_X9_lured_9 a0 a1 c_latest c_asked c_upper c_lower c_n c_readAt c_readMany c_readFood c_isHead c_backMany c_deedMany c_whole c_wellSum c_strongSum c_hash c_now c_more _ ?_ gg_fuel (-9 : Int32) (0 : Int32) (0 : Int32) h
  intro x3_137 x4_137 h
  refine gg_iload_n dX9_lured_137 rfl ?_
  refine gg_bipush (-9 : Int32) dX9_lured_138 (by decide) ?_
  obtain ⟨k154, hke154, h⟩ := gg_lte h
  have hk154 : ∀ (s0_154 : Int32), k154 s0_154 = some res → gg_G MD_X9_lured 154 [none, none, none, none, none, none, none, none] [.int s0_154] (wd_X9_lured c_latest c_asked c_upper c_lower c_n c_readAt c_readMany c_readFood c_isHead c_backMany c_deedMany c_whole c_wellSum c_strongSum c_hash c_now c_more) (some (.int res)) (wd_X9_lured c_latest c_asked c_upper c_lower c_n c_readAt c_readMany c_readFood c_isHead c_backMany c_deedMany c_whole c_wellSum c_strongSum c_hash c_now c_more) := by
    intro s0_154 h
    subst hke154
    cases h
    exact gg_iret dX9_lured_154 rfl
  clear hke154
  refine gg_icmp_ne 152 dX9_lured_140 (by decide) (fun hc => ?_) (fun hc => ?_)
  · replace h := gg_el h hc
    refine gg_iload dX9_lured_152 rfl ?_
    refine gg_fg [false, false, false, false, false, false, false, false] [none, none, none, none, none, none, none, none] rfl ?_
    exact hk154 x4_137 h
  · replace h := gg_th h hc
    refine gg_aload_n dX9_lured_143 rfl ?_
    refine gg_get 0 fl_X9_82 dX9_lured_144 rfl rfl ?_
    refine gg_iload_n dX9_lured_147 rfl ?_
    obtain ⟨hb148, h⟩ := gg_ck h
    refine gg_iald 2 dX9_lured_148 rfl hb148 ?_
    refine gg_goto 154 dX9_lured_149 (by decide) ?_
    refine gg_fg [false, false, false, false, false, false, false, false] [none, none, none, none, none, none, none, none] rfl ?_
    exact hk154 (c_more a0.toNatClampNeg) h
def wd_X9_duel (c_latest : Int32) (c_asked : Int32) (c_upper : Int64) (c_lower : Int64) (c_n : Int32) (c_readAt : Int32) (c_readMany : Int32) (c_readFood : Int32) (c_isHead : Int32) (c_backMany : Int32) (c_deedMany : Int32) (c_whole : Int64) (c_wellSum : Int64) (c_strongSum : Int64) (c_hash : Int64) (c_now : Nat → Int32) (c_more : Nat → Int32) (c_ahead : Nat → Int32) : va_W := [(0, .inr (8, [.int c_latest, .ref 1, .int c_asked, .long c_upper, .long c_lower, .ref 2, .ref 3, .ref 4, .ref 5, .ref 6, .int c_n, .ref 7, .ref 8, .ref 9, .ref 10, .int c_readAt, .int c_readMany, .int c_readFood, .int c_isHead, .ref 11, .ref 12, .ref 13, .int c_backMany, .int c_deedMany, .ref 14, .ref 15, .ref 16, .ref 17, .ref 18, .ref 19, .ref 20, .ref 21, .ref 22, .ref 23, .ref 24, .long c_whole, .long c_wellSum, .long c_strongSum, .long c_hash])), (9, .inl (0, 26, .inl c_now)), (23, .inl (0, 64, .inl c_more)), (24, .inl (0, 64, .inl c_ahead))]
def MD_X9_duel : gg_M := (yX9_duel, cX9_duel, 4, some .int, 2, 48)
theorem nV_X9_duel : gg_nV MD_X9_duel 1 := ⟨⟨gg_mem (by decide +kernel) rfl, gg_mem cw_X9_duel rfl, by decide, by decide, by decide +kernel⟩, gg_mem (by decide +kernel) rfl, gg_mem (by decide +kernel) rfl⟩
def lp_X9_duel_28 {β : Type} (c_n : Int32) (k51 : (Nat → Int32) → Option β) : Nat → (Int32) → (Nat → Int32) → Option β
  | 0, _, _ => none
  | n + 1, x2_28, c_more_28 => (if ((1 : Int32) <<< (c_n &&& 31)) ≤ x2_28 then (k51 c_more_28) else gg_chk (gg_in x2_28 64) ((lp_X9_duel_28 c_n k51 n (x2_28 + (1 : Int32)) (upd c_more_28 x2_28.toNatClampNeg (0 : Int32)))))
def lp_X9_duel_61 {β : Type} (y2 : Int32) (c_n : Int32) (c_now : Nat → Int32) (c_more : Nat → Int32) (k99 : (Nat → Int32) → Option β) : Nat → (Int32) → (Nat → Int32) → Option β
  | 0, _, _ => none
  | n + 1, x3_61, c_ahead_61 => (if ((1 : Int32) <<< (c_n &&& 31)) ≤ x3_61 then (k99 c_ahead_61) else gg_lt (fun (s4_89 : Int32) => (f_X9_lured x3_61 s4_89 c_n c_now c_more).bind (fun v3 => gg_chk (gg_in x3_61 64) ((lp_X9_duel_61 y2 c_n c_now c_more k99 n (x3_61 + (1 : Int32)) (upd c_ahead_61 x3_61.toNatClampNeg v3))))) (fun k89 => (if (y2 - y2 / (2 : Int32) * (2 : Int32)) = (0 : Int32) then (k89 (1 : Int32)) else (k89 (0 : Int32)))))
def lp_X9_duel_101 {β : Type} (c_n : Int32) (c_ahead : Nat → Int32) (k129 : (Nat → Int32) → Option β) : Nat → (Int32) → (Nat → Int32) → Option β
  | 0, _, _ => none
  | n + 1, x3_101, c_more_101 => (if ((1 : Int32) <<< (c_n &&& 31)) ≤ x3_101 then (k129 c_more_101) else gg_chk (gg_in x3_101 64) (gg_chk (gg_in x3_101 64) ((lp_X9_duel_101 c_n c_ahead k129 n (x3_101 + (1 : Int32)) (upd c_more_101 x3_101.toNatClampNeg (c_ahead x3_101.toNatClampNeg))))))
def lp_X9_duel_55 {β : Type} (c_n : Int32) (c_now : Nat → Int32) (k135 : (Nat → Int32) → (Nat → Int32) → Option β) : Nat → (Int32) → (Nat → Int32) → (Nat → Int32) → Option β
  | 0, _, _, _ => none
  | n + 1, x2_55, c_more_55, c_ahead_55 => (if x2_55 < (0 : Int32) then (k135 c_more_55 c_ahead_55) else (lp_X9_duel_61 x2_55 c_n c_now c_more_55 (fun (c_ahead_99 : Nat → Int32) => (lp_X9_duel_101 c_n c_ahead_99 (fun (c_more_129 : Nat → Int32) => (lp_X9_duel_55 c_n c_now k135 n (x2_55 + (-1 : Int32)) c_more_129 c_ahead_99)) gg_fuel (0 : Int32) c_more_55)) gg_fuel (0 : Int32) c_ahead_55))
def f_X9_duel (a0 : Int32) (c_n : Int32) (c_now : Nat → Int32) (c_more : Nat → Int32) (c_ahead : Nat → Int32) : Option (Int32 × (Nat → Int32) × (Nat → Int32)) := (f_X9_in a0 (0 : Int32) (6 : Int32)).bind (fun v1 => (if v1 = (0 : Int32) then (some ((-1 : Int32), c_more, c_ahead)) else (f_X9_there_a26 c_n c_now).bind (fun v2 => (if v2 = (0 : Int32) then (some ((-4 : Int32), c_more, c_ahead)) else (lp_X9_duel_28 c_n (fun (c_more_51 : Nat → Int32) => (lp_X9_duel_55 c_n c_now (fun (c_more_135 : Nat → Int32) (c_ahead_135 : Nat → Int32) => (f_X9_there_a26 c_n c_now).bind (fun v4 => gg_chk (gg_in v4 64) ((some (((c_more_135 v4.toNatClampNeg) + (100 : Int32)), c_more_135, c_ahead_135))))) gg_fuel (a0 - (1 : Int32)) c_more_51 c_ahead)) gg_fuel (0 : Int32) c_more)))))
set_option maxRecDepth 20000 in
set_option maxHeartbeats 4000000 in
theorem lq_X9_duel_28 {β : Type} {res : β} {rr : Option Value} {ww : va_W} (y1 : Int32) (c_latest : Int32) (c_asked : Int32) (c_upper : Int64) (c_lower : Int64) (c_n : Int32) (c_readAt : Int32) (c_readMany : Int32) (c_readFood : Int32) (c_isHead : Int32) (c_backMany : Int32) (c_deedMany : Int32) (c_whole : Int64) (c_wellSum : Int64) (c_strongSum : Int64) (c_hash : Int64) (c_now : Nat → Int32) (c_ahead : Nat → Int32) (k51 : (Nat → Int32) → Option β) (hk51 : ∀ (c_more_51 : Nat → Int32), k51 c_more_51 = some res → gg_G MD_X9_duel 51 [some (.ref 0), some (.int y1), none, none] [] (wd_X9_duel c_latest c_asked c_upper c_lower c_n c_readAt c_readMany c_readFood c_isHead c_backMany c_deedMany c_whole c_wellSum c_strongSum c_hash c_now c_more_51 c_ahead) rr ww) : ∀ (n : Nat) (x2_28 : Int32) (c_more_28 : Nat → Int32), lp_X9_duel_28 c_n k51 n x2_28 c_more_28 = some res → gg_G MD_X9_duel 28 [some (.ref 0), some (.int y1), some (.int x2_28), none] [] (wd_X9_duel c_latest c_asked c_upper c_lower c_n c_readAt c_readMany c_readFood c_isHead c_backMany c_deedMany c_whole c_wellSum c_strongSum c_hash c_now c_more_28 c_ahead) rr ww := by
  intro n
  induction n with
  | zero =>
    intro x2_28 c_more_28 h
    exact nomatch (show (none : Option β) = some res from h)
  | succ n ih =>
    intro x2_28 c_more_28 h
    rw [lp_X9_duel_28] at h
    refine gg_iload_n dX9_duel_28 rfl ?_
    refine gg_iconst (1 : Int32) dX9_duel_29 (by decide) ?_
    refine gg_aload_n dX9_duel_30 rfl ?_
    refine gg_get 0 fl_X9_154 dX9_duel_31 rfl rfl ?_
    refine gg_ishl dX9_duel_34 ?_
    refine gg_icmp_ge 51 dX9_duel_35 (by decide) (fun hc => ?_) (fun hc => ?_)
    · replace h := gg_th h hc
      refine gg_fg [true, true, false, false] [some (.ref 0), some (.int y1), none, none] rfl ?_
      exact hk51 c_more_28 h
    · replace h := gg_el h hc
      refine gg_aload_n dX9_duel_38 rfl ?_
      refine gg_get 0 fl_X9_82 dX9_duel_39 rfl rfl ?_
      refine gg_iload_n dX9_duel_42 rfl ?_
      refine gg_iconst (0 : Int32) dX9_duel_43 (by decide) ?_
      obtain ⟨hb44, h⟩ := gg_ck h
      refine gg_iast 2 (wd_X9_duel c_latest c_asked c_upper c_lower c_n c_readAt c_readMany c_readFood c_isHead c_backMany c_deedMany c_whole c_wellSum c_strongSum c_hash c_now (upd c_more_28 x2_28.toNatClampNeg (0 : Int32)) c_ahead) dX9_duel_44 rfl hb44 rfl ?_
      refine gg_iinc (x2_28 + (1 : Int32)) [some (.ref 0), some (.int y1), some (.int (x2_28 + (1 : Int32))), none] dX9_duel_45 rfl rfl rfl (Nat.le_of_ble_eq_true rfl) rfl ?_
      refine gg_goto 28 dX9_duel_48 (by decide) ?_
      exact ih (x2_28 + (1 : Int32)) (upd c_more_28 x2_28.toNatClampNeg (0 : Int32)) h
set_option maxRecDepth 20000 in
set_option maxHeartbeats 4000000 in
theorem lq_X9_duel_61 {β : Type} {res : β} {rr : Option Value} {ww : va_W} (y2 : Int32) (c_latest : Int32) (c_asked : Int32) (c_upper : Int64) (c_lower : Int64) (c_n : Int32) (c_readAt : Int32) (c_readMany : Int32) (c_readFood : Int32) (c_isHead : Int32) (c_backMany : Int32) (c_deedMany : Int32) (c_whole : Int64) (c_wellSum : Int64) (c_strongSum : Int64) (c_hash : Int64) (c_now : Nat → Int32) (c_more : Nat → Int32) (k99 : (Nat → Int32) → Option β) (hk99 : ∀ (c_ahead_99 : Nat → Int32), k99 c_ahead_99 = some res → gg_G MD_X9_duel 99 [some (.ref 0), none, some (.int y2), none] [] (wd_X9_duel c_latest c_asked c_upper c_lower c_n c_readAt c_readMany c_readFood c_isHead c_backMany c_deedMany c_whole c_wellSum c_strongSum c_hash c_now c_more c_ahead_99) rr ww) : ∀ (n : Nat) (x3_61 : Int32) (c_ahead_61 : Nat → Int32), lp_X9_duel_61 y2 c_n c_now c_more k99 n x3_61 c_ahead_61 = some res → gg_G MD_X9_duel 61 [some (.ref 0), none, some (.int y2), some (.int x3_61)] [] (wd_X9_duel c_latest c_asked c_upper c_lower c_n c_readAt c_readMany c_readFood c_isHead c_backMany c_deedMany c_whole c_wellSum c_strongSum c_hash c_now c_more c_ahead_61) rr ww := by
  intro n
  induction n with
  | zero =>
    intro x3_61 c_ahead_61 h
    exact nomatch (show (none : Option β) = some res from h)
  | succ n ih =>
    intro x3_61 c_ahead_61 h
    rw [lp_X9_duel_61] at h
    refine gg_iload_n dX9_duel_61 rfl ?_
    refine gg_iconst (1 : Int32) dX9_duel_62 (by decide) ?_
    refine gg_aload_n dX9_duel_63 rfl ?_
    refine gg_get 0 fl_X9_154 dX9_duel_64 rfl rfl ?_
    refine gg_ishl dX9_duel_67 ?_
    refine gg_icmp_ge 99 dX9_duel_68 (by decide) (fun hc => ?_) (fun hc => ?_)
    · replace h := gg_th h hc
      refine gg_fg [true, false, true, false] [some (.ref 0), none, some (.int y2), none] rfl ?_
      exact hk99 c_ahead_61 h
    · replace h := gg_el h hc
      refine gg_aload_n dX9_duel_71 rfl ?_
      refine gg_get 0 fl_X9_85 dX9_duel_72 rfl rfl ?_
      refine gg_iload_n dX9_duel_75 rfl ?_
      refine gg_aload_n dX9_duel_76 rfl ?_
      refine gg_iload_n dX9_duel_77 rfl ?_
      refine gg_iload_n dX9_duel_78 rfl ?_
      refine gg_iconst (2 : Int32) dX9_duel_79 (by decide) ?_
      refine gg_irem dX9_duel_80 (by decide) ?_
      obtain ⟨k89, hke89, h⟩ := gg_lte h
      have hk89 : ∀ (s4_89 : Int32), k89 s4_89 = some res → gg_G MD_X9_duel 89 [some (.ref 0), none, some (.int y2), some (.int x3_61)] [.int s4_89, .int x3_61, .ref 0, .int x3_61, .ref 24] (wd_X9_duel c_latest c_asked c_upper c_lower c_n c_readAt c_readMany c_readFood c_isHead c_backMany c_deedMany c_whole c_wellSum c_strongSum c_hash c_now c_more c_ahead_61) rr ww := by
        intro s4_89 h
        subst hke89
        obtain ⟨v3, hv3, h⟩ := gg_bd h
        refine gg_callV (gg_sg [0]) [0, 1, 2] (wd_X9_duel c_latest c_asked c_upper c_lower c_n c_readAt c_readMany c_readFood c_isHead c_backMany c_deedMany c_whole c_wellSum c_strongSum c_hash c_now c_more c_ahead_61) 0 (C_X9_lured x3_61 s4_89 c_latest c_asked c_upper c_lower c_n c_readAt c_readMany c_readFood c_isHead c_backMany c_deedMany c_whole c_wellSum c_strongSum c_hash c_now c_more hv3) nV_X9_lured ml_X9_261 rfl rfl rfl rfl rfl rfl rfl rfl rfl rfl [3] 4 rfl rfl rfl rfl rfl ⟨Nat.le_of_ble_eq_true rfl, Nat.le_of_ble_eq_true rfl⟩ (Nat.le_of_ble_eq_true rfl) dX9_duel_89 [.int v3, .int x3_61, .ref 24] rfl ?_
        obtain ⟨hb92, h⟩ := gg_ck h
        refine gg_iast 3 (wd_X9_duel c_latest c_asked c_upper c_lower c_n c_readAt c_readMany c_readFood c_isHead c_backMany c_deedMany c_whole c_wellSum c_strongSum c_hash c_now c_more (upd c_ahead_61 x3_61.toNatClampNeg v3)) dX9_duel_92 rfl hb92 rfl ?_
        refine gg_iinc (x3_61 + (1 : Int32)) [some (.ref 0), none, some (.int y2), some (.int (x3_61 + (1 : Int32)))] dX9_duel_93 rfl rfl rfl (Nat.le_of_ble_eq_true rfl) rfl ?_
        refine gg_goto 61 dX9_duel_96 (by decide) ?_
        exact ih (x3_61 + (1 : Int32)) (upd c_ahead_61 x3_61.toNatClampNeg v3) h
      clear hke89
      refine gg_if_ne 88 dX9_duel_81 (by decide) (fun hc => ?_) (fun hc => ?_)
      · replace h := gg_el h hc
        refine gg_iconst (0 : Int32) dX9_duel_88 (by decide) ?_
        exact hk89 (0 : Int32) h
      · replace h := gg_th h hc
        refine gg_iconst (1 : Int32) dX9_duel_84 (by decide) ?_
        refine gg_goto 89 dX9_duel_85 (by decide) ?_
        exact hk89 (1 : Int32) h
set_option maxRecDepth 20000 in
set_option maxHeartbeats 4000000 in
theorem lq_X9_duel_101 {β : Type} {res : β} {rr : Option Value} {ww : va_W} (y2 : Int32) (c_latest : Int32) (c_asked : Int32) (c_upper : Int64) (c_lower : Int64) (c_n : Int32) (c_readAt : Int32) (c_readMany : Int32) (c_readFood : Int32) (c_isHead : Int32) (c_backMany : Int32) (c_deedMany : Int32) (c_whole : Int64) (c_wellSum : Int64) (c_strongSum : Int64) (c_hash : Int64) (c_now : Nat → Int32) (c_ahead : Nat → Int32) (k129 : (Nat → Int32) → Option β) (hk129 : ∀ (c_more_129 : Nat → Int32), k129 c_more_129 = some res → gg_G MD_X9_duel 129 [some (.ref 0), none, some (.int y2), none] [] (wd_X9_duel c_latest c_asked c_upper c_lower c_n c_readAt c_readMany c_readFood c_isHead c_backMany c_deedMany c_whole c_wellSum c_strongSum c_hash c_now c_more_129 c_ahead) rr ww) : ∀ (n : Nat) (x3_101 : Int32) (c_more_101 : Nat → Int32), lp_X9_duel_101 c_n c_ahead k129 n x3_101 c_more_101 = some res → gg_G MD_X9_duel 101 [some (.ref 0), none, some (.int y2), some (.int x3_101)] [] (wd_X9_duel c_latest c_asked c_upper c_lower c_n c_readAt c_readMany c_readFood c_isHead c_backMany c_deedMany c_whole c_wellSum c_strongSum c_hash c_now c_more_101 c_ahead) rr ww := by
  intro n
  induction n with
  | zero =>
    intro x3_101 c_more_101 h
    exact nomatch (show (none : Option β) = some res from h)
  | succ n ih =>
    intro x3_101 c_more_101 h
    rw [lp_X9_duel_101] at h
    refine gg_iload_n dX9_duel_101 rfl ?_
    refine gg_iconst (1 : Int32) dX9_duel_102 (by decide) ?_
    refine gg_aload_n dX9_duel_103 rfl ?_
    refine gg_get 0 fl_X9_154 dX9_duel_104 rfl rfl ?_
    refine gg_ishl dX9_duel_107 ?_
    refine gg_icmp_ge 129 dX9_duel_108 (by decide) (fun hc => ?_) (fun hc => ?_)
    · replace h := gg_th h hc
      refine gg_fg [true, false, true, false] [some (.ref 0), none, some (.int y2), none] rfl ?_
      exact hk129 c_more_101 h
    · replace h := gg_el h hc
      refine gg_aload_n dX9_duel_111 rfl ?_
      refine gg_get 0 fl_X9_82 dX9_duel_112 rfl rfl ?_
      refine gg_iload_n dX9_duel_115 rfl ?_
      refine gg_aload_n dX9_duel_116 rfl ?_
      refine gg_get 0 fl_X9_85 dX9_duel_117 rfl rfl ?_
      refine gg_iload_n dX9_duel_120 rfl ?_
      obtain ⟨hb121, h⟩ := gg_ck h
      refine gg_iald 3 dX9_duel_121 rfl hb121 ?_
      obtain ⟨hb122, h⟩ := gg_ck h
      refine gg_iast 2 (wd_X9_duel c_latest c_asked c_upper c_lower c_n c_readAt c_readMany c_readFood c_isHead c_backMany c_deedMany c_whole c_wellSum c_strongSum c_hash c_now (upd c_more_101 x3_101.toNatClampNeg (c_ahead x3_101.toNatClampNeg)) c_ahead) dX9_duel_122 rfl hb122 rfl ?_
      refine gg_iinc (x3_101 + (1 : Int32)) [some (.ref 0), none, some (.int y2), some (.int (x3_101 + (1 : Int32)))] dX9_duel_123 rfl rfl rfl (Nat.le_of_ble_eq_true rfl) rfl ?_
      refine gg_goto 101 dX9_duel_126 (by decide) ?_
      exact ih (x3_101 + (1 : Int32)) (upd c_more_101 x3_101.toNatClampNeg (c_ahead x3_101.toNatClampNeg)) h
set_option maxRecDepth 20000 in
set_option maxHeartbeats 4000000 in
theorem lq_X9_duel_55 {β : Type} {res : β} {rr : Option Value} {ww : va_W} (c_latest : Int32) (c_asked : Int32) (c_upper : Int64) (c_lower : Int64) (c_n : Int32) (c_readAt : Int32) (c_readMany : Int32) (c_readFood : Int32) (c_isHead : Int32) (c_backMany : Int32) (c_deedMany : Int32) (c_whole : Int64) (c_wellSum : Int64) (c_strongSum : Int64) (c_hash : Int64) (c_now : Nat → Int32) (k135 : (Nat → Int32) → (Nat → Int32) → Option β) (hk135 : ∀ (c_more_135 : Nat → Int32) (c_ahead_135 : Nat → Int32), k135 c_more_135 c_ahead_135 = some res → gg_G MD_X9_duel 135 [some (.ref 0), none, none, none] [] (wd_X9_duel c_latest c_asked c_upper c_lower c_n c_readAt c_readMany c_readFood c_isHead c_backMany c_deedMany c_whole c_wellSum c_strongSum c_hash c_now c_more_135 c_ahead_135) rr ww) : ∀ (n : Nat) (x2_55 : Int32) (c_more_55 : Nat → Int32) (c_ahead_55 : Nat → Int32), lp_X9_duel_55 c_n c_now k135 n x2_55 c_more_55 c_ahead_55 = some res → gg_G MD_X9_duel 55 [some (.ref 0), none, some (.int x2_55), none] [] (wd_X9_duel c_latest c_asked c_upper c_lower c_n c_readAt c_readMany c_readFood c_isHead c_backMany c_deedMany c_whole c_wellSum c_strongSum c_hash c_now c_more_55 c_ahead_55) rr ww := by
  intro n
  induction n with
  | zero =>
    intro x2_55 c_more_55 c_ahead_55 h
    exact nomatch (show (none : Option β) = some res from h)
  | succ n ih =>
    intro x2_55 c_more_55 c_ahead_55 h
    rw [lp_X9_duel_55] at h
    refine gg_iload_n dX9_duel_55 rfl ?_
    refine gg_if_lt 135 dX9_duel_56 (by decide) (fun hc => ?_) (fun hc => ?_)
    · replace h := gg_th h hc
      refine gg_fg [true, false, false, false] [some (.ref 0), none, none, none] rfl ?_
      exact hk135 c_more_55 c_ahead_55 h
    · replace h := gg_el h hc
      refine gg_iconst (0 : Int32) dX9_duel_59 (by decide) ?_
      refine gg_istore_n [some (.ref 0), none, some (.int x2_55), some (.int (0 : Int32))] dX9_duel_60 rfl (Nat.le_of_ble_eq_true rfl) rfl ?_
      refine lq_X9_duel_61 x2_55 c_latest c_asked c_upper c_lower c_n c_readAt c_readMany c_readFood c_isHead c_backMany c_deedMany c_whole c_wellSum c_strongSum c_hash c_now c_more_55 _ ?_ gg_fuel (0 : Int32) c_ahead_55 h
      intro c_ahead_99 h
      refine gg_iconst (0 : Int32) dX9_duel_99 (by decide) ?_
      refine gg_istore_n [some (.ref 0), none, some (.int x2_55), some (.int (0 : Int32))] dX9_duel_100 rfl (Nat.le_of_ble_eq_true rfl) rfl ?_
      refine lq_X9_duel_101 x2_55 c_latest c_asked c_upper c_lower c_n c_readAt c_readMany c_readFood c_isHead c_backMany c_deedMany c_whole c_wellSum c_strongSum c_hash c_now c_ahead_99 _ ?_ gg_fuel (0 : Int32) c_more_55 h
      intro c_more_129 h
      refine gg_iinc (x2_55 + (-1 : Int32)) [some (.ref 0), none, some (.int (x2_55 + (-1 : Int32))), none] dX9_duel_129 rfl rfl rfl (Nat.le_of_ble_eq_true rfl) rfl ?_
      refine gg_goto 55 dX9_duel_132 (by decide) ?_
      exact ih (x2_55 + (-1 : Int32)) c_more_129 c_ahead_99 h
set_option maxRecDepth 20000 in
set_option maxHeartbeats 8000000 in
theorem C_X9_duel (a0 : Int32) (c_latest : Int32) (c_asked : Int32) (c_upper : Int64) (c_lower : Int64) (c_n : Int32) (c_readAt : Int32) (c_readMany : Int32) (c_readFood : Int32) (c_isHead : Int32) (c_backMany : Int32) (c_deedMany : Int32) (c_whole : Int64) (c_wellSum : Int64) (c_strongSum : Int64) (c_hash : Int64) (c_now : Nat → Int32) (c_more : Nat → Int32) (c_ahead : Nat → Int32) {r0 : Int32} {r1 : (Nat → Int32)} {r2 : (Nat → Int32)} (h : f_X9_duel a0 c_n c_now c_more c_ahead = some (r0, r1, r2)) : gg_C MD_X9_duel [.ref 0, .int a0] (wd_X9_duel c_latest c_asked c_upper c_lower c_n c_readAt c_readMany c_readFood c_isHead c_backMany c_deedMany c_whole c_wellSum c_strongSum c_hash c_now c_more c_ahead) (some (.int r0)) (wd_X9_duel c_latest c_asked c_upper c_lower c_n c_readAt c_readMany c_readFood c_isHead c_backMany c_deedMany c_whole c_wellSum c_strongSum c_hash c_now r1 r2) := by
  refine gg_ofG [some (.ref 0), some (.int a0), none, none] (plainFor_of_name (by decide)) (Nat.le_of_ble_eq_true rfl) rfl ?_
  unfold f_X9_duel at h
  refine gg_iload_n dX9_duel_0 rfl ?_
  refine gg_iconst (0 : Int32) dX9_duel_1 (by decide) ?_
  refine gg_bipush (6 : Int32) dX9_duel_2 (by decide) ?_
  obtain ⟨v1, hv1, h⟩ := gg_bd h
  refine gg_callS (gg_sg []) [] (wd_X9_duel c_latest c_asked c_upper c_lower c_n c_readAt c_readMany c_readFood c_isHead c_backMany c_deedMany c_whole c_wellSum c_strongSum c_hash c_now c_more c_ahead) (C_X9_in a0 (0 : Int32) (6 : Int32) hv1) nS_X9_in ml_X9_92 rfl rfl rfl rfl rfl rfl rfl [0, 1, 2, 3] 4 rfl rfl rfl rfl rfl ⟨Nat.le_of_ble_eq_true rfl, Nat.le_of_ble_eq_true rfl⟩ (Nat.le_of_ble_eq_true rfl) dX9_duel_4 [.int v1] rfl ?_
  refine gg_if_ne 12 dX9_duel_7 (by decide) (fun hc => ?_) (fun hc => ?_)
  · replace h := gg_el h hc
    refine gg_aload_n dX9_duel_12 rfl ?_
    refine gg_aload_n dX9_duel_13 rfl ?_
    refine gg_get 0 fl_X9_39 dX9_duel_14 rfl rfl ?_
    obtain ⟨v2, hv2, h⟩ := gg_bd h
    refine gg_callV (gg_sg [0, 9]) [0, 1] (wd_X9_duel c_latest c_asked c_upper c_lower c_n c_readAt c_readMany c_readFood c_isHead c_backMany c_deedMany c_whole c_wellSum c_strongSum c_hash c_now c_more c_ahead) 0 (C_X9_there_a26 c_latest c_asked c_upper c_lower c_n c_readAt c_readMany c_readFood c_isHead c_backMany c_deedMany c_whole c_wellSum c_strongSum c_hash c_now hv2) nV_X9_there_a26 ml_X9_217 rfl rfl rfl rfl rfl rfl rfl rfl rfl rfl [2, 3] 4 rfl rfl rfl rfl rfl ⟨Nat.le_of_ble_eq_true rfl, Nat.le_of_ble_eq_true rfl⟩ (Nat.le_of_ble_eq_true rfl) dX9_duel_17 [.int v2] rfl ?_
    refine gg_if_ne 26 dX9_duel_20 (by decide) (fun hc => ?_) (fun hc => ?_)
    · replace h := gg_el h hc
      refine gg_iconst (0 : Int32) dX9_duel_26 (by decide) ?_
      refine gg_istore_n [some (.ref 0), some (.int a0), some (.int (0 : Int32)), none] dX9_duel_27 rfl (Nat.le_of_ble_eq_true rfl) rfl ?_
      refine lq_X9_duel_28 a0 c_latest c_asked c_upper c_lower c_n c_readAt c_readMany c_readFood c_isHead c_backMany c_deedMany c_whole c_wellSum c_strongSum c_hash c_now c_ahead _ ?_ gg_fuel (0 : Int32) c_more h
      intro c_more_51 h
      refine gg_iload_n dX9_duel_51 rfl ?_
      refine gg_iconst (1 : Int32) dX9_duel_52 (by decide) ?_
      refine gg_isub dX9_duel_53 ?_
      refine gg_istore_n [some (.ref 0), some (.int a0), some (.int (a0 - (1 : Int32))), none] dX9_duel_54 rfl (Nat.le_of_ble_eq_true rfl) rfl ?_
      refine gg_fg [true, false, true, false] [some (.ref 0), none, some (.int (a0 - (1 : Int32))), none] rfl ?_
      refine lq_X9_duel_55 c_latest c_asked c_upper c_lower c_n c_readAt c_readMany c_readFood c_isHead c_backMany c_deedMany c_whole c_wellSum c_strongSum c_hash c_now _ ?_ gg_fuel (a0 - (1 : Int32)) c_more_51 c_ahead h
      intro c_more_135 c_ahead_135 h
      refine gg_aload_n dX9_duel_135 rfl ?_
      refine gg_get 0 fl_X9_82 dX9_duel_136 rfl rfl ?_
      refine gg_aload_n dX9_duel_139 rfl ?_
      refine gg_aload_n dX9_duel_140 rfl ?_
      refine gg_get 0 fl_X9_39 dX9_duel_141 rfl rfl ?_
      obtain ⟨v4, hv4, h⟩ := gg_bd h
      refine gg_callV (gg_sg [0, 9]) [0, 1] (wd_X9_duel c_latest c_asked c_upper c_lower c_n c_readAt c_readMany c_readFood c_isHead c_backMany c_deedMany c_whole c_wellSum c_strongSum c_hash c_now c_more_135 c_ahead_135) 0 (C_X9_there_a26 c_latest c_asked c_upper c_lower c_n c_readAt c_readMany c_readFood c_isHead c_backMany c_deedMany c_whole c_wellSum c_strongSum c_hash c_now hv4) nV_X9_there_a26 ml_X9_217 rfl rfl rfl rfl rfl rfl rfl rfl rfl rfl [2, 3] 4 rfl rfl rfl rfl rfl ⟨Nat.le_of_ble_eq_true rfl, Nat.le_of_ble_eq_true rfl⟩ (Nat.le_of_ble_eq_true rfl) dX9_duel_144 [.int v4, .ref 23] rfl ?_
      obtain ⟨hb147, h⟩ := gg_ck h
      refine gg_iald 2 dX9_duel_147 rfl hb147 ?_
      refine gg_bipush (100 : Int32) dX9_duel_148 (by decide) ?_
      refine gg_iadd dX9_duel_150 ?_
      cases h
      exact gg_iret dX9_duel_151 rfl
    · replace h := gg_th h hc
      refine gg_bipush (-4 : Int32) dX9_duel_23 (by decide) ?_
      cases h
      exact gg_iret dX9_duel_25 rfl
  · replace h := gg_th h hc
    refine gg_iconst (-1 : Int32) dX9_duel_10 (by decide) ?_
    cases h
    exact gg_iret dX9_duel_11 rfl
