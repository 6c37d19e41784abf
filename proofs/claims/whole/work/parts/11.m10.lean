def wd_X9_put (c_latest : Int32) (c_asked : Int32) (c_upper : Int64) (c_lower : Int64) (c_n : Int32) (c_readAt : Int32) (c_readMany : Int32) (c_readFood : Int32) (c_isHead : Int32) (c_backMany : Int32) (c_deedMany : Int32) (c_whole : Int64) (c_wellSum : Int64) (c_strongSum : Int64) (c_hash : Int64) (c_came : Nat → Int32) (c_textSizes : Nat → Int32) (c_bytes : Nat → Int32) : va_W := [(0, .inr (8, [.int c_latest, .ref 1, .int c_asked, .long c_upper, .long c_lower, .ref 2, .ref 3, .ref 4, .ref 5, .ref 6, .int c_n, .ref 7, .ref 8, .ref 9, .ref 10, .int c_readAt, .int c_readMany, .int c_readFood, .int c_isHead, .ref 11, .ref 12, .ref 13, .int c_backMany, .int c_deedMany, .ref 14, .ref 15, .ref 16, .ref 17, .ref 18, .ref 19, .ref 20, .ref 21, .ref 22, .ref 23, .ref 24, .long c_whole, .long c_wellSum, .long c_strongSum, .long c_hash])), (1, .inl (0, 6, .inl c_came)), (5, .inl (0, 4, .inl c_textSizes)), (6, .inl (1, 240, .inl c_bytes))]
def MD_X9_put : gg_M := (yX9_put, cX9_put, 5, some .int, 2, 42)
theorem nV_X9_put : gg_nV MD_X9_put 3 := ⟨⟨gg_mem (by decide +kernel) rfl, gg_mem cw_X9_put rfl, by decide, by decide, by decide +kernel⟩, gg_mem (by decide +kernel) rfl, gg_mem (by decide +kernel) rfl⟩
def f_X9_put (a0 : Int32) (a1 : Int32) (a2 : Int32) (c_latest : Int32) (c_came : Nat → Int32) (c_textSizes : Nat → Int32) (c_bytes : Nat → Int32) : Option (Int32 × (Int32) × (Nat → Int32) × (Nat → Int32)) := (f_X9_isText a0).bind (fun v1 => (if v1 = (0 : Int32) then (some ((-1 : Int32), c_latest, c_came, c_bytes)) else gg_chk (gg_in a0 4) ((if (0 : Int32) ≤ (c_textSizes a0.toNatClampNeg) then gg_chk (gg_in a0 4) ((f_X9_in a1 (0 : Int32) ((c_textSizes a0.toNatClampNeg) - (1 : Int32))).bind (fun v2 => (if v2 = (0 : Int32) then gg_b3 (f_X9_meets (2 : Int32) c_latest c_came) (fun v3_0 v3_1 v3_2 => (some (v3_0, v3_1, v3_2, c_bytes))) else gg_chk (gg_in (((60 : Int32) * a0) + a1) 240) (gg_chk (gg_in (((60 : Int32) * a0) + a1) 240) ((some (((1000 : Int32) + (c_bytes (((60 : Int32) * a0) + a1).toNatClampNeg)), c_latest, c_came, (upd c_bytes (((60 : Int32) * a0) + a1).toNatClampNeg (vp_nar .byte (a2.toInt8.toInt32)))))))))) else gg_b3 (f_X9_meets (1 : Int32) c_latest c_came) (fun v4_0 v4_1 v4_2 => (some (v4_0, v4_1, v4_2, c_bytes)))))))
set_option maxRecDepth 20000 in
set_option maxHeartbeats 8000000 in
theorem C_X9_put (a0 : Int32) (a1 : Int32) (a2 : Int32) (c_latest : Int32) (c_asked : Int32) (c_upper : Int64) (c_lower : Int64) (c_n : Int32) (c_readAt : Int32) (c_readMany : Int32) (c_readFood : Int32) (c_isHead : Int32) (c_backMany : Int32) (c_deedMany : Int32) (c_whole : Int64) (c_wellSum : Int64) (c_strongSum : Int64) (c_hash : Int64) (c_came : Nat → Int32) (c_textSizes : Nat → Int32) (c_bytes : Nat → Int32) {r0 : Int32} {r1 : (Int32)} {r2 : (Nat → Int32)} {r3 : (Nat → Int32)} (h : f_X9_put a0 a1 a2 c_latest c_came c_textSizes c_bytes = some (r0, r1, r2, r3)) : gg_C MD_X9_put [.ref 0, .int a0, .int a1, .int a2] (wd_X9_put c_latest c_asked c_upper c_lower c_n c_readAt c_readMany c_readFood c_isHead c_backMany c_deedMany c_whole c_wellSum c_strongSum c_hash c_came c_textSizes c_bytes) (some (.int r0)) (wd_X9_put r1 c_asked c_upper c_lower c_n c_readAt c_readMany c_readFood c_isHead c_backMany c_deedMany c_whole c_wellSum c_strongSum c_hash r2 c_textSizes r3) := by
  refine gg_ofG [some (.ref 0), some (.int a0), some (.int a1), some (.int a2), none] (plainFor_of_name (by decide)) (Nat.le_of_ble_eq_true rfl) rfl ?_
  unfold f_X9_put at h
  refine gg_iload_n dX9_put_0 rfl ?_
  obtain ⟨v1, hv1, h⟩ := gg_bd h
  refine gg_callS (gg_sg []) [] (wd_X9_put c_latest c_asked c_upper c_lower c_n c_readAt c_readMany c_readFood c_isHead c_backMany c_deedMany c_whole c_wellSum c_strongSum c_hash c_came c_textSizes c_bytes) (C_X9_isText a0 hv1) nS_X9_isText ml_X9_117 rfl rfl rfl rfl rfl rfl rfl [0, 1, 2, 3] 4 rfl rfl rfl rfl rfl ⟨Nat.le_of_ble_eq_true rfl, Nat.le_of_ble_eq_true rfl⟩ (Nat.le_of_ble_eq_true rfl) dX9_put_1 [.int v1] rfl ?_
  refine gg_if_ne 9 dX9_put_4 (by decide) (fun hc => ?_) (fun hc => ?_)
  · replace h := gg_el h hc
    refine gg_aload_n dX9_put_9 rfl ?_
    refine gg_get 0 fl_X9_26 dX9_put_10 rfl rfl ?_
    refine gg_iload_n dX9_put_13 rfl ?_
    obtain ⟨hb14, h⟩ := gg_ck h
    refine gg_iald 2 dX9_put_14 rfl hb14 ?_
    refine gg_if_ge 24 dX9_put_15 (by decide) (fun hc => ?_) (fun hc => ?_)
    · replace h := gg_th h hc
      refine gg_iload_n dX9_put_24 rfl ?_
      refine gg_iconst (0 : Int32) dX9_put_25 (by decide) ?_
      refine gg_aload_n dX9_put_26 rfl ?_
      refine gg_get 0 fl_X9_26 dX9_put_27 rfl rfl ?_
      refine gg_iload_n dX9_put_30 rfl ?_
      obtain ⟨hb31, h⟩ := gg_ck h
      refine gg_iald 2 dX9_put_31 rfl hb31 ?_
      refine gg_iconst (1 : Int32) dX9_put_32 (by decide) ?_
      refine gg_isub dX9_put_33 ?_
      obtain ⟨v2, hv2, h⟩ := gg_bd h
      refine gg_callS (gg_sg []) [] (wd_X9_put c_latest c_asked c_upper c_lower c_n c_readAt c_readMany c_readFood c_isHead c_backMany c_deedMany c_whole c_wellSum c_strongSum c_hash c_came c_textSizes c_bytes) (C_X9_in a1 (0 : Int32) ((c_textSizes a0.toNatClampNeg) - (1 : Int32)) hv2) nS_X9_in ml_X9_92 rfl rfl rfl rfl rfl rfl rfl [0, 1, 2, 3] 4 rfl rfl rfl rfl rfl ⟨Nat.le_of_ble_eq_true rfl, Nat.le_of_ble_eq_true rfl⟩ (Nat.le_of_ble_eq_true rfl) dX9_put_34 [.int v2] rfl ?_
      refine gg_if_ne 46 dX9_put_37 (by decide) (fun hc => ?_) (fun hc => ?_)
      · replace h := gg_el h hc
        refine gg_aload_n dX9_put_46 rfl ?_
        refine gg_get 0 fl_X9_29 dX9_put_47 rfl rfl ?_
        refine gg_bipush (60 : Int32) dX9_put_50 (by decide) ?_
        refine gg_iload_n dX9_put_52 rfl ?_
        refine gg_imul dX9_put_53 ?_
        refine gg_iload_n dX9_put_54 rfl ?_
        refine gg_iadd dX9_put_55 ?_
        obtain ⟨hb56, h⟩ := gg_ck h
        refine gg_bald 3 dX9_put_56 rfl hb56 ?_
        refine gg_istore [some (.ref 0), some (.int a0), some (.int a1), some (.int a2), some (.int (c_bytes (((60 : Int32) * a0) + a1).toNatClampNeg))] dX9_put_57 rfl (Nat.le_of_ble_eq_true rfl) rfl ?_
        refine gg_aload_n dX9_put_59 rfl ?_
        refine gg_get 0 fl_X9_29 dX9_put_60 rfl rfl ?_
        refine gg_bipush (60 : Int32) dX9_put_63 (by decide) ?_
        refine gg_iload_n dX9_put_65 rfl ?_
        refine gg_imul dX9_put_66 ?_
        refine gg_iload_n dX9_put_67 rfl ?_
        refine gg_iadd dX9_put_68 ?_
        refine gg_iload_n dX9_put_69 rfl ?_
        refine gg_i2b dX9_put_70 ?_
        obtain ⟨hb71, h⟩ := gg_ck h
        refine gg_bast 3 (wd_X9_put c_latest c_asked c_upper c_lower c_n c_readAt c_readMany c_readFood c_isHead c_backMany c_deedMany c_whole c_wellSum c_strongSum c_hash c_came c_textSizes (upd c_bytes (((60 : Int32) * a0) + a1).toNatClampNeg (vp_nar .byte (a2.toInt8.toInt32)))) dX9_put_71 rfl hb71 rfl ?_
        refine gg_sipush (1000 : Int32) dX9_put_72 (by decide) ?_
        refine gg_iload dX9_put_75 rfl ?_
        refine gg_iadd dX9_put_77 ?_
        cases h
        exact gg_iret dX9_put_78 rfl
      · replace h := gg_th h hc
        refine gg_aload_n dX9_put_40 rfl ?_
        refine gg_iconst (2 : Int32) dX9_put_41 (by decide) ?_
        obtain ⟨v3_0, v3_1, v3_2, hv3, h⟩ := gg_bd3 h
        refine gg_callV (gg_sg [0]) [0, 1] (wd_X9_put v3_1 c_asked c_upper c_lower c_n c_readAt c_readMany c_readFood c_isHead c_backMany c_deedMany c_whole c_wellSum c_strongSum c_hash v3_2 c_textSizes c_bytes) 0 (C_X9_meets (2 : Int32) c_latest c_asked c_upper c_lower c_n c_readAt c_readMany c_readFood c_isHead c_backMany c_deedMany c_whole c_wellSum c_strongSum c_hash c_came hv3) nV_X9_meets ml_X9_106 rfl rfl rfl rfl rfl rfl rfl rfl rfl rfl [2, 3] 4 rfl rfl rfl rfl rfl ⟨Nat.le_of_ble_eq_true rfl, Nat.le_of_ble_eq_true rfl⟩ (Nat.le_of_ble_eq_true rfl) dX9_put_42 [.int v3_0] rfl ?_
        cases h
        exact gg_iret dX9_put_45 rfl
    · replace h := gg_el h hc
      refine gg_aload_n dX9_put_18 rfl ?_
      refine gg_iconst (1 : Int32) dX9_put_19 (by decide) ?_
      obtain ⟨v4_0, v4_1, v4_2, hv4, h⟩ := gg_bd3 h
      refine gg_callV (gg_sg [0]) [0, 1] (wd_X9_put v4_1 c_asked c_upper c_lower c_n c_readAt c_readMany c_readFood c_isHead c_backMany c_deedMany c_whole c_wellSum c_strongSum c_hash v4_2 c_textSizes c_bytes) 0 (C_X9_meets (1 : Int32) c_latest c_asked c_upper c_lower c_n c_readAt c_readMany c_readFood c_isHead c_backMany c_deedMany c_whole c_wellSum c_strongSum c_hash c_came hv4) nV_X9_meets ml_X9_106 rfl rfl rfl rfl rfl rfl rfl rfl rfl rfl [2, 3] 4 rfl rfl rfl rfl rfl ⟨Nat.le_of_ble_eq_true rfl, Nat.le_of_ble_eq_true rfl⟩ (Nat.le_of_ble_eq_true rfl) dX9_put_20 [.int v4_0] rfl ?_
      cases h
      exact gg_iret dX9_put_23 rfl
  · replace h := gg_th h hc
    refine gg_iconst (-1 : Int32) dX9_put_7 (by decide) ?_
    cases h
    exact gg_iret dX9_put_8 rfl
def wd_X9_byteAt (c_latest : Int32) (c_asked : Int32) (c_upper : Int64) (c_lower : Int64) (c_n : Int32) (c_readAt : Int32) (c_readMany : Int32) (c_readFood : Int32) (c_isHead : Int32) (c_backMany : Int32) (c_deedMany : Int32) (c_whole : Int64) (c_wellSum : Int64) (c_strongSum : Int64) (c_hash : Int64) (c_textSizes : Nat → Int32) (c_bytes : Nat → Int32) : va_W := [(0, .inr (8, [.int c_latest, .ref 1, .int c_asked, .long c_upper, .long c_lower, .ref 2, .ref 3, .ref 4, .ref 5, .ref 6, .int c_n, .ref 7, .ref 8, .ref 9, .ref 10, .int c_readAt, .int c_readMany, .int c_readFood, .int c_isHead, .ref 11, .ref 12, .ref 13, .int c_backMany, .int c_deedMany, .ref 14, .ref 15, .ref 16, .ref 17, .ref 18, .ref 19, .ref 20, .ref 21, .ref 22, .ref 23, .ref 24, .long c_whole, .long c_wellSum, .long c_strongSum, .long c_hash])), (5, .inl (0, 4, .inl c_textSizes)), (6, .inl (1, 240, .inl c_bytes))]
def MD_X9_byteAt : gg_M := (yX9_byteAt, cX9_byteAt, 3, some .int, 0, 0)
theorem nV_X9_byteAt : gg_nV MD_X9_byteAt 2 := ⟨⟨gg_mem (by decide +kernel) rfl, gg_mem cw_X9_byteAt rfl, by decide, by decide, by decide +kernel⟩, gg_mem (by decide +kernel) rfl, gg_mem (by decide +kernel) rfl⟩
def f_X9_byteAt (a0 : Int32) (a1 : Int32) (c_textSizes : Nat → Int32) (c_bytes : Nat → Int32) : Option (Int32) := gg_chk (gg_in a0 4) (gg_lt (fun (s0_25 : Int32) => (some s0_25)) (fun k25 => (if (c_textSizes a0.toNatClampNeg) ≤ a1 then (k25 (0 : Int32)) else gg_chk (gg_in (((60 : Int32) * a0) + a1) 240) ((k25 (c_bytes (((60 : Int32) * a0) + a1).toNatClampNeg))))))
set_option maxRecDepth 20000 in
set_option maxHeartbeats 8000000 in
theorem C_X9_byteAt (a0 : Int32) (a1 : Int32) (c_latest : Int32) (c_asked : Int32) (c_upper : Int64) (c_lower : Int64) (c_n : Int32) (c_readAt : Int32) (c_readMany : Int32) (c_readFood : Int32) (c_isHead : Int32) (c_backMany : Int32) (c_deedMany : Int32) (c_whole : Int64) (c_wellSum : Int64) (c_strongSum : Int64) (c_hash : Int64) (c_textSizes : Nat → Int32) (c_bytes : Nat → Int32) {res : Int32} (h : f_X9_byteAt a0 a1 c_textSizes c_bytes = some res) : gg_C MD_X9_byteAt [.ref 0, .int a0, .int a1] (wd_X9_byteAt c_latest c_asked c_upper c_lower c_n c_readAt c_readMany c_readFood c_isHead c_backMany c_deedMany c_whole c_wellSum c_strongSum c_hash c_textSizes c_bytes) (some (.int res)) (wd_X9_byteAt c_latest c_asked c_upper c_lower c_n c_readAt c_readMany c_readFood c_isHead c_backMany c_deedMany c_whole c_wellSum c_strongSum c_hash c_textSizes c_bytes) := by
  refine gg_ofG [some (.ref 0), some (.int a0), some (.int a1)] (plainFor_of_name (by decide)) (Nat.le_of_ble_eq_true rfl) rfl ?_
  unfold f_X9_byteAt at h
  refine gg_iload_n dX9_byteAt_0 rfl ?_
  refine gg_aload_n dX9_byteAt_1 rfl ?_
  refine gg_get 0 fl_X9_26 dX9_byteAt_2 rfl rfl ?_
  refine gg_iload_n dX9_byteAt_5 rfl ?_
  obtain ⟨hb6, h⟩ := gg_ck h
  refine gg_iald 1 dX9_byteAt_6 rfl hb6 ?_
  obtain ⟨k25, hke25, h⟩ := gg_lte h
  have hk25 : ∀ (s0_25 : Int32), k25 s0_25 = some res → gg_G MD_X9_byteAt 25 [none, none, none] [.int s0_25] (wd_X9_byteAt c_latest c_asked c_upper c_lower c_n c_readAt c_readMany c_readFood c_isHead c_backMany c_deedMany c_whole c_wellSum c_strongSum c_hash c_textSizes c_bytes) (some (.int res)) (wd_X9_byteAt c_latest c_asked c_upper c_lower c_n c_readAt c_readMany c_readFood c_isHead c_backMany c_deedMany c_whole c_wellSum c_strongSum c_hash c_textSizes c_bytes) := by
    intro s0_25 h
    subst hke25
    cases h
    exact gg_iret dX9_byteAt_25 rfl
  clear hke25
  refine gg_icmp_ge 24 dX9_byteAt_7 (by decide) (fun hc => ?_) (fun hc => ?_)
  · replace h := gg_th h hc
    refine gg_iconst (0 : Int32) dX9_byteAt_24 (by decide) ?_
    refine gg_fg [false, false, false] [none, none, none] rfl ?_
    exact hk25 (0 : Int32) h
  · replace h := gg_el h hc
    refine gg_aload_n dX9_byteAt_10 rfl ?_
    refine gg_get 0 fl_X9_29 dX9_byteAt_11 rfl rfl ?_
    refine gg_bipush (60 : Int32) dX9_byteAt_14 (by decide) ?_
    refine gg_iload_n dX9_byteAt_16 rfl ?_
    refine gg_imul dX9_byteAt_17 ?_
    refine gg_iload_n dX9_byteAt_18 rfl ?_
    refine gg_iadd dX9_byteAt_19 ?_
    obtain ⟨hb20, h⟩ := gg_ck h
    refine gg_bald 2 dX9_byteAt_20 rfl hb20 ?_
    refine gg_goto 25 dX9_byteAt_21 (by decide) ?_
    refine gg_fg [false, false, false] [none, none, none] rfl ?_
    exact hk25 (c_bytes (((60 : Int32) * a0) + a1).toNatClampNeg) h
def wd_X9_kindBy  : va_W := []
def MD_X9_kindBy : gg_M := (yX9_kindBy, cX9_kindBy, 1, some .int, 0, 0)
theorem nS_X9_kindBy : gg_nS MD_X9_kindBy 1 := ⟨⟨gg_mem (by decide +kernel) rfl, gg_mem cw_X9_kindBy rfl, by decide, by decide, by decide +kernel⟩, gg_mem (by decide +kernel) rfl⟩
def f_X9_kindBy (a0 : Int32)  : Option (Int32) := gg_lt ((some (-9 : Int32))) (fun k84 => ((if a0 = (99 : Int32) then (some (4 : Int32)) else (if a0 = (100 : Int32) then k84 else (if a0 = (101 : Int32) then k84 else (if a0 = (102 : Int32) then k84 else (if a0 = (103 : Int32) then (some (3 : Int32)) else (if a0 = (104 : Int32) then (some (0 : Int32)) else (if a0 = (105 : Int32) then k84 else (if a0 = (106 : Int32) then k84 else (if a0 = (107 : Int32) then (some (5 : Int32)) else (if a0 = (108 : Int32) then (some (2 : Int32)) else (if a0 = (109 : Int32) then k84 else (if a0 = (110 : Int32) then k84 else (if a0 = (111 : Int32) then k84 else (if a0 = (112 : Int32) then (some (1 : Int32)) else k84))))))))))))))))
set_option maxRecDepth 20000 in
set_option maxHeartbeats 8000000 in
theorem C_X9_kindBy (a0 : Int32)  {res : Int32} (h : f_X9_kindBy a0 = some res) : gg_C MD_X9_kindBy [.int a0] (wd_X9_kindBy) (some (.int res)) (wd_X9_kindBy) := by
  refine gg_ofG [some (.int a0)] (plainFor_of_name (by decide)) (Nat.le_of_ble_eq_true rfl) rfl ?_
  unfold f_X9_kindBy at h
  refine gg_iload_n dX9_kindBy_0 rfl ?_
  obtain ⟨k84, hke84, h⟩ := gg_lte h
  have hk84 : k84 = some res → gg_G MD_X9_kindBy 84 [none] [] (wd_X9_kindBy) (some (.int res)) (wd_X9_kindBy) := by
    intro  h
    subst hke84
    refine gg_bipush (-9 : Int32) dX9_kindBy_84 (by decide) ?_
    cases h
    exact gg_iret dX9_kindBy_86 rfl
  clear hke84
  by_cases hs0 : a0 = (99 : Int32)
  · replace h := gg_th h hs0
    refine gg_swIn 80 dX9_kindBy_1 (by rw [hs0]; decide) (by rw [hs0]; decide) (off := (79)) (by rw [hs0]; decide) (by decide) ?_
    refine gg_iconst (4 : Int32) dX9_kindBy_80 (by decide) ?_
    cases h
    exact gg_iret dX9_kindBy_81 rfl
  replace h := gg_el h hs0
  by_cases hs1 : a0 = (100 : Int32)
  · replace h := gg_th h hs1
    refine gg_swIn 84 dX9_kindBy_1 (by rw [hs1]; decide) (by rw [hs1]; decide) (off := (83)) (by rw [hs1]; decide) (by decide) ?_
    refine gg_fg [false] [none] rfl ?_
    exact hk84 h
  replace h := gg_el h hs1
  by_cases hs2 : a0 = (101 : Int32)
  · replace h := gg_th h hs2
    refine gg_swIn 84 dX9_kindBy_1 (by rw [hs2]; decide) (by rw [hs2]; decide) (off := (83)) (by rw [hs2]; decide) (by decide) ?_
    refine gg_fg [false] [none] rfl ?_
    exact hk84 h
  replace h := gg_el h hs2
  by_cases hs3 : a0 = (102 : Int32)
  · replace h := gg_th h hs3
    refine gg_swIn 84 dX9_kindBy_1 (by rw [hs3]; decide) (by rw [hs3]; decide) (off := (83)) (by rw [hs3]; decide) (by decide) ?_
    refine gg_fg [false] [none] rfl ?_
    exact hk84 h
  replace h := gg_el h hs3
  by_cases hs4 : a0 = (103 : Int32)
  · replace h := gg_th h hs4
    refine gg_swIn 78 dX9_kindBy_1 (by rw [hs4]; decide) (by rw [hs4]; decide) (off := (77)) (by rw [hs4]; decide) (by decide) ?_
    refine gg_iconst (3 : Int32) dX9_kindBy_78 (by decide) ?_
    cases h
    exact gg_iret dX9_kindBy_79 rfl
  replace h := gg_el h hs4
  by_cases hs5 : a0 = (104 : Int32)
  · replace h := gg_th h hs5
    refine gg_swIn 72 dX9_kindBy_1 (by rw [hs5]; decide) (by rw [hs5]; decide) (off := (71)) (by rw [hs5]; decide) (by decide) ?_
    refine gg_iconst (0 : Int32) dX9_kindBy_72 (by decide) ?_
    cases h
    exact gg_iret dX9_kindBy_73 rfl
  replace h := gg_el h hs5
  by_cases hs6 : a0 = (105 : Int32)
  · replace h := gg_th h hs6
    refine gg_swIn 84 dX9_kindBy_1 (by rw [hs6]; decide) (by rw [hs6]; decide) (off := (83)) (by rw [hs6]; decide) (by decide) ?_
    refine gg_fg [false] [none] rfl ?_
    exact hk84 h
  replace h := gg_el h hs6
  by_cases hs7 : a0 = (106 : Int32)
  · replace h := gg_th h hs7
    refine gg_swIn 84 dX9_kindBy_1 (by rw [hs7]; decide) (by rw [hs7]; decide) (off := (83)) (by rw [hs7]; decide) (by decide) ?_
    refine gg_fg [false] [none] rfl ?_
    exact hk84 h
  replace h := gg_el h hs7
  by_cases hs8 : a0 = (107 : Int32)
  · replace h := gg_th h hs8
    refine gg_swIn 82 dX9_kindBy_1 (by rw [hs8]; decide) (by rw [hs8]; decide) (off := (81)) (by rw [hs8]; decide) (by decide) ?_
    refine gg_iconst (5 : Int32) dX9_kindBy_82 (by decide) ?_
    cases h
    exact gg_iret dX9_kindBy_83 rfl
  replace h := gg_el h hs8
  by_cases hs9 : a0 = (108 : Int32)
  · replace h := gg_th h hs9
    refine gg_swIn 76 dX9_kindBy_1 (by rw [hs9]; decide) (by rw [hs9]; decide) (off := (75)) (by rw [hs9]; decide) (by decide) ?_
    refine gg_iconst (2 : Int32) dX9_kindBy_76 (by decide) ?_
    cases h
    exact gg_iret dX9_kindBy_77 rfl
  replace h := gg_el h hs9
  by_cases hs10 : a0 = (109 : Int32)
  · replace h := gg_th h hs10
    refine gg_swIn 84 dX9_kindBy_1 (by rw [hs10]; decide) (by rw [hs10]; decide) (off := (83)) (by rw [hs10]; decide) (by decide) ?_
    refine gg_fg [false] [none] rfl ?_
    exact hk84 h
  replace h := gg_el h hs10
  by_cases hs11 : a0 = (110 : Int32)
  · replace h := gg_th h hs11
    refine gg_swIn 84 dX9_kindBy_1 (by rw [hs11]; decide) (by rw [hs11]; decide) (off := (83)) (by rw [hs11]; decide) (by decide) ?_
    refine gg_fg [false] [none] rfl ?_
    exact hk84 h
  replace h := gg_el h hs11
  by_cases hs12 : a0 = (111 : Int32)
  · replace h := gg_th h hs12
    refine gg_swIn 84 dX9_kindBy_1 (by rw [hs12]; decide) (by rw [hs12]; decide) (off := (83)) (by rw [hs12]; decide) (by decide) ?_
    refine gg_fg [false] [none] rfl ?_
    exact hk84 h
  replace h := gg_el h hs12
  by_cases hs13 : a0 = (112 : Int32)
  · replace h := gg_th h hs13
    refine gg_swIn 74 dX9_kindBy_1 (by rw [hs13]; decide) (by rw [hs13]; decide) (off := (73)) (by rw [hs13]; decide) (by decide) ?_
    refine gg_iconst (1 : Int32) dX9_kindBy_74 (by decide) ?_
    cases h
    exact gg_iret dX9_kindBy_75 rfl
  replace h := gg_el h hs13
  refine gg_swOut 84 dX9_kindBy_1 ?_ (by decide) ?_
  · have q0 := gg_ne32 hs0 (by decide : ((99 : Int32)).toInt = 99); have q1 := gg_ne32 hs1 (by decide : ((100 : Int32)).toInt = 100); have q2 := gg_ne32 hs2 (by decide : ((101 : Int32)).toInt = 101); have q3 := gg_ne32 hs3 (by decide : ((102 : Int32)).toInt = 102); have q4 := gg_ne32 hs4 (by decide : ((103 : Int32)).toInt = 103); have q5 := gg_ne32 hs5 (by decide : ((104 : Int32)).toInt = 104); have q6 := gg_ne32 hs6 (by decide : ((105 : Int32)).toInt = 105); have q7 := gg_ne32 hs7 (by decide : ((106 : Int32)).toInt = 106); have q8 := gg_ne32 hs8 (by decide : ((107 : Int32)).toInt = 107); have q9 := gg_ne32 hs9 (by decide : ((108 : Int32)).toInt = 108); have q10 := gg_ne32 hs10 (by decide : ((109 : Int32)).toInt = 109); have q11 := gg_ne32 hs11 (by decide : ((110 : Int32)).toInt = 110); have q12 := gg_ne32 hs12 (by decide : ((111 : Int32)).toInt = 111); have q13 := gg_ne32 hs13 (by decide : ((112 : Int32)).toInt = 112); omega
  refine gg_fg [false] [none] rfl ?_
  exact hk84 h
def wd_X9_figure (c_latest : Int32) (c_asked : Int32) (c_upper : Int64) (c_lower : Int64) (c_n : Int32) (c_readAt : Int32) (c_readMany : Int32) (c_readFood : Int32) (c_isHead : Int32) (c_backMany : Int32) (c_deedMany : Int32) (c_whole : Int64) (c_wellSum : Int64) (c_strongSum : Int64) (c_hash : Int64) (c_textSizes : Nat → Int32) (c_bytes : Nat → Int32) : va_W := [(0, .inr (8, [.int c_latest, .ref 1, .int c_asked, .long c_upper, .long c_lower, .ref 2, .ref 3, .ref 4, .ref 5, .ref 6, .int c_n, .ref 7, .ref 8, .ref 9, .ref 10, .int c_readAt, .int c_readMany, .int c_readFood, .int c_isHead, .ref 11, .ref 12, .ref 13, .int c_backMany, .int c_deedMany, .ref 14, .ref 15, .ref 16, .ref 17, .ref 18, .ref 19, .ref 20, .ref 21, .ref 22, .ref 23, .ref 24, .long c_whole, .long c_wellSum, .long c_strongSum, .long c_hash])), (5, .inl (0, 4, .inl c_textSizes)), (6, .inl (1, 240, .inl c_bytes))]
def MD_X9_figure : gg_M := (yX9_figure, cX9_figure, 3, some .int, 1, 22)
theorem nV_X9_figure : gg_nV MD_X9_figure 1 := ⟨⟨gg_mem (by decide +kernel) rfl, gg_mem cw_X9_figure rfl, by decide, by decide, by decide +kernel⟩, gg_mem (by decide +kernel) rfl, gg_mem (by decide +kernel) rfl⟩
def f_X9_figure (a0 : Int32) (c_readAt : Int32) (c_textSizes : Nat → Int32) (c_bytes : Nat → Int32) : Option (Int32 × (Int32)) := (f_X9_byteAt a0 c_readAt c_textSizes c_bytes).bind (fun v1 => (f_X9_in (v1 - (48 : Int32)) (0 : Int32) (9 : Int32)).bind (fun v2 => (if v2 = (0 : Int32) then (some ((-9 : Int32), c_readAt)) else (some ((v1 - (48 : Int32)), (c_readAt + (1 : Int32)))))))
set_option maxRecDepth 20000 in
set_option maxHeartbeats 8000000 in
theorem C_X9_figure (a0 : Int32) (c_latest : Int32) (c_asked : Int32) (c_upper : Int64) (c_lower : Int64) (c_n : Int32) (c_readAt : Int32) (c_readMany : Int32) (c_readFood : Int32) (c_isHead : Int32) (c_backMany : Int32) (c_deedMany : Int32) (c_whole : Int64) (c_wellSum : Int64) (c_strongSum : Int64) (c_hash : Int64) (c_textSizes : Nat → Int32) (c_bytes : Nat → Int32) {r0 : Int32} {r1 : (Int32)} (h : f_X9_figure a0 c_readAt c_textSizes c_bytes = some (r0, r1)) : gg_C MD_X9_figure [.ref 0, .int a0] (wd_X9_figure c_latest c_asked c_upper c_lower c_n c_readAt c_readMany c_readFood c_isHead c_backMany c_deedMany c_whole c_wellSum c_strongSum c_hash c_textSizes c_bytes) (some (.int r0)) (wd_X9_figure c_latest c_asked c_upper c_lower c_n r1 c_readMany c_readFood c_isHead c_backMany c_deedMany c_whole c_wellSum c_strongSum c_hash c_textSizes c_bytes) := by
  refine gg_ofG [some (.ref 0), some (.int a0), none] (plainFor_of_name (by decide)) (Nat.le_of_ble_eq_true rfl) rfl ?_
  unfold f_X9_figure at h
  refine gg_aload_n dX9_figure_0 rfl ?_
  refine gg_iload_n dX9_figure_1 rfl ?_
  refine gg_aload_n dX9_figure_2 rfl ?_
  refine gg_get 0 fl_X9_120 dX9_figure_3 rfl rfl ?_
  obtain ⟨v1, hv1, h⟩ := gg_bd h
  refine gg_callV (gg_sg [0]) [0, 1, 2] (wd_X9_figure c_latest c_asked c_upper c_lower c_n c_readAt c_readMany c_readFood c_isHead c_backMany c_deedMany c_whole c_wellSum c_strongSum c_hash c_textSizes c_bytes) 0 (C_X9_byteAt a0 c_readAt c_latest c_asked c_upper c_lower c_n c_readAt c_readMany c_readFood c_isHead c_backMany c_deedMany c_whole c_wellSum c_strongSum c_hash c_textSizes c_bytes hv1) nV_X9_byteAt ml_X9_123 rfl rfl rfl rfl rfl rfl rfl rfl rfl rfl [] 3 rfl rfl rfl rfl rfl ⟨Nat.le_of_ble_eq_true rfl, Nat.le_of_ble_eq_true rfl⟩ (Nat.le_of_ble_eq_true rfl) dX9_figure_6 [.int v1] rfl ?_
  refine gg_bipush (48 : Int32) dX9_figure_9 (by decide) ?_
  refine gg_isub dX9_figure_11 ?_
  refine gg_istore_n [some (.ref 0), some (.int a0), some (.int (v1 - (48 : Int32)))] dX9_figure_12 rfl (Nat.le_of_ble_eq_true rfl) rfl ?_
  refine gg_iload_n dX9_figure_13 rfl ?_
  refine gg_iconst (0 : Int32) dX9_figure_14 (by decide) ?_
  refine gg_bipush (9 : Int32) dX9_figure_15 (by decide) ?_
  obtain ⟨v2, hv2, h⟩ := gg_bd h
  refine gg_callS (gg_sg []) [] (wd_X9_figure c_latest c_asked c_upper c_lower c_n c_readAt c_readMany c_readFood c_isHead c_backMany c_deedMany c_whole c_wellSum c_strongSum c_hash c_textSizes c_bytes) (C_X9_in (v1 - (48 : Int32)) (0 : Int32) (9 : Int32) hv2) nS_X9_in ml_X9_92 rfl rfl rfl rfl rfl rfl rfl [0, 1, 2] 3 rfl rfl rfl rfl rfl ⟨Nat.le_of_ble_eq_true rfl, Nat.le_of_ble_eq_true rfl⟩ (Nat.le_of_ble_eq_true rfl) dX9_figure_17 [.int v2] rfl ?_
  refine gg_if_ne 26 dX9_figure_20 (by decide) (fun hc => ?_) (fun hc => ?_)
  · replace h := gg_el h hc
    refine gg_aload_n dX9_figure_26 rfl ?_
    refine gg_dup dX9_figure_27 rfl ?_
    refine gg_get 0 fl_X9_120 dX9_figure_28 rfl rfl ?_
    refine gg_iconst (1 : Int32) dX9_figure_31 (by decide) ?_
    refine gg_iadd dX9_figure_32 ?_
    refine gg_putf 0 (wd_X9_figure c_latest c_asked c_upper c_lower c_n (c_readAt + (1 : Int32)) c_readMany c_readFood c_isHead c_backMany c_deedMany c_whole c_wellSum c_strongSum c_hash c_textSizes c_bytes) fl_X9_120 dX9_figure_33 rfl (Nat.le_of_ble_eq_true rfl) (fun _ => ⟨rfl, rfl⟩) rfl ?_
    refine gg_iload_n dX9_figure_36 rfl ?_
    cases h
    exact gg_iret dX9_figure_37 rfl
  · replace h := gg_th h hc
    refine gg_bipush (-9 : Int32) dX9_figure_23 (by decide) ?_
    cases h
    exact gg_iret dX9_figure_25 rfl
def wd_X9_readsHead (c_latest : Int32) (c_asked : Int32) (c_upper : Int64) (c_lower : Int64) (c_n : Int32) (c_readAt : Int32) (c_readMany : Int32) (c_readFood : Int32) (c_isHead : Int32) (c_backMany : Int32) (c_deedMany : Int32) (c_whole : Int64) (c_wellSum : Int64) (c_strongSum : Int64) (c_hash : Int64) (c_textSizes : Nat → Int32) (c_bytes : Nat → Int32) (c_readWinds : Nat → Int32) : va_W := [(0, .inr (8, [.int c_latest, .ref 1, .int c_asked, .long c_upper, .long c_lower, .ref 2, .ref 3, .ref 4, .ref 5, .ref 6, .int c_n, .ref 7, .ref 8, .ref 9, .ref 10, .int c_readAt, .int c_readMany, .int c_readFood, .int c_isHead, .ref 11, .ref 12, .ref 13, .int c_backMany, .int c_deedMany, .ref 14, .ref 15, .ref 16, .ref 17, .ref 18, .ref 19, .ref 20, .ref 21, .ref 22, .ref 23, .ref 24, .long c_whole, .long c_wellSum, .long c_strongSum, .long c_hash])), (5, .inl (0, 4, .inl c_textSizes)), (6, .inl (1, 240, .inl c_bytes)), (11, .inl (0, 4, .inl c_readWinds))]
def MD_X9_readsHead : gg_M := (yX9_readsHead, cX9_readsHead, 5, some .boolean, 2, 44)
theorem nV_X9_readsHead : gg_nV MD_X9_readsHead 1 := ⟨⟨gg_mem (by decide +kernel) rfl, gg_mem cw_X9_readsHead rfl, by decide, by decide, by decide +kernel⟩, gg_mem (by decide +kernel) rfl, gg_mem (by decide +kernel) rfl⟩
def lp_X9_readsHead_28 {β : Type} (y1 : Int32) (c_textSizes : Nat → Int32) (c_bytes : Nat → Int32) (k55 : (Int32) → (Nat → Int32) → Option β) (k63 : (Int32) → (Nat → Int32) → Option β) : Nat → (Int32) → (Int32) → (Nat → Int32) → Option β
  | 0, _, _, _ => none
  | n + 1, x2_28, c_readAt_28, c_readWinds_28 => (if (4 : Int32) ≤ x2_28 then (k63 c_readAt_28 c_readWinds_28) else gg_b2 (f_X9_figure y1 c_readAt_28 c_textSizes c_bytes) (fun v2_0 v2_1 => gg_chk (gg_in x2_28 4) (gg_chk (gg_in x2_28 4) ((if ((upd c_readWinds_28 x2_28.toNatClampNeg v2_0) x2_28.toNatClampNeg) = (-9 : Int32) then (k55 v2_1 (upd c_readWinds_28 x2_28.toNatClampNeg v2_0)) else (lp_X9_readsHead_28 y1 c_textSizes c_bytes k55 k63 n (x2_28 + (1 : Int32)) v2_1 (upd c_readWinds_28 x2_28.toNatClampNeg v2_0)))))))
def f_X9_readsHead (a0 : Int32) (c_readAt : Int32) (c_readFood : Int32) (c_isHead : Int32) (c_textSizes : Nat → Int32) (c_bytes : Nat → Int32) (c_readWinds : Nat → Int32) : Option (Int32 × (Int32) × (Int32) × (Int32) × (Nat → Int32)) := (f_X9_byteAt a0 c_readAt c_textSizes c_bytes).bind (fun v1 => (if v1 = (102 : Int32) then (lp_X9_readsHead_28 a0 c_textSizes c_bytes (fun (c_readAt_55 : Int32) (c_readWinds_55 : Nat → Int32) => (some ((0 : Int32), c_readAt_55, c_readFood, c_isHead, c_readWinds_55))) (fun (c_readAt_63 : Int32) (c_readWinds_63 : Nat → Int32) => gg_b2 (f_X9_figure a0 c_readAt_63 c_textSizes c_bytes) (fun v3_0 v3_1 => gg_lt (fun (s0_90 : Int32) (c_readAt_90 : Int32) => (if s0_90 = (-9 : Int32) then (some ((0 : Int32), c_readAt_90, c_readFood, c_isHead, c_readWinds_63)) else (if (((10 : Int32) * v3_0) + s0_90) ≤ (40 : Int32) then (some ((1 : Int32), c_readAt_90, (((10 : Int32) * v3_0) + s0_90), (1 : Int32), c_readWinds_63)) else (some ((0 : Int32), c_readAt_63, (((10 : Int32) * v3_0) + s0_90), c_isHead, c_readWinds_63))))) (fun k90 => (if v3_0 = (-9 : Int32) then (k90 (-9 : Int32) v3_1) else gg_b2 (f_X9_figure a0 v3_1 c_textSizes c_bytes) (fun v4_0 v4_1 => (k90 v4_0 v4_1)))))) gg_fuel (0 : Int32) (c_readAt + (1 : Int32)) c_readWinds) else (some ((0 : Int32), c_readAt, c_readFood, c_isHead, c_readWinds))))
set_option maxRecDepth 20000 in
set_option maxHeartbeats 4000000 in
theorem lq_X9_readsHead_28 {β : Type} {res : β} {rr : Option Value} {ww : va_W} (y1 : Int32) (c_latest : Int32) (c_asked : Int32) (c_upper : Int64) (c_lower : Int64) (c_n : Int32) (c_readMany : Int32) (c_readFood : Int32) (c_isHead : Int32) (c_backMany : Int32) (c_deedMany : Int32) (c_whole : Int64) (c_wellSum : Int64) (c_strongSum : Int64) (c_hash : Int64) (c_textSizes : Nat → Int32) (c_bytes : Nat → Int32) (k55 : (Int32) → (Nat → Int32) → Option β) (k63 : (Int32) → (Nat → Int32) → Option β) (hk55 : ∀ (c_readAt_55 : Int32) (c_readWinds_55 : Nat → Int32), k55 c_readAt_55 c_readWinds_55 = some res → gg_G MD_X9_readsHead 55 [none, none, none, none, none] [] (wd_X9_readsHead c_latest c_asked c_upper c_lower c_n c_readAt_55 c_readMany c_readFood c_isHead c_backMany c_deedMany c_whole c_wellSum c_strongSum c_hash c_textSizes c_bytes c_readWinds_55) rr ww) (hk63 : ∀ (c_readAt_63 : Int32) (c_readWinds_63 : Nat → Int32), k63 c_readAt_63 c_readWinds_63 = some res → gg_G MD_X9_readsHead 63 [some (.ref 0), some (.int y1), none, none, none] [] (wd_X9_readsHead c_latest c_asked c_upper c_lower c_n c_readAt_63 c_readMany c_readFood c_isHead c_backMany c_deedMany c_whole c_wellSum c_strongSum c_hash c_textSizes c_bytes c_readWinds_63) rr ww) : ∀ (n : Nat) (x2_28 : Int32) (c_readAt_28 : Int32) (c_readWinds_28 : Nat → Int32), lp_X9_readsHead_28 y1 c_textSizes c_bytes k55 k63 n x2_28 c_readAt_28 c_readWinds_28 = some res → gg_G MD_X9_readsHead 28 [some (.ref 0), some (.int y1), some (.int x2_28), none, none] [] (wd_X9_readsHead c_latest c_asked c_upper c_lower c_n c_readAt_28 c_readMany c_readFood c_isHead c_backMany c_deedMany c_whole c_wellSum c_strongSum c_hash c_textSizes c_bytes c_readWinds_28) rr ww := by
  intro n
  induction n with
  | zero =>
    intro x2_28 c_readAt_28 c_readWinds_28 h
    exact nomatch (show (none : Option β) = some res from h)
  | succ n ih =>
    intro x2_28 c_readAt_28 c_readWinds_28 h
    rw [lp_X9_readsHead_28] at h
    refine gg_iload_n dX9_readsHead_28 rfl ?_
    refine gg_iconst (4 : Int32) dX9_readsHead_29 (by decide) ?_
    refine gg_icmp_ge 63 dX9_readsHead_30 (by decide) (fun hc => ?_) (fun hc => ?_)
    · replace h := gg_th h hc
      refine gg_fg [true, true, false, false, false] [some (.ref 0), some (.int y1), none, none, none] rfl ?_
      exact hk63 c_readAt_28 c_readWinds_28 h
    · replace h := gg_el h hc
      refine gg_aload_n dX9_readsHead_33 rfl ?_
      refine gg_get 0 fl_X9_45 dX9_readsHead_34 rfl rfl ?_
      refine gg_iload_n dX9_readsHead_37 rfl ?_
      refine gg_aload_n dX9_readsHead_38 rfl ?_
      refine gg_iload_n dX9_readsHead_39 rfl ?_
      obtain ⟨v2_0, v2_1, hv2, h⟩ := gg_bd2 h
      refine gg_callV (gg_sg [0]) [0, 1, 2] (wd_X9_readsHead c_latest c_asked c_upper c_lower c_n v2_1 c_readMany c_readFood c_isHead c_backMany c_deedMany c_whole c_wellSum c_strongSum c_hash c_textSizes c_bytes c_readWinds_28) 0 (C_X9_figure y1 c_latest c_asked c_upper c_lower c_n c_readAt_28 c_readMany c_readFood c_isHead c_backMany c_deedMany c_whole c_wellSum c_strongSum c_hash c_textSizes c_bytes hv2) nV_X9_figure ml_X9_126 rfl rfl rfl rfl rfl rfl rfl rfl rfl rfl [3] 4 rfl rfl rfl rfl rfl ⟨Nat.le_of_ble_eq_true rfl, Nat.le_of_ble_eq_true rfl⟩ (Nat.le_of_ble_eq_true rfl) dX9_readsHead_40 [.int v2_0, .int x2_28, .ref 11] rfl ?_
      obtain ⟨hb43, h⟩ := gg_ck h
      refine gg_iast 3 (wd_X9_readsHead c_latest c_asked c_upper c_lower c_n v2_1 c_readMany c_readFood c_isHead c_backMany c_deedMany c_whole c_wellSum c_strongSum c_hash c_textSizes c_bytes (upd c_readWinds_28 x2_28.toNatClampNeg v2_0)) dX9_readsHead_43 rfl hb43 rfl ?_
      refine gg_aload_n dX9_readsHead_44 rfl ?_
      refine gg_get 0 fl_X9_45 dX9_readsHead_45 rfl rfl ?_
      refine gg_iload_n dX9_readsHead_48 rfl ?_
      obtain ⟨hb49, h⟩ := gg_ck h
      refine gg_iald 3 dX9_readsHead_49 rfl hb49 ?_
      refine gg_bipush (-9 : Int32) dX9_readsHead_50 (by decide) ?_
      refine gg_icmp_ne 57 dX9_readsHead_52 (by decide) (fun hc => ?_) (fun hc => ?_)
      · replace h := gg_el h hc
        refine gg_iinc (x2_28 + (1 : Int32)) [some (.ref 0), some (.int y1), some (.int (x2_28 + (1 : Int32))), none, none] dX9_readsHead_57 rfl rfl rfl (Nat.le_of_ble_eq_true rfl) rfl ?_
        refine gg_goto 28 dX9_readsHead_60 (by decide) ?_
        exact ih (x2_28 + (1 : Int32)) v2_1 (upd c_readWinds_28 x2_28.toNatClampNeg v2_0) h
      · replace h := gg_th h hc
        refine gg_fg [false, false, false, false, false] [none, none, none, none, none] rfl ?_
        exact hk55 v2_1 (upd c_readWinds_28 x2_28.toNatClampNeg v2_0) h
set_option maxRecDepth 20000 in
set_option maxHeartbeats 8000000 in
theorem C_X9_readsHead (a0 : Int32) (c_latest : Int32) (c_asked : Int32) (c_upper : Int64) (c_lower : Int64) (c_n : Int32) (c_readAt : Int32) (c_readMany : Int32) (c_readFood : Int32) (c_isHead : Int32) (c_backMany : Int32) (c_deedMany : Int32) (c_whole : Int64) (c_wellSum : Int64) (c_strongSum : Int64) (c_hash : Int64) (c_textSizes : Nat → Int32) (c_bytes : Nat → Int32) (c_readWinds : Nat → Int32) {r0 : Int32} {r1 : (Int32)} {r2 : (Int32)} {r3 : (Int32)} {r4 : (Nat → Int32)} (h : f_X9_readsHead a0 c_readAt c_readFood c_isHead c_textSizes c_bytes c_readWinds = some (r0, r1, r2, r3, r4)) : gg_C MD_X9_readsHead [.ref 0, .int a0] (wd_X9_readsHead c_latest c_asked c_upper c_lower c_n c_readAt c_readMany c_readFood c_isHead c_backMany c_deedMany c_whole c_wellSum c_strongSum c_hash c_textSizes c_bytes c_readWinds) (some (.int r0)) (wd_X9_readsHead c_latest c_asked c_upper c_lower c_n r1 c_readMany r2 r3 c_backMany c_deedMany c_whole c_wellSum c_strongSum c_hash c_textSizes c_bytes r4) := by
  refine gg_ofG [some (.ref 0), some (.int a0), none, none, none] (plainFor_of_name (by decide)) (Nat.le_of_ble_eq_true rfl) rfl ?_
  unfold f_X9_readsHead at h
  refine gg_aload_n dX9_readsHead_0 rfl ?_
  refine gg_iload_n dX9_readsHead_1 rfl ?_
  refine gg_aload_n dX9_readsHead_2 rfl ?_
  refine gg_get 0 fl_X9_120 dX9_readsHead_3 rfl rfl ?_
  obtain ⟨v1, hv1, h⟩ := gg_bd h
  refine gg_callV (gg_sg [0]) [0, 1, 2] (wd_X9_readsHead c_latest c_asked c_upper c_lower c_n c_readAt c_readMany c_readFood c_isHead c_backMany c_deedMany c_whole c_wellSum c_strongSum c_hash c_textSizes c_bytes c_readWinds) 0 (C_X9_byteAt a0 c_readAt c_latest c_asked c_upper c_lower c_n c_readAt c_readMany c_readFood c_isHead c_backMany c_deedMany c_whole c_wellSum c_strongSum c_hash c_textSizes c_bytes hv1) nV_X9_byteAt ml_X9_123 rfl rfl rfl rfl rfl rfl rfl rfl rfl rfl [3] 4 rfl rfl rfl rfl rfl ⟨Nat.le_of_ble_eq_true rfl, Nat.le_of_ble_eq_true rfl⟩ (Nat.le_of_ble_eq_true rfl) dX9_readsHead_6 [.int v1] rfl ?_
  refine gg_bipush (102 : Int32) dX9_readsHead_9 (by decide) ?_
  refine gg_icmp_eq 16 dX9_readsHead_11 (by decide) (fun hc => ?_) (fun hc => ?_)
  · replace h := gg_th h hc
    refine gg_aload_n dX9_readsHead_16 rfl ?_
    refine gg_dup dX9_readsHead_17 rfl ?_
    refine gg_get 0 fl_X9_120 dX9_readsHead_18 rfl rfl ?_
    refine gg_iconst (1 : Int32) dX9_readsHead_21 (by decide) ?_
    refine gg_iadd dX9_readsHead_22 ?_
    refine gg_putf 0 (wd_X9_readsHead c_latest c_asked c_upper c_lower c_n (c_readAt + (1 : Int32)) c_readMany c_readFood c_isHead c_backMany c_deedMany c_whole c_wellSum c_strongSum c_hash c_textSizes c_bytes c_readWinds) fl_X9_120 dX9_readsHead_23 rfl (Nat.le_of_ble_eq_true rfl) (fun _ => ⟨rfl, rfl⟩) rfl ?_
    refine gg_iconst (0 : Int32) dX9_readsHead_26 (by decide) ?_
    refine gg_istore_n [some (.ref 0), some (.int a0), some (.int (0 : Int32)), none, none] dX9_readsHead_27 rfl (Nat.le_of_ble_eq_true rfl) rfl ?_
    refine lq_X9_readsHead_28 a0 c_latest c_asked c_upper c_lower c_n c_readMany c_readFood c_isHead c_backMany c_deedMany c_whole c_wellSum c_strongSum c_hash c_textSizes c_bytes _ _ ?_ ?_ gg_fuel (0 : Int32) (c_readAt + (1 : Int32)) c_readWinds h
    · intro c_readAt_55 c_readWinds_55 h
      refine gg_iconst (0 : Int32) dX9_readsHead_55 (by decide) ?_
      cases h
      exact gg_zret dX9_readsHead_56 rfl rfl
    · intro c_readAt_63 c_readWinds_63 h
      refine gg_aload_n dX9_readsHead_63 rfl ?_
      refine gg_get 0 fl_X9_120 dX9_readsHead_64 rfl rfl ?_
      refine gg_istore_n [some (.ref 0), some (.int a0), some (.int c_readAt_63), none, none] dX9_readsHead_67 rfl (Nat.le_of_ble_eq_true rfl) rfl ?_
      refine gg_aload_n dX9_readsHead_68 rfl ?_
      refine gg_iload_n dX9_readsHead_69 rfl ?_
      obtain ⟨v3_0, v3_1, hv3, h⟩ := gg_bd2 h
      refine gg_callV (gg_sg [0]) [0, 1, 2] (wd_X9_readsHead c_latest c_asked c_upper c_lower c_n v3_1 c_readMany c_readFood c_isHead c_backMany c_deedMany c_whole c_wellSum c_strongSum c_hash c_textSizes c_bytes c_readWinds_63) 0 (C_X9_figure a0 c_latest c_asked c_upper c_lower c_n c_readAt_63 c_readMany c_readFood c_isHead c_backMany c_deedMany c_whole c_wellSum c_strongSum c_hash c_textSizes c_bytes hv3) nV_X9_figure ml_X9_126 rfl rfl rfl rfl rfl rfl rfl rfl rfl rfl [3] 4 rfl rfl rfl rfl rfl ⟨Nat.le_of_ble_eq_true rfl, Nat.le_of_ble_eq_true rfl⟩ (Nat.le_of_ble_eq_true rfl) dX9_readsHead_70 [.int v3_0] rfl ?_
      refine gg_istore_n [some (.ref 0), some (.int a0), some (.int c_readAt_63), some (.int v3_0), none] dX9_readsHead_73 rfl (Nat.le_of_ble_eq_true rfl) rfl ?_
      refine gg_iload_n dX9_readsHead_74 rfl ?_
      refine gg_bipush (-9 : Int32) dX9_readsHead_75 (by decide) ?_
      obtain ⟨k90, hke90, h⟩ := gg_lte h
      have hk90 : ∀ (s0_90 : Int32) (c_readAt_90 : Int32), k90 s0_90 c_readAt_90 = some (r0, r1, r2, r3, r4) → gg_G MD_X9_readsHead 90 [some (.ref 0), none, some (.int c_readAt_63), some (.int v3_0), none] [.int s0_90] (wd_X9_readsHead c_latest c_asked c_upper c_lower c_n c_readAt_90 c_readMany c_readFood c_isHead c_backMany c_deedMany c_whole c_wellSum c_strongSum c_hash c_textSizes c_bytes c_readWinds_63) (some (.int r0)) (wd_X9_readsHead c_latest c_asked c_upper c_lower c_n r1 c_readMany r2 r3 c_backMany c_deedMany c_whole c_wellSum c_strongSum c_hash c_textSizes c_bytes r4) := by
        intro s0_90 c_readAt_90 h
        subst hke90
        refine gg_istore [some (.ref 0), none, some (.int c_readAt_63), some (.int v3_0), some (.int s0_90)] dX9_readsHead_90 rfl (Nat.le_of_ble_eq_true rfl) rfl ?_
        refine gg_iload dX9_readsHead_92 rfl ?_
        refine gg_bipush (-9 : Int32) dX9_readsHead_94 (by decide) ?_
        refine gg_icmp_ne 101 dX9_readsHead_96 (by decide) (fun hc => ?_) (fun hc => ?_)
        · replace h := gg_el h hc
          refine gg_aload_n dX9_readsHead_101 rfl ?_
          refine gg_bipush (10 : Int32) dX9_readsHead_102 (by decide) ?_
          refine gg_iload_n dX9_readsHead_104 rfl ?_
          refine gg_imul dX9_readsHead_105 ?_
          refine gg_iload dX9_readsHead_106 rfl ?_
          refine gg_iadd dX9_readsHead_108 ?_
          refine gg_putf 0 (wd_X9_readsHead c_latest c_asked c_upper c_lower c_n c_readAt_90 c_readMany (((10 : Int32) * v3_0) + s0_90) c_isHead c_backMany c_deedMany c_whole c_wellSum c_strongSum c_hash c_textSizes c_bytes c_readWinds_63) fl_X9_129 dX9_readsHead_109 rfl (Nat.le_of_ble_eq_true rfl) (fun _ => ⟨rfl, rfl⟩) rfl ?_
          refine gg_aload_n dX9_readsHead_112 rfl ?_
          refine gg_get 0 fl_X9_129 dX9_readsHead_113 rfl rfl ?_
          refine gg_bipush (40 : Int32) dX9_readsHead_116 (by decide) ?_
          refine gg_icmp_le 128 dX9_readsHead_118 (by decide) (fun hc => ?_) (fun hc => ?_)
          · replace h := gg_th h hc
            refine gg_aload_n dX9_readsHead_128 rfl ?_
            refine gg_iconst (1 : Int32) dX9_readsHead_129 (by decide) ?_
            refine gg_putf 0 (wd_X9_readsHead c_latest c_asked c_upper c_lower c_n c_readAt_90 c_readMany (((10 : Int32) * v3_0) + s0_90) (1 : Int32) c_backMany c_deedMany c_whole c_wellSum c_strongSum c_hash c_textSizes c_bytes c_readWinds_63) fl_X9_132 dX9_readsHead_130 rfl (Nat.le_of_ble_eq_true rfl) (fun _ => ⟨rfl, rfl⟩) rfl ?_
            refine gg_iconst (1 : Int32) dX9_readsHead_133 (by decide) ?_
            cases h
            exact gg_zret dX9_readsHead_134 rfl rfl
          · replace h := gg_el h hc
            refine gg_aload_n dX9_readsHead_121 rfl ?_
            refine gg_iload_n dX9_readsHead_122 rfl ?_
            refine gg_putf 0 (wd_X9_readsHead c_latest c_asked c_upper c_lower c_n c_readAt_63 c_readMany (((10 : Int32) * v3_0) + s0_90) c_isHead c_backMany c_deedMany c_whole c_wellSum c_strongSum c_hash c_textSizes c_bytes c_readWinds_63) fl_X9_120 dX9_readsHead_123 rfl (Nat.le_of_ble_eq_true rfl) (fun _ => ⟨rfl, rfl⟩) rfl ?_
            refine gg_iconst (0 : Int32) dX9_readsHead_126 (by decide) ?_
            cases h
            exact gg_zret dX9_readsHead_127 rfl rfl
        · replace h := gg_th h hc
          refine gg_iconst (0 : Int32) dX9_readsHead_99 (by decide) ?_
          cases h
          exact gg_zret dX9_readsHead_100 rfl rfl
      clear hke90
      refine gg_icmp_ne 85 dX9_readsHead_77 (by decide) (fun hc => ?_) (fun hc => ?_)
      · replace h := gg_el h hc
        refine gg_aload_n dX9_readsHead_85 rfl ?_
        refine gg_iload_n dX9_readsHead_86 rfl ?_
        obtain ⟨v4_0, v4_1, hv4, h⟩ := gg_bd2 h
        refine gg_callV (gg_sg [0]) [0, 1, 2] (wd_X9_readsHead c_latest c_asked c_upper c_lower c_n v4_1 c_readMany c_readFood c_isHead c_backMany c_deedMany c_whole c_wellSum c_strongSum c_hash c_textSizes c_bytes c_readWinds_63) 0 (C_X9_figure a0 c_latest c_asked c_upper c_lower c_n v3_1 c_readMany c_readFood c_isHead c_backMany c_deedMany c_whole c_wellSum c_strongSum c_hash c_textSizes c_bytes hv4) nV_X9_figure ml_X9_126 rfl rfl rfl rfl rfl rfl rfl rfl rfl rfl [3] 4 rfl rfl rfl rfl rfl ⟨Nat.le_of_ble_eq_true rfl, Nat.le_of_ble_eq_true rfl⟩ (Nat.le_of_ble_eq_true rfl) dX9_readsHead_87 [.int v4_0] rfl ?_
        refine gg_fg [true, false, true, true, false] [some (.ref 0), none, some (.int c_readAt_63), some (.int v3_0), none] rfl ?_
        exact hk90 v4_0 v4_1 h
      · replace h := gg_th h hc
        refine gg_bipush (-9 : Int32) dX9_readsHead_80 (by decide) ?_
        refine gg_goto 90 dX9_readsHead_82 (by decide) ?_
        refine gg_fg [true, false, true, true, false] [some (.ref 0), none, some (.int c_readAt_63), some (.int v3_0), none] rfl ?_
        exact hk90 (-9 : Int32) v3_1 h
  · replace h := gg_el h hc
    refine gg_iconst (0 : Int32) dX9_readsHead_14 (by decide) ?_
    cases h
    exact gg_zret dX9_readsHead_15 rfl rfl
def wd_X9_isTold (c_latest : Int32) (c_asked : Int32) (c_upper : Int64) (c_lower : Int64) (c_n : Int32) (c_readAt : Int32) (c_readMany : Int32) (c_readFood : Int32) (c_isHead : Int32) (c_backMany : Int32) (c_deedMany : Int32) (c_whole : Int64) (c_wellSum : Int64) (c_strongSum : Int64) (c_hash : Int64) (c_readHut : Nat → Int32) : va_W := [(0, .inr (8, [.int c_latest, .ref 1, .int c_asked, .long c_upper, .long c_lower, .ref 2, .ref 3, .ref 4, .ref 5, .ref 6, .int c_n, .ref 7, .ref 8, .ref 9, .ref 10, .int c_readAt, .int c_readMany, .int c_readFood, .int c_isHead, .ref 11, .ref 12, .ref 13, .int c_backMany, .int c_deedMany, .ref 14, .ref 15, .ref 16, .ref 17, .ref 18, .ref 19, .ref 20, .ref 21, .ref 22, .ref 23, .ref 24, .long c_whole, .long c_wellSum, .long c_strongSum, .long c_hash])), (12, .inl (0, 24, .inl c_readHut))]
def MD_X9_isTold : gg_M := (yX9_isTold, cX9_isTold, 4, some .boolean, 0, 0)
theorem nV_X9_isTold : gg_nV MD_X9_isTold 1 := ⟨⟨gg_mem (by decide +kernel) rfl, gg_mem cw_X9_isTold rfl, by decide, by decide, by decide +kernel⟩, gg_mem (by decide +kernel) rfl, gg_mem (by decide +kernel) rfl⟩
def lp_X9_isTold_4 {β : Type} (y1 : Int32) (c_readMany : Int32) (c_readHut : Nat → Int32) (k42 : (Int32) → Option β) : Nat → (Int32) → (Int32) → Option β
  | 0, _, _ => none
  | n + 1, x2_4, x3_4 => (if c_readMany ≤ x3_4 then (k42 x2_4) else gg_lt (fun (s0_35 : Int32) => (lp_X9_isTold_4 y1 c_readMany c_readHut k42 n s0_35 (x3_4 + (1 : Int32)))) (fun k35 => gg_lt ((k35 (1 : Int32))) (fun k30 => (if x2_4 = (0 : Int32) then gg_chk (gg_in (((4 : Int32) * x3_4) + (1 : Int32)) 24) ((if (c_readHut (((4 : Int32) * x3_4) + (1 : Int32)).toNatClampNeg) = y1 then k30 else (k35 (0 : Int32)))) else k30))))
def f_X9_isTold (a0 : Int32) (c_readMany : Int32) (c_readHut : Nat → Int32) : Option (Int32) := (lp_X9_isTold_4 a0 c_readMany c_readHut (fun (x2_42 : Int32) => gg_chk (gg_isb x2_42) (some x2_42)) gg_fuel (0 : Int32) (0 : Int32))
set_option maxRecDepth 20000 in
set_option maxHeartbeats 4000000 in
theorem lq_X9_isTold_4 {β : Type} {res : β} {rr : Option Value} {ww : va_W} (y1 : Int32) (c_latest : Int32) (c_asked : Int32) (c_upper : Int64) (c_lower : Int64) (c_n : Int32) (c_readAt : Int32) (c_readMany : Int32) (c_readFood : Int32) (c_isHead : Int32) (c_backMany : Int32) (c_deedMany : Int32) (c_whole : Int64) (c_wellSum : Int64) (c_strongSum : Int64) (c_hash : Int64) (c_readHut : Nat → Int32) (k42 : (Int32) → Option β) (hk42 : ∀ (x2_42 : Int32), k42 x2_42 = some res → gg_G MD_X9_isTold 42 [none, none, some (.int x2_42), none] [] (wd_X9_isTold c_latest c_asked c_upper c_lower c_n c_readAt c_readMany c_readFood c_isHead c_backMany c_deedMany c_whole c_wellSum c_strongSum c_hash c_readHut) rr ww) : ∀ (n : Nat) (x2_4 : Int32) (x3_4 : Int32), lp_X9_isTold_4 y1 c_readMany c_readHut k42 n x2_4 x3_4 = some res → gg_G MD_X9_isTold 4 [some (.ref 0), some (.int y1), some (.int x2_4), some (.int x3_4)] [] (wd_X9_isTold c_latest c_asked c_upper c_lower c_n c_readAt c_readMany c_readFood c_isHead c_backMany c_deedMany c_whole c_wellSum c_strongSum c_hash c_readHut) rr ww := by
  intro n
  induction n with
  | zero =>
    intro x2_4 x3_4 h
    exact nomatch (show (none : Option β) = some res from h)
  | succ n ih =>
    intro x2_4 x3_4 h
    rw [lp_X9_isTold_4] at h
    refine gg_iload_n dX9_isTold_4 rfl ?_
    refine gg_aload_n dX9_isTold_5 rfl ?_
    refine gg_get 0 fl_X9_136 dX9_isTold_6 rfl rfl ?_
    refine gg_icmp_ge 42 dX9_isTold_9 (by decide) (fun hc => ?_) (fun hc => ?_)
    · replace h := gg_th h hc
      refine gg_fg [false, false, true, false] [none, none, some (.int x2_4), none] rfl ?_
      exact hk42 x2_4 h
    · replace h := gg_el h hc
      refine gg_iload_n dX9_isTold_12 rfl ?_
      obtain ⟨k35, hke35, h⟩ := gg_lte h
      have hk35 : ∀ (s0_35 : Int32), k35 s0_35 = some res → gg_G MD_X9_isTold 35 [some (.ref 0), some (.int y1), none, some (.int x3_4)] [.int s0_35] (wd_X9_isTold c_latest c_asked c_upper c_lower c_n c_readAt c_readMany c_readFood c_isHead c_backMany c_deedMany c_whole c_wellSum c_strongSum c_hash c_readHut) rr ww := by
        intro s0_35 h
        subst hke35
        refine gg_istore_n [some (.ref 0), some (.int y1), some (.int s0_35), some (.int x3_4)] dX9_isTold_35 rfl (Nat.le_of_ble_eq_true rfl) rfl ?_
        refine gg_iinc (x3_4 + (1 : Int32)) [some (.ref 0), some (.int y1), some (.int s0_35), some (.int (x3_4 + (1 : Int32)))] dX9_isTold_36 rfl rfl rfl (Nat.le_of_ble_eq_true rfl) rfl ?_
        refine gg_goto 4 dX9_isTold_39 (by decide) ?_
        exact ih s0_35 (x3_4 + (1 : Int32)) h
      clear hke35
      obtain ⟨k30, hke30, h⟩ := gg_lte h
      have hk30 : k30 = some res → gg_G MD_X9_isTold 30 [some (.ref 0), some (.int y1), none, some (.int x3_4)] [] (wd_X9_isTold c_latest c_asked c_upper c_lower c_n c_readAt c_readMany c_readFood c_isHead c_backMany c_deedMany c_whole c_wellSum c_strongSum c_hash c_readHut) rr ww := by
        intro  h
        subst hke30
        refine gg_iconst (1 : Int32) dX9_isTold_30 (by decide) ?_
        refine gg_goto 35 dX9_isTold_31 (by decide) ?_
        exact hk35 (1 : Int32) h
      clear hke30
      refine gg_if_ne 30 dX9_isTold_13 (by decide) (fun hc => ?_) (fun hc => ?_)
      · replace h := gg_el h hc
        refine gg_fg [true, true, false, true] [some (.ref 0), some (.int y1), none, some (.int x3_4)] rfl ?_
        exact hk30 h
      · replace h := gg_th h hc
        refine gg_aload_n dX9_isTold_16 rfl ?_
        refine gg_get 0 fl_X9_48 dX9_isTold_17 rfl rfl ?_
        refine gg_iconst (4 : Int32) dX9_isTold_20 (by decide) ?_
        refine gg_iload_n dX9_isTold_21 rfl ?_
        refine gg_imul dX9_isTold_22 ?_
        refine gg_iconst (1 : Int32) dX9_isTold_23 (by decide) ?_
        refine gg_iadd dX9_isTold_24 ?_
        obtain ⟨hb25, h⟩ := gg_ck h
        refine gg_iald 1 dX9_isTold_25 rfl hb25 ?_
        refine gg_iload_n dX9_isTold_26 rfl ?_
        refine gg_icmp_ne 34 dX9_isTold_27 (by decide) (fun hc => ?_) (fun hc => ?_)
        · replace h := gg_el h hc
          refine gg_iconst (0 : Int32) dX9_isTold_34 (by decide) ?_
          refine gg_fg [true, true, false, true] [some (.ref 0), some (.int y1), none, some (.int x3_4)] rfl ?_
          exact hk35 (0 : Int32) h
        · replace h := gg_th h hc
          refine gg_fg [true, true, false, true] [some (.ref 0), some (.int y1), none, some (.int x3_4)] rfl ?_
          exact hk30 h
set_option maxRecDepth 20000 in
set_option maxHeartbeats 8000000 in
theorem C_X9_isTold (a0 : Int32) (c_latest : Int32) (c_asked : Int32) (c_upper : Int64) (c_lower : Int64) (c_n : Int32) (c_readAt : Int32) (c_readMany : Int32) (c_readFood : Int32) (c_isHead : Int32) (c_backMany : Int32) (c_deedMany : Int32) (c_whole : Int64) (c_wellSum : Int64) (c_strongSum : Int64) (c_hash : Int64) (c_readHut : Nat → Int32) {res : Int32} (h : f_X9_isTold a0 c_readMany c_readHut = some res) : gg_C MD_X9_isTold [.ref 0, .int a0] (wd_X9_isTold c_latest c_asked c_upper c_lower c_n c_readAt c_readMany c_readFood c_isHead c_backMany c_deedMany c_whole c_wellSum c_strongSum c_hash c_readHut) (some (.int res)) (wd_X9_isTold c_latest c_asked c_upper c_lower c_n c_readAt c_readMany c_readFood c_isHead c_backMany c_deedMany c_whole c_wellSum c_strongSum c_hash c_readHut) := by
  refine gg_ofG [some (.ref 0), some (.int a0), none, none] (plainFor_of_name (by decide)) (Nat.le_of_ble_eq_true rfl) rfl ?_
  unfold f_X9_isTold at h
  refine gg_iconst (0 : Int32) dX9_isTold_0 (by decide) ?_
  refine gg_istore_n [some (.ref 0), some (.int a0), some (.int (0 : Int32)), none] dX9_isTold_1 rfl (Nat.le_of_ble_eq_true rfl) rfl ?_
  refine gg_iconst (0 : Int32) dX9_isTold_2 (by decide) ?_
  refine gg_istore_n [some (.ref 0), some (.int a0), some (.int (0 : Int32)), some (.int (0 : Int32))] dX9_isTold_3 rfl (Nat.le_of_ble_eq_true rfl) rfl ?_
  refine lq_X9_isTold_4 a0 c_latest c_asked c_upper c_lower c_n c_readAt c_readMany c_readFood c_isHead c_backMany c_deedMany c_whole c_wellSum c_strongSum c_hash c_readHut _ ?_ gg_fuel (0 : Int32) (0 : Int32) h
  intro x2_42 h
  refine gg_iload_n dX9_isTold_42 rfl ?_
  obtain ⟨hz, h⟩ := gg_ck h
  cases h
  exact gg_zret dX9_isTold_43 rfl hz
def wd_X9_readsHut (c_latest : Int32) (c_asked : Int32) (c_upper : Int64) (c_lower : Int64) (c_n : Int32) (c_readAt : Int32) (c_readMany : Int32) (c_readFood : Int32) (c_isHead : Int32) (c_backMany : Int32) (c_deedMany : Int32) (c_whole : Int64) (c_wellSum : Int64) (c_strongSum : Int64) (c_hash : Int64) (c_textSizes : Nat → Int32) (c_bytes : Nat → Int32) (c_readHut : Nat → Int32) : va_W := [(0, .inr (8, [.int c_latest, .ref 1, .int c_asked, .long c_upper, .long c_lower, .ref 2, .ref 3, .ref 4, .ref 5, .ref 6, .int c_n, .ref 7, .ref 8, .ref 9, .ref 10, .int c_readAt, .int c_readMany, .int c_readFood, .int c_isHead, .ref 11, .ref 12, .ref 13, .int c_backMany, .int c_deedMany, .ref 14, .ref 15, .ref 16, .ref 17, .ref 18, .ref 19, .ref 20, .ref 21, .ref 22, .ref 23, .ref 24, .long c_whole, .long c_wellSum, .long c_strongSum, .long c_hash])), (5, .inl (0, 4, .inl c_textSizes)), (6, .inl (1, 240, .inl c_bytes)), (12, .inl (0, 24, .inl c_readHut))]
def MD_X9_readsHut : gg_M := (yX9_readsHut, cX9_readsHut, 7, some .boolean, 2, 44)
theorem nV_X9_readsHut : gg_nV MD_X9_readsHut 1 := ⟨⟨gg_mem (by decide +kernel) rfl, gg_mem cw_X9_readsHut rfl, by decide, by decide, by decide +kernel⟩, gg_mem (by decide +kernel) rfl, gg_mem (by decide +kernel) rfl⟩
def lp_X9_readsHut_107 {β : Type} (y1 : Int32) (y4 : Int32) (c_textSizes : Nat → Int32) (c_bytes : Nat → Int32) (k143 : (Int32) → (Nat → Int32) → Option β) (k151 : (Int32) → (Nat → Int32) → Option β) : Nat → (Int32) → (Int32) → (Nat → Int32) → Option β
  | 0, _, _, _ => none
  | n + 1, x6_107, c_readAt_107, c_readHut_107 => (if (4 : Int32) ≤ x6_107 then (k151 c_readAt_107 c_readHut_107) else gg_b2 (f_X9_figure y1 c_readAt_107 c_textSizes c_bytes) (fun v5_0 v5_1 => gg_chk (gg_in (y4 + x6_107) 24) (gg_chk (gg_in (y4 + x6_107) 24) ((if ((upd c_readHut_107 (y4 + x6_107).toNatClampNeg v5_0) (y4 + x6_107).toNatClampNeg) = (-9 : Int32) then (k143 v5_1 (upd c_readHut_107 (y4 + x6_107).toNatClampNeg v5_0)) else (lp_X9_readsHut_107 y1 y4 c_textSizes c_bytes k143 k151 n (x6_107 + (1 : Int32)) v5_1 (upd c_readHut_107 (y4 + x6_107).toNatClampNeg v5_0)))))))
def f_X9_readsHut (a0 : Int32) (c_readAt : Int32) (c_readMany : Int32) (c_textSizes : Nat → Int32) (c_bytes : Nat → Int32) (c_readHut : Nat → Int32) : Option (Int32 × (Int32) × (Int32) × (Nat → Int32)) := (f_X9_byteAt a0 c_readAt c_textSizes c_bytes).bind (fun v1 => (f_X9_kindBy v1).bind (fun v2 => gg_lt ((some ((0 : Int32), c_readAt, c_readMany, c_readHut))) (fun k28 => (if v2 = (-9 : Int32) then k28 else (if c_readMany = (6 : Int32) then k28 else gg_b2 (f_X9_figure a0 (c_readAt + (1 : Int32)) c_textSizes c_bytes) (fun v3_0 v3_1 => (if v3_0 = (-9 : Int32) then (some ((0 : Int32), v3_1, c_readMany, c_readHut)) else (f_X9_isTold v3_0 c_readMany c_readHut).bind (fun v4 => (if v4 = (0 : Int32) then gg_chk (gg_in ((4 : Int32) * c_readMany) 24) (gg_chk (gg_in (((4 : Int32) * c_readMany) + (1 : Int32)) 24) ((lp_X9_readsHut_107 a0 ((4 : Int32) * c_readMany) c_textSizes c_bytes (fun (c_readAt_143 : Int32) (c_readHut_143 : Nat → Int32) => (some ((0 : Int32), c_readAt_143, c_readMany, c_readHut_143))) (fun (c_readAt_151 : Int32) (c_readHut_151 : Nat → Int32) => (some ((1 : Int32), c_readAt_151, (c_readMany + (1 : Int32)), c_readHut_151))) gg_fuel (2 : Int32) v3_1 (upd (upd c_readHut ((4 : Int32) * c_readMany).toNatClampNeg v2) (((4 : Int32) * c_readMany) + (1 : Int32)).toNatClampNeg v3_0)))) else (some ((0 : Int32), (c_readAt + (1 : Int32)), c_readMany, c_readHut)))))))))))
set_option maxRecDepth 20000 in
set_option maxHeartbeats 4000000 in
theorem lq_X9_readsHut_107 {β : Type} {res : β} {rr : Option Value} {ww : va_W} (y1 : Int32) (y4 : Int32) (c_latest : Int32) (c_asked : Int32) (c_upper : Int64) (c_lower : Int64) (c_n : Int32) (c_readMany : Int32) (c_readFood : Int32) (c_isHead : Int32) (c_backMany : Int32) (c_deedMany : Int32) (c_whole : Int64) (c_wellSum : Int64) (c_strongSum : Int64) (c_hash : Int64) (c_textSizes : Nat → Int32) (c_bytes : Nat → Int32) (k143 : (Int32) → (Nat → Int32) → Option β) (k151 : (Int32) → (Nat → Int32) → Option β) (hk143 : ∀ (c_readAt_143 : Int32) (c_readHut_143 : Nat → Int32), k143 c_readAt_143 c_readHut_143 = some res → gg_G MD_X9_readsHut 143 [none, none, none, none, none, none, none] [] (wd_X9_readsHut c_latest c_asked c_upper c_lower c_n c_readAt_143 c_readMany c_readFood c_isHead c_backMany c_deedMany c_whole c_wellSum c_strongSum c_hash c_textSizes c_bytes c_readHut_143) rr ww) (hk151 : ∀ (c_readAt_151 : Int32) (c_readHut_151 : Nat → Int32), k151 c_readAt_151 c_readHut_151 = some res → gg_G MD_X9_readsHut 151 [some (.ref 0), none, none, none, none, none, none] [] (wd_X9_readsHut c_latest c_asked c_upper c_lower c_n c_readAt_151 c_readMany c_readFood c_isHead c_backMany c_deedMany c_whole c_wellSum c_strongSum c_hash c_textSizes c_bytes c_readHut_151) rr ww) : ∀ (n : Nat) (x6_107 : Int32) (c_readAt_107 : Int32) (c_readHut_107 : Nat → Int32), lp_X9_readsHut_107 y1 y4 c_textSizes c_bytes k143 k151 n x6_107 c_readAt_107 c_readHut_107 = some res → gg_G MD_X9_readsHut 107 [some (.ref 0), some (.int y1), none, none, some (.int y4), none, some (.int x6_107)] [] (wd_X9_readsHut c_latest c_asked c_upper c_lower c_n c_readAt_107 c_readMany c_readFood c_isHead c_backMany c_deedMany c_whole c_wellSum c_strongSum c_hash c_textSizes c_bytes c_readHut_107) rr ww := by
  intro n
  induction n with
  | zero =>
    intro x6_107 c_readAt_107 c_readHut_107 h
    exact nomatch (show (none : Option β) = some res from h)
  | succ n ih =>
    intro x6_107 c_readAt_107 c_readHut_107 h
    rw [lp_X9_readsHut_107] at h
    refine gg_iload dX9_readsHut_107 rfl ?_
    refine gg_iconst (4 : Int32) dX9_readsHut_109 (by decide) ?_
    refine gg_icmp_ge 151 dX9_readsHut_110 (by decide) (fun hc => ?_) (fun hc => ?_)
    · replace h := gg_th h hc
      refine gg_fg [true, false, false, false, false, false, false] [some (.ref 0), none, none, none, none, none, none] rfl ?_
      exact hk151 c_readAt_107 c_readHut_107 h
    · replace h := gg_el h hc
      refine gg_aload_n dX9_readsHut_113 rfl ?_
      refine gg_get 0 fl_X9_48 dX9_readsHut_114 rfl rfl ?_
      refine gg_iload dX9_readsHut_117 rfl ?_
      refine gg_iload dX9_readsHut_119 rfl ?_
      refine gg_iadd dX9_readsHut_121 ?_
      refine gg_aload_n dX9_readsHut_122 rfl ?_
      refine gg_iload_n dX9_readsHut_123 rfl ?_
      obtain ⟨v5_0, v5_1, hv5, h⟩ := gg_bd2 h
      refine gg_callV (gg_sg [0]) [0, 1, 2] (wd_X9_readsHut c_latest c_asked c_upper c_lower c_n v5_1 c_readMany c_readFood c_isHead c_backMany c_deedMany c_whole c_wellSum c_strongSum c_hash c_textSizes c_bytes c_readHut_107) 0 (C_X9_figure y1 c_latest c_asked c_upper c_lower c_n c_readAt_107 c_readMany c_readFood c_isHead c_backMany c_deedMany c_whole c_wellSum c_strongSum c_hash c_textSizes c_bytes hv5) nV_X9_figure ml_X9_126 rfl rfl rfl rfl rfl rfl rfl rfl rfl rfl [3] 4 rfl rfl rfl rfl rfl ⟨Nat.le_of_ble_eq_true rfl, Nat.le_of_ble_eq_true rfl⟩ (Nat.le_of_ble_eq_true rfl) dX9_readsHut_124 [.int v5_0, .int (y4 + x6_107), .ref 12] rfl ?_
      obtain ⟨hb127, h⟩ := gg_ck h
      refine gg_iast 3 (wd_X9_readsHut c_latest c_asked c_upper c_lower c_n v5_1 c_readMany c_readFood c_isHead c_backMany c_deedMany c_whole c_wellSum c_strongSum c_hash c_textSizes c_bytes (upd c_readHut_107 (y4 + x6_107).toNatClampNeg v5_0)) dX9_readsHut_127 rfl hb127 rfl ?_
      refine gg_aload_n dX9_readsHut_128 rfl ?_
      refine gg_get 0 fl_X9_48 dX9_readsHut_129 rfl rfl ?_
      refine gg_iload dX9_readsHut_132 rfl ?_
      refine gg_iload dX9_readsHut_134 rfl ?_
      refine gg_iadd dX9_readsHut_136 ?_
      obtain ⟨hb137, h⟩ := gg_ck h
      refine gg_iald 3 dX9_readsHut_137 rfl hb137 ?_
      refine gg_bipush (-9 : Int32) dX9_readsHut_138 (by decide) ?_
      refine gg_icmp_ne 145 dX9_readsHut_140 (by decide) (fun hc => ?_) (fun hc => ?_)
      · replace h := gg_el h hc
        refine gg_iinc (x6_107 + (1 : Int32)) [some (.ref 0), some (.int y1), none, none, some (.int y4), none, some (.int (x6_107 + (1 : Int32)))] dX9_readsHut_145 rfl rfl rfl (Nat.le_of_ble_eq_true rfl) rfl ?_
        refine gg_goto 107 dX9_readsHut_148 (by decide) ?_
        exact ih (x6_107 + (1 : Int32)) v5_1 (upd c_readHut_107 (y4 + x6_107).toNatClampNeg v5_0) h
      · replace h := gg_th h hc
        refine gg_fg [false, false, false, false, false, false, false] [none, none, none, none, none, none, none] rfl ?_
        exact hk143 v5_1 (upd c_readHut_107 (y4 + x6_107).toNatClampNeg v5_0) h
set_option maxRecDepth 20000 in
set_option maxHeartbeats 8000000 in
theorem C_X9_readsHut (a0 : Int32) (c_latest : Int32) (c_asked : Int32) (c_upper : Int64) (c_lower : Int64) (c_n : Int32) (c_readAt : Int32) (c_readMany : Int32) (c_readFood : Int32) (c_isHead : Int32) (c_backMany : Int32) (c_deedMany : Int32) (c_whole : Int64) (c_wellSum : Int64) (c_strongSum : Int64) (c_hash : Int64) (c_textSizes : Nat → Int32) (c_bytes : Nat → Int32) (c_readHut : Nat → Int32) {r0 : Int32} {r1 : (Int32)} {r2 : (Int32)} {r3 : (Nat → Int32)} (h : f_X9_readsHut a0 c_readAt c_readMany c_textSizes c_bytes c_readHut = some (r0, r1, r2, r3)) : gg_C MD_X9_readsHut [.ref 0, .int a0] (wd_X9_readsHut c_latest c_asked c_upper c_lower c_n c_readAt c_readMany c_readFood c_isHead c_backMany c_deedMany c_whole c_wellSum c_strongSum c_hash c_textSizes c_bytes c_readHut) (some (.int r0)) (wd_X9_readsHut c_latest c_asked c_upper c_lower c_n r1 r2 c_readFood c_isHead c_backMany c_deedMany c_whole c_wellSum c_strongSum c_hash c_textSizes c_bytes r3) := by
  refine gg_ofG [some (.ref 0), some (.int a0), none, none, none, none, none] (plainFor_of_name (by decide)) (Nat.le_of_ble_eq_true rfl) rfl ?_
  unfold f_X9_readsHut at h
  refine gg_aload_n dX9_readsHut_0 rfl ?_
  refine gg_iload_n dX9_readsHut_1 rfl ?_
  refine gg_aload_n dX9_readsHut_2 rfl ?_
  refine gg_get 0 fl_X9_120 dX9_readsHut_3 rfl rfl ?_
  obtain ⟨v1, hv1, h⟩ := gg_bd h
  refine gg_callV (gg_sg [0]) [0, 1, 2] (wd_X9_readsHut c_latest c_asked c_upper c_lower c_n c_readAt c_readMany c_readFood c_isHead c_backMany c_deedMany c_whole c_wellSum c_strongSum c_hash c_textSizes c_bytes c_readHut) 0 (C_X9_byteAt a0 c_readAt c_latest c_asked c_upper c_lower c_n c_readAt c_readMany c_readFood c_isHead c_backMany c_deedMany c_whole c_wellSum c_strongSum c_hash c_textSizes c_bytes hv1) nV_X9_byteAt ml_X9_123 rfl rfl rfl rfl rfl rfl rfl rfl rfl rfl [3] 4 rfl rfl rfl rfl rfl ⟨Nat.le_of_ble_eq_true rfl, Nat.le_of_ble_eq_true rfl⟩ (Nat.le_of_ble_eq_true rfl) dX9_readsHut_6 [.int v1] rfl ?_
  obtain ⟨v2, hv2, h⟩ := gg_bd h
  refine gg_callS (gg_sg []) [] (wd_X9_readsHut c_latest c_asked c_upper c_lower c_n c_readAt c_readMany c_readFood c_isHead c_backMany c_deedMany c_whole c_wellSum c_strongSum c_hash c_textSizes c_bytes c_readHut) (C_X9_kindBy v1 hv2) nS_X9_kindBy ml_X9_139 rfl rfl rfl rfl rfl rfl rfl [0, 1, 2, 3] 4 rfl rfl rfl rfl rfl ⟨Nat.le_of_ble_eq_true rfl, Nat.le_of_ble_eq_true rfl⟩ (Nat.le_of_ble_eq_true rfl) dX9_readsHut_9 [.int v2] rfl ?_
  refine gg_istore_n [some (.ref 0), some (.int a0), some (.int v2), none, none, none, none] dX9_readsHut_12 rfl (Nat.le_of_ble_eq_true rfl) rfl ?_
  refine gg_iload_n dX9_readsHut_13 rfl ?_
  refine gg_bipush (-9 : Int32) dX9_readsHut_14 (by decide) ?_
  obtain ⟨k28, hke28, h⟩ := gg_lte h
  have hk28 : k28 = some (r0, r1, r2, r3) → gg_G MD_X9_readsHut 28 [none, none, none, none, none, none, none] [] (wd_X9_readsHut c_latest c_asked c_upper c_lower c_n c_readAt c_readMany c_readFood c_isHead c_backMany c_deedMany c_whole c_wellSum c_strongSum c_hash c_textSizes c_bytes c_readHut) (some (.int r0)) (wd_X9_readsHut c_latest c_asked c_upper c_lower c_n r1 r2 c_readFood c_isHead c_backMany c_deedMany c_whole c_wellSum c_strongSum c_hash c_textSizes c_bytes r3) := by
    intro  h
    subst hke28
    refine gg_iconst (0 : Int32) dX9_readsHut_28 (by decide) ?_
    cases h
    exact gg_zret dX9_readsHut_29 rfl rfl
  clear hke28
  refine gg_icmp_eq 28 dX9_readsHut_16 (by decide) (fun hc => ?_) (fun hc => ?_)
  · replace h := gg_th h hc
    refine gg_fg [false, false, false, false, false, false, false] [none, none, none, none, none, none, none] rfl ?_
    exact hk28 h
  · replace h := gg_el h hc
    refine gg_aload_n dX9_readsHut_19 rfl ?_
    refine gg_get 0 fl_X9_136 dX9_readsHut_20 rfl rfl ?_
    refine gg_bipush (6 : Int32) dX9_readsHut_23 (by decide) ?_
    refine gg_icmp_ne 30 dX9_readsHut_25 (by decide) (fun hc => ?_) (fun hc => ?_)
    · replace h := gg_el h hc
      refine gg_aload_n dX9_readsHut_30 rfl ?_
      refine gg_dup dX9_readsHut_31 rfl ?_
      refine gg_get 0 fl_X9_120 dX9_readsHut_32 rfl rfl ?_
      refine gg_iconst (1 : Int32) dX9_readsHut_35 (by decide) ?_
      refine gg_iadd dX9_readsHut_36 ?_
      refine gg_putf 0 (wd_X9_readsHut c_latest c_asked c_upper c_lower c_n (c_readAt + (1 : Int32)) c_readMany c_readFood c_isHead c_backMany c_deedMany c_whole c_wellSum c_strongSum c_hash c_textSizes c_bytes c_readHut) fl_X9_120 dX9_readsHut_37 rfl (Nat.le_of_ble_eq_true rfl) (fun _ => ⟨rfl, rfl⟩) rfl ?_
      refine gg_aload_n dX9_readsHut_40 rfl ?_
      refine gg_get 0 fl_X9_120 dX9_readsHut_41 rfl rfl ?_
      refine gg_istore_n [some (.ref 0), some (.int a0), some (.int v2), some (.int (c_readAt + (1 : Int32))), none, none, none] dX9_readsHut_44 rfl (Nat.le_of_ble_eq_true rfl) rfl ?_
      refine gg_iconst (4 : Int32) dX9_readsHut_45 (by decide) ?_
      refine gg_aload_n dX9_readsHut_46 rfl ?_
      refine gg_get 0 fl_X9_136 dX9_readsHut_47 rfl rfl ?_
      refine gg_imul dX9_readsHut_50 ?_
      refine gg_istore [some (.ref 0), some (.int a0), some (.int v2), some (.int (c_readAt + (1 : Int32))), some (.int ((4 : Int32) * c_readMany)), none, none] dX9_readsHut_51 rfl (Nat.le_of_ble_eq_true rfl) rfl ?_
      refine gg_aload_n dX9_readsHut_53 rfl ?_
      refine gg_iload_n dX9_readsHut_54 rfl ?_
      obtain ⟨v3_0, v3_1, hv3, h⟩ := gg_bd2 h
      refine gg_callV (gg_sg [0]) [0, 1, 2] (wd_X9_readsHut c_latest c_asked c_upper c_lower c_n v3_1 c_readMany c_readFood c_isHead c_backMany c_deedMany c_whole c_wellSum c_strongSum c_hash c_textSizes c_bytes c_readHut) 0 (C_X9_figure a0 c_latest c_asked c_upper c_lower c_n (c_readAt + (1 : Int32)) c_readMany c_readFood c_isHead c_backMany c_deedMany c_whole c_wellSum c_strongSum c_hash c_textSizes c_bytes hv3) nV_X9_figure ml_X9_126 rfl rfl rfl rfl rfl rfl rfl rfl rfl rfl [3] 4 rfl rfl rfl rfl rfl ⟨Nat.le_of_ble_eq_true rfl, Nat.le_of_ble_eq_true rfl⟩ (Nat.le_of_ble_eq_true rfl) dX9_readsHut_55 [.int v3_0] rfl ?_
      refine gg_istore [some (.ref 0), some (.int a0), some (.int v2), some (.int (c_readAt + (1 : Int32))), some (.int ((4 : Int32) * c_readMany)), some (.int v3_0), none] dX9_readsHut_58 rfl (Nat.le_of_ble_eq_true rfl) rfl ?_
      refine gg_iload dX9_readsHut_60 rfl ?_
      refine gg_bipush (-9 : Int32) dX9_readsHut_62 (by decide) ?_
      refine gg_icmp_ne 69 dX9_readsHut_64 (by decide) (fun hc => ?_) (fun hc => ?_)
      · replace h := gg_el h hc
        refine gg_aload_n dX9_readsHut_69 rfl ?_
        refine gg_iload dX9_readsHut_70 rfl ?_
        obtain ⟨v4, hv4, h⟩ := gg_bd h
        refine gg_callV (gg_sg [0]) [0, 3] (wd_X9_readsHut c_latest c_asked c_upper c_lower c_n v3_1 c_readMany c_readFood c_isHead c_backMany c_deedMany c_whole c_wellSum c_strongSum c_hash c_textSizes c_bytes c_readHut) 0 (C_X9_isTold v3_0 c_latest c_asked c_upper c_lower c_n v3_1 c_readMany c_readFood c_isHead c_backMany c_deedMany c_whole c_wellSum c_strongSum c_hash c_readHut hv4) nV_X9_isTold ml_X9_142 rfl rfl rfl rfl rfl rfl rfl rfl rfl rfl [1, 2] 4 rfl rfl rfl rfl rfl ⟨Nat.le_of_ble_eq_true rfl, Nat.le_of_ble_eq_true rfl⟩ (Nat.le_of_ble_eq_true rfl) dX9_readsHut_72 [.int v4] rfl ?_
        refine gg_if_eq 85 dX9_readsHut_75 (by decide) (fun hc => ?_) (fun hc => ?_)
        · replace h := gg_th h hc
          refine gg_aload_n dX9_readsHut_85 rfl ?_
          refine gg_get 0 fl_X9_48 dX9_readsHut_86 rfl rfl ?_
          refine gg_iload dX9_readsHut_89 rfl ?_
          refine gg_iload_n dX9_readsHut_91 rfl ?_
          obtain ⟨hb92, h⟩ := gg_ck h
          refine gg_iast 3 (wd_X9_readsHut c_latest c_asked c_upper c_lower c_n v3_1 c_readMany c_readFood c_isHead c_backMany c_deedMany c_whole c_wellSum c_strongSum c_hash c_textSizes c_bytes (upd c_readHut ((4 : Int32) * c_readMany).toNatClampNeg v2)) dX9_readsHut_92 rfl hb92 rfl ?_
          refine gg_aload_n dX9_readsHut_93 rfl ?_
          refine gg_get 0 fl_X9_48 dX9_readsHut_94 rfl rfl ?_
          refine gg_iload dX9_readsHut_97 rfl ?_
          refine gg_iconst (1 : Int32) dX9_readsHut_99 (by decide) ?_
          refine gg_iadd dX9_readsHut_100 ?_
          refine gg_iload dX9_readsHut_101 rfl ?_
          obtain ⟨hb103, h⟩ := gg_ck h
          refine gg_iast 3 (wd_X9_readsHut c_latest c_asked c_upper c_lower c_n v3_1 c_readMany c_readFood c_isHead c_backMany c_deedMany c_whole c_wellSum c_strongSum c_hash c_textSizes c_bytes (upd (upd c_readHut ((4 : Int32) * c_readMany).toNatClampNeg v2) (((4 : Int32) * c_readMany) + (1 : Int32)).toNatClampNeg v3_0)) dX9_readsHut_103 rfl hb103 rfl ?_
          refine gg_iconst (2 : Int32) dX9_readsHut_104 (by decide) ?_
          refine gg_istore [some (.ref 0), some (.int a0), some (.int v2), some (.int (c_readAt + (1 : Int32))), some (.int ((4 : Int32) * c_readMany)), some (.int v3_0), some (.int (2 : Int32))] dX9_readsHut_105 rfl (Nat.le_of_ble_eq_true rfl) rfl ?_
          refine gg_fg [true, true, false, false, true, false, true] [some (.ref 0), some (.int a0), none, none, some (.int ((4 : Int32) * c_readMany)), none, some (.int (2 : Int32))] rfl ?_
          refine lq_X9_readsHut_107 a0 ((4 : Int32) * c_readMany) c_latest c_asked c_upper c_lower c_n c_readMany c_readFood c_isHead c_backMany c_deedMany c_whole c_wellSum c_strongSum c_hash c_textSizes c_bytes _ _ ?_ ?_ gg_fuel (2 : Int32) v3_1 (upd (upd c_readHut ((4 : Int32) * c_readMany).toNatClampNeg v2) (((4 : Int32) * c_readMany) + (1 : Int32)).toNatClampNeg v3_0) h
          · intro c_readAt_143 c_readHut_143 h
            refine gg_iconst (0 : Int32) dX9_readsHut_143 (by decide) ?_
            cases h
            exact gg_zret dX9_readsHut_144 rfl rfl
          · intro c_readAt_151 c_readHut_151 h
            refine gg_aload_n dX9_readsHut_151 rfl ?_
            refine gg_dup dX9_readsHut_152 rfl ?_
            refine gg_get 0 fl_X9_136 dX9_readsHut_153 rfl rfl ?_
            refine gg_iconst (1 : Int32) dX9_readsHut_156 (by decide) ?_
            refine gg_iadd dX9_readsHut_157 ?_
            refine gg_putf 0 (wd_X9_readsHut c_latest c_asked c_upper c_lower c_n c_readAt_151 (c_readMany + (1 : Int32)) c_readFood c_isHead c_backMany c_deedMany c_whole c_wellSum c_strongSum c_hash c_textSizes c_bytes c_readHut_151) fl_X9_136 dX9_readsHut_158 rfl (Nat.le_of_ble_eq_true rfl) (fun _ => ⟨rfl, rfl⟩) rfl ?_
            refine gg_iconst (1 : Int32) dX9_readsHut_161 (by decide) ?_
            cases h
            exact gg_zret dX9_readsHut_162 rfl rfl
        · replace h := gg_el h hc
          refine gg_aload_n dX9_readsHut_78 rfl ?_
          refine gg_iload_n dX9_readsHut_79 rfl ?_
          refine gg_putf 0 (wd_X9_readsHut c_latest c_asked c_upper c_lower c_n (c_readAt + (1 : Int32)) c_readMany c_readFood c_isHead c_backMany c_deedMany c_whole c_wellSum c_strongSum c_hash c_textSizes c_bytes c_readHut) fl_X9_120 dX9_readsHut_80 rfl (Nat.le_of_ble_eq_true rfl) (fun _ => ⟨rfl, rfl⟩) rfl ?_
          refine gg_iconst (0 : Int32) dX9_readsHut_83 (by decide) ?_
          cases h
          exact gg_zret dX9_readsHut_84 rfl rfl
      · replace h := gg_th h hc
        refine gg_iconst (0 : Int32) dX9_readsHut_67 (by decide) ?_
        cases h
        exact gg_zret dX9_readsHut_68 rfl rfl
    · replace h := gg_th h hc
      refine gg_fg [false, false, false, false, false, false, false] [none, none, none, none, none, none, none] rfl ?_
      exact hk28 h
def wd_X9_faultOf (c_latest : Int32) (c_asked : Int32) (c_upper : Int64) (c_lower : Int64) (c_n : Int32) (c_readAt : Int32) (c_readMany : Int32) (c_readFood : Int32) (c_isHead : Int32) (c_backMany : Int32) (c_deedMany : Int32) (c_whole : Int64) (c_wellSum : Int64) (c_strongSum : Int64) (c_hash : Int64) (c_textSizes : Nat → Int32) (c_bytes : Nat → Int32) (c_readWinds : Nat → Int32) (c_readHut : Nat → Int32) : va_W := [(0, .inr (8, [.int c_latest, .ref 1, .int c_asked, .long c_upper, .long c_lower, .ref 2, .ref 3, .ref 4, .ref 5, .ref 6, .int c_n, .ref 7, .ref 8, .ref 9, .ref 10, .int c_readAt, .int c_readMany, .int c_readFood, .int c_isHead, .ref 11, .ref 12, .ref 13, .int c_backMany, .int c_deedMany, .ref 14, .ref 15, .ref 16, .ref 17, .ref 18, .ref 19, .ref 20, .ref 21, .ref 22, .ref 23, .ref 24, .long c_whole, .long c_wellSum, .long c_strongSum, .long c_hash])), (5, .inl (0, 4, .inl c_textSizes)), (6, .inl (1, 240, .inl c_bytes)), (11, .inl (0, 4, .inl c_readWinds)), (12, .inl (0, 24, .inl c_readHut))]
def MD_X9_faultOf : gg_M := (yX9_faultOf, cX9_faultOf, 2, some .int, 3, 70)
theorem nV_X9_faultOf : gg_nV MD_X9_faultOf 1 := ⟨⟨gg_mem (by decide +kernel) rfl, gg_mem cw_X9_faultOf rfl, by decide, by decide, by decide +kernel⟩, gg_mem (by decide +kernel) rfl, gg_mem (by decide +kernel) rfl⟩
def lp_X9_faultOf_15 {β : Type} (y1 : Int32) (c_textSizes : Nat → Int32) (c_bytes : Nat → Int32) (k81 : (Int32) → (Int32) → (Int32) → (Int32) → (Nat → Int32) → (Nat → Int32) → Option β) (k86 : (Int32) → (Int32) → (Int32) → (Int32) → (Nat → Int32) → (Nat → Int32) → Option β) : Nat → (Int32) → (Int32) → (Int32) → (Int32) → (Nat → Int32) → (Nat → Int32) → Option β
  | 0, _, _, _, _, _, _ => none
  | n + 1, c_readAt_15, c_readMany_15, c_readFood_15, c_isHead_15, c_readWinds_15, c_readHut_15 => gg_chk (gg_in y1 4) ((if (c_textSizes y1.toNatClampNeg) ≤ c_readAt_15 then (k86 c_readAt_15 c_readMany_15 c_readFood_15 c_isHead_15 c_readWinds_15 c_readHut_15) else (f_X9_byteAt y1 c_readAt_15 c_textSizes c_bytes).bind (fun v1 => (if v1 = (32 : Int32) then (lp_X9_faultOf_15 y1 c_textSizes c_bytes k81 k86 n (c_readAt_15 + (1 : Int32)) c_readMany_15 c_readFood_15 c_isHead_15 c_readWinds_15 c_readHut_15) else (if c_isHead_15 = (0 : Int32) then gg_b5 (f_X9_readsHead y1 c_readAt_15 c_readFood_15 c_isHead_15 c_textSizes c_bytes c_readWinds_15) (fun v2_0 v2_1 v2_2 v2_3 v2_4 => (if v2_0 = (0 : Int32) then (k81 v2_1 c_readMany_15 v2_2 v2_3 v2_4 c_readHut_15) else (lp_X9_faultOf_15 y1 c_textSizes c_bytes k81 k86 n v2_1 c_readMany_15 v2_2 v2_3 v2_4 c_readHut_15))) else gg_b4 (f_X9_readsHut y1 c_readAt_15 c_readMany_15 c_textSizes c_bytes c_readHut_15) (fun v3_0 v3_1 v3_2 v3_3 => (if v3_0 = (0 : Int32) then (k81 v3_1 v3_2 c_readFood_15 c_isHead_15 c_readWinds_15 v3_3) else (lp_X9_faultOf_15 y1 c_textSizes c_bytes k81 k86 n v3_1 v3_2 c_readFood_15 c_isHead_15 c_readWinds_15 v3_3))))))))
def f_X9_faultOf (a0 : Int32) (c_readAt : Int32) (c_readMany : Int32) (c_readFood : Int32) (c_isHead : Int32) (c_textSizes : Nat → Int32) (c_bytes : Nat → Int32) (c_readWinds : Nat → Int32) (c_readHut : Nat → Int32) : Option (Int32 × (Int32) × (Int32) × (Int32) × (Int32) × (Nat → Int32) × (Nat → Int32)) := (lp_X9_faultOf_15 a0 c_textSizes c_bytes (fun (c_readAt_81 : Int32) (c_readMany_81 : Int32) (c_readFood_81 : Int32) (c_isHead_81 : Int32) (c_readWinds_81 : Nat → Int32) (c_readHut_81 : Nat → Int32) => (some (c_readAt_81, c_readAt_81, c_readMany_81, c_readFood_81, c_isHead_81, c_readWinds_81, c_readHut_81))) (fun (c_readAt_86 : Int32) (c_readMany_86 : Int32) (c_readFood_86 : Int32) (c_isHead_86 : Int32) (c_readWinds_86 : Nat → Int32) (c_readHut_86 : Nat → Int32) => gg_lt (fun (s0_104 : Int32) => (some (s0_104, c_readAt_86, c_readMany_86, c_readFood_86, c_isHead_86, c_readWinds_86, c_readHut_86))) (fun k104 => (if c_readMany_86 = (0 : Int32) then gg_chk (gg_in a0 4) ((k104 (c_textSizes a0.toNatClampNeg))) else (k104 (-9 : Int32))))) gg_fuel (0 : Int32) (0 : Int32) c_readFood (0 : Int32) c_readWinds c_readHut)
set_option maxRecDepth 20000 in
set_option maxHeartbeats 4000000 in
theorem lq_X9_faultOf_15 {β : Type} {res : β} {rr : Option Value} {ww : va_W} (y1 : Int32) (c_latest : Int32) (c_asked : Int32) (c_upper : Int64) (c_lower : Int64) (c_n : Int32) (c_backMany : Int32) (c_deedMany : Int32) (c_whole : Int64) (c_wellSum : Int64) (c_strongSum : Int64) (c_hash : Int64) (c_textSizes : Nat → Int32) (c_bytes : Nat → Int32) (k81 : (Int32) → (Int32) → (Int32) → (Int32) → (Nat → Int32) → (Nat → Int32) → Option β) (k86 : (Int32) → (Int32) → (Int32) → (Int32) → (Nat → Int32) → (Nat → Int32) → Option β) (hk81 : ∀ (c_readAt_81 : Int32) (c_readMany_81 : Int32) (c_readFood_81 : Int32) (c_isHead_81 : Int32) (c_readWinds_81 : Nat → Int32) (c_readHut_81 : Nat → Int32), k81 c_readAt_81 c_readMany_81 c_readFood_81 c_isHead_81 c_readWinds_81 c_readHut_81 = some res → gg_G MD_X9_faultOf 81 [some (.ref 0), none] [] (wd_X9_faultOf c_latest c_asked c_upper c_lower c_n c_readAt_81 c_readMany_81 c_readFood_81 c_isHead_81 c_backMany c_deedMany c_whole c_wellSum c_strongSum c_hash c_textSizes c_bytes c_readWinds_81 c_readHut_81) rr ww) (hk86 : ∀ (c_readAt_86 : Int32) (c_readMany_86 : Int32) (c_readFood_86 : Int32) (c_isHead_86 : Int32) (c_readWinds_86 : Nat → Int32) (c_readHut_86 : Nat → Int32), k86 c_readAt_86 c_readMany_86 c_readFood_86 c_isHead_86 c_readWinds_86 c_readHut_86 = some res → gg_G MD_X9_faultOf 86 [some (.ref 0), some (.int y1)] [] (wd_X9_faultOf c_latest c_asked c_upper c_lower c_n c_readAt_86 c_readMany_86 c_readFood_86 c_isHead_86 c_backMany c_deedMany c_whole c_wellSum c_strongSum c_hash c_textSizes c_bytes c_readWinds_86 c_readHut_86) rr ww) : ∀ (n : Nat) (c_readAt_15 : Int32) (c_readMany_15 : Int32) (c_readFood_15 : Int32) (c_isHead_15 : Int32) (c_readWinds_15 : Nat → Int32) (c_readHut_15 : Nat → Int32), lp_X9_faultOf_15 y1 c_textSizes c_bytes k81 k86 n c_readAt_15 c_readMany_15 c_readFood_15 c_isHead_15 c_readWinds_15 c_readHut_15 = some res → gg_G MD_X9_faultOf 15 [some (.ref 0), some (.int y1)] [] (wd_X9_faultOf c_latest c_asked c_upper c_lower c_n c_readAt_15 c_readMany_15 c_readFood_15 c_isHead_15 c_backMany c_deedMany c_whole c_wellSum c_strongSum c_hash c_textSizes c_bytes c_readWinds_15 c_readHut_15) rr ww := by
  intro n
  induction n with
  | zero =>
    intro c_readAt_15 c_readMany_15 c_readFood_15 c_isHead_15 c_readWinds_15 c_readHut_15 h
    exact nomatch (show (none : Option β) = some res from h)
  | succ n ih =>
    intro c_readAt_15 c_readMany_15 c_readFood_15 c_isHead_15 c_readWinds_15 c_readHut_15 h
    rw [lp_X9_faultOf_15] at h
    refine gg_aload_n dX9_faultOf_15 rfl ?_
    refine gg_get 0 fl_X9_120 dX9_faultOf_16 rfl rfl ?_
    refine gg_aload_n dX9_faultOf_19 rfl ?_
    refine gg_get 0 fl_X9_26 dX9_faultOf_20 rfl rfl ?_
    refine gg_iload_n dX9_faultOf_23 rfl ?_
    obtain ⟨hb24, h⟩ := gg_ck h
    refine gg_iald 1 dX9_faultOf_24 rfl hb24 ?_
    refine gg_icmp_ge 86 dX9_faultOf_25 (by decide) (fun hc => ?_) (fun hc => ?_)
    · replace h := gg_th h hc
      exact hk86 c_readAt_15 c_readMany_15 c_readFood_15 c_isHead_15 c_readWinds_15 c_readHut_15 h
    · replace h := gg_el h hc
      refine gg_aload_n dX9_faultOf_28 rfl ?_
      refine gg_iload_n dX9_faultOf_29 rfl ?_
      refine gg_aload_n dX9_faultOf_30 rfl ?_
      refine gg_get 0 fl_X9_120 dX9_faultOf_31 rfl rfl ?_
      obtain ⟨v1, hv1, h⟩ := gg_bd h
      refine gg_callV (gg_sg [0]) [0, 1, 2] (wd_X9_faultOf c_latest c_asked c_upper c_lower c_n c_readAt_15 c_readMany_15 c_readFood_15 c_isHead_15 c_backMany c_deedMany c_whole c_wellSum c_strongSum c_hash c_textSizes c_bytes c_readWinds_15 c_readHut_15) 0 (C_X9_byteAt y1 c_readAt_15 c_latest c_asked c_upper c_lower c_n c_readAt_15 c_readMany_15 c_readFood_15 c_isHead_15 c_backMany c_deedMany c_whole c_wellSum c_strongSum c_hash c_textSizes c_bytes hv1) nV_X9_byteAt ml_X9_123 rfl rfl rfl rfl rfl rfl rfl rfl rfl rfl [3, 4] 5 rfl rfl rfl rfl rfl ⟨Nat.le_of_ble_eq_true rfl, Nat.le_of_ble_eq_true rfl⟩ (Nat.le_of_ble_eq_true rfl) dX9_faultOf_34 [.int v1] rfl ?_
      refine gg_bipush (32 : Int32) dX9_faultOf_37 (by decide) ?_
      refine gg_icmp_ne 55 dX9_faultOf_39 (by decide) (fun hc => ?_) (fun hc => ?_)
      · replace h := gg_el h hc
        refine gg_aload_n dX9_faultOf_55 rfl ?_
        refine gg_get 0 fl_X9_132 dX9_faultOf_56 rfl rfl ?_
        refine gg_if_eq 73 dX9_faultOf_59 (by decide) (fun hc => ?_) (fun hc => ?_)
        · replace h := gg_th h hc
          refine gg_aload_n dX9_faultOf_73 rfl ?_
          refine gg_iload_n dX9_faultOf_74 rfl ?_
          obtain ⟨v2_0, v2_1, v2_2, v2_3, v2_4, hv2, h⟩ := gg_bd5 h
          refine gg_callV (gg_sg [0]) [0, 1, 2, 3] (wd_X9_faultOf c_latest c_asked c_upper c_lower c_n v2_1 c_readMany_15 v2_2 v2_3 c_backMany c_deedMany c_whole c_wellSum c_strongSum c_hash c_textSizes c_bytes v2_4 c_readHut_15) 0 (C_X9_readsHead y1 c_latest c_asked c_upper c_lower c_n c_readAt_15 c_readMany_15 c_readFood_15 c_isHead_15 c_backMany c_deedMany c_whole c_wellSum c_strongSum c_hash c_textSizes c_bytes c_readWinds_15 hv2) nV_X9_readsHead ml_X9_148 rfl rfl rfl rfl rfl rfl rfl rfl rfl rfl [4] 5 rfl rfl rfl rfl rfl ⟨Nat.le_of_ble_eq_true rfl, Nat.le_of_ble_eq_true rfl⟩ (Nat.le_of_ble_eq_true rfl) dX9_faultOf_75 [.int v2_0] rfl ?_
          refine gg_if_ne 15 dX9_faultOf_78 (by decide) (fun hc => ?_) (fun hc => ?_)
          · replace h := gg_el h hc
            exact ih v2_1 c_readMany_15 v2_2 v2_3 v2_4 c_readHut_15 h
          · replace h := gg_th h hc
            refine gg_fg [true, false] [some (.ref 0), none] rfl ?_
            exact hk81 v2_1 c_readMany_15 v2_2 v2_3 v2_4 c_readHut_15 h
        · replace h := gg_el h hc
          refine gg_aload_n dX9_faultOf_62 rfl ?_
          refine gg_iload_n dX9_faultOf_63 rfl ?_
          obtain ⟨v3_0, v3_1, v3_2, v3_3, hv3, h⟩ := gg_bd4 h
          refine gg_callV (gg_sg [0]) [0, 1, 2, 4] (wd_X9_faultOf c_latest c_asked c_upper c_lower c_n v3_1 v3_2 c_readFood_15 c_isHead_15 c_backMany c_deedMany c_whole c_wellSum c_strongSum c_hash c_textSizes c_bytes c_readWinds_15 v3_3) 0 (C_X9_readsHut y1 c_latest c_asked c_upper c_lower c_n c_readAt_15 c_readMany_15 c_readFood_15 c_isHead_15 c_backMany c_deedMany c_whole c_wellSum c_strongSum c_hash c_textSizes c_bytes c_readHut_15 hv3) nV_X9_readsHut ml_X9_145 rfl rfl rfl rfl rfl rfl rfl rfl rfl rfl [3] 5 rfl rfl rfl rfl rfl ⟨Nat.le_of_ble_eq_true rfl, Nat.le_of_ble_eq_true rfl⟩ (Nat.le_of_ble_eq_true rfl) dX9_faultOf_64 [.int v3_0] rfl ?_
          refine gg_if_eq 81 dX9_faultOf_67 (by decide) (fun hc => ?_) (fun hc => ?_)
          · replace h := gg_th h hc
            refine gg_fg [true, false] [some (.ref 0), none] rfl ?_
            exact hk81 v3_1 v3_2 c_readFood_15 c_isHead_15 c_readWinds_15 v3_3 h
          · replace h := gg_el h hc
            refine gg_goto 15 dX9_faultOf_70 (by decide) ?_
            exact ih v3_1 v3_2 c_readFood_15 c_isHead_15 c_readWinds_15 v3_3 h
      · replace h := gg_th h hc
        refine gg_aload_n dX9_faultOf_42 rfl ?_
        refine gg_dup dX9_faultOf_43 rfl ?_
        refine gg_get 0 fl_X9_120 dX9_faultOf_44 rfl rfl ?_
        refine gg_iconst (1 : Int32) dX9_faultOf_47 (by decide) ?_
        refine gg_iadd dX9_faultOf_48 ?_
        refine gg_putf 0 (wd_X9_faultOf c_latest c_asked c_upper c_lower c_n (c_readAt_15 + (1 : Int32)) c_readMany_15 c_readFood_15 c_isHead_15 c_backMany c_deedMany c_whole c_wellSum c_strongSum c_hash c_textSizes c_bytes c_readWinds_15 c_readHut_15) fl_X9_120 dX9_faultOf_49 rfl (Nat.le_of_ble_eq_true rfl) (fun _ => ⟨rfl, rfl⟩) rfl ?_
        refine gg_goto 15 dX9_faultOf_52 (by decide) ?_
        exact ih (c_readAt_15 + (1 : Int32)) c_readMany_15 c_readFood_15 c_isHead_15 c_readWinds_15 c_readHut_15 h
set_option maxRecDepth 20000 in
set_option maxHeartbeats 8000000 in
theorem C_X9_faultOf (a0 : Int32) (c_latest : Int32) (c_asked : Int32) (c_upper : Int64) (c_lower : Int64) (c_n : Int32) (c_readAt : Int32) (c_readMany : Int32) (c_readFood : Int32) (c_isHead : Int32) (c_backMany : Int32) (c_deedMany : Int32) (c_whole : Int64) (c_wellSum : Int64) (c_strongSum : Int64) (c_hash : Int64) (c_textSizes : Nat → Int32) (c_bytes : Nat → Int32) (c_readWinds : Nat → Int32) (c_readHut : Nat → Int32) {r0 : Int32} {r1 : (Int32)} {r2 : (Int32)} {r3 : (Int32)} {r4 : (Int32)} {r5 : (Nat → Int32)} {r6 : (Nat → Int32)} (h : f_X9_faultOf a0 c_readAt c_readMany c_readFood c_isHead c_textSizes c_bytes c_readWinds c_readHut = some (r0, r1, r2, r3, r4, r5, r6)) : gg_C MD_X9_faultOf [.ref 0, .int a0] (wd_X9_faultOf c_latest c_asked c_upper c_lower c_n c_readAt c_readMany c_readFood c_isHead c_backMany c_deedMany c_whole c_wellSum c_strongSum c_hash c_textSizes c_bytes c_readWinds c_readHut) (some (.int r0)) (wd_X9_faultOf c_latest c_asked c_upper c_lower c_n r1 r2 r3 r4 c_backMany c_deedMany c_whole c_wellSum c_strongSum c_hash c_textSizes c_bytes r5 r6) := by
  refine gg_ofG [some (.ref 0), some (.int a0)] (plainFor_of_name (by decide)) (Nat.le_of_ble_eq_true rfl) rfl ?_
  unfold f_X9_faultOf at h
  refine gg_aload_n dX9_faultOf_0 rfl ?_
  refine gg_iconst (0 : Int32) dX9_faultOf_1 (by decide) ?_
  refine gg_putf 0 (wd_X9_faultOf c_latest c_asked c_upper c_lower c_n (0 : Int32) c_readMany c_readFood c_isHead c_backMany c_deedMany c_whole c_wellSum c_strongSum c_hash c_textSizes c_bytes c_readWinds c_readHut) fl_X9_120 dX9_faultOf_2 rfl (Nat.le_of_ble_eq_true rfl) (fun _ => ⟨rfl, rfl⟩) rfl ?_
  refine gg_aload_n dX9_faultOf_5 rfl ?_
  refine gg_iconst (0 : Int32) dX9_faultOf_6 (by decide) ?_
  refine gg_putf 0 (wd_X9_faultOf c_latest c_asked c_upper c_lower c_n (0 : Int32) (0 : Int32) c_readFood c_isHead c_backMany c_deedMany c_whole c_wellSum c_strongSum c_hash c_textSizes c_bytes c_readWinds c_readHut) fl_X9_136 dX9_faultOf_7 rfl (Nat.le_of_ble_eq_true rfl) (fun _ => ⟨rfl, rfl⟩) rfl ?_
  refine gg_aload_n dX9_faultOf_10 rfl ?_
  refine gg_iconst (0 : Int32) dX9_faultOf_11 (by decide) ?_
  refine gg_putf 0 (wd_X9_faultOf c_latest c_asked c_upper c_lower c_n (0 : Int32) (0 : Int32) c_readFood (0 : Int32) c_backMany c_deedMany c_whole c_wellSum c_strongSum c_hash c_textSizes c_bytes c_readWinds c_readHut) fl_X9_132 dX9_faultOf_12 rfl (Nat.le_of_ble_eq_true rfl) (fun _ => ⟨rfl, rfl⟩) rfl ?_
  refine lq_X9_faultOf_15 a0 c_latest c_asked c_upper c_lower c_n c_backMany c_deedMany c_whole c_wellSum c_strongSum c_hash c_textSizes c_bytes _ _ ?_ ?_ gg_fuel (0 : Int32) (0 : Int32) c_readFood (0 : Int32) c_readWinds c_readHut h
  · intro c_readAt_81 c_readMany_81 c_readFood_81 c_isHead_81 c_readWinds_81 c_readHut_81 h
    refine gg_aload_n dX9_faultOf_81 rfl ?_
    refine gg_get 0 fl_X9_120 dX9_faultOf_82 rfl rfl ?_
    cases h
    exact gg_iret dX9_faultOf_85 rfl
  · intro c_readAt_86 c_readMany_86 c_readFood_86 c_isHead_86 c_readWinds_86 c_readHut_86 h
    refine gg_aload_n dX9_faultOf_86 rfl ?_
    refine gg_get 0 fl_X9_136 dX9_faultOf_87 rfl rfl ?_
    obtain ⟨k104, hke104, h⟩ := gg_lte h
    have hk104 : ∀ (s0_104 : Int32), k104 s0_104 = some (r0, r1, r2, r3, r4, r5, r6) → gg_G MD_X9_faultOf 104 [none, none] [.int s0_104] (wd_X9_faultOf c_latest c_asked c_upper c_lower c_n c_readAt_86 c_readMany_86 c_readFood_86 c_isHead_86 c_backMany c_deedMany c_whole c_wellSum c_strongSum c_hash c_textSizes c_bytes c_readWinds_86 c_readHut_86) (some (.int r0)) (wd_X9_faultOf c_latest c_asked c_upper c_lower c_n r1 r2 r3 r4 c_backMany c_deedMany c_whole c_wellSum c_strongSum c_hash c_textSizes c_bytes r5 r6) := by
      intro s0_104 h
      subst hke104
      cases h
      exact gg_iret dX9_faultOf_104 rfl
    clear hke104
    refine gg_if_ne 102 dX9_faultOf_90 (by decide) (fun hc => ?_) (fun hc => ?_)
    · replace h := gg_el h hc
      refine gg_bipush (-9 : Int32) dX9_faultOf_102 (by decide) ?_
      refine gg_fg [false, false] [none, none] rfl ?_
      exact hk104 (-9 : Int32) h
    · replace h := gg_th h hc
      refine gg_aload_n dX9_faultOf_93 rfl ?_
      refine gg_get 0 fl_X9_26 dX9_faultOf_94 rfl rfl ?_
      refine gg_iload_n dX9_faultOf_97 rfl ?_
      obtain ⟨hb98, h⟩ := gg_ck h
      refine gg_iald 1 dX9_faultOf_98 rfl hb98 ?_
      refine gg_goto 104 dX9_faultOf_99 (by decide) ?_
      refine gg_fg [false, false] [none, none] rfl ?_
      exact hk104 (c_textSizes a0.toNatClampNeg) h
def wd_X9_fault (c_latest : Int32) (c_asked : Int32) (c_upper : Int64) (c_lower : Int64) (c_n : Int32) (c_readAt : Int32) (c_readMany : Int32) (c_readFood : Int32) (c_isHead : Int32) (c_backMany : Int32) (c_deedMany : Int32) (c_whole : Int64) (c_wellSum : Int64) (c_strongSum : Int64) (c_hash : Int64) (c_came : Nat → Int32) (c_textSizes : Nat → Int32) (c_bytes : Nat → Int32) (c_readWinds : Nat → Int32) (c_readHut : Nat → Int32) : va_W := [(0, .inr (8, [.int c_latest, .ref 1, .int c_asked, .long c_upper, .long c_lower, .ref 2, .ref 3, .ref 4, .ref 5, .ref 6, .int c_n, .ref 7, .ref 8, .ref 9, .ref 10, .int c_readAt, .int c_readMany, .int c_readFood, .int c_isHead, .ref 11, .ref 12, .ref 13, .int c_backMany, .int c_deedMany, .ref 14, .ref 15, .ref 16, .ref 17, .ref 18, .ref 19, .ref 20, .ref 21, .ref 22, .ref 23, .ref 24, .long c_whole, .long c_wellSum, .long c_strongSum, .long c_hash])), (1, .inl (0, 6, .inl c_came)), (5, .inl (0, 4, .inl c_textSizes)), (6, .inl (1, 240, .inl c_bytes)), (11, .inl (0, 4, .inl c_readWinds)), (12, .inl (0, 24, .inl c_readHut))]
def MD_X9_fault : gg_M := (yX9_fault, cX9_fault, 2, some .int, 4, 91)
theorem nV_X9_fault : gg_nV MD_X9_fault 1 := ⟨⟨gg_mem (by decide +kernel) rfl, gg_mem cw_X9_fault rfl, by decide, by decide, by decide +kernel⟩, gg_mem (by decide +kernel) rfl, gg_mem (by decide +kernel) rfl⟩
def f_X9_fault (a0 : Int32) (c_latest : Int32) (c_readAt : Int32) (c_readMany : Int32) (c_readFood : Int32) (c_isHead : Int32) (c_came : Nat → Int32) (c_textSizes : Nat → Int32) (c_bytes : Nat → Int32) (c_readWinds : Nat → Int32) (c_readHut : Nat → Int32) : Option (Int32 × (Int32) × (Int32) × (Int32) × (Int32) × (Int32) × (Nat → Int32) × (Nat → Int32) × (Nat → Int32)) := (f_X9_isText a0).bind (fun v1 => (if v1 = (0 : Int32) then (some ((-1 : Int32), c_latest, c_readAt, c_readMany, c_readFood, c_isHead, c_came, c_readWinds, c_readHut)) else gg_chk (gg_in a0 4) (gg_lt (fun (s0_31 : Int32) (c_latest_31 : Int32) (c_readAt_31 : Int32) (c_readMany_31 : Int32) (c_readFood_31 : Int32) (c_isHead_31 : Int32) (c_came_31 : Nat → Int32) (c_readWinds_31 : Nat → Int32) (c_readHut_31 : Nat → Int32) => (some (s0_31, c_latest_31, c_readAt_31, c_readMany_31, c_readFood_31, c_isHead_31, c_came_31, c_readWinds_31, c_readHut_31))) (fun k31 => (if (0 : Int32) ≤ (c_textSizes a0.toNatClampNeg) then gg_b7 (f_X9_faultOf a0 c_readAt c_readMany c_readFood c_isHead c_textSizes c_bytes c_readWinds c_readHut) (fun v2_0 v2_1 v2_2 v2_3 v2_4 v2_5 v2_6 => (k31 v2_0 c_latest v2_1 v2_2 v2_3 v2_4 c_came v2_5 v2_6)) else gg_b3 (f_X9_meets (1 : Int32) c_latest c_came) (fun v3_0 v3_1 v3_2 => (k31 v3_0 v3_1 c_readAt c_readMany c_readFood c_isHead v3_2 c_readWinds c_readHut)))))))
set_option maxRecDepth 20000 in
set_option maxHeartbeats 8000000 in
theorem C_X9_fault (a0 : Int32) (c_latest : Int32) (c_asked : Int32) (c_upper : Int64) (c_lower : Int64) (c_n : Int32) (c_readAt : Int32) (c_readMany : Int32) (c_readFood : Int32) (c_isHead : Int32) (c_backMany : Int32) (c_deedMany : Int32) (c_whole : Int64) (c_wellSum : Int64) (c_strongSum : Int64) (c_hash : Int64) (c_came : Nat → Int32) (c_textSizes : Nat → Int32) (c_bytes : Nat → Int32) (c_readWinds : Nat → Int32) (c_readHut : Nat → Int32) {r0 : Int32} {r1 : (Int32)} {r2 : (Int32)} {r3 : (Int32)} {r4 : (Int32)} {r5 : (Int32)} {r6 : (Nat → Int32)} {r7 : (Nat → Int32)} {r8 : (Nat → Int32)} (h : f_X9_fault a0 c_latest c_readAt c_readMany c_readFood c_isHead c_came c_textSizes c_bytes c_readWinds c_readHut = some (r0, r1, r2, r3, r4, r5, r6, r7, r8)) : gg_C MD_X9_fault [.ref 0, .int a0] (wd_X9_fault c_latest c_asked c_upper c_lower c_n c_readAt c_readMany c_readFood c_isHead c_backMany c_deedMany c_whole c_wellSum c_strongSum c_hash c_came c_textSizes c_bytes c_readWinds c_readHut) (some (.int r0)) (wd_X9_fault r1 c_asked c_upper c_lower c_n r2 r3 r4 r5 c_backMany c_deedMany c_whole c_wellSum c_strongSum c_hash r6 c_textSizes c_bytes r7 r8) := by
  refine gg_ofG [some (.ref 0), some (.int a0)] (plainFor_of_name (by decide)) (Nat.le_of_ble_eq_true rfl) rfl ?_
  unfold f_X9_fault at h
  refine gg_iload_n dX9_fault_0 rfl ?_
  obtain ⟨v1, hv1, h⟩ := gg_bd h
  refine gg_callS (gg_sg []) [] (wd_X9_fault c_latest c_asked c_upper c_lower c_n c_readAt c_readMany c_readFood c_isHead c_backMany c_deedMany c_whole c_wellSum c_strongSum c_hash c_came c_textSizes c_bytes c_readWinds c_readHut) (C_X9_isText a0 hv1) nS_X9_isText ml_X9_117 rfl rfl rfl rfl rfl rfl rfl [0, 1, 2, 3, 4, 5] 6 rfl rfl rfl rfl rfl ⟨Nat.le_of_ble_eq_true rfl, Nat.le_of_ble_eq_true rfl⟩ (Nat.le_of_ble_eq_true rfl) dX9_fault_1 [.int v1] rfl ?_
  refine gg_if_ne 9 dX9_fault_4 (by decide) (fun hc => ?_) (fun hc => ?_)
  · replace h := gg_el h hc
    refine gg_aload_n dX9_fault_9 rfl ?_
    refine gg_get 0 fl_X9_26 dX9_fault_10 rfl rfl ?_
    refine gg_iload_n dX9_fault_13 rfl ?_
    obtain ⟨hb14, h⟩ := gg_ck h
    refine gg_iald 2 dX9_fault_14 rfl hb14 ?_
    obtain ⟨k31, hke31, h⟩ := gg_lte h
    have hk31 : ∀ (s0_31 : Int32) (c_latest_31 : Int32) (c_readAt_31 : Int32) (c_readMany_31 : Int32) (c_readFood_31 : Int32) (c_isHead_31 : Int32) (c_came_31 : Nat → Int32) (c_readWinds_31 : Nat → Int32) (c_readHut_31 : Nat → Int32), k31 s0_31 c_latest_31 c_readAt_31 c_readMany_31 c_readFood_31 c_isHead_31 c_came_31 c_readWinds_31 c_readHut_31 = some (r0, r1, r2, r3, r4, r5, r6, r7, r8) → gg_G MD_X9_fault 31 [none, none] [.int s0_31] (wd_X9_fault c_latest_31 c_asked c_upper c_lower c_n c_readAt_31 c_readMany_31 c_readFood_31 c_isHead_31 c_backMany c_deedMany c_whole c_wellSum c_strongSum c_hash c_came_31 c_textSizes c_bytes c_readWinds_31 c_readHut_31) (some (.int r0)) (wd_X9_fault r1 c_asked c_upper c_lower c_n r2 r3 r4 r5 c_backMany c_deedMany c_whole c_wellSum c_strongSum c_hash r6 c_textSizes c_bytes r7 r8) := by
      intro s0_31 c_latest_31 c_readAt_31 c_readMany_31 c_readFood_31 c_isHead_31 c_came_31 c_readWinds_31 c_readHut_31 h
      subst hke31
      cases h
      exact gg_iret dX9_fault_31 rfl
    clear hke31
    refine gg_if_ge 26 dX9_fault_15 (by decide) (fun hc => ?_) (fun hc => ?_)
    · replace h := gg_th h hc
      refine gg_aload_n dX9_fault_26 rfl ?_
      refine gg_iload_n dX9_fault_27 rfl ?_
      obtain ⟨v2_0, v2_1, v2_2, v2_3, v2_4, v2_5, v2_6, hv2, h⟩ := gg_bd7 h
      refine gg_callV (gg_sg [0]) [0, 2, 3, 4, 5] (wd_X9_fault c_latest c_asked c_upper c_lower c_n v2_1 v2_2 v2_3 v2_4 c_backMany c_deedMany c_whole c_wellSum c_strongSum c_hash c_came c_textSizes c_bytes v2_5 v2_6) 0 (C_X9_faultOf a0 c_latest c_asked c_upper c_lower c_n c_readAt c_readMany c_readFood c_isHead c_backMany c_deedMany c_whole c_wellSum c_strongSum c_hash c_textSizes c_bytes c_readWinds c_readHut hv2) nV_X9_faultOf ml_X9_151 rfl rfl rfl rfl rfl rfl rfl rfl rfl rfl [1] 6 rfl rfl rfl rfl rfl ⟨Nat.le_of_ble_eq_true rfl, Nat.le_of_ble_eq_true rfl⟩ (Nat.le_of_ble_eq_true rfl) dX9_fault_28 [.int v2_0] rfl ?_
      refine gg_fg [false, false] [none, none] rfl ?_
      exact hk31 v2_0 c_latest v2_1 v2_2 v2_3 v2_4 c_came v2_5 v2_6 h
    · replace h := gg_el h hc
      refine gg_aload_n dX9_fault_18 rfl ?_
      refine gg_iconst (1 : Int32) dX9_fault_19 (by decide) ?_
      obtain ⟨v3_0, v3_1, v3_2, hv3, h⟩ := gg_bd3 h
      refine gg_callV (gg_sg [0]) [0, 1] (wd_X9_fault v3_1 c_asked c_upper c_lower c_n c_readAt c_readMany c_readFood c_isHead c_backMany c_deedMany c_whole c_wellSum c_strongSum c_hash v3_2 c_textSizes c_bytes c_readWinds c_readHut) 0 (C_X9_meets (1 : Int32) c_latest c_asked c_upper c_lower c_n c_readAt c_readMany c_readFood c_isHead c_backMany c_deedMany c_whole c_wellSum c_strongSum c_hash c_came hv3) nV_X9_meets ml_X9_106 rfl rfl rfl rfl rfl rfl rfl rfl rfl rfl [2, 3, 4, 5] 6 rfl rfl rfl rfl rfl ⟨Nat.le_of_ble_eq_true rfl, Nat.le_of_ble_eq_true rfl⟩ (Nat.le_of_ble_eq_true rfl) dX9_fault_20 [.int v3_0] rfl ?_
      refine gg_goto 31 dX9_fault_23 (by decide) ?_
      refine gg_fg [false, false] [none, none] rfl ?_
      exact hk31 v3_0 v3_1 c_readAt c_readMany c_readFood c_isHead v3_2 c_readWinds c_readHut h
  · replace h := gg_th h hc
    refine gg_iconst (-1 : Int32) dX9_fault_7 (by decide) ?_
    cases h
    exact gg_iret dX9_fault_8 rfl
def wd_X9_front (c_latest : Int32) (c_asked : Int32) (c_upper : Int64) (c_lower : Int64) (c_n : Int32) (c_readAt : Int32) (c_readMany : Int32) (c_readFood : Int32) (c_isHead : Int32) (c_backMany : Int32) (c_deedMany : Int32) (c_whole : Int64) (c_wellSum : Int64) (c_strongSum : Int64) (c_hash : Int64) (c_came : Nat → Int32) (c_textSizes : Nat → Int32) (c_bytes : Nat → Int32) (c_kindOf : Nat → Int32) (c_winds : Nat → Int32) (c_now : Nat → Int32) (c_readWinds : Nat → Int32) (c_readHut : Nat → Int32) (c_isKept : Nat → Int32) : va_W := [(0, .inr (8, [.int c_latest, .ref 1, .int c_asked, .long c_upper, .long c_lower, .ref 2, .ref 3, .ref 4, .ref 5, .ref 6, .int c_n, .ref 7, .ref 8, .ref 9, .ref 10, .int c_readAt, .int c_readMany, .int c_readFood, .int c_isHead, .ref 11, .ref 12, .ref 13, .int c_backMany, .int c_deedMany, .ref 14, .ref 15, .ref 16, .ref 17, .ref 18, .ref 19, .ref 20, .ref 21, .ref 22, .ref 23, .ref 24, .long c_whole, .long c_wellSum, .long c_strongSum, .long c_hash])), (1, .inl (0, 6, .inl c_came)), (5, .inl (0, 4, .inl c_textSizes)), (6, .inl (1, 240, .inl c_bytes)), (7, .inl (0, 6, .inl c_kindOf)), (8, .inl (0, 4, .inl c_winds)), (9, .inl (0, 26, .inl c_now)), (11, .inl (0, 4, .inl c_readWinds)), (12, .inl (0, 24, .inl c_readHut)), (15, .inl (2, 3, .inl c_isKept))]
def MD_X9_front : gg_M := (yX9_front, cX9_front, 3, some .int, 4, 91)
theorem nV_X9_front : gg_nV MD_X9_front 1 := ⟨⟨gg_mem (by decide +kernel) rfl, gg_mem cw_X9_front rfl, by decide, by decide, by decide +kernel⟩, gg_mem (by decide +kernel) rfl, gg_mem (by decide +kernel) rfl⟩
def lp_X9_front_47 {β : Type} (c_readWinds : Nat → Int32) (k70 : (Nat → Int32) → Option β) : Nat → (Int32) → (Nat → Int32) → Option β
  | 0, _, _ => none
  | n + 1, x2_47, c_winds_47 => (if (4 : Int32) ≤ x2_47 then (k70 c_winds_47) else gg_chk (gg_in x2_47 4) (gg_chk (gg_in x2_47 4) ((lp_X9_front_47 c_readWinds k70 n (x2_47 + (1 : Int32)) (upd c_winds_47 x2_47.toNatClampNeg (c_readWinds x2_47.toNatClampNeg))))))
def lp_X9_front_72 {β : Type}  (k91 : (Nat → Int32) → Option β) : Nat → (Int32) → (Nat → Int32) → Option β
  | 0, _, _ => none
  | n + 1, x2_72, c_now_72 => (if (26 : Int32) ≤ x2_72 then (k91 c_now_72) else gg_chk (gg_in x2_72 26) ((lp_X9_front_72 k91 n (x2_72 + (1 : Int32)) (upd c_now_72 x2_72.toNatClampNeg (0 : Int32)))))
def lp_X9_front_103 {β : Type} (c_n : Int32) (c_readHut : Nat → Int32) (k204 : (Nat → Int32) → (Nat → Int32) → Option β) : Nat → (Int32) → (Nat → Int32) → (Nat → Int32) → Option β
  | 0, _, _, _ => none
  | n + 1, x2_103, c_kindOf_103, c_now_103 => (if c_n ≤ x2_103 then (k204 c_kindOf_103 c_now_103) else gg_chk (gg_in ((4 : Int32) * x2_103) 24) (gg_chk (gg_in x2_103 6) (gg_chk (gg_in (((4 : Int32) * x2_103) + (1 : Int32)) 24) (gg_chk (gg_in ((2 : Int32) + x2_103) 26) (gg_chk (gg_in (((4 : Int32) * x2_103) + (2 : Int32)) 24) (gg_chk (gg_in ((8 : Int32) + x2_103) 26) (gg_chk (gg_in (((4 : Int32) * x2_103) + (3 : Int32)) 24) (gg_chk (gg_in ((14 : Int32) + x2_103) 26) (gg_chk (gg_in ((2 : Int32) + x2_103) 26) (gg_chk (gg_in ((20 : Int32) + x2_103) 26) ((lp_X9_front_103 c_n c_readHut k204 n (x2_103 + (1 : Int32)) (upd c_kindOf_103 x2_103.toNatClampNeg (c_readHut ((4 : Int32) * x2_103).toNatClampNeg)) (upd (upd (upd (upd c_now_103 ((2 : Int32) + x2_103).toNatClampNeg (c_readHut (((4 : Int32) * x2_103) + (1 : Int32)).toNatClampNeg)) ((8 : Int32) + x2_103).toNatClampNeg (c_readHut (((4 : Int32) * x2_103) + (2 : Int32)).toNatClampNeg)) ((14 : Int32) + x2_103).toNatClampNeg (c_readHut (((4 : Int32) * x2_103) + (3 : Int32)).toNatClampNeg)) ((20 : Int32) + x2_103).toNatClampNeg ((upd (upd (upd c_now_103 ((2 : Int32) + x2_103).toNatClampNeg (c_readHut (((4 : Int32) * x2_103) + (1 : Int32)).toNatClampNeg)) ((8 : Int32) + x2_103).toNatClampNeg (c_readHut (((4 : Int32) * x2_103) + (2 : Int32)).toNatClampNeg)) ((14 : Int32) + x2_103).toNatClampNeg (c_readHut (((4 : Int32) * x2_103) + (3 : Int32)).toNatClampNeg)) ((2 : Int32) + x2_103).toNatClampNeg))))))))))))))
def lp_X9_front_211 {β : Type}  (k229 : (Nat → Int32) → Option β) : Nat → (Int32) → (Nat → Int32) → Option β
  | 0, _, _ => none
  | n + 1, x2_211, c_isKept_211 => (if (3 : Int32) ≤ x2_211 then (k229 c_isKept_211) else gg_chk (gg_in x2_211 3) ((lp_X9_front_211 k229 n (x2_211 + (1 : Int32)) (upd c_isKept_211 x2_211.toNatClampNeg (vp_nar .boolean (0 : Int32))))))
def f_X9_front (a0 : Int32) (c_latest : Int32) (c_n : Int32) (c_readAt : Int32) (c_readMany : Int32) (c_readFood : Int32) (c_isHead : Int32) (c_deedMany : Int32) (c_came : Nat → Int32) (c_textSizes : Nat → Int32) (c_bytes : Nat → Int32) (c_kindOf : Nat → Int32) (c_winds : Nat → Int32) (c_now : Nat → Int32) (c_readWinds : Nat → Int32) (c_readHut : Nat → Int32) (c_isKept : Nat → Int32) : Option (Int32 × (Int32) × (Int32) × (Int32) × (Int32) × (Int32) × (Int32) × (Int32) × (Nat → Int32) × (Nat → Int32) × (Nat → Int32) × (Nat → Int32) × (Nat → Int32) × (Nat → Int32) × (Nat → Int32)) := (f_X9_isText a0).bind (fun v1 => (if v1 = (0 : Int32) then (some ((-1 : Int32), c_latest, c_n, c_readAt, c_readMany, c_readFood, c_isHead, c_deedMany, c_came, c_kindOf, c_winds, c_now, c_readWinds, c_readHut, c_isKept)) else gg_chk (gg_in a0 4) ((if (0 : Int32) ≤ (c_textSizes a0.toNatClampNeg) then gg_b7 (f_X9_faultOf a0 c_readAt c_readMany c_readFood c_isHead c_textSizes c_bytes c_readWinds c_readHut) (fun v2_0 v2_1 v2_2 v2_3 v2_4 v2_5 v2_6 => (if v2_0 = (-9 : Int32) then (lp_X9_front_47 v2_5 (fun (c_winds_70 : Nat → Int32) => (lp_X9_front_72 (fun (c_now_91 : Nat → Int32) => gg_chk (gg_in (1 : Int32) 26) ((lp_X9_front_103 v2_2 v2_6 (fun (c_kindOf_204 : Nat → Int32) (c_now_204 : Nat → Int32) => (lp_X9_front_211 (fun (c_isKept_229 : Nat → Int32) => (some (v2_2, c_latest, v2_2, v2_1, v2_2, v2_3, v2_4, (0 : Int32), c_came, c_kindOf_204, c_winds_70, c_now_204, v2_5, v2_6, c_isKept_229))) gg_fuel (0 : Int32) c_isKept)) gg_fuel (0 : Int32) c_kindOf (upd c_now_91 (1 : Int32).toNatClampNeg v2_3)))) gg_fuel (0 : Int32) c_now)) gg_fuel (0 : Int32) c_winds) else (some ((-4 : Int32), c_latest, c_n, v2_1, v2_2, v2_3, v2_4, c_deedMany, c_came, c_kindOf, c_winds, c_now, v2_5, v2_6, c_isKept)))) else gg_b3 (f_X9_meets (1 : Int32) c_latest c_came) (fun v3_0 v3_1 v3_2 => (some (v3_0, v3_1, c_n, c_readAt, c_readMany, c_readFood, c_isHead, c_deedMany, v3_2, c_kindOf, c_winds, c_now, c_readWinds, c_readHut, c_isKept)))))))
set_option maxRecDepth 20000 in
set_option maxHeartbeats 4000000 in
theorem lq_X9_front_47 {β : Type} {res : β} {rr : Option Value} {ww : va_W} (c_latest : Int32) (c_asked : Int32) (c_upper : Int64) (c_lower : Int64) (c_n : Int32) (c_readAt : Int32) (c_readMany : Int32) (c_readFood : Int32) (c_isHead : Int32) (c_backMany : Int32) (c_deedMany : Int32) (c_whole : Int64) (c_wellSum : Int64) (c_strongSum : Int64) (c_hash : Int64) (c_came : Nat → Int32) (c_textSizes : Nat → Int32) (c_bytes : Nat → Int32) (c_kindOf : Nat → Int32) (c_now : Nat → Int32) (c_readWinds : Nat → Int32) (c_readHut : Nat → Int32) (c_isKept : Nat → Int32) (k70 : (Nat → Int32) → Option β) (hk70 : ∀ (c_winds_70 : Nat → Int32), k70 c_winds_70 = some res → gg_G MD_X9_front 70 [some (.ref 0), none, none] [] (wd_X9_front c_latest c_asked c_upper c_lower c_n c_readAt c_readMany c_readFood c_isHead c_backMany c_deedMany c_whole c_wellSum c_strongSum c_hash c_came c_textSizes c_bytes c_kindOf c_winds_70 c_now c_readWinds c_readHut c_isKept) rr ww) : ∀ (n : Nat) (x2_47 : Int32) (c_winds_47 : Nat → Int32), lp_X9_front_47 c_readWinds k70 n x2_47 c_winds_47 = some res → gg_G MD_X9_front 47 [some (.ref 0), none, some (.int x2_47)] [] (wd_X9_front c_latest c_asked c_upper c_lower c_n c_readAt c_readMany c_readFood c_isHead c_backMany c_deedMany c_whole c_wellSum c_strongSum c_hash c_came c_textSizes c_bytes c_kindOf c_winds_47 c_now c_readWinds c_readHut c_isKept) rr ww := by
  intro n
  induction n with
  | zero =>
    intro x2_47 c_winds_47 h
    exact nomatch (show (none : Option β) = some res from h)
  | succ n ih =>
    intro x2_47 c_winds_47 h
    rw [lp_X9_front_47] at h
    refine gg_iload_n dX9_front_47 rfl ?_
    refine gg_iconst (4 : Int32) dX9_front_48 (by decide) ?_
    refine gg_icmp_ge 70 dX9_front_49 (by decide) (fun hc => ?_) (fun hc => ?_)
    · replace h := gg_th h hc
      refine gg_fg [true, false, false] [some (.ref 0), none, none] rfl ?_
      exact hk70 c_winds_47 h
    · replace h := gg_el h hc
      refine gg_aload_n dX9_front_52 rfl ?_
      refine gg_get 0 fl_X9_36 dX9_front_53 rfl rfl ?_
      refine gg_iload_n dX9_front_56 rfl ?_
      refine gg_aload_n dX9_front_57 rfl ?_
      refine gg_get 0 fl_X9_45 dX9_front_58 rfl rfl ?_
      refine gg_iload_n dX9_front_61 rfl ?_
      obtain ⟨hb62, h⟩ := gg_ck h
      refine gg_iald 7 dX9_front_62 rfl hb62 ?_
      obtain ⟨hb63, h⟩ := gg_ck h
      refine gg_iast 5 (wd_X9_front c_latest c_asked c_upper c_lower c_n c_readAt c_readMany c_readFood c_isHead c_backMany c_deedMany c_whole c_wellSum c_strongSum c_hash c_came c_textSizes c_bytes c_kindOf (upd c_winds_47 x2_47.toNatClampNeg (c_readWinds x2_47.toNatClampNeg)) c_now c_readWinds c_readHut c_isKept) dX9_front_63 rfl hb63 rfl ?_
      refine gg_iinc (x2_47 + (1 : Int32)) [some (.ref 0), none, some (.int (x2_47 + (1 : Int32)))] dX9_front_64 rfl rfl rfl (Nat.le_of_ble_eq_true rfl) rfl ?_
      refine gg_goto 47 dX9_front_67 (by decide) ?_
      exact ih (x2_47 + (1 : Int32)) (upd c_winds_47 x2_47.toNatClampNeg (c_readWinds x2_47.toNatClampNeg)) h
set_option maxRecDepth 20000 in
set_option maxHeartbeats 4000000 in
theorem lq_X9_front_72 {β : Type} {res : β} {rr : Option Value} {ww : va_W} (c_latest : Int32) (c_asked : Int32) (c_upper : Int64) (c_lower : Int64) (c_n : Int32) (c_readAt : Int32) (c_readMany : Int32) (c_readFood : Int32) (c_isHead : Int32) (c_backMany : Int32) (c_deedMany : Int32) (c_whole : Int64) (c_wellSum : Int64) (c_strongSum : Int64) (c_hash : Int64) (c_came : Nat → Int32) (c_textSizes : Nat → Int32) (c_bytes : Nat → Int32) (c_kindOf : Nat → Int32) (c_winds : Nat → Int32) (c_readWinds : Nat → Int32) (c_readHut : Nat → Int32) (c_isKept : Nat → Int32) (k91 : (Nat → Int32) → Option β) (hk91 : ∀ (c_now_91 : Nat → Int32), k91 c_now_91 = some res → gg_G MD_X9_front 91 [some (.ref 0), none, none] [] (wd_X9_front c_latest c_asked c_upper c_lower c_n c_readAt c_readMany c_readFood c_isHead c_backMany c_deedMany c_whole c_wellSum c_strongSum c_hash c_came c_textSizes c_bytes c_kindOf c_winds c_now_91 c_readWinds c_readHut c_isKept) rr ww) : ∀ (n : Nat) (x2_72 : Int32) (c_now_72 : Nat → Int32), lp_X9_front_72 k91 n x2_72 c_now_72 = some res → gg_G MD_X9_front 72 [some (.ref 0), none, some (.int x2_72)] [] (wd_X9_front c_latest c_asked c_upper c_lower c_n c_readAt c_readMany c_readFood c_isHead c_backMany c_deedMany c_whole c_wellSum c_strongSum c_hash c_came c_textSizes c_bytes c_kindOf c_winds c_now_72 c_readWinds c_readHut c_isKept) rr ww := by
  intro n
  induction n with
  | zero =>
    intro x2_72 c_now_72 h
    exact nomatch (show (none : Option β) = some res from h)
  | succ n ih =>
    intro x2_72 c_now_72 h
    rw [lp_X9_front_72] at h
    refine gg_iload_n dX9_front_72 rfl ?_
    refine gg_bipush (26 : Int32) dX9_front_73 (by decide) ?_
    refine gg_icmp_ge 91 dX9_front_75 (by decide) (fun hc => ?_) (fun hc => ?_)
    · replace h := gg_th h hc
      refine gg_fg [true, false, false] [some (.ref 0), none, none] rfl ?_
      exact hk91 c_now_72 h
    · replace h := gg_el h hc
      refine gg_aload_n dX9_front_78 rfl ?_
      refine gg_get 0 fl_X9_39 dX9_front_79 rfl rfl ?_
      refine gg_iload_n dX9_front_82 rfl ?_
      refine gg_iconst (0 : Int32) dX9_front_83 (by decide) ?_
      obtain ⟨hb84, h⟩ := gg_ck h
      refine gg_iast 6 (wd_X9_front c_latest c_asked c_upper c_lower c_n c_readAt c_readMany c_readFood c_isHead c_backMany c_deedMany c_whole c_wellSum c_strongSum c_hash c_came c_textSizes c_bytes c_kindOf c_winds (upd c_now_72 x2_72.toNatClampNeg (0 : Int32)) c_readWinds c_readHut c_isKept) dX9_front_84 rfl hb84 rfl ?_
      refine gg_iinc (x2_72 + (1 : Int32)) [some (.ref 0), none, some (.int (x2_72 + (1 : Int32)))] dX9_front_85 rfl rfl rfl (Nat.le_of_ble_eq_true rfl) rfl ?_
      refine gg_goto 72 dX9_front_88 (by decide) ?_
      exact ih (x2_72 + (1 : Int32)) (upd c_now_72 x2_72.toNatClampNeg (0 : Int32)) h
set_option maxRecDepth 20000 in
set_option maxHeartbeats 4000000 in
theorem lq_X9_front_103 {β : Type} {res : β} {rr : Option Value} {ww : va_W} (c_latest : Int32) (c_asked : Int32) (c_upper : Int64) (c_lower : Int64) (c_n : Int32) (c_readAt : Int32) (c_readMany : Int32) (c_readFood : Int32) (c_isHead : Int32) (c_backMany : Int32) (c_deedMany : Int32) (c_whole : Int64) (c_wellSum : Int64) (c_strongSum : Int64) (c_hash : Int64) (c_came : Nat → Int32) (c_textSizes : Nat → Int32) (c_bytes : Nat → Int32) (c_winds : Nat → Int32) (c_readWinds : Nat → Int32) (c_readHut : Nat → Int32) (c_isKept : Nat → Int32) (k204 : (Nat → Int32) → (Nat → Int32) → Option β) (hk204 : ∀ (c_kindOf_204 : Nat → Int32) (c_now_204 : Nat → Int32), k204 c_kindOf_204 c_now_204 = some res → gg_G MD_X9_front 204 [some (.ref 0), none, none] [] (wd_X9_front c_latest c_asked c_upper c_lower c_n c_readAt c_readMany c_readFood c_isHead c_backMany c_deedMany c_whole c_wellSum c_strongSum c_hash c_came c_textSizes c_bytes c_kindOf_204 c_winds c_now_204 c_readWinds c_readHut c_isKept) rr ww) : ∀ (n : Nat) (x2_103 : Int32) (c_kindOf_103 : Nat → Int32) (c_now_103 : Nat → Int32), lp_X9_front_103 c_n c_readHut k204 n x2_103 c_kindOf_103 c_now_103 = some res → gg_G MD_X9_front 103 [some (.ref 0), none, some (.int x2_103)] [] (wd_X9_front c_latest c_asked c_upper c_lower c_n c_readAt c_readMany c_readFood c_isHead c_backMany c_deedMany c_whole c_wellSum c_strongSum c_hash c_came c_textSizes c_bytes c_kindOf_103 c_winds c_now_103 c_readWinds c_readHut c_isKept) rr ww := by
  intro n
  induction n with
  | zero =>
    intro x2_103 c_kindOf_103 c_now_103 h
    exact nomatch (show (none : Option β) = some res from h)
  | succ n ih =>
    intro x2_103 c_kindOf_103 c_now_103 h
    rw [lp_X9_front_103] at h
    refine gg_iload_n dX9_front_103 rfl ?_
    refine gg_aload_n dX9_front_104 rfl ?_
    refine gg_get 0 fl_X9_154 dX9_front_105 rfl rfl ?_
    refine gg_icmp_ge 204 dX9_front_108 (by decide) (fun hc => ?_) (fun hc => ?_)
    · replace h := gg_th h hc
      refine gg_fg [true, false, false] [some (.ref 0), none, none] rfl ?_
      exact hk204 c_kindOf_103 c_now_103 h
    · replace h := gg_el h hc
      refine gg_aload_n dX9_front_111 rfl ?_
      refine gg_get 0 fl_X9_33 dX9_front_112 rfl rfl ?_
      refine gg_iload_n dX9_front_115 rfl ?_
      refine gg_aload_n dX9_front_116 rfl ?_
      refine gg_get 0 fl_X9_48 dX9_front_117 rfl rfl ?_
      refine gg_iconst (4 : Int32) dX9_front_120 (by decide) ?_
      refine gg_iload_n dX9_front_121 rfl ?_
      refine gg_imul dX9_front_122 ?_
      obtain ⟨hb123, h⟩ := gg_ck h
      refine gg_iald 8 dX9_front_123 rfl hb123 ?_
      obtain ⟨hb124, h⟩ := gg_ck h
      refine gg_iast 4 (wd_X9_front c_latest c_asked c_upper c_lower c_n c_readAt c_readMany c_readFood c_isHead c_backMany c_deedMany c_whole c_wellSum c_strongSum c_hash c_came c_textSizes c_bytes (upd c_kindOf_103 x2_103.toNatClampNeg (c_readHut ((4 : Int32) * x2_103).toNatClampNeg)) c_winds c_now_103 c_readWinds c_readHut c_isKept) dX9_front_124 rfl hb124 rfl ?_
      refine gg_aload_n dX9_front_125 rfl ?_
      refine gg_get 0 fl_X9_39 dX9_front_126 rfl rfl ?_
      refine gg_iconst (2 : Int32) dX9_front_129 (by decide) ?_
      refine gg_iload_n dX9_front_130 rfl ?_
      refine gg_iadd dX9_front_131 ?_
      refine gg_aload_n dX9_front_132 rfl ?_
      refine gg_get 0 fl_X9_48 dX9_front_133 rfl rfl ?_
      refine gg_iconst (4 : Int32) dX9_front_136 (by decide) ?_
      refine gg_iload_n dX9_front_137 rfl ?_
      refine gg_imul dX9_front_138 ?_
      refine gg_iconst (1 : Int32) dX9_front_139 (by decide) ?_
      refine gg_iadd dX9_front_140 ?_
      obtain ⟨hb141, h⟩ := gg_ck h
      refine gg_iald 8 dX9_front_141 rfl hb141 ?_
      obtain ⟨hb142, h⟩ := gg_ck h
      refine gg_iast 6 (wd_X9_front c_latest c_asked c_upper c_lower c_n c_readAt c_readMany c_readFood c_isHead c_backMany c_deedMany c_whole c_wellSum c_strongSum c_hash c_came c_textSizes c_bytes (upd c_kindOf_103 x2_103.toNatClampNeg (c_readHut ((4 : Int32) * x2_103).toNatClampNeg)) c_winds (upd c_now_103 ((2 : Int32) + x2_103).toNatClampNeg (c_readHut (((4 : Int32) * x2_103) + (1 : Int32)).toNatClampNeg)) c_readWinds c_readHut c_isKept) dX9_front_142 rfl hb142 rfl ?_
      refine gg_aload_n dX9_front_143 rfl ?_
      refine gg_get 0 fl_X9_39 dX9_front_144 rfl rfl ?_
      refine gg_bipush (8 : Int32) dX9_front_147 (by decide) ?_
      refine gg_iload_n dX9_front_149 rfl ?_
      refine gg_iadd dX9_front_150 ?_
      refine gg_aload_n dX9_front_151 rfl ?_
      refine gg_get 0 fl_X9_48 dX9_front_152 rfl rfl ?_
      refine gg_iconst (4 : Int32) dX9_front_155 (by decide) ?_
      refine gg_iload_n dX9_front_156 rfl ?_
      refine gg_imul dX9_front_157 ?_
      refine gg_iconst (2 : Int32) dX9_front_158 (by decide) ?_
      refine gg_iadd dX9_front_159 ?_
      obtain ⟨hb160, h⟩ := gg_ck h
      refine gg_iald 8 dX9_front_160 rfl hb160 ?_
      obtain ⟨hb161, h⟩ := gg_ck h
      refine gg_iast 6 (wd_X9_front c_latest c_asked c_upper c_lower c_n c_readAt c_readMany c_readFood c_isHead c_backMany c_deedMany c_whole c_wellSum c_strongSum c_hash c_came c_textSizes c_bytes (upd c_kindOf_103 x2_103.toNatClampNeg (c_readHut ((4 : Int32) * x2_103).toNatClampNeg)) c_winds (upd (upd c_now_103 ((2 : Int32) + x2_103).toNatClampNeg (c_readHut (((4 : Int32) * x2_103) + (1 : Int32)).toNatClampNeg)) ((8 : Int32) + x2_103).toNatClampNeg (c_readHut (((4 : Int32) * x2_103) + (2 : Int32)).toNatClampNeg)) c_readWinds c_readHut c_isKept) dX9_front_161 rfl hb161 rfl ?_
      refine gg_aload_n dX9_front_162 rfl ?_
      refine gg_get 0 fl_X9_39 dX9_front_163 rfl rfl ?_
      refine gg_bipush (14 : Int32) dX9_front_166 (by decide) ?_
      refine gg_iload_n dX9_front_168 rfl ?_
      refine gg_iadd dX9_front_169 ?_
      refine gg_aload_n dX9_front_170 rfl ?_
      refine gg_get 0 fl_X9_48 dX9_front_171 rfl rfl ?_
      refine gg_iconst (4 : Int32) dX9_front_174 (by decide) ?_
      refine gg_iload_n dX9_front_175 rfl ?_
      refine gg_imul dX9_front_176 ?_
      refine gg_iconst (3 : Int32) dX9_front_177 (by decide) ?_
      refine gg_iadd dX9_front_178 ?_
      obtain ⟨hb179, h⟩ := gg_ck h
      refine gg_iald 8 dX9_front_179 rfl hb179 ?_
      obtain ⟨hb180, h⟩ := gg_ck h
      refine gg_iast 6 (wd_X9_front c_latest c_asked c_upper c_lower c_n c_readAt c_readMany c_readFood c_isHead c_backMany c_deedMany c_whole c_wellSum c_strongSum c_hash c_came c_textSizes c_bytes (upd c_kindOf_103 x2_103.toNatClampNeg (c_readHut ((4 : Int32) * x2_103).toNatClampNeg)) c_winds (upd (upd (upd c_now_103 ((2 : Int32) + x2_103).toNatClampNeg (c_readHut (((4 : Int32) * x2_103) + (1 : Int32)).toNatClampNeg)) ((8 : Int32) + x2_103).toNatClampNeg (c_readHut (((4 : Int32) * x2_103) + (2 : Int32)).toNatClampNeg)) ((14 : Int32) + x2_103).toNatClampNeg (c_readHut (((4 : Int32) * x2_103) + (3 : Int32)).toNatClampNeg)) c_readWinds c_readHut c_isKept) dX9_front_180 rfl hb180 rfl ?_
      refine gg_aload_n dX9_front_181 rfl ?_
      refine gg_get 0 fl_X9_39 dX9_front_182 rfl rfl ?_
      refine gg_bipush (20 : Int32) dX9_front_185 (by decide) ?_
      refine gg_iload_n dX9_front_187 rfl ?_
      refine gg_iadd dX9_front_188 ?_
      refine gg_aload_n dX9_front_189 rfl ?_
      refine gg_get 0 fl_X9_39 dX9_front_190 rfl rfl ?_
      refine gg_iconst (2 : Int32) dX9_front_193 (by decide) ?_
      refine gg_iload_n dX9_front_194 rfl ?_
      refine gg_iadd dX9_front_195 ?_
      obtain ⟨hb196, h⟩ := gg_ck h
      refine gg_iald 6 dX9_front_196 rfl hb196 ?_
      obtain ⟨hb197, h⟩ := gg_ck h
      refine gg_iast 6 (wd_X9_front c_latest c_asked c_upper c_lower c_n c_readAt c_readMany c_readFood c_isHead c_backMany c_deedMany c_whole c_wellSum c_strongSum c_hash c_came c_textSizes c_bytes (upd c_kindOf_103 x2_103.toNatClampNeg (c_readHut ((4 : Int32) * x2_103).toNatClampNeg)) c_winds (upd (upd (upd (upd c_now_103 ((2 : Int32) + x2_103).toNatClampNeg (c_readHut (((4 : Int32) * x2_103) + (1 : Int32)).toNatClampNeg)) ((8 : Int32) + x2_103).toNatClampNeg (c_readHut (((4 : Int32) * x2_103) + (2 : Int32)).toNatClampNeg)) ((14 : Int32) + x2_103).toNatClampNeg (c_readHut (((4 : Int32) * x2_103) + (3 : Int32)).toNatClampNeg)) ((20 : Int32) + x2_103).toNatClampNeg ((upd (upd (upd c_now_103 ((2 : Int32) + x2_103).toNatClampNeg (c_readHut (((4 : Int32) * x2_103) + (1 : Int32)).toNatClampNeg)) ((8 : Int32) + x2_103).toNatClampNeg (c_readHut (((4 : Int32) * x2_103) + (2 : Int32)).toNatClampNeg)) ((14 : Int32) + x2_103).toNatClampNeg (c_readHut (((4 : Int32) * x2_103) + (3 : Int32)).toNatClampNeg)) ((2 : Int32) + x2_103).toNatClampNeg)) c_readWinds c_readHut c_isKept) dX9_front_197 rfl hb197 rfl ?_
      refine gg_iinc (x2_103 + (1 : Int32)) [some (.ref 0), none, some (.int (x2_103 + (1 : Int32)))] dX9_front_198 rfl rfl rfl (Nat.le_of_ble_eq_true rfl) rfl ?_
      refine gg_goto 103 dX9_front_201 (by decide) ?_
      exact ih (x2_103 + (1 : Int32)) (upd c_kindOf_103 x2_103.toNatClampNeg (c_readHut ((4 : Int32) * x2_103).toNatClampNeg)) (upd (upd (upd (upd c_now_103 ((2 : Int32) + x2_103).toNatClampNeg (c_readHut (((4 : Int32) * x2_103) + (1 : Int32)).toNatClampNeg)) ((8 : Int32) + x2_103).toNatClampNeg (c_readHut (((4 : Int32) * x2_103) + (2 : Int32)).toNatClampNeg)) ((14 : Int32) + x2_103).toNatClampNeg (c_readHut (((4 : Int32) * x2_103) + (3 : Int32)).toNatClampNeg)) ((20 : Int32) + x2_103).toNatClampNeg ((upd (upd (upd c_now_103 ((2 : Int32) + x2_103).toNatClampNeg (c_readHut (((4 : Int32) * x2_103) + (1 : Int32)).toNatClampNeg)) ((8 : Int32) + x2_103).toNatClampNeg (c_readHut (((4 : Int32) * x2_103) + (2 : Int32)).toNatClampNeg)) ((14 : Int32) + x2_103).toNatClampNeg (c_readHut (((4 : Int32) * x2_103) + (3 : Int32)).toNatClampNeg)) ((2 : Int32) + x2_103).toNatClampNeg)) h
set_option maxRecDepth 20000 in
set_option maxHeartbeats 4000000 in
theorem lq_X9_front_211 {β : Type} {res : β} {rr : Option Value} {ww : va_W} (c_latest : Int32) (c_asked : Int32) (c_upper : Int64) (c_lower : Int64) (c_n : Int32) (c_readAt : Int32) (c_readMany : Int32) (c_readFood : Int32) (c_isHead : Int32) (c_backMany : Int32) (c_deedMany : Int32) (c_whole : Int64) (c_wellSum : Int64) (c_strongSum : Int64) (c_hash : Int64) (c_came : Nat → Int32) (c_textSizes : Nat → Int32) (c_bytes : Nat → Int32) (c_kindOf : Nat → Int32) (c_winds : Nat → Int32) (c_now : Nat → Int32) (c_readWinds : Nat → Int32) (c_readHut : Nat → Int32) (k229 : (Nat → Int32) → Option β) (hk229 : ∀ (c_isKept_229 : Nat → Int32), k229 c_isKept_229 = some res → gg_G MD_X9_front 229 [some (.ref 0), none, none] [] (wd_X9_front c_latest c_asked c_upper c_lower c_n c_readAt c_readMany c_readFood c_isHead c_backMany c_deedMany c_whole c_wellSum c_strongSum c_hash c_came c_textSizes c_bytes c_kindOf c_winds c_now c_readWinds c_readHut c_isKept_229) rr ww) : ∀ (n : Nat) (x2_211 : Int32) (c_isKept_211 : Nat → Int32), lp_X9_front_211 k229 n x2_211 c_isKept_211 = some res → gg_G MD_X9_front 211 [some (.ref 0), none, some (.int x2_211)] [] (wd_X9_front c_latest c_asked c_upper c_lower c_n c_readAt c_readMany c_readFood c_isHead c_backMany c_deedMany c_whole c_wellSum c_strongSum c_hash c_came c_textSizes c_bytes c_kindOf c_winds c_now c_readWinds c_readHut c_isKept_211) rr ww := by
  intro n
  induction n with
  | zero =>
    intro x2_211 c_isKept_211 h
    exact nomatch (show (none : Option β) = some res from h)
  | succ n ih =>
    intro x2_211 c_isKept_211 h
    rw [lp_X9_front_211] at h
    refine gg_iload_n dX9_front_211 rfl ?_
    refine gg_iconst (3 : Int32) dX9_front_212 (by decide) ?_
    refine gg_icmp_ge 229 dX9_front_213 (by decide) (fun hc => ?_) (fun hc => ?_)
    · replace h := gg_th h hc
      refine gg_fg [true, false, false] [some (.ref 0), none, none] rfl ?_
      exact hk229 c_isKept_211 h
    · replace h := gg_el h hc
      refine gg_aload_n dX9_front_216 rfl ?_
      refine gg_get 0 fl_X9_57 dX9_front_217 rfl rfl ?_
      refine gg_iload_n dX9_front_220 rfl ?_
      refine gg_iconst (0 : Int32) dX9_front_221 (by decide) ?_
      obtain ⟨hb222, h⟩ := gg_ck h
      refine gg_zast 9 (wd_X9_front c_latest c_asked c_upper c_lower c_n c_readAt c_readMany c_readFood c_isHead c_backMany c_deedMany c_whole c_wellSum c_strongSum c_hash c_came c_textSizes c_bytes c_kindOf c_winds c_now c_readWinds c_readHut (upd c_isKept_211 x2_211.toNatClampNeg (vp_nar .boolean (0 : Int32)))) dX9_front_222 rfl hb222 rfl ?_
      refine gg_iinc (x2_211 + (1 : Int32)) [some (.ref 0), none, some (.int (x2_211 + (1 : Int32)))] dX9_front_223 rfl rfl rfl (Nat.le_of_ble_eq_true rfl) rfl ?_
      refine gg_goto 211 dX9_front_226 (by decide) ?_
      exact ih (x2_211 + (1 : Int32)) (upd c_isKept_211 x2_211.toNatClampNeg (vp_nar .boolean (0 : Int32))) h
set_option maxRecDepth 20000 in
set_option maxHeartbeats 8000000 in
theorem C_X9_front (a0 : Int32) (c_latest : Int32) (c_asked : Int32) (c_upper : Int64) (c_lower : Int64) (c_n : Int32) (c_readAt : Int32) (c_readMany : Int32) (c_readFood : Int32) (c_isHead : Int32) (c_backMany : Int32) (c_deedMany : Int32) (c_whole : Int64) (c_wellSum : Int64) (c_strongSum : Int64) (c_hash : Int64) (c_came : Nat → Int32) (c_textSizes : Nat → Int32) (c_bytes : Nat → Int32) (c_kindOf : Nat → Int32) (c_winds : Nat → Int32) (c_now : Nat → Int32) (c_readWinds : Nat → Int32) (c_readHut : Nat → Int32) (c_isKept : Nat → Int32) {r0 : Int32} {r1 : (Int32)} {r2 : (Int32)} {r3 : (Int32)} {r4 : (Int32)} {r5 : (Int32)} {r6 : (Int32)} {r7 : (Int32)} {r8 : (Nat → Int32)} {r9 : (Nat → Int32)} {r10 : (Nat → Int32)} {r11 : (Nat → Int32)} {r12 : (Nat → Int32)} {r13 : (Nat → Int32)} {r14 : (Nat → Int32)} (h : f_X9_front a0 c_latest c_n c_readAt c_readMany c_readFood c_isHead c_deedMany c_came c_textSizes c_bytes c_kindOf c_winds c_now c_readWinds c_readHut c_isKept = some (r0, r1, r2, r3, r4, r5, r6, r7, r8, r9, r10, r11, r12, r13, r14)) : gg_C MD_X9_front [.ref 0, .int a0] (wd_X9_front c_latest c_asked c_upper c_lower c_n c_readAt c_readMany c_readFood c_isHead c_backMany c_deedMany c_whole c_wellSum c_strongSum c_hash c_came c_textSizes c_bytes c_kindOf c_winds c_now c_readWinds c_readHut c_isKept) (some (.int r0)) (wd_X9_front r1 c_asked c_upper c_lower r2 r3 r4 r5 r6 c_backMany r7 c_whole c_wellSum c_strongSum c_hash r8 c_textSizes c_bytes r9 r10 r11 r12 r13 r14) := by
  refine gg_ofG [some (.ref 0), some (.int a0), none] (plainFor_of_name (by decide)) (Nat.le_of_ble_eq_true rfl) rfl ?_
  unfold f_X9_front at h
  refine gg_iload_n dX9_front_0 rfl ?_
  obtain ⟨v1, hv1, h⟩ := gg_bd h
  refine gg_callS (gg_sg []) [] (wd_X9_front c_latest c_asked c_upper c_lower c_n c_readAt c_readMany c_readFood c_isHead c_backMany c_deedMany c_whole c_wellSum c_strongSum c_hash c_came c_textSizes c_bytes c_kindOf c_winds c_now c_readWinds c_readHut c_isKept) (C_X9_isText a0 hv1) nS_X9_isText ml_X9_117 rfl rfl rfl rfl rfl rfl rfl [0, 1, 2, 3, 4, 5, 6, 7, 8, 9] 10 rfl rfl rfl rfl rfl ⟨Nat.le_of_ble_eq_true rfl, Nat.le_of_ble_eq_true rfl⟩ (Nat.le_of_ble_eq_true rfl) dX9_front_1 [.int v1] rfl ?_
  refine gg_if_ne 9 dX9_front_4 (by decide) (fun hc => ?_) (fun hc => ?_)
  · replace h := gg_el h hc
    refine gg_aload_n dX9_front_9 rfl ?_
    refine gg_get 0 fl_X9_26 dX9_front_10 rfl rfl ?_
    refine gg_iload_n dX9_front_13 rfl ?_
    obtain ⟨hb14, h⟩ := gg_ck h
    refine gg_iald 2 dX9_front_14 rfl hb14 ?_
    refine gg_if_ge 24 dX9_front_15 (by decide) (fun hc => ?_) (fun hc => ?_)
    · replace h := gg_th h hc
      refine gg_aload_n dX9_front_24 rfl ?_
      refine gg_iload_n dX9_front_25 rfl ?_
      obtain ⟨v2_0, v2_1, v2_2, v2_3, v2_4, v2_5, v2_6, hv2, h⟩ := gg_bd7 h
      refine gg_callV (gg_sg [0]) [0, 2, 3, 7, 8] (wd_X9_front c_latest c_asked c_upper c_lower c_n v2_1 v2_2 v2_3 v2_4 c_backMany c_deedMany c_whole c_wellSum c_strongSum c_hash c_came c_textSizes c_bytes c_kindOf c_winds c_now v2_5 v2_6 c_isKept) 0 (C_X9_faultOf a0 c_latest c_asked c_upper c_lower c_n c_readAt c_readMany c_readFood c_isHead c_backMany c_deedMany c_whole c_wellSum c_strongSum c_hash c_textSizes c_bytes c_readWinds c_readHut hv2) nV_X9_faultOf ml_X9_151 rfl rfl rfl rfl rfl rfl rfl rfl rfl rfl [1, 4, 5, 6, 9] 10 rfl rfl rfl rfl rfl ⟨Nat.le_of_ble_eq_true rfl, Nat.le_of_ble_eq_true rfl⟩ (Nat.le_of_ble_eq_true rfl) dX9_front_26 [.int v2_0] rfl ?_
      refine gg_bipush (-9 : Int32) dX9_front_29 (by decide) ?_
      refine gg_icmp_eq 37 dX9_front_31 (by decide) (fun hc => ?_) (fun hc => ?_)
      · replace h := gg_th h hc
        refine gg_aload_n dX9_front_37 rfl ?_
        refine gg_aload_n dX9_front_38 rfl ?_
        refine gg_get 0 fl_X9_136 dX9_front_39 rfl rfl ?_
        refine gg_putf 0 (wd_X9_front c_latest c_asked c_upper c_lower v2_2 v2_1 v2_2 v2_3 v2_4 c_backMany c_deedMany c_whole c_wellSum c_strongSum c_hash c_came c_textSizes c_bytes c_kindOf c_winds c_now v2_5 v2_6 c_isKept) fl_X9_154 dX9_front_42 rfl (Nat.le_of_ble_eq_true rfl) (fun _ => ⟨rfl, rfl⟩) rfl ?_
        refine gg_iconst (0 : Int32) dX9_front_45 (by decide) ?_
        refine gg_istore_n [some (.ref 0), some (.int a0), some (.int (0 : Int32))] dX9_front_46 rfl (Nat.le_of_ble_eq_true rfl) rfl ?_
        refine gg_fg [true, false, true] [some (.ref 0), none, some (.int (0 : Int32))] rfl ?_
        refine lq_X9_front_47 c_latest c_asked c_upper c_lower v2_2 v2_1 v2_2 v2_3 v2_4 c_backMany c_deedMany c_whole c_wellSum c_strongSum c_hash c_came c_textSizes c_bytes c_kindOf c_now v2_5 v2_6 c_isKept _ ?_ gg_fuel (0 : Int32) c_winds h
        intro c_winds_70 h
        refine gg_iconst (0 : Int32) dX9_front_70 (by decide) ?_
        refine gg_istore_n [some (.ref 0), none, some (.int (0 : Int32))] dX9_front_71 rfl (Nat.le_of_ble_eq_true rfl) rfl ?_
        refine lq_X9_front_72 c_latest c_asked c_upper c_lower v2_2 v2_1 v2_2 v2_3 v2_4 c_backMany c_deedMany c_whole c_wellSum c_strongSum c_hash c_came c_textSizes c_bytes c_kindOf c_winds_70 v2_5 v2_6 c_isKept _ ?_ gg_fuel (0 : Int32) c_now h
        intro c_now_91 h
        refine gg_aload_n dX9_front_91 rfl ?_
        refine gg_get 0 fl_X9_39 dX9_front_92 rfl rfl ?_
        refine gg_iconst (1 : Int32) dX9_front_95 (by decide) ?_
        refine gg_aload_n dX9_front_96 rfl ?_
        refine gg_get 0 fl_X9_129 dX9_front_97 rfl rfl ?_
        obtain ⟨hb100, h⟩ := gg_ck h
        refine gg_iast 6 (wd_X9_front c_latest c_asked c_upper c_lower v2_2 v2_1 v2_2 v2_3 v2_4 c_backMany c_deedMany c_whole c_wellSum c_strongSum c_hash c_came c_textSizes c_bytes c_kindOf c_winds_70 (upd c_now_91 (1 : Int32).toNatClampNeg v2_3) v2_5 v2_6 c_isKept) dX9_front_100 rfl hb100 rfl ?_
        refine gg_iconst (0 : Int32) dX9_front_101 (by decide) ?_
        refine gg_istore_n [some (.ref 0), none, some (.int (0 : Int32))] dX9_front_102 rfl (Nat.le_of_ble_eq_true rfl) rfl ?_
        refine lq_X9_front_103 c_latest c_asked c_upper c_lower v2_2 v2_1 v2_2 v2_3 v2_4 c_backMany c_deedMany c_whole c_wellSum c_strongSum c_hash c_came c_textSizes c_bytes c_winds_70 v2_5 v2_6 c_isKept _ ?_ gg_fuel (0 : Int32) c_kindOf (upd c_now_91 (1 : Int32).toNatClampNeg v2_3) h
        intro c_kindOf_204 c_now_204 h
        refine gg_aload_n dX9_front_204 rfl ?_
        refine gg_iconst (0 : Int32) dX9_front_205 (by decide) ?_
        refine gg_putf 0 (wd_X9_front c_latest c_asked c_upper c_lower v2_2 v2_1 v2_2 v2_3 v2_4 c_backMany (0 : Int32) c_whole c_wellSum c_strongSum c_hash c_came c_textSizes c_bytes c_kindOf_204 c_winds_70 c_now_204 v2_5 v2_6 c_isKept) fl_X9_157 dX9_front_206 rfl (Nat.le_of_ble_eq_true rfl) (fun _ => ⟨rfl, rfl⟩) rfl ?_
        refine gg_iconst (0 : Int32) dX9_front_209 (by decide) ?_
        refine gg_istore_n [some (.ref 0), none, some (.int (0 : Int32))] dX9_front_210 rfl (Nat.le_of_ble_eq_true rfl) rfl ?_
        refine lq_X9_front_211 c_latest c_asked c_upper c_lower v2_2 v2_1 v2_2 v2_3 v2_4 c_backMany (0 : Int32) c_whole c_wellSum c_strongSum c_hash c_came c_textSizes c_bytes c_kindOf_204 c_winds_70 c_now_204 v2_5 v2_6 _ ?_ gg_fuel (0 : Int32) c_isKept h
        intro c_isKept_229 h
        refine gg_aload_n dX9_front_229 rfl ?_
        refine gg_get 0 fl_X9_154 dX9_front_230 rfl rfl ?_
        cases h
        exact gg_iret dX9_front_233 rfl
      · replace h := gg_el h hc
        refine gg_bipush (-4 : Int32) dX9_front_34 (by decide) ?_
        cases h
        exact gg_iret dX9_front_36 rfl
    · replace h := gg_el h hc
      refine gg_aload_n dX9_front_18 rfl ?_
      refine gg_iconst (1 : Int32) dX9_front_19 (by decide) ?_
      obtain ⟨v3_0, v3_1, v3_2, hv3, h⟩ := gg_bd3 h
      refine gg_callV (gg_sg [0]) [0, 1] (wd_X9_front v3_1 c_asked c_upper c_lower c_n c_readAt c_readMany c_readFood c_isHead c_backMany c_deedMany c_whole c_wellSum c_strongSum c_hash v3_2 c_textSizes c_bytes c_kindOf c_winds c_now c_readWinds c_readHut c_isKept) 0 (C_X9_meets (1 : Int32) c_latest c_asked c_upper c_lower c_n c_readAt c_readMany c_readFood c_isHead c_backMany c_deedMany c_whole c_wellSum c_strongSum c_hash c_came hv3) nV_X9_meets ml_X9_106 rfl rfl rfl rfl rfl rfl rfl rfl rfl rfl [2, 3, 4, 5, 6, 7, 8, 9] 10 rfl rfl rfl rfl rfl ⟨Nat.le_of_ble_eq_true rfl, Nat.le_of_ble_eq_true rfl⟩ (Nat.le_of_ble_eq_true rfl) dX9_front_20 [.int v3_0] rfl ?_
      cases h
      exact gg_iret dX9_front_23 rfl
  · replace h := gg_th h hc
    refine gg_iconst (-1 : Int32) dX9_front_7 (by decide) ?_
    cases h
    exact gg_iret dX9_front_8 rfl
