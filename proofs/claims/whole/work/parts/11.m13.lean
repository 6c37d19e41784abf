def wd_X9_least (c_latest : Int32) (c_asked : Int32) (c_upper : Int64) (c_lower : Int64) (c_n : Int32) (c_readAt : Int32) (c_readMany : Int32) (c_readFood : Int32) (c_isHead : Int32) (c_backMany : Int32) (c_deedMany : Int32) (c_whole : Int64) (c_wellSum : Int64) (c_strongSum : Int64) (c_hash : Int64) (c_kindOf : Nat → Int32) (c_winds : Nat → Int32) (c_now : Nat → Int32) (c_tried : Nat → Int32) (c_back : Nat → Int32) : va_W := [(0, .inr (8, [.int c_latest, .ref 1, .int c_asked, .long c_upper, .long c_lower, .ref 2, .ref 3, .ref 4, .ref 5, .ref 6, .int c_n, .ref 7, .ref 8, .ref 9, .ref 10, .int c_readAt, .int c_readMany, .int c_readFood, .int c_isHead, .ref 11, .ref 12, .ref 13, .int c_backMany, .int c_deedMany, .ref 14, .ref 15, .ref 16, .ref 17, .ref 18, .ref 19, .ref 20, .ref 21, .ref 22, .ref 23, .ref 24, .long c_whole, .long c_wellSum, .long c_strongSum, .long c_hash])), (7, .inl (0, 6, .inl c_kindOf)), (8, .inl (0, 4, .inl c_winds)), (9, .inl (0, 26, .inl c_now)), (10, .inl (0, 26, .inl c_tried)), (13, .inl (0, 6, .inl c_back))]
def MD_X9_least : gg_M := (yX9_least, cX9_least, 6, some .int, 3, 72)
theorem nV_X9_least : gg_nV MD_X9_least 2 := ⟨⟨gg_mem (by decide +kernel) rfl, gg_mem cw_X9_least rfl, by decide, by decide, by decide +kernel⟩, gg_mem (by decide +kernel) rfl, gg_mem (by decide +kernel) rfl⟩
def lp_X9_least_53 {β : Type} (y2 : Int32) (c_n : Int32) (c_kindOf : Nat → Int32) (c_winds : Nat → Int32) (k73 : (Int32) → (Nat → Int32) → (Nat → Int32) → Option β) : Nat → (Int32) → (Int32) → (Nat → Int32) → (Nat → Int32) → Option β
  | 0, _, _, _, _ => none
  | n + 1, x5_53, c_backMany_53, c_tried_53, c_back_53 => (if y2 ≤ x5_53 then (k73 c_backMany_53 c_tried_53 c_back_53) else gg_b3 (f_X9_passes_a26 c_n c_backMany_53 c_kindOf c_winds c_back_53 c_tried_53) (fun v4_0 v4_1 v4_2 => (lp_X9_least_53 y2 c_n c_kindOf c_winds k73 n (x5_53 + (1 : Int32)) v4_0 v4_2 v4_1)))
def lp_X9_least_27 {β : Type} (y1 : Int32) (y2 : Int32) (c_n : Int32) (c_kindOf : Nat → Int32) (c_winds : Nat → Int32) (c_now : Nat → Int32) (k97 : (Int32) → (Int32) → (Nat → Int32) → (Nat → Int32) → Option β) : Nat → (Int32) → (Int32) → (Int32) → (Nat → Int32) → (Nat → Int32) → Option β
  | 0, _, _, _, _, _ => none
  | n + 1, x3_27, x4_27, c_backMany_27, c_tried_27, c_back_27 => (if x4_27 < (0 : Int32) then (k97 x3_27 c_backMany_27 c_tried_27 c_back_27) else (f_X9_copyNow c_now c_tried_27).bind (fun v3 => gg_chk (gg_in ((8 : Int32) + y1) 26) (gg_chk (gg_in ((8 : Int32) + y1) 26) ((lp_X9_least_53 y2 c_n c_kindOf c_winds (fun (c_backMany_73 : Int32) (c_tried_73 : Nat → Int32) (c_back_73 : Nat → Int32) => (f_X9_isThere_a26 y1 c_tried_73).bind (fun v5 => gg_lt (fun (s0_90 : Int32) => (lp_X9_least_27 y1 y2 c_n c_kindOf c_winds c_now k97 n s0_90 (x4_27 + (-1 : Int32)) c_backMany_73 c_tried_73 c_back_73)) (fun k90 => (if v5 = (0 : Int32) then (k90 x3_27) else (k90 x4_27))))) gg_fuel (0 : Int32) c_backMany_27 (upd v3 ((8 : Int32) + y1).toNatClampNeg ((v3 ((8 : Int32) + y1).toNatClampNeg) + x4_27)) c_back_27)))))
def f_X9_least (a0 : Int32) (a1 : Int32) (c_n : Int32) (c_backMany : Int32) (c_kindOf : Nat → Int32) (c_winds : Nat → Int32) (c_now : Nat → Int32) (c_tried : Nat → Int32) (c_back : Nat → Int32) : Option (Int32 × (Int32) × (Nat → Int32) × (Nat → Int32)) := (f_X9_isHut a0 c_n).bind (fun v1 => gg_lt ((some ((-1 : Int32), c_backMany, c_tried, c_back))) (fun k18 => (if v1 = (0 : Int32) then k18 else (f_X9_in a1 (0 : Int32) (40 : Int32)).bind (fun v2 => (if v2 = (0 : Int32) then k18 else (lp_X9_least_27 a0 a1 c_n c_kindOf c_winds c_now (fun (x3_97 : Int32) (c_backMany_97 : Int32) (c_tried_97 : Nat → Int32) (c_back_97 : Nat → Int32) => (some (x3_97, c_backMany_97, c_tried_97, c_back_97))) gg_fuel (-9 : Int32) (20 : Int32) c_backMany c_tried c_back))))))
set_option maxRecDepth 20000 in
set_option maxHeartbeats 4000000 in
theorem lq_X9_least_53 {β : Type} {res : β} {rr : Option Value} {ww : va_W} (y1 : Int32) (y2 : Int32) (y3 : Int32) (y4 : Int32) (c_latest : Int32) (c_asked : Int32) (c_upper : Int64) (c_lower : Int64) (c_n : Int32) (c_readAt : Int32) (c_readMany : Int32) (c_readFood : Int32) (c_isHead : Int32) (c_deedMany : Int32) (c_whole : Int64) (c_wellSum : Int64) (c_strongSum : Int64) (c_hash : Int64) (c_kindOf : Nat → Int32) (c_winds : Nat → Int32) (c_now : Nat → Int32) (k73 : (Int32) → (Nat → Int32) → (Nat → Int32) → Option β) (hk73 : ∀ (c_backMany_73 : Int32) (c_tried_73 : Nat → Int32) (c_back_73 : Nat → Int32), k73 c_backMany_73 c_tried_73 c_back_73 = some res → gg_G MD_X9_least 73 [some (.ref 0), some (.int y1), some (.int y2), some (.int y3), some (.int y4), none] [] (wd_X9_least c_latest c_asked c_upper c_lower c_n c_readAt c_readMany c_readFood c_isHead c_backMany_73 c_deedMany c_whole c_wellSum c_strongSum c_hash c_kindOf c_winds c_now c_tried_73 c_back_73) rr ww) : ∀ (n : Nat) (x5_53 : Int32) (c_backMany_53 : Int32) (c_tried_53 : Nat → Int32) (c_back_53 : Nat → Int32), lp_X9_least_53 y2 c_n c_kindOf c_winds k73 n x5_53 c_backMany_53 c_tried_53 c_back_53 = some res → gg_G MD_X9_least 53 [some (.ref 0), some (.int y1), some (.int y2), some (.int y3), some (.int y4), some (.int x5_53)] [] (wd_X9_least c_latest c_asked c_upper c_lower c_n c_readAt c_readMany c_readFood c_isHead c_backMany_53 c_deedMany c_whole c_wellSum c_strongSum c_hash c_kindOf c_winds c_now c_tried_53 c_back_53) rr ww := by
  intro n
  induction n with
  | zero =>
    intro x5_53 c_backMany_53 c_tried_53 c_back_53 h
    exact nomatch (show (none : Option β) = some res from h)
  | succ n ih =>
    intro x5_53 c_backMany_53 c_tried_53 c_back_53 h
    rw [lp_X9_least_53] at h
    refine gg_iload dX9_least_53 rfl ?_
    refine gg_iload_n dX9_least_55 rfl ?_
    refine gg_icmp_ge 73 dX9_least_56 (by decide) (fun hc => ?_) (fun hc => ?_)
    · replace h := gg_th h hc
      refine gg_fg [true, true, true, true, true, false] [some (.ref 0), some (.int y1), some (.int y2), some (.int y3), some (.int y4), none] rfl ?_
      exact hk73 c_backMany_53 c_tried_53 c_back_53 h
    · replace h := gg_el h hc
      refine gg_aload_n dX9_least_59 rfl ?_
      refine gg_aload_n dX9_least_60 rfl ?_
      refine gg_get 0 fl_X9_42 dX9_least_61 rfl rfl ?_
      obtain ⟨v4_0, v4_1, v4_2, hv4, h⟩ := gg_bd3 h
      refine gg_callV (gg_sg [0, 10]) [0, 1, 2, 5, 4] (wd_X9_least c_latest c_asked c_upper c_lower c_n c_readAt c_readMany c_readFood c_isHead v4_0 c_deedMany c_whole c_wellSum c_strongSum c_hash c_kindOf c_winds c_now v4_2 v4_1) 0 (C_X9_passes_a26 c_latest c_asked c_upper c_lower c_n c_readAt c_readMany c_readFood c_isHead c_backMany_53 c_deedMany c_whole c_wellSum c_strongSum c_hash c_kindOf c_winds c_back_53 c_tried_53 hv4) nV_X9_passes_a26 ml_X9_213 rfl rfl rfl rfl rfl rfl rfl rfl rfl rfl [3] 6 rfl rfl rfl rfl rfl ⟨Nat.le_of_ble_eq_true rfl, Nat.le_of_ble_eq_true rfl⟩ (Nat.le_of_ble_eq_true rfl) dX9_least_64 [] rfl ?_
      refine gg_iinc (x5_53 + (1 : Int32)) [some (.ref 0), some (.int y1), some (.int y2), some (.int y3), some (.int y4), some (.int (x5_53 + (1 : Int32)))] dX9_least_67 rfl rfl rfl (Nat.le_of_ble_eq_true rfl) rfl ?_
      refine gg_goto 53 dX9_least_70 (by decide) ?_
      exact ih (x5_53 + (1 : Int32)) v4_0 v4_2 v4_1 h
set_option maxRecDepth 20000 in
set_option maxHeartbeats 4000000 in
theorem lq_X9_least_27 {β : Type} {res : β} {rr : Option Value} {ww : va_W} (y1 : Int32) (y2 : Int32) (c_latest : Int32) (c_asked : Int32) (c_upper : Int64) (c_lower : Int64) (c_n : Int32) (c_readAt : Int32) (c_readMany : Int32) (c_readFood : Int32) (c_isHead : Int32) (c_deedMany : Int32) (c_whole : Int64) (c_wellSum : Int64) (c_strongSum : Int64) (c_hash : Int64) (c_kindOf : Nat → Int32) (c_winds : Nat → Int32) (c_now : Nat → Int32) (k97 : (Int32) → (Int32) → (Nat → Int32) → (Nat → Int32) → Option β) (hk97 : ∀ (x3_97 : Int32) (c_backMany_97 : Int32) (c_tried_97 : Nat → Int32) (c_back_97 : Nat → Int32), k97 x3_97 c_backMany_97 c_tried_97 c_back_97 = some res → gg_G MD_X9_least 97 [none, none, none, some (.int x3_97), none, none] [] (wd_X9_least c_latest c_asked c_upper c_lower c_n c_readAt c_readMany c_readFood c_isHead c_backMany_97 c_deedMany c_whole c_wellSum c_strongSum c_hash c_kindOf c_winds c_now c_tried_97 c_back_97) rr ww) : ∀ (n : Nat) (x3_27 : Int32) (x4_27 : Int32) (c_backMany_27 : Int32) (c_tried_27 : Nat → Int32) (c_back_27 : Nat → Int32), lp_X9_least_27 y1 y2 c_n c_kindOf c_winds c_now k97 n x3_27 x4_27 c_backMany_27 c_tried_27 c_back_27 = some res → gg_G MD_X9_least 27 [some (.ref 0), some (.int y1), some (.int y2), some (.int x3_27), some (.int x4_27), none] [] (wd_X9_least c_latest c_asked c_upper c_lower c_n c_readAt c_readMany c_readFood c_isHead c_backMany_27 c_deedMany c_whole c_wellSum c_strongSum c_hash c_kindOf c_winds c_now c_tried_27 c_back_27) rr ww := by
  intro n
  induction n with
  | zero =>
    intro x3_27 x4_27 c_backMany_27 c_tried_27 c_back_27 h
    exact nomatch (show (none : Option β) = some res from h)
  | succ n ih =>
    intro x3_27 x4_27 c_backMany_27 c_tried_27 c_back_27 h
    rw [lp_X9_least_27] at h
    refine gg_iload dX9_least_27 rfl ?_
    refine gg_if_lt 97 dX9_least_29 (by decide) (fun hc => ?_) (fun hc => ?_)
    · replace h := gg_th h hc
      refine gg_fg [false, false, false, true, false, false] [none, none, none, some (.int x3_27), none, none] rfl ?_
      exact hk97 x3_27 c_backMany_27 c_tried_27 c_back_27 h
    · replace h := gg_el h hc
      refine gg_aload_n dX9_least_32 rfl ?_
      obtain ⟨v3, hv3, h⟩ := gg_bd h
      refine gg_callV (gg_sg [0]) [0, 3, 4] (wd_X9_least c_latest c_asked c_upper c_lower c_n c_readAt c_readMany c_readFood c_isHead c_backMany_27 c_deedMany c_whole c_wellSum c_strongSum c_hash c_kindOf c_winds c_now v3 c_back_27) 0 (C_X9_copyNow c_latest c_asked c_upper c_lower c_n c_readAt c_readMany c_readFood c_isHead c_backMany_27 c_deedMany c_whole c_wellSum c_strongSum c_hash c_now c_tried_27 hv3) nV_X9_copyNow ml_X9_227 rfl rfl rfl rfl rfl rfl rfl rfl rfl rfl [1, 2, 5] 6 rfl rfl rfl rfl rfl ⟨Nat.le_of_ble_eq_true rfl, Nat.le_of_ble_eq_true rfl⟩ (Nat.le_of_ble_eq_true rfl) dX9_least_33 [] rfl ?_
      refine gg_aload_n dX9_least_36 rfl ?_
      refine gg_get 0 fl_X9_42 dX9_least_37 rfl rfl ?_
      refine gg_bipush (8 : Int32) dX9_least_40 (by decide) ?_
      refine gg_iload_n dX9_least_42 rfl ?_
      refine gg_iadd dX9_least_43 ?_
      refine gg_dup2 dX9_least_44 rfl rfl ?_
      obtain ⟨hb45, h⟩ := gg_ck h
      refine gg_iald 4 dX9_least_45 rfl hb45 ?_
      refine gg_iload dX9_least_46 rfl ?_
      refine gg_iadd dX9_least_48 ?_
      obtain ⟨hb49, h⟩ := gg_ck h
      refine gg_iast 4 (wd_X9_least c_latest c_asked c_upper c_lower c_n c_readAt c_readMany c_readFood c_isHead c_backMany_27 c_deedMany c_whole c_wellSum c_strongSum c_hash c_kindOf c_winds c_now (upd v3 ((8 : Int32) + y1).toNatClampNeg ((v3 ((8 : Int32) + y1).toNatClampNeg) + x4_27)) c_back_27) dX9_least_49 rfl hb49 rfl ?_
      refine gg_iconst (0 : Int32) dX9_least_50 (by decide) ?_
      refine gg_istore [some (.ref 0), some (.int y1), some (.int y2), some (.int x3_27), some (.int x4_27), some (.int (0 : Int32))] dX9_least_51 rfl (Nat.le_of_ble_eq_true rfl) rfl ?_
      refine lq_X9_least_53 y1 y2 x3_27 x4_27 c_latest c_asked c_upper c_lower c_n c_readAt c_readMany c_readFood c_isHead c_deedMany c_whole c_wellSum c_strongSum c_hash c_kindOf c_winds c_now _ ?_ gg_fuel (0 : Int32) c_backMany_27 (upd v3 ((8 : Int32) + y1).toNatClampNeg ((v3 ((8 : Int32) + y1).toNatClampNeg) + x4_27)) c_back_27 h
      intro c_backMany_73 c_tried_73 c_back_73 h
      refine gg_aload_n dX9_least_73 rfl ?_
      refine gg_get 0 fl_X9_42 dX9_least_74 rfl rfl ?_
      refine gg_iload_n dX9_least_77 rfl ?_
      obtain ⟨v5, hv5, h⟩ := gg_bd h
      refine gg_callS (gg_sg [10]) [4] (wd_X9_least c_latest c_asked c_upper c_lower c_n c_readAt c_readMany c_readFood c_isHead c_backMany_73 c_deedMany c_whole c_wellSum c_strongSum c_hash c_kindOf c_winds c_now c_tried_73 c_back_73) (C_X9_isThere_a26 y1 c_tried_73 hv5) nS_X9_isThere_a26 ml_X9_160 rfl rfl rfl rfl rfl rfl rfl [0, 1, 2, 3, 5] 6 rfl rfl rfl rfl rfl ⟨Nat.le_of_ble_eq_true rfl, Nat.le_of_ble_eq_true rfl⟩ (Nat.le_of_ble_eq_true rfl) dX9_least_78 [.int v5] rfl ?_
      obtain ⟨k90, hke90, h⟩ := gg_lte h
      have hk90 : ∀ (s0_90 : Int32), k90 s0_90 = some res → gg_G MD_X9_least 90 [some (.ref 0), some (.int y1), some (.int y2), none, some (.int x4_27), none] [.int s0_90] (wd_X9_least c_latest c_asked c_upper c_lower c_n c_readAt c_readMany c_readFood c_isHead c_backMany_73 c_deedMany c_whole c_wellSum c_strongSum c_hash c_kindOf c_winds c_now c_tried_73 c_back_73) rr ww := by
        intro s0_90 h
        subst hke90
        refine gg_istore_n [some (.ref 0), some (.int y1), some (.int y2), some (.int s0_90), some (.int x4_27), none] dX9_least_90 rfl (Nat.le_of_ble_eq_true rfl) rfl ?_
        refine gg_iinc (x4_27 + (-1 : Int32)) [some (.ref 0), some (.int y1), some (.int y2), some (.int s0_90), some (.int (x4_27 + (-1 : Int32))), none] dX9_least_91 rfl rfl rfl (Nat.le_of_ble_eq_true rfl) rfl ?_
        refine gg_goto 27 dX9_least_94 (by decide) ?_
        exact ih s0_90 (x4_27 + (-1 : Int32)) c_backMany_73 c_tried_73 c_back_73 h
      clear hke90
      refine gg_if_eq 89 dX9_least_81 (by decide) (fun hc => ?_) (fun hc => ?_)
      · replace h := gg_th h hc
        refine gg_iload_n dX9_least_89 rfl ?_
        refine gg_fg [true, true, true, false, true, false] [some (.ref 0), some (.int y1), some (.int y2), none, some (.int x4_27), none] rfl ?_
        exact hk90 x3_27 h
      · replace h := gg_el h hc
        refine gg_iload dX9_least_84 rfl ?_
        refine gg_goto 90 dX9_least_86 (by decide) ?_
        refine gg_fg [true, true, true, false, true, false] [some (.ref 0), some (.int y1), some (.int y2), none, some (.int x4_27), none] rfl ?_
        exact hk90 x4_27 h
set_option maxRecDepth 20000 in
set_option maxHeartbeats 8000000 in
theorem C_X9_least (a0 : Int32) (a1 : Int32) (c_latest : Int32) (c_asked : Int32) (c_upper : Int64) (c_lower : Int64) (c_n : Int32) (c_readAt : Int32) (c_readMany : Int32) (c_readFood : Int32) (c_isHead : Int32) (c_backMany : Int32) (c_deedMany : Int32) (c_whole : Int64) (c_wellSum : Int64) (c_strongSum : Int64) (c_hash : Int64) (c_kindOf : Nat → Int32) (c_winds : Nat → Int32) (c_now : Nat → Int32) (c_tried : Nat → Int32) (c_back : Nat → Int32) {r0 : Int32} {r1 : (Int32)} {r2 : (Nat → Int32)} {r3 : (Nat → Int32)} (h : f_X9_least a0 a1 c_n c_backMany c_kindOf c_winds c_now c_tried c_back = some (r0, r1, r2, r3)) : gg_C MD_X9_least [.ref 0, .int a0, .int a1] (wd_X9_least c_latest c_asked c_upper c_lower c_n c_readAt c_readMany c_readFood c_isHead c_backMany c_deedMany c_whole c_wellSum c_strongSum c_hash c_kindOf c_winds c_now c_tried c_back) (some (.int r0)) (wd_X9_least c_latest c_asked c_upper c_lower c_n c_readAt c_readMany c_readFood c_isHead r1 c_deedMany c_whole c_wellSum c_strongSum c_hash c_kindOf c_winds c_now r2 r3) := by
  refine gg_ofG [some (.ref 0), some (.int a0), some (.int a1), none, none, none] (plainFor_of_name (by decide)) (Nat.le_of_ble_eq_true rfl) rfl ?_
  unfold f_X9_least at h
  refine gg_aload_n dX9_least_0 rfl ?_
  refine gg_iload_n dX9_least_1 rfl ?_
  obtain ⟨v1, hv1, h⟩ := gg_bd h
  refine gg_callV (gg_sg [0]) [0] (wd_X9_least c_latest c_asked c_upper c_lower c_n c_readAt c_readMany c_readFood c_isHead c_backMany c_deedMany c_whole c_wellSum c_strongSum c_hash c_kindOf c_winds c_now c_tried c_back) 0 (C_X9_isHut a0 c_latest c_asked c_upper c_lower c_n c_readAt c_readMany c_readFood c_isHead c_backMany c_deedMany c_whole c_wellSum c_strongSum c_hash hv1) nV_X9_isHut ml_X9_198 rfl rfl rfl rfl rfl rfl rfl rfl rfl rfl [1, 2, 3, 4, 5] 6 rfl rfl rfl rfl rfl ⟨Nat.le_of_ble_eq_true rfl, Nat.le_of_ble_eq_true rfl⟩ (Nat.le_of_ble_eq_true rfl) dX9_least_2 [.int v1] rfl ?_
  obtain ⟨k18, hke18, h⟩ := gg_lte h
  have hk18 : k18 = some (r0, r1, r2, r3) → gg_G MD_X9_least 18 [none, none, none, none, none, none] [] (wd_X9_least c_latest c_asked c_upper c_lower c_n c_readAt c_readMany c_readFood c_isHead c_backMany c_deedMany c_whole c_wellSum c_strongSum c_hash c_kindOf c_winds c_now c_tried c_back) (some (.int r0)) (wd_X9_least c_latest c_asked c_upper c_lower c_n c_readAt c_readMany c_readFood c_isHead r1 c_deedMany c_whole c_wellSum c_strongSum c_hash c_kindOf c_winds c_now r2 r3) := by
    intro  h
    subst hke18
    refine gg_iconst (-1 : Int32) dX9_least_18 (by decide) ?_
    cases h
    exact gg_iret dX9_least_19 rfl
  clear hke18
  refine gg_if_eq 18 dX9_least_5 (by decide) (fun hc => ?_) (fun hc => ?_)
  · replace h := gg_th h hc
    refine gg_fg [false, false, false, false, false, false] [none, none, none, none, none, none] rfl ?_
    exact hk18 h
  · replace h := gg_el h hc
    refine gg_iload_n dX9_least_8 rfl ?_
    refine gg_iconst (0 : Int32) dX9_least_9 (by decide) ?_
    refine gg_bipush (40 : Int32) dX9_least_10 (by decide) ?_
    obtain ⟨v2, hv2, h⟩ := gg_bd h
    refine gg_callS (gg_sg []) [] (wd_X9_least c_latest c_asked c_upper c_lower c_n c_readAt c_readMany c_readFood c_isHead c_backMany c_deedMany c_whole c_wellSum c_strongSum c_hash c_kindOf c_winds c_now c_tried c_back) (C_X9_in a1 (0 : Int32) (40 : Int32) hv2) nS_X9_in ml_X9_92 rfl rfl rfl rfl rfl rfl rfl [0, 1, 2, 3, 4, 5] 6 rfl rfl rfl rfl rfl ⟨Nat.le_of_ble_eq_true rfl, Nat.le_of_ble_eq_true rfl⟩ (Nat.le_of_ble_eq_true rfl) dX9_least_12 [.int v2] rfl ?_
    refine gg_if_ne 20 dX9_least_15 (by decide) (fun hc => ?_) (fun hc => ?_)
    · replace h := gg_el h hc
      refine gg_bipush (-9 : Int32) dX9_least_20 (by decide) ?_
      refine gg_istore_n [some (.ref 0), some (.int a0), some (.int a1), some (.int (-9 : Int32)), none, none] dX9_least_22 rfl (Nat.le_of_ble_eq_true rfl) rfl ?_
      refine gg_bipush (20 : Int32) dX9_least_23 (by decide) ?_
      refine gg_istore [some (.ref 0), some (.int a0), some (.int a1), some (.int (-9 : Int32)), some (.int (20 : Int32)), none] dX9_least_25 rfl (Nat.le_of_ble_eq_true rfl) rfl ?_
      refine lq_X9_least_27 a0 a1 c_latest c_asked c_upper c_lower c_n c_readAt c_readMany c_readFood c_isHead c_deedMany c_whole c_wellSum c_strongSum c_hash c_kindOf c_winds c_now _ ?_ gg_fuel (-9 : Int32) (20 : Int32) c_backMany c_tried c_back h
      intro x3_97 c_backMany_97 c_tried_97 c_back_97 h
      refine gg_iload_n dX9_least_97 rfl ?_
      cases h
      exact gg_iret dX9_least_98 rfl
    · replace h := gg_th h hc
      refine gg_fg [false, false, false, false, false, false] [none, none, none, none, none, none] rfl ?_
      exact hk18 h
def wd_X9_flying (c_latest : Int32) (c_asked : Int32) (c_upper : Int64) (c_lower : Int64) (c_n : Int32) (c_readAt : Int32) (c_readMany : Int32) (c_readFood : Int32) (c_isHead : Int32) (c_backMany : Int32) (c_deedMany : Int32) (c_whole : Int64) (c_wellSum : Int64) (c_strongSum : Int64) (c_hash : Int64) (c_kindOf : Nat → Int32) (c_winds : Nat → Int32) (c_now : Nat → Int32) : va_W := [(0, .inr (8, [.int c_latest, .ref 1, .int c_asked, .long c_upper, .long c_lower, .ref 2, .ref 3, .ref 4, .ref 5, .ref 6, .int c_n, .ref 7, .ref 8, .ref 9, .ref 10, .int c_readAt, .int c_readMany, .int c_readFood, .int c_isHead, .ref 11, .ref 12, .ref 13, .int c_backMany, .int c_deedMany, .ref 14, .ref 15, .ref 16, .ref 17, .ref 18, .ref 19, .ref 20, .ref 21, .ref 22, .ref 23, .ref 24, .long c_whole, .long c_wellSum, .long c_strongSum, .long c_hash])), (7, .inl (0, 6, .inl c_kindOf)), (8, .inl (0, 4, .inl c_winds)), (9, .inl (0, 26, .inl c_now))]
def MD_X9_flying : gg_M := (yX9_flying, cX9_flying, 2, some .int, 1, 21)
theorem nV_X9_flying : gg_nV MD_X9_flying 1 := ⟨⟨gg_mem (by decide +kernel) rfl, gg_mem cw_X9_flying rfl, by decide, by decide, by decide +kernel⟩, gg_mem (by decide +kernel) rfl, gg_mem (by decide +kernel) rfl⟩
def f_X9_flying (a0 : Int32) (c_kindOf : Nat → Int32) (c_winds : Nat → Int32) (c_now : Nat → Int32) : Option (Int32) := gg_chk (gg_in a0 6) (gg_lt (fun (s0_38 : Int32) => (some s0_38)) (fun k38 => (if (c_kindOf a0.toNatClampNeg) = (2 : Int32) then (f_X9_windOf_a26 c_winds c_now).bind (fun v3 => (k38 v3)) else gg_chk (gg_in a0 6) ((f_X9_windOf_a26 c_winds c_now).bind (fun v1 => (f_X9_tiredBy (c_kindOf a0.toNatClampNeg) v1).bind (fun v2 => (k38 v2)))))))
set_option maxRecDepth 20000 in
set_option maxHeartbeats 8000000 in
theorem C_X9_flying (a0 : Int32) (c_latest : Int32) (c_asked : Int32) (c_upper : Int64) (c_lower : Int64) (c_n : Int32) (c_readAt : Int32) (c_readMany : Int32) (c_readFood : Int32) (c_isHead : Int32) (c_backMany : Int32) (c_deedMany : Int32) (c_whole : Int64) (c_wellSum : Int64) (c_strongSum : Int64) (c_hash : Int64) (c_kindOf : Nat → Int32) (c_winds : Nat → Int32) (c_now : Nat → Int32) {res : Int32} (h : f_X9_flying a0 c_kindOf c_winds c_now = some res) : gg_C MD_X9_flying [.ref 0, .int a0] (wd_X9_flying c_latest c_asked c_upper c_lower c_n c_readAt c_readMany c_readFood c_isHead c_backMany c_deedMany c_whole c_wellSum c_strongSum c_hash c_kindOf c_winds c_now) (some (.int res)) (wd_X9_flying c_latest c_asked c_upper c_lower c_n c_readAt c_readMany c_readFood c_isHead c_backMany c_deedMany c_whole c_wellSum c_strongSum c_hash c_kindOf c_winds c_now) := by
  refine gg_ofG [some (.ref 0), some (.int a0)] (plainFor_of_name (by decide)) (Nat.le_of_ble_eq_true rfl) rfl ?_
  unfold f_X9_flying at h
  refine gg_aload_n dX9_flying_0 rfl ?_
  refine gg_get 0 fl_X9_33 dX9_flying_1 rfl rfl ?_
  refine gg_iload_n dX9_flying_4 rfl ?_
  obtain ⟨hb5, h⟩ := gg_ck h
  refine gg_iald 1 dX9_flying_5 rfl hb5 ?_
  refine gg_iconst (2 : Int32) dX9_flying_6 (by decide) ?_
  obtain ⟨k38, hke38, h⟩ := gg_lte h
  have hk38 : ∀ (s0_38 : Int32), k38 s0_38 = some res → gg_G MD_X9_flying 38 [none, none] [.int s0_38] (wd_X9_flying c_latest c_asked c_upper c_lower c_n c_readAt c_readMany c_readFood c_isHead c_backMany c_deedMany c_whole c_wellSum c_strongSum c_hash c_kindOf c_winds c_now) (some (.int res)) (wd_X9_flying c_latest c_asked c_upper c_lower c_n c_readAt c_readMany c_readFood c_isHead c_backMany c_deedMany c_whole c_wellSum c_strongSum c_hash c_kindOf c_winds c_now) := by
    intro s0_38 h
    subst hke38
    cases h
    exact gg_iret dX9_flying_38 rfl
  clear hke38
  refine gg_icmp_ne 21 dX9_flying_7 (by decide) (fun hc => ?_) (fun hc => ?_)
  · replace h := gg_el h hc
    refine gg_aload_n dX9_flying_21 rfl ?_
    refine gg_get 0 fl_X9_33 dX9_flying_22 rfl rfl ?_
    refine gg_iload_n dX9_flying_25 rfl ?_
    obtain ⟨hb26, h⟩ := gg_ck h
    refine gg_iald 1 dX9_flying_26 rfl hb26 ?_
    refine gg_aload_n dX9_flying_27 rfl ?_
    refine gg_aload_n dX9_flying_28 rfl ?_
    refine gg_get 0 fl_X9_39 dX9_flying_29 rfl rfl ?_
    obtain ⟨v1, hv1, h⟩ := gg_bd h
    refine gg_callV (gg_sg [0, 9]) [0, 2, 3] (wd_X9_flying c_latest c_asked c_upper c_lower c_n c_readAt c_readMany c_readFood c_isHead c_backMany c_deedMany c_whole c_wellSum c_strongSum c_hash c_kindOf c_winds c_now) 0 (C_X9_windOf_a26 c_latest c_asked c_upper c_lower c_n c_readAt c_readMany c_readFood c_isHead c_backMany c_deedMany c_whole c_wellSum c_strongSum c_hash c_winds c_now hv1) nV_X9_windOf_a26 ml_X9_174 rfl rfl rfl rfl rfl rfl rfl rfl rfl rfl [1] 4 rfl rfl rfl rfl rfl ⟨Nat.le_of_ble_eq_true rfl, Nat.le_of_ble_eq_true rfl⟩ (Nat.le_of_ble_eq_true rfl) dX9_flying_32 [.int v1, .int (c_kindOf a0.toNatClampNeg)] rfl ?_
    obtain ⟨v2, hv2, h⟩ := gg_bd h
    refine gg_callS (gg_sg []) [] (wd_X9_flying c_latest c_asked c_upper c_lower c_n c_readAt c_readMany c_readFood c_isHead c_backMany c_deedMany c_whole c_wellSum c_strongSum c_hash c_kindOf c_winds c_now) (C_X9_tiredBy (c_kindOf a0.toNatClampNeg) v1 hv2) nS_X9_tiredBy ml_X9_181 rfl rfl rfl rfl rfl rfl rfl [0, 1, 2, 3] 4 rfl rfl rfl rfl rfl ⟨Nat.le_of_ble_eq_true rfl, Nat.le_of_ble_eq_true rfl⟩ (Nat.le_of_ble_eq_true rfl) dX9_flying_35 [.int v2] rfl ?_
    refine gg_fg [false, false] [none, none] rfl ?_
    exact hk38 v2 h
  · replace h := gg_th h hc
    refine gg_aload_n dX9_flying_10 rfl ?_
    refine gg_aload_n dX9_flying_11 rfl ?_
    refine gg_get 0 fl_X9_39 dX9_flying_12 rfl rfl ?_
    obtain ⟨v3, hv3, h⟩ := gg_bd h
    refine gg_callV (gg_sg [0, 9]) [0, 2, 3] (wd_X9_flying c_latest c_asked c_upper c_lower c_n c_readAt c_readMany c_readFood c_isHead c_backMany c_deedMany c_whole c_wellSum c_strongSum c_hash c_kindOf c_winds c_now) 0 (C_X9_windOf_a26 c_latest c_asked c_upper c_lower c_n c_readAt c_readMany c_readFood c_isHead c_backMany c_deedMany c_whole c_wellSum c_strongSum c_hash c_winds c_now hv3) nV_X9_windOf_a26 ml_X9_174 rfl rfl rfl rfl rfl rfl rfl rfl rfl rfl [1] 4 rfl rfl rfl rfl rfl ⟨Nat.le_of_ble_eq_true rfl, Nat.le_of_ble_eq_true rfl⟩ (Nat.le_of_ble_eq_true rfl) dX9_flying_15 [.int v3] rfl ?_
    refine gg_goto 38 dX9_flying_18 (by decide) ?_
    refine gg_fg [false, false] [none, none] rfl ?_
    exact hk38 v3 h
def wd_X9_weakest (c_latest : Int32) (c_asked : Int32) (c_upper : Int64) (c_lower : Int64) (c_n : Int32) (c_readAt : Int32) (c_readMany : Int32) (c_readFood : Int32) (c_isHead : Int32) (c_backMany : Int32) (c_deedMany : Int32) (c_whole : Int64) (c_wellSum : Int64) (c_strongSum : Int64) (c_hash : Int64) (c_kindOf : Nat → Int32) (c_winds : Nat → Int32) (c_now : Nat → Int32) (c_fronts : Nat → Int32) (c_strengths : Nat → Int32) : va_W := [(0, .inr (8, [.int c_latest, .ref 1, .int c_asked, .long c_upper, .long c_lower, .ref 2, .ref 3, .ref 4, .ref 5, .ref 6, .int c_n, .ref 7, .ref 8, .ref 9, .ref 10, .int c_readAt, .int c_readMany, .int c_readFood, .int c_isHead, .ref 11, .ref 12, .ref 13, .int c_backMany, .int c_deedMany, .ref 14, .ref 15, .ref 16, .ref 17, .ref 18, .ref 19, .ref 20, .ref 21, .ref 22, .ref 23, .ref 24, .long c_whole, .long c_wellSum, .long c_strongSum, .long c_hash])), (7, .inl (0, 6, .inl c_kindOf)), (8, .inl (0, 4, .inl c_winds)), (9, .inl (0, 26, .inl c_now)), (19, .inl (0, 4, .inl c_fronts)), (20, .inl (0, 6, .inl c_strengths))]
def MD_X9_weakest : gg_M := (yX9_weakest, cX9_weakest, 8, some .int, 2, 42)
theorem nV_X9_weakest : gg_nV MD_X9_weakest 2 := ⟨⟨gg_mem (by decide +kernel) rfl, gg_mem cw_X9_weakest rfl, by decide, by decide, by decide +kernel⟩, gg_mem (by decide +kernel) rfl, gg_mem (by decide +kernel) rfl⟩
def lp_X9_weakest_10 {β : Type} (c_n : Int32) (c_now : Nat → Int32) (k70 : (Int32) → (Nat → Int32) → Option β) : Nat → (Int32) → (Int32) → (Int32) → (Nat → Int32) → Option β
  | 0, _, _, _, _ => none
  | n + 1, x3_10, x4_10, x5_10, c_fronts_10 => (if x5_10 < (0 : Int32) then (k70 x4_10 c_fronts_10) else gg_chk (!decide (c_n = 0)) (gg_chk (gg_in x5_10 4) (gg_lt (fun (s0_55 : Int32) => gg_chk (!decide (c_n = 0)) ((lp_X9_weakest_10 c_n c_now k70 n (x3_10 / c_n) s0_55 (x5_10 + (-1 : Int32)) (upd c_fronts_10 x5_10.toNatClampNeg (x3_10 - x3_10 / c_n * c_n))))) (fun k55 => gg_lt ((k55 (0 : Int32))) (fun k54 => (if x4_10 = (0 : Int32) then k54 else gg_chk (gg_in x5_10 4) ((f_X9_isThere_a26 ((upd c_fronts_10 x5_10.toNatClampNeg (x3_10 - x3_10 / c_n * c_n)) x5_10.toNatClampNeg) c_now).bind (fun v1 => (if v1 = (0 : Int32) then k54 else (k55 (1 : Int32)))))))))))
def lp_X9_weakest_106 {β : Type} (y2 : Int32) (y6 : Int32) (c_kindOf : Nat → Int32) (c_winds : Nat → Int32) (c_now : Nat → Int32) (c_fronts : Nat → Int32) (k157 : (Nat → Int32) → Option β) : Nat → (Int32) → (Nat → Int32) → Option β
  | 0, _, _ => none
  | n + 1, x7_106, c_strengths_106 => (if y2 ≤ x7_106 then (k157 c_strengths_106) else gg_chk (gg_in y6 6) (gg_chk (gg_in x7_106 4) (gg_lt (fun (s3_149 : Int32) => gg_chk (gg_in y6 6) ((lp_X9_weakest_106 y2 y6 c_kindOf c_winds c_now c_fronts k157 n (x7_106 + (1 : Int32)) (upd c_strengths_106 y6.toNatClampNeg ((c_strengths_106 y6.toNatClampNeg) - s3_149))))) (fun k149 => (if (c_fronts x7_106.toNatClampNeg) = y6 then (f_X9_flying y6 c_kindOf c_winds c_now).bind (fun v3 => (k149 v3)) else (f_X9_flying y6 c_kindOf c_winds c_now).bind (fun v2 => (k149 (v2 / (2 : Int32)))))))))
def lp_X9_weakest_77 {β : Type} (y2 : Int32) (c_n : Int32) (c_kindOf : Nat → Int32) (c_winds : Nat → Int32) (c_now : Nat → Int32) (c_fronts : Nat → Int32) (k201 : (Int32) → (Nat → Int32) → Option β) : Nat → (Int32) → (Int32) → (Nat → Int32) → Option β
  | 0, _, _, _ => none
  | n + 1, x5_77, x6_77, c_strengths_77 => (if c_n ≤ x6_77 then (k201 x5_77 c_strengths_77) else gg_chk (gg_in ((8 : Int32) + x6_77) 26) (gg_chk (gg_in x6_77 6) ((lp_X9_weakest_106 y2 x6_77 c_kindOf c_winds c_now c_fronts (fun (c_strengths_157 : Nat → Int32) => (f_X9_isThere_a26 x6_77 c_now).bind (fun v4 => gg_lt (fun (s0_193 : Int32) => (lp_X9_weakest_77 y2 c_n c_kindOf c_winds c_now c_fronts k201 n s0_193 (x6_77 + (1 : Int32)) c_strengths_157)) (fun k193 => gg_lt ((k193 x5_77)) (fun k191 => (if v4 = (0 : Int32) then k191 else gg_chk (gg_in x6_77 6) ((if x5_77 ≤ (c_strengths_157 x6_77.toNatClampNeg) then k191 else gg_chk (gg_in x6_77 6) ((k193 (c_strengths_157 x6_77.toNatClampNeg)))))))))) gg_fuel (0 : Int32) (upd c_strengths_77 x6_77.toNatClampNeg (c_now ((8 : Int32) + x6_77).toNatClampNeg))))))
def f_X9_weakest (a0 : Int32) (a1 : Int32) (c_n : Int32) (c_kindOf : Nat → Int32) (c_winds : Nat → Int32) (c_now : Nat → Int32) (c_fronts : Nat → Int32) (c_strengths : Nat → Int32) : Option (Int32 × (Nat → Int32) × (Nat → Int32)) := (lp_X9_weakest_10 c_n c_now (fun (x4_70 : Int32) (c_fronts_70 : Nat → Int32) => (lp_X9_weakest_77 a1 c_n c_kindOf c_winds c_now c_fronts_70 (fun (x5_201 : Int32) (c_strengths_201 : Nat → Int32) => gg_lt (fun (s0_213 : Int32) => (some (s0_213, c_fronts_70, c_strengths_201))) (fun k213 => (if x4_70 = (0 : Int32) then (k213 (-2000000 : Int32)) else (k213 x5_201)))) gg_fuel (1000000 : Int32) (0 : Int32) c_strengths)) gg_fuel a0 (1 : Int32) (a1 - (1 : Int32)) c_fronts)
set_option maxRecDepth 20000 in
set_option maxHeartbeats 4000000 in
theorem lq_X9_weakest_10 {β : Type} {res : β} {rr : Option Value} {ww : va_W} (y2 : Int32) (c_latest : Int32) (c_asked : Int32) (c_upper : Int64) (c_lower : Int64) (c_n : Int32) (c_readAt : Int32) (c_readMany : Int32) (c_readFood : Int32) (c_isHead : Int32) (c_backMany : Int32) (c_deedMany : Int32) (c_whole : Int64) (c_wellSum : Int64) (c_strongSum : Int64) (c_hash : Int64) (c_kindOf : Nat → Int32) (c_winds : Nat → Int32) (c_now : Nat → Int32) (c_strengths : Nat → Int32) (k70 : (Int32) → (Nat → Int32) → Option β) (hk70 : ∀ (x4_70 : Int32) (c_fronts_70 : Nat → Int32), k70 x4_70 c_fronts_70 = some res → gg_G MD_X9_weakest 70 [some (.ref 0), none, some (.int y2), none, some (.int x4_70), none, none, none] [] (wd_X9_weakest c_latest c_asked c_upper c_lower c_n c_readAt c_readMany c_readFood c_isHead c_backMany c_deedMany c_whole c_wellSum c_strongSum c_hash c_kindOf c_winds c_now c_fronts_70 c_strengths) rr ww) : ∀ (n : Nat) (x3_10 : Int32) (x4_10 : Int32) (x5_10 : Int32) (c_fronts_10 : Nat → Int32), lp_X9_weakest_10 c_n c_now k70 n x3_10 x4_10 x5_10 c_fronts_10 = some res → gg_G MD_X9_weakest 10 [some (.ref 0), none, some (.int y2), some (.int x3_10), some (.int x4_10), some (.int x5_10), none, none] [] (wd_X9_weakest c_latest c_asked c_upper c_lower c_n c_readAt c_readMany c_readFood c_isHead c_backMany c_deedMany c_whole c_wellSum c_strongSum c_hash c_kindOf c_winds c_now c_fronts_10 c_strengths) rr ww := by
  intro n
  induction n with
  | zero =>
    intro x3_10 x4_10 x5_10 c_fronts_10 h
    exact nomatch (show (none : Option β) = some res from h)
  | succ n ih =>
    intro x3_10 x4_10 x5_10 c_fronts_10 h
    rw [lp_X9_weakest_10] at h
    refine gg_iload dX9_weakest_10 rfl ?_
    refine gg_if_lt 70 dX9_weakest_12 (by decide) (fun hc => ?_) (fun hc => ?_)
    · replace h := gg_th h hc
      refine gg_fg [true, false, true, false, true, false, false, false] [some (.ref 0), none, some (.int y2), none, some (.int x4_10), none, none, none] rfl ?_
      exact hk70 x4_10 c_fronts_10 h
    · replace h := gg_el h hc
      refine gg_aload_n dX9_weakest_15 rfl ?_
      refine gg_get 0 fl_X9_70 dX9_weakest_16 rfl rfl ?_
      refine gg_iload dX9_weakest_19 rfl ?_
      refine gg_iload_n dX9_weakest_21 rfl ?_
      refine gg_aload_n dX9_weakest_22 rfl ?_
      refine gg_get 0 fl_X9_154 dX9_weakest_23 rfl rfl ?_
      obtain ⟨hz26, h⟩ := gg_ck h
      refine gg_irem dX9_weakest_26 (gg_nz hz26) ?_
      obtain ⟨hb27, h⟩ := gg_ck h
      refine gg_iast 4 (wd_X9_weakest c_latest c_asked c_upper c_lower c_n c_readAt c_readMany c_readFood c_isHead c_backMany c_deedMany c_whole c_wellSum c_strongSum c_hash c_kindOf c_winds c_now (upd c_fronts_10 x5_10.toNatClampNeg (x3_10 - x3_10 / c_n * c_n)) c_strengths) dX9_weakest_27 rfl hb27 rfl ?_
      refine gg_iload dX9_weakest_28 rfl ?_
      obtain ⟨k55, hke55, h⟩ := gg_lte h
      have hk55 : ∀ (s0_55 : Int32), k55 s0_55 = some res → gg_G MD_X9_weakest 55 [some (.ref 0), none, some (.int y2), some (.int x3_10), none, some (.int x5_10), none, none] [.int s0_55] (wd_X9_weakest c_latest c_asked c_upper c_lower c_n c_readAt c_readMany c_readFood c_isHead c_backMany c_deedMany c_whole c_wellSum c_strongSum c_hash c_kindOf c_winds c_now (upd c_fronts_10 x5_10.toNatClampNeg (x3_10 - x3_10 / c_n * c_n)) c_strengths) rr ww := by
        intro s0_55 h
        subst hke55
        refine gg_istore [some (.ref 0), none, some (.int y2), some (.int x3_10), some (.int s0_55), some (.int x5_10), none, none] dX9_weakest_55 rfl (Nat.le_of_ble_eq_true rfl) rfl ?_
        refine gg_iload_n dX9_weakest_57 rfl ?_
        refine gg_aload_n dX9_weakest_58 rfl ?_
        refine gg_get 0 fl_X9_154 dX9_weakest_59 rfl rfl ?_
        obtain ⟨hz62, h⟩ := gg_ck h
        refine gg_idiv dX9_weakest_62 (gg_nz hz62) ?_
        refine gg_istore_n [some (.ref 0), none, some (.int y2), some (.int (x3_10 / c_n)), some (.int s0_55), some (.int x5_10), none, none] dX9_weakest_63 rfl (Nat.le_of_ble_eq_true rfl) rfl ?_
        refine gg_iinc (x5_10 + (-1 : Int32)) [some (.ref 0), none, some (.int y2), some (.int (x3_10 / c_n)), some (.int s0_55), some (.int (x5_10 + (-1 : Int32))), none, none] dX9_weakest_64 rfl rfl rfl (Nat.le_of_ble_eq_true rfl) rfl ?_
        refine gg_goto 10 dX9_weakest_67 (by decide) ?_
        exact ih (x3_10 / c_n) s0_55 (x5_10 + (-1 : Int32)) (upd c_fronts_10 x5_10.toNatClampNeg (x3_10 - x3_10 / c_n * c_n)) h
      clear hke55
      obtain ⟨k54, hke54, h⟩ := gg_lte h
      have hk54 : k54 = some res → gg_G MD_X9_weakest 54 [some (.ref 0), none, some (.int y2), some (.int x3_10), none, some (.int x5_10), none, none] [] (wd_X9_weakest c_latest c_asked c_upper c_lower c_n c_readAt c_readMany c_readFood c_isHead c_backMany c_deedMany c_whole c_wellSum c_strongSum c_hash c_kindOf c_winds c_now (upd c_fronts_10 x5_10.toNatClampNeg (x3_10 - x3_10 / c_n * c_n)) c_strengths) rr ww := by
        intro  h
        subst hke54
        refine gg_iconst (0 : Int32) dX9_weakest_54 (by decide) ?_
        exact hk55 (0 : Int32) h
      clear hke54
      refine gg_if_eq 54 dX9_weakest_30 (by decide) (fun hc => ?_) (fun hc => ?_)
      · replace h := gg_th h hc
        refine gg_fg [true, false, true, true, false, true, false, false] [some (.ref 0), none, some (.int y2), some (.int x3_10), none, some (.int x5_10), none, none] rfl ?_
        exact hk54 h
      · replace h := gg_el h hc
        refine gg_aload_n dX9_weakest_33 rfl ?_
        refine gg_get 0 fl_X9_39 dX9_weakest_34 rfl rfl ?_
        refine gg_aload_n dX9_weakest_37 rfl ?_
        refine gg_get 0 fl_X9_70 dX9_weakest_38 rfl rfl ?_
        refine gg_iload dX9_weakest_41 rfl ?_
        obtain ⟨hb43, h⟩ := gg_ck h
        refine gg_iald 4 dX9_weakest_43 rfl hb43 ?_
        obtain ⟨v1, hv1, h⟩ := gg_bd h
        refine gg_callS (gg_sg [9]) [3] (wd_X9_weakest c_latest c_asked c_upper c_lower c_n c_readAt c_readMany c_readFood c_isHead c_backMany c_deedMany c_whole c_wellSum c_strongSum c_hash c_kindOf c_winds c_now (upd c_fronts_10 x5_10.toNatClampNeg (x3_10 - x3_10 / c_n * c_n)) c_strengths) (C_X9_isThere_a26 ((upd c_fronts_10 x5_10.toNatClampNeg (x3_10 - x3_10 / c_n * c_n)) x5_10.toNatClampNeg) c_now hv1) nS_X9_isThere_a26 ml_X9_160 rfl rfl rfl rfl rfl rfl rfl [0, 1, 2, 4, 5] 6 rfl rfl rfl rfl rfl ⟨Nat.le_of_ble_eq_true rfl, Nat.le_of_ble_eq_true rfl⟩ (Nat.le_of_ble_eq_true rfl) dX9_weakest_44 [.int v1] rfl ?_
        refine gg_if_eq 54 dX9_weakest_47 (by decide) (fun hc => ?_) (fun hc => ?_)
        · replace h := gg_th h hc
          refine gg_fg [true, false, true, true, false, true, false, false] [some (.ref 0), none, some (.int y2), some (.int x3_10), none, some (.int x5_10), none, none] rfl ?_
          exact hk54 h
        · replace h := gg_el h hc
          refine gg_iconst (1 : Int32) dX9_weakest_50 (by decide) ?_
          refine gg_goto 55 dX9_weakest_51 (by decide) ?_
          refine gg_fg [true, false, true, true, false, true, false, false] [some (.ref 0), none, some (.int y2), some (.int x3_10), none, some (.int x5_10), none, none] rfl ?_
          exact hk55 (1 : Int32) h
set_option maxRecDepth 20000 in
set_option maxHeartbeats 4000000 in
theorem lq_X9_weakest_106 {β : Type} {res : β} {rr : Option Value} {ww : va_W} (y2 : Int32) (y4 : Int32) (y5 : Int32) (y6 : Int32) (c_latest : Int32) (c_asked : Int32) (c_upper : Int64) (c_lower : Int64) (c_n : Int32) (c_readAt : Int32) (c_readMany : Int32) (c_readFood : Int32) (c_isHead : Int32) (c_backMany : Int32) (c_deedMany : Int32) (c_whole : Int64) (c_wellSum : Int64) (c_strongSum : Int64) (c_hash : Int64) (c_kindOf : Nat → Int32) (c_winds : Nat → Int32) (c_now : Nat → Int32) (c_fronts : Nat → Int32) (k157 : (Nat → Int32) → Option β) (hk157 : ∀ (c_strengths_157 : Nat → Int32), k157 c_strengths_157 = some res → gg_G MD_X9_weakest 157 [some (.ref 0), none, some (.int y2), none, some (.int y4), some (.int y5), some (.int y6), none] [] (wd_X9_weakest c_latest c_asked c_upper c_lower c_n c_readAt c_readMany c_readFood c_isHead c_backMany c_deedMany c_whole c_wellSum c_strongSum c_hash c_kindOf c_winds c_now c_fronts c_strengths_157) rr ww) : ∀ (n : Nat) (x7_106 : Int32) (c_strengths_106 : Nat → Int32), lp_X9_weakest_106 y2 y6 c_kindOf c_winds c_now c_fronts k157 n x7_106 c_strengths_106 = some res → gg_G MD_X9_weakest 106 [some (.ref 0), none, some (.int y2), none, some (.int y4), some (.int y5), some (.int y6), some (.int x7_106)] [] (wd_X9_weakest c_latest c_asked c_upper c_lower c_n c_readAt c_readMany c_readFood c_isHead c_backMany c_deedMany c_whole c_wellSum c_strongSum c_hash c_kindOf c_winds c_now c_fronts c_strengths_106) rr ww := by
  intro n
  induction n with
  | zero =>
    intro x7_106 c_strengths_106 h
    exact nomatch (show (none : Option β) = some res from h)
  | succ n ih =>
    intro x7_106 c_strengths_106 h
    rw [lp_X9_weakest_106] at h
    refine gg_iload dX9_weakest_106 rfl ?_
    refine gg_iload_n dX9_weakest_108 rfl ?_
    refine gg_icmp_ge 157 dX9_weakest_109 (by decide) (fun hc => ?_) (fun hc => ?_)
    · replace h := gg_th h hc
      refine gg_fg [true, false, true, false, true, true, true, false] [some (.ref 0), none, some (.int y2), none, some (.int y4), some (.int y5), some (.int y6), none] rfl ?_
      exact hk157 c_strengths_106 h
    · replace h := gg_el h hc
      refine gg_aload_n dX9_weakest_112 rfl ?_
      refine gg_get 0 fl_X9_73 dX9_weakest_113 rfl rfl ?_
      refine gg_iload dX9_weakest_116 rfl ?_
      refine gg_dup2 dX9_weakest_118 rfl rfl ?_
      obtain ⟨hb119, h⟩ := gg_ck h
      refine gg_iald 5 dX9_weakest_119 rfl hb119 ?_
      refine gg_aload_n dX9_weakest_120 rfl ?_
      refine gg_get 0 fl_X9_70 dX9_weakest_121 rfl rfl ?_
      refine gg_iload dX9_weakest_124 rfl ?_
      obtain ⟨hb126, h⟩ := gg_ck h
      refine gg_iald 4 dX9_weakest_126 rfl hb126 ?_
      refine gg_iload dX9_weakest_127 rfl ?_
      obtain ⟨k149, hke149, h⟩ := gg_lte h
      have hk149 : ∀ (s3_149 : Int32), k149 s3_149 = some res → gg_G MD_X9_weakest 149 [some (.ref 0), none, some (.int y2), none, some (.int y4), some (.int y5), some (.int y6), some (.int x7_106)] [.int s3_149, .int (c_strengths_106 y6.toNatClampNeg), .int y6, .ref 20] (wd_X9_weakest c_latest c_asked c_upper c_lower c_n c_readAt c_readMany c_readFood c_isHead c_backMany c_deedMany c_whole c_wellSum c_strongSum c_hash c_kindOf c_winds c_now c_fronts c_strengths_106) rr ww := by
        intro s3_149 h
        subst hke149
        refine gg_isub dX9_weakest_149 ?_
        obtain ⟨hb150, h⟩ := gg_ck h
        refine gg_iast 5 (wd_X9_weakest c_latest c_asked c_upper c_lower c_n c_readAt c_readMany c_readFood c_isHead c_backMany c_deedMany c_whole c_wellSum c_strongSum c_hash c_kindOf c_winds c_now c_fronts (upd c_strengths_106 y6.toNatClampNeg ((c_strengths_106 y6.toNatClampNeg) - s3_149))) dX9_weakest_150 rfl hb150 rfl ?_
        refine gg_iinc (x7_106 + (1 : Int32)) [some (.ref 0), none, some (.int y2), none, some (.int y4), some (.int y5), some (.int y6), some (.int (x7_106 + (1 : Int32)))] dX9_weakest_151 rfl rfl rfl (Nat.le_of_ble_eq_true rfl) rfl ?_
        refine gg_goto 106 dX9_weakest_154 (by decide) ?_
        exact ih (x7_106 + (1 : Int32)) (upd c_strengths_106 y6.toNatClampNeg ((c_strengths_106 y6.toNatClampNeg) - s3_149)) h
      clear hke149
      refine gg_icmp_ne 141 dX9_weakest_129 (by decide) (fun hc => ?_) (fun hc => ?_)
      · replace h := gg_el h hc
        refine gg_aload_n dX9_weakest_141 rfl ?_
        refine gg_iload dX9_weakest_142 rfl ?_
        obtain ⟨v2, hv2, h⟩ := gg_bd h
        refine gg_callV (gg_sg [0]) [0, 1, 2, 3] (wd_X9_weakest c_latest c_asked c_upper c_lower c_n c_readAt c_readMany c_readFood c_isHead c_backMany c_deedMany c_whole c_wellSum c_strongSum c_hash c_kindOf c_winds c_now c_fronts c_strengths_106) 0 (C_X9_flying y6 c_latest c_asked c_upper c_lower c_n c_readAt c_readMany c_readFood c_isHead c_backMany c_deedMany c_whole c_wellSum c_strongSum c_hash c_kindOf c_winds c_now hv2) nV_X9_flying ml_X9_235 rfl rfl rfl rfl rfl rfl rfl rfl rfl rfl [4, 5] 6 rfl rfl rfl rfl rfl ⟨Nat.le_of_ble_eq_true rfl, Nat.le_of_ble_eq_true rfl⟩ (Nat.le_of_ble_eq_true rfl) dX9_weakest_144 [.int v2, .int (c_strengths_106 y6.toNatClampNeg), .int y6, .ref 20] rfl ?_
        refine gg_iconst (2 : Int32) dX9_weakest_147 (by decide) ?_
        refine gg_idiv dX9_weakest_148 (by decide) ?_
        exact hk149 (v2 / (2 : Int32)) h
      · replace h := gg_th h hc
        refine gg_aload_n dX9_weakest_132 rfl ?_
        refine gg_iload dX9_weakest_133 rfl ?_
        obtain ⟨v3, hv3, h⟩ := gg_bd h
        refine gg_callV (gg_sg [0]) [0, 1, 2, 3] (wd_X9_weakest c_latest c_asked c_upper c_lower c_n c_readAt c_readMany c_readFood c_isHead c_backMany c_deedMany c_whole c_wellSum c_strongSum c_hash c_kindOf c_winds c_now c_fronts c_strengths_106) 0 (C_X9_flying y6 c_latest c_asked c_upper c_lower c_n c_readAt c_readMany c_readFood c_isHead c_backMany c_deedMany c_whole c_wellSum c_strongSum c_hash c_kindOf c_winds c_now hv3) nV_X9_flying ml_X9_235 rfl rfl rfl rfl rfl rfl rfl rfl rfl rfl [4, 5] 6 rfl rfl rfl rfl rfl ⟨Nat.le_of_ble_eq_true rfl, Nat.le_of_ble_eq_true rfl⟩ (Nat.le_of_ble_eq_true rfl) dX9_weakest_135 [.int v3, .int (c_strengths_106 y6.toNatClampNeg), .int y6, .ref 20] rfl ?_
        refine gg_goto 149 dX9_weakest_138 (by decide) ?_
        exact hk149 v3 h
set_option maxRecDepth 20000 in
set_option maxHeartbeats 4000000 in
theorem lq_X9_weakest_77 {β : Type} {res : β} {rr : Option Value} {ww : va_W} (y2 : Int32) (y4 : Int32) (c_latest : Int32) (c_asked : Int32) (c_upper : Int64) (c_lower : Int64) (c_n : Int32) (c_readAt : Int32) (c_readMany : Int32) (c_readFood : Int32) (c_isHead : Int32) (c_backMany : Int32) (c_deedMany : Int32) (c_whole : Int64) (c_wellSum : Int64) (c_strongSum : Int64) (c_hash : Int64) (c_kindOf : Nat → Int32) (c_winds : Nat → Int32) (c_now : Nat → Int32) (c_fronts : Nat → Int32) (k201 : (Int32) → (Nat → Int32) → Option β) (hk201 : ∀ (x5_201 : Int32) (c_strengths_201 : Nat → Int32), k201 x5_201 c_strengths_201 = some res → gg_G MD_X9_weakest 201 [none, none, none, none, some (.int y4), some (.int x5_201), none, none] [] (wd_X9_weakest c_latest c_asked c_upper c_lower c_n c_readAt c_readMany c_readFood c_isHead c_backMany c_deedMany c_whole c_wellSum c_strongSum c_hash c_kindOf c_winds c_now c_fronts c_strengths_201) rr ww) : ∀ (n : Nat) (x5_77 : Int32) (x6_77 : Int32) (c_strengths_77 : Nat → Int32), lp_X9_weakest_77 y2 c_n c_kindOf c_winds c_now c_fronts k201 n x5_77 x6_77 c_strengths_77 = some res → gg_G MD_X9_weakest 77 [some (.ref 0), none, some (.int y2), none, some (.int y4), some (.int x5_77), some (.int x6_77), none] [] (wd_X9_weakest c_latest c_asked c_upper c_lower c_n c_readAt c_readMany c_readFood c_isHead c_backMany c_deedMany c_whole c_wellSum c_strongSum c_hash c_kindOf c_winds c_now c_fronts c_strengths_77) rr ww := by
  intro n
  induction n with
  | zero =>
    intro x5_77 x6_77 c_strengths_77 h
    exact nomatch (show (none : Option β) = some res from h)
  | succ n ih =>
    intro x5_77 x6_77 c_strengths_77 h
    rw [lp_X9_weakest_77] at h
    refine gg_iload dX9_weakest_77 rfl ?_
    refine gg_aload_n dX9_weakest_79 rfl ?_
    refine gg_get 0 fl_X9_154 dX9_weakest_80 rfl rfl ?_
    refine gg_icmp_ge 201 dX9_weakest_83 (by decide) (fun hc => ?_) (fun hc => ?_)
    · replace h := gg_th h hc
      refine gg_fg [false, false, false, false, true, true, false, false] [none, none, none, none, some (.int y4), some (.int x5_77), none, none] rfl ?_
      exact hk201 x5_77 c_strengths_77 h
    · replace h := gg_el h hc
      refine gg_aload_n dX9_weakest_86 rfl ?_
      refine gg_get 0 fl_X9_73 dX9_weakest_87 rfl rfl ?_
      refine gg_iload dX9_weakest_90 rfl ?_
      refine gg_aload_n dX9_weakest_92 rfl ?_
      refine gg_get 0 fl_X9_39 dX9_weakest_93 rfl rfl ?_
      refine gg_bipush (8 : Int32) dX9_weakest_96 (by decide) ?_
      refine gg_iload dX9_weakest_98 rfl ?_
      refine gg_iadd dX9_weakest_100 ?_
      obtain ⟨hb101, h⟩ := gg_ck h
      refine gg_iald 3 dX9_weakest_101 rfl hb101 ?_
      obtain ⟨hb102, h⟩ := gg_ck h
      refine gg_iast 5 (wd_X9_weakest c_latest c_asked c_upper c_lower c_n c_readAt c_readMany c_readFood c_isHead c_backMany c_deedMany c_whole c_wellSum c_strongSum c_hash c_kindOf c_winds c_now c_fronts (upd c_strengths_77 x6_77.toNatClampNeg (c_now ((8 : Int32) + x6_77).toNatClampNeg))) dX9_weakest_102 rfl hb102 rfl ?_
      refine gg_iconst (0 : Int32) dX9_weakest_103 (by decide) ?_
      refine gg_istore [some (.ref 0), none, some (.int y2), none, some (.int y4), some (.int x5_77), some (.int x6_77), some (.int (0 : Int32))] dX9_weakest_104 rfl (Nat.le_of_ble_eq_true rfl) rfl ?_
      refine lq_X9_weakest_106 y2 y4 x5_77 x6_77 c_latest c_asked c_upper c_lower c_n c_readAt c_readMany c_readFood c_isHead c_backMany c_deedMany c_whole c_wellSum c_strongSum c_hash c_kindOf c_winds c_now c_fronts _ ?_ gg_fuel (0 : Int32) (upd c_strengths_77 x6_77.toNatClampNeg (c_now ((8 : Int32) + x6_77).toNatClampNeg)) h
      intro c_strengths_157 h
      refine gg_aload_n dX9_weakest_157 rfl ?_
      refine gg_get 0 fl_X9_39 dX9_weakest_158 rfl rfl ?_
      refine gg_iload dX9_weakest_161 rfl ?_
      obtain ⟨v4, hv4, h⟩ := gg_bd h
      refine gg_callS (gg_sg [9]) [3] (wd_X9_weakest c_latest c_asked c_upper c_lower c_n c_readAt c_readMany c_readFood c_isHead c_backMany c_deedMany c_whole c_wellSum c_strongSum c_hash c_kindOf c_winds c_now c_fronts c_strengths_157) (C_X9_isThere_a26 x6_77 c_now hv4) nS_X9_isThere_a26 ml_X9_160 rfl rfl rfl rfl rfl rfl rfl [0, 1, 2, 4, 5] 6 rfl rfl rfl rfl rfl ⟨Nat.le_of_ble_eq_true rfl, Nat.le_of_ble_eq_true rfl⟩ (Nat.le_of_ble_eq_true rfl) dX9_weakest_163 [.int v4] rfl ?_
      obtain ⟨k193, hke193, h⟩ := gg_lte h
      have hk193 : ∀ (s0_193 : Int32), k193 s0_193 = some res → gg_G MD_X9_weakest 193 [some (.ref 0), none, some (.int y2), none, some (.int y4), none, some (.int x6_77), none] [.int s0_193] (wd_X9_weakest c_latest c_asked c_upper c_lower c_n c_readAt c_readMany c_readFood c_isHead c_backMany c_deedMany c_whole c_wellSum c_strongSum c_hash c_kindOf c_winds c_now c_fronts c_strengths_157) rr ww := by
        intro s0_193 h
        subst hke193
        refine gg_istore [some (.ref 0), none, some (.int y2), none, some (.int y4), some (.int s0_193), some (.int x6_77), none] dX9_weakest_193 rfl (Nat.le_of_ble_eq_true rfl) rfl ?_
        refine gg_iinc (x6_77 + (1 : Int32)) [some (.ref 0), none, some (.int y2), none, some (.int y4), some (.int s0_193), some (.int (x6_77 + (1 : Int32))), none] dX9_weakest_195 rfl rfl rfl (Nat.le_of_ble_eq_true rfl) rfl ?_
        refine gg_goto 77 dX9_weakest_198 (by decide) ?_
        exact ih s0_193 (x6_77 + (1 : Int32)) c_strengths_157 h
      clear hke193
      obtain ⟨k191, hke191, h⟩ := gg_lte h
      have hk191 : k191 = some res → gg_G MD_X9_weakest 191 [some (.ref 0), none, some (.int y2), none, some (.int y4), some (.int x5_77), some (.int x6_77), none] [] (wd_X9_weakest c_latest c_asked c_upper c_lower c_n c_readAt c_readMany c_readFood c_isHead c_backMany c_deedMany c_whole c_wellSum c_strongSum c_hash c_kindOf c_winds c_now c_fronts c_strengths_157) rr ww := by
        intro  h
        subst hke191
        refine gg_iload dX9_weakest_191 rfl ?_
        refine gg_fg [true, false, true, false, true, false, true, false] [some (.ref 0), none, some (.int y2), none, some (.int y4), none, some (.int x6_77), none] rfl ?_
        exact hk193 x5_77 h
      clear hke191
      refine gg_if_eq 191 dX9_weakest_166 (by decide) (fun hc => ?_) (fun hc => ?_)
      · replace h := gg_th h hc
        exact hk191 h
      · replace h := gg_el h hc
        refine gg_aload_n dX9_weakest_169 rfl ?_
        refine gg_get 0 fl_X9_73 dX9_weakest_170 rfl rfl ?_
        refine gg_iload dX9_weakest_173 rfl ?_
        obtain ⟨hb175, h⟩ := gg_ck h
        refine gg_iald 5 dX9_weakest_175 rfl hb175 ?_
        refine gg_iload dX9_weakest_176 rfl ?_
        refine gg_icmp_ge 191 dX9_weakest_178 (by decide) (fun hc => ?_) (fun hc => ?_)
        · replace h := gg_th h hc
          exact hk191 h
        · replace h := gg_el h hc
          refine gg_aload_n dX9_weakest_181 rfl ?_
          refine gg_get 0 fl_X9_73 dX9_weakest_182 rfl rfl ?_
          refine gg_iload dX9_weakest_185 rfl ?_
          obtain ⟨hb187, h⟩ := gg_ck h
          refine gg_iald 5 dX9_weakest_187 rfl hb187 ?_
          refine gg_goto 193 dX9_weakest_188 (by decide) ?_
          refine gg_fg [true, false, true, false, true, false, true, false] [some (.ref 0), none, some (.int y2), none, some (.int y4), none, some (.int x6_77), none] rfl ?_
          exact hk193 (c_strengths_157 x6_77.toNatClampNeg) h
set_option maxRecDepth 20000 in
set_option maxHeartbeats 8000000 in
theorem C_X9_weakest (a0 : Int32) (a1 : Int32) (c_latest : Int32) (c_asked : Int32) (c_upper : Int64) (c_lower : Int64) (c_n : Int32) (c_readAt : Int32) (c_readMany : Int32) (c_readFood : Int32) (c_isHead : Int32) (c_backMany : Int32) (c_deedMany : Int32) (c_whole : Int64) (c_wellSum : Int64) (c_strongSum : Int64) (c_hash : Int64) (c_kindOf : Nat → Int32) (c_winds : Nat → Int32) (c_now : Nat → Int32) (c_fronts : Nat → Int32) (c_strengths : Nat → Int32) {r0 : Int32} {r1 : (Nat → Int32)} {r2 : (Nat → Int32)} (h : f_X9_weakest a0 a1 c_n c_kindOf c_winds c_now c_fronts c_strengths = some (r0, r1, r2)) : gg_C MD_X9_weakest [.ref 0, .int a0, .int a1] (wd_X9_weakest c_latest c_asked c_upper c_lower c_n c_readAt c_readMany c_readFood c_isHead c_backMany c_deedMany c_whole c_wellSum c_strongSum c_hash c_kindOf c_winds c_now c_fronts c_strengths) (some (.int r0)) (wd_X9_weakest c_latest c_asked c_upper c_lower c_n c_readAt c_readMany c_readFood c_isHead c_backMany c_deedMany c_whole c_wellSum c_strongSum c_hash c_kindOf c_winds c_now r1 r2) := by
  refine gg_ofG [some (.ref 0), some (.int a0), some (.int a1), none, none, none, none, none] (plainFor_of_name (by decide)) (Nat.le_of_ble_eq_true rfl) rfl ?_
  unfold f_X9_weakest at h
  refine gg_iload_n dX9_weakest_0 rfl ?_
  refine gg_istore_n [some (.ref 0), some (.int a0), some (.int a1), some (.int a0), none, none, none, none] dX9_weakest_1 rfl (Nat.le_of_ble_eq_true rfl) rfl ?_
  refine gg_iconst (1 : Int32) dX9_weakest_2 (by decide) ?_
  refine gg_istore [some (.ref 0), some (.int a0), some (.int a1), some (.int a0), some (.int (1 : Int32)), none, none, none] dX9_weakest_3 rfl (Nat.le_of_ble_eq_true rfl) rfl ?_
  refine gg_iload_n dX9_weakest_5 rfl ?_
  refine gg_iconst (1 : Int32) dX9_weakest_6 (by decide) ?_
  refine gg_isub dX9_weakest_7 ?_
  refine gg_istore [some (.ref 0), some (.int a0), some (.int a1), some (.int a0), some (.int (1 : Int32)), some (.int (a1 - (1 : Int32))), none, none] dX9_weakest_8 rfl (Nat.le_of_ble_eq_true rfl) rfl ?_
  refine gg_fg [true, false, true, true, true, true, false, false] [some (.ref 0), none, some (.int a1), some (.int a0), some (.int (1 : Int32)), some (.int (a1 - (1 : Int32))), none, none] rfl ?_
  refine lq_X9_weakest_10 a1 c_latest c_asked c_upper c_lower c_n c_readAt c_readMany c_readFood c_isHead c_backMany c_deedMany c_whole c_wellSum c_strongSum c_hash c_kindOf c_winds c_now c_strengths _ ?_ gg_fuel a0 (1 : Int32) (a1 - (1 : Int32)) c_fronts h
  intro x4_70 c_fronts_70 h
  refine gg_ldc (1000000 : Int32) dX9_weakest_70 (gg_mem (by decide +kernel) rfl) ?_
  refine gg_istore [some (.ref 0), none, some (.int a1), none, some (.int x4_70), some (.int (1000000 : Int32)), none, none] dX9_weakest_72 rfl (Nat.le_of_ble_eq_true rfl) rfl ?_
  refine gg_iconst (0 : Int32) dX9_weakest_74 (by decide) ?_
  refine gg_istore [some (.ref 0), none, some (.int a1), none, some (.int x4_70), some (.int (1000000 : Int32)), some (.int (0 : Int32)), none] dX9_weakest_75 rfl (Nat.le_of_ble_eq_true rfl) rfl ?_
  refine lq_X9_weakest_77 a1 x4_70 c_latest c_asked c_upper c_lower c_n c_readAt c_readMany c_readFood c_isHead c_backMany c_deedMany c_whole c_wellSum c_strongSum c_hash c_kindOf c_winds c_now c_fronts_70 _ ?_ gg_fuel (1000000 : Int32) (0 : Int32) c_strengths h
  intro x5_201 c_strengths_201 h
  refine gg_iload dX9_weakest_201 rfl ?_
  obtain ⟨k213, hke213, h⟩ := gg_lte h
  have hk213 : ∀ (s0_213 : Int32), k213 s0_213 = some (r0, r1, r2) → gg_G MD_X9_weakest 213 [none, none, none, none, none, none, none, none] [.int s0_213] (wd_X9_weakest c_latest c_asked c_upper c_lower c_n c_readAt c_readMany c_readFood c_isHead c_backMany c_deedMany c_whole c_wellSum c_strongSum c_hash c_kindOf c_winds c_now c_fronts_70 c_strengths_201) (some (.int r0)) (wd_X9_weakest c_latest c_asked c_upper c_lower c_n c_readAt c_readMany c_readFood c_isHead c_backMany c_deedMany c_whole c_wellSum c_strongSum c_hash c_kindOf c_winds c_now r1 r2) := by
    intro s0_213 h
    subst hke213
    cases h
    exact gg_iret dX9_weakest_213 rfl
  clear hke213
  refine gg_if_eq 211 dX9_weakest_203 (by decide) (fun hc => ?_) (fun hc => ?_)
  · replace h := gg_th h hc
    refine gg_ldc (-2000000 : Int32) dX9_weakest_211 (gg_mem (by decide +kernel) rfl) ?_
    refine gg_fg [false, false, false, false, false, false, false, false] [none, none, none, none, none, none, none, none] rfl ?_
    exact hk213 (-2000000 : Int32) h
  · replace h := gg_el h hc
    refine gg_iload dX9_weakest_206 rfl ?_
    refine gg_goto 213 dX9_weakest_208 (by decide) ?_
    refine gg_fg [false, false, false, false, false, false, false, false] [none, none, none, none, none, none, none, none] rfl ?_
    exact hk213 x5_201 h
def wd_X9_vee (c_latest : Int32) (c_asked : Int32) (c_upper : Int64) (c_lower : Int64) (c_n : Int32) (c_readAt : Int32) (c_readMany : Int32) (c_readFood : Int32) (c_isHead : Int32) (c_backMany : Int32) (c_deedMany : Int32) (c_whole : Int64) (c_wellSum : Int64) (c_strongSum : Int64) (c_hash : Int64) (c_sizes : Nat → Int32) (c_rows : Nat → Int32) (c_kindOf : Nat → Int32) (c_winds : Nat → Int32) (c_now : Nat → Int32) (c_fronts : Nat → Int32) (c_strengths : Nat → Int32) : va_W := [(0, .inr (8, [.int c_latest, .ref 1, .int c_asked, .long c_upper, .long c_lower, .ref 2, .ref 3, .ref 4, .ref 5, .ref 6, .int c_n, .ref 7, .ref 8, .ref 9, .ref 10, .int c_readAt, .int c_readMany, .int c_readFood, .int c_isHead, .ref 11, .ref 12, .ref 13, .int c_backMany, .int c_deedMany, .ref 14, .ref 15, .ref 16, .ref 17, .ref 18, .ref 19, .ref 20, .ref 21, .ref 22, .ref 23, .ref 24, .long c_whole, .long c_wellSum, .long c_strongSum, .long c_hash])), (2, .inl (0, 6, .inl c_sizes)), (3, .inl (0, 240, .inl c_rows)), (7, .inl (0, 6, .inl c_kindOf)), (8, .inl (0, 4, .inl c_winds)), (9, .inl (0, 26, .inl c_now)), (19, .inl (0, 4, .inl c_fronts)), (20, .inl (0, 6, .inl c_strengths))]
def MD_X9_vee : gg_M := (yX9_vee, cX9_vee, 8, some .int, 3, 69)
theorem nV_X9_vee : gg_nV MD_X9_vee 2 := ⟨⟨gg_mem (by decide +kernel) rfl, gg_mem cw_X9_vee rfl, by decide, by decide, by decide +kernel⟩, gg_mem (by decide +kernel) rfl, gg_mem (by decide +kernel) rfl⟩
def lp_X9_vee_37 {β : Type} (y1 : Int32) (c_n : Int32) (k56 : (Int32) → Option β) : Nat → (Int32) → (Int32) → Option β
  | 0, _, _ => none
  | n + 1, x3_37, x4_37 => (if y1 ≤ x4_37 then (k56 x3_37) else (lp_X9_vee_37 y1 c_n k56 n (x3_37 * c_n) (x4_37 + (1 : Int32))))
def lp_X9_vee_66 {β : Type} (y1 : Int32) (y3 : Int32) (c_n : Int32) (c_kindOf : Nat → Int32) (c_winds : Nat → Int32) (c_now : Nat → Int32) (k119 : (Int32) → (Int32) → (Nat → Int32) → (Nat → Int32) → Option β) : Nat → (Int32) → (Int32) → (Int32) → (Nat → Int32) → (Nat → Int32) → Option β
  | 0, _, _, _, _, _ => none
  | n + 1, x4_66, x5_66, x6_66, c_fronts_66, c_strengths_66 => (if y3 ≤ x6_66 then (k119 x4_66 x5_66 c_fronts_66 c_strengths_66) else gg_b3 (f_X9_weakest x6_66 y1 c_n c_kindOf c_winds c_now c_fronts_66 c_strengths_66) (fun v4_0 v4_1 v4_2 => gg_lt (fun (s0_95 : Int32) => gg_lt (fun (s0_111 : Int32) => (lp_X9_vee_66 y1 y3 c_n c_kindOf c_winds c_now k119 n s0_95 s0_111 (x6_66 + (1 : Int32)) v4_1 v4_2)) (fun k111 => (if v4_0 ≤ x5_66 then (k111 x5_66) else (k111 v4_0)))) (fun k95 => (if v4_0 ≤ x5_66 then (k95 x4_66) else (k95 x6_66)))))
def lp_X9_vee_137 {β : Type} (y1 : Int32) (y2 : Int32) (c_fronts : Nat → Int32) (k168 : (Nat → Int32) → Option β) : Nat → (Int32) → (Nat → Int32) → Option β
  | 0, _, _ => none
  | n + 1, x6_137, c_rows_137 => (if y1 ≤ x6_137 then (k168 c_rows_137) else gg_chk (gg_in x6_137 4) (gg_chk (gg_in (((40 : Int32) * y2) + x6_137) 240) ((lp_X9_vee_137 y1 y2 c_fronts k168 n (x6_137 + (1 : Int32)) (upd c_rows_137 (((40 : Int32) * y2) + x6_137).toNatClampNeg (c_fronts x6_137.toNatClampNeg))))))
def f_X9_vee (a0 : Int32) (a1 : Int32) (c_n : Int32) (c_sizes : Nat → Int32) (c_rows : Nat → Int32) (c_kindOf : Nat → Int32) (c_winds : Nat → Int32) (c_now : Nat → Int32) (c_fronts : Nat → Int32) (c_strengths : Nat → Int32) : Option (Int32 × (Nat → Int32) × (Nat → Int32) × (Nat → Int32) × (Nat → Int32)) := (f_X9_in a0 (0 : Int32) (4 : Int32)).bind (fun v1 => gg_lt ((some ((-1 : Int32), c_sizes, c_rows, c_fronts, c_strengths))) (fun k16 => (if v1 = (0 : Int32) then k16 else (f_X9_isRow a1).bind (fun v2 => (if v2 = (0 : Int32) then k16 else (f_X9_there_a26 c_n c_now).bind (fun v3 => (if v3 = (0 : Int32) then (some ((-4 : Int32), c_sizes, c_rows, c_fronts, c_strengths)) else (lp_X9_vee_37 a0 c_n (fun (x3_56 : Int32) => (lp_X9_vee_66 a0 x3_56 c_n c_kindOf c_winds c_now (fun (x4_119 : Int32) (x5_119 : Int32) (c_fronts_119 : Nat → Int32) (c_strengths_119 : Nat → Int32) => gg_b3 (f_X9_weakest x4_119 a0 c_n c_kindOf c_winds c_now c_fronts_119 c_strengths_119) (fun v5_0 v5_1 v5_2 => gg_chk (gg_in a1 6) ((lp_X9_vee_137 a0 a1 v5_1 (fun (c_rows_168 : Nat → Int32) => (some ((x5_119 + (100 : Int32)), (upd c_sizes a1.toNatClampNeg a0), c_rows_168, v5_1, v5_2))) gg_fuel (0 : Int32) c_rows)))) gg_fuel (0 : Int32) (-2000000 : Int32) (0 : Int32) c_fronts c_strengths)) gg_fuel (1 : Int32) (0 : Int32)))))))))
set_option maxRecDepth 20000 in
set_option maxHeartbeats 4000000 in
theorem lq_X9_vee_37 {β : Type} {res : β} {rr : Option Value} {ww : va_W} (y1 : Int32) (y2 : Int32) (c_latest : Int32) (c_asked : Int32) (c_upper : Int64) (c_lower : Int64) (c_n : Int32) (c_readAt : Int32) (c_readMany : Int32) (c_readFood : Int32) (c_isHead : Int32) (c_backMany : Int32) (c_deedMany : Int32) (c_whole : Int64) (c_wellSum : Int64) (c_strongSum : Int64) (c_hash : Int64) (c_sizes : Nat → Int32) (c_rows : Nat → Int32) (c_kindOf : Nat → Int32) (c_winds : Nat → Int32) (c_now : Nat → Int32) (c_fronts : Nat → Int32) (c_strengths : Nat → Int32) (k56 : (Int32) → Option β) (hk56 : ∀ (x3_56 : Int32), k56 x3_56 = some res → gg_G MD_X9_vee 56 [some (.ref 0), some (.int y1), some (.int y2), some (.int x3_56), none, none, none, none] [] (wd_X9_vee c_latest c_asked c_upper c_lower c_n c_readAt c_readMany c_readFood c_isHead c_backMany c_deedMany c_whole c_wellSum c_strongSum c_hash c_sizes c_rows c_kindOf c_winds c_now c_fronts c_strengths) rr ww) : ∀ (n : Nat) (x3_37 : Int32) (x4_37 : Int32), lp_X9_vee_37 y1 c_n k56 n x3_37 x4_37 = some res → gg_G MD_X9_vee 37 [some (.ref 0), some (.int y1), some (.int y2), some (.int x3_37), some (.int x4_37), none, none, none] [] (wd_X9_vee c_latest c_asked c_upper c_lower c_n c_readAt c_readMany c_readFood c_isHead c_backMany c_deedMany c_whole c_wellSum c_strongSum c_hash c_sizes c_rows c_kindOf c_winds c_now c_fronts c_strengths) rr ww := by
  intro n
  induction n with
  | zero =>
    intro x3_37 x4_37 h
    exact nomatch (show (none : Option β) = some res from h)
  | succ n ih =>
    intro x3_37 x4_37 h
    rw [lp_X9_vee_37] at h
    refine gg_iload dX9_vee_37 rfl ?_
    refine gg_iload_n dX9_vee_39 rfl ?_
    refine gg_icmp_ge 56 dX9_vee_40 (by decide) (fun hc => ?_) (fun hc => ?_)
    · replace h := gg_th h hc
      refine gg_fg [true, true, true, true, false, false, false, false] [some (.ref 0), some (.int y1), some (.int y2), some (.int x3_37), none, none, none, none] rfl ?_
      exact hk56 x3_37 h
    · replace h := gg_el h hc
      refine gg_iload_n dX9_vee_43 rfl ?_
      refine gg_aload_n dX9_vee_44 rfl ?_
      refine gg_get 0 fl_X9_154 dX9_vee_45 rfl rfl ?_
      refine gg_imul dX9_vee_48 ?_
      refine gg_istore_n [some (.ref 0), some (.int y1), some (.int y2), some (.int (x3_37 * c_n)), some (.int x4_37), none, none, none] dX9_vee_49 rfl (Nat.le_of_ble_eq_true rfl) rfl ?_
      refine gg_iinc (x4_37 + (1 : Int32)) [some (.ref 0), some (.int y1), some (.int y2), some (.int (x3_37 * c_n)), some (.int (x4_37 + (1 : Int32))), none, none, none] dX9_vee_50 rfl rfl rfl (Nat.le_of_ble_eq_true rfl) rfl ?_
      refine gg_goto 37 dX9_vee_53 (by decide) ?_
      exact ih (x3_37 * c_n) (x4_37 + (1 : Int32)) h
set_option maxRecDepth 20000 in
set_option maxHeartbeats 4000000 in
theorem lq_X9_vee_66 {β : Type} {res : β} {rr : Option Value} {ww : va_W} (y1 : Int32) (y2 : Int32) (y3 : Int32) (c_latest : Int32) (c_asked : Int32) (c_upper : Int64) (c_lower : Int64) (c_n : Int32) (c_readAt : Int32) (c_readMany : Int32) (c_readFood : Int32) (c_isHead : Int32) (c_backMany : Int32) (c_deedMany : Int32) (c_whole : Int64) (c_wellSum : Int64) (c_strongSum : Int64) (c_hash : Int64) (c_sizes : Nat → Int32) (c_rows : Nat → Int32) (c_kindOf : Nat → Int32) (c_winds : Nat → Int32) (c_now : Nat → Int32) (k119 : (Int32) → (Int32) → (Nat → Int32) → (Nat → Int32) → Option β) (hk119 : ∀ (x4_119 : Int32) (x5_119 : Int32) (c_fronts_119 : Nat → Int32) (c_strengths_119 : Nat → Int32), k119 x4_119 x5_119 c_fronts_119 c_strengths_119 = some res → gg_G MD_X9_vee 119 [some (.ref 0), some (.int y1), some (.int y2), none, some (.int x4_119), some (.int x5_119), none, none] [] (wd_X9_vee c_latest c_asked c_upper c_lower c_n c_readAt c_readMany c_readFood c_isHead c_backMany c_deedMany c_whole c_wellSum c_strongSum c_hash c_sizes c_rows c_kindOf c_winds c_now c_fronts_119 c_strengths_119) rr ww) : ∀ (n : Nat) (x4_66 : Int32) (x5_66 : Int32) (x6_66 : Int32) (c_fronts_66 : Nat → Int32) (c_strengths_66 : Nat → Int32), lp_X9_vee_66 y1 y3 c_n c_kindOf c_winds c_now k119 n x4_66 x5_66 x6_66 c_fronts_66 c_strengths_66 = some res → gg_G MD_X9_vee 66 [some (.ref 0), some (.int y1), some (.int y2), some (.int y3), some (.int x4_66), some (.int x5_66), some (.int x6_66), none] [] (wd_X9_vee c_latest c_asked c_upper c_lower c_n c_readAt c_readMany c_readFood c_isHead c_backMany c_deedMany c_whole c_wellSum c_strongSum c_hash c_sizes c_rows c_kindOf c_winds c_now c_fronts_66 c_strengths_66) rr ww := by
  intro n
  induction n with
  | zero =>
    intro x4_66 x5_66 x6_66 c_fronts_66 c_strengths_66 h
    exact nomatch (show (none : Option β) = some res from h)
  | succ n ih =>
    intro x4_66 x5_66 x6_66 c_fronts_66 c_strengths_66 h
    rw [lp_X9_vee_66] at h
    refine gg_iload dX9_vee_66 rfl ?_
    refine gg_iload_n dX9_vee_68 rfl ?_
    refine gg_icmp_ge 119 dX9_vee_69 (by decide) (fun hc => ?_) (fun hc => ?_)
    · replace h := gg_th h hc
      refine gg_fg [true, true, true, false, true, true, false, false] [some (.ref 0), some (.int y1), some (.int y2), none, some (.int x4_66), some (.int x5_66), none, none] rfl ?_
      exact hk119 x4_66 x5_66 c_fronts_66 c_strengths_66 h
    · replace h := gg_el h hc
      refine gg_aload_n dX9_vee_72 rfl ?_
      refine gg_iload dX9_vee_73 rfl ?_
      refine gg_iload_n dX9_vee_75 rfl ?_
      obtain ⟨v4_0, v4_1, v4_2, hv4, h⟩ := gg_bd3 h
      refine gg_callV (gg_sg [0]) [0, 3, 4, 5, 6, 7] (wd_X9_vee c_latest c_asked c_upper c_lower c_n c_readAt c_readMany c_readFood c_isHead c_backMany c_deedMany c_whole c_wellSum c_strongSum c_hash c_sizes c_rows c_kindOf c_winds c_now v4_1 v4_2) 0 (C_X9_weakest x6_66 y1 c_latest c_asked c_upper c_lower c_n c_readAt c_readMany c_readFood c_isHead c_backMany c_deedMany c_whole c_wellSum c_strongSum c_hash c_kindOf c_winds c_now c_fronts_66 c_strengths_66 hv4) nV_X9_weakest ml_X9_239 rfl rfl rfl rfl rfl rfl rfl rfl rfl rfl [1, 2] 8 rfl rfl rfl rfl rfl ⟨Nat.le_of_ble_eq_true rfl, Nat.le_of_ble_eq_true rfl⟩ (Nat.le_of_ble_eq_true rfl) dX9_vee_76 [.int v4_0] rfl ?_
      refine gg_istore [some (.ref 0), some (.int y1), some (.int y2), some (.int y3), some (.int x4_66), some (.int x5_66), some (.int x6_66), some (.int v4_0)] dX9_vee_79 rfl (Nat.le_of_ble_eq_true rfl) rfl ?_
      refine gg_iload dX9_vee_81 rfl ?_
      refine gg_iload dX9_vee_83 rfl ?_
      obtain ⟨k95, hke95, h⟩ := gg_lte h
      have hk95 : ∀ (s0_95 : Int32), k95 s0_95 = some res → gg_G MD_X9_vee 95 [some (.ref 0), some (.int y1), some (.int y2), some (.int y3), none, some (.int x5_66), some (.int x6_66), some (.int v4_0)] [.int s0_95] (wd_X9_vee c_latest c_asked c_upper c_lower c_n c_readAt c_readMany c_readFood c_isHead c_backMany c_deedMany c_whole c_wellSum c_strongSum c_hash c_sizes c_rows c_kindOf c_winds c_now v4_1 v4_2) rr ww := by
        intro s0_95 h
        subst hke95
        refine gg_istore [some (.ref 0), some (.int y1), some (.int y2), some (.int y3), some (.int s0_95), some (.int x5_66), some (.int x6_66), some (.int v4_0)] dX9_vee_95 rfl (Nat.le_of_ble_eq_true rfl) rfl ?_
        refine gg_iload dX9_vee_97 rfl ?_
        refine gg_iload dX9_vee_99 rfl ?_
        obtain ⟨k111, hke111, h⟩ := gg_lte h
        have hk111 : ∀ (s0_111 : Int32), k111 s0_111 = some res → gg_G MD_X9_vee 111 [some (.ref 0), some (.int y1), some (.int y2), some (.int y3), some (.int s0_95), none, some (.int x6_66), none] [.int s0_111] (wd_X9_vee c_latest c_asked c_upper c_lower c_n c_readAt c_readMany c_readFood c_isHead c_backMany c_deedMany c_whole c_wellSum c_strongSum c_hash c_sizes c_rows c_kindOf c_winds c_now v4_1 v4_2) rr ww := by
          intro s0_111 h
          subst hke111
          refine gg_istore [some (.ref 0), some (.int y1), some (.int y2), some (.int y3), some (.int s0_95), some (.int s0_111), some (.int x6_66), none] dX9_vee_111 rfl (Nat.le_of_ble_eq_true rfl) rfl ?_
          refine gg_iinc (x6_66 + (1 : Int32)) [some (.ref 0), some (.int y1), some (.int y2), some (.int y3), some (.int s0_95), some (.int s0_111), some (.int (x6_66 + (1 : Int32))), none] dX9_vee_113 rfl rfl rfl (Nat.le_of_ble_eq_true rfl) rfl ?_
          refine gg_goto 66 dX9_vee_116 (by decide) ?_
          exact ih s0_95 s0_111 (x6_66 + (1 : Int32)) v4_1 v4_2 h
        clear hke111
        refine gg_icmp_le 109 dX9_vee_101 (by decide) (fun hc => ?_) (fun hc => ?_)
        · replace h := gg_th h hc
          refine gg_iload dX9_vee_109 rfl ?_
          refine gg_fg [true, true, true, true, true, false, true, false] [some (.ref 0), some (.int y1), some (.int y2), some (.int y3), some (.int s0_95), none, some (.int x6_66), none] rfl ?_
          exact hk111 x5_66 h
        · replace h := gg_el h hc
          refine gg_iload dX9_vee_104 rfl ?_
          refine gg_goto 111 dX9_vee_106 (by decide) ?_
          refine gg_fg [true, true, true, true, true, false, true, false] [some (.ref 0), some (.int y1), some (.int y2), some (.int y3), some (.int s0_95), none, some (.int x6_66), none] rfl ?_
          exact hk111 v4_0 h
      clear hke95
      refine gg_icmp_le 93 dX9_vee_85 (by decide) (fun hc => ?_) (fun hc => ?_)
      · replace h := gg_th h hc
        refine gg_iload dX9_vee_93 rfl ?_
        refine gg_fg [true, true, true, true, false, true, true, true] [some (.ref 0), some (.int y1), some (.int y2), some (.int y3), none, some (.int x5_66), some (.int x6_66), some (.int v4_0)] rfl ?_
        exact hk95 x4_66 h
      · replace h := gg_el h hc
        refine gg_iload dX9_vee_88 rfl ?_
        refine gg_goto 95 dX9_vee_90 (by decide) ?_
        refine gg_fg [true, true, true, true, false, true, true, true] [some (.ref 0), some (.int y1), some (.int y2), some (.int y3), none, some (.int x5_66), some (.int x6_66), some (.int v4_0)] rfl ?_
        exact hk95 x6_66 h
set_option maxRecDepth 20000 in
set_option maxHeartbeats 4000000 in
theorem lq_X9_vee_137 {β : Type} {res : β} {rr : Option Value} {ww : va_W} (y1 : Int32) (y2 : Int32) (y5 : Int32) (c_latest : Int32) (c_asked : Int32) (c_upper : Int64) (c_lower : Int64) (c_n : Int32) (c_readAt : Int32) (c_readMany : Int32) (c_readFood : Int32) (c_isHead : Int32) (c_backMany : Int32) (c_deedMany : Int32) (c_whole : Int64) (c_wellSum : Int64) (c_strongSum : Int64) (c_hash : Int64) (c_sizes : Nat → Int32) (c_kindOf : Nat → Int32) (c_winds : Nat → Int32) (c_now : Nat → Int32) (c_fronts : Nat → Int32) (c_strengths : Nat → Int32) (k168 : (Nat → Int32) → Option β) (hk168 : ∀ (c_rows_168 : Nat → Int32), k168 c_rows_168 = some res → gg_G MD_X9_vee 168 [none, none, none, none, none, some (.int y5), none, none] [] (wd_X9_vee c_latest c_asked c_upper c_lower c_n c_readAt c_readMany c_readFood c_isHead c_backMany c_deedMany c_whole c_wellSum c_strongSum c_hash c_sizes c_rows_168 c_kindOf c_winds c_now c_fronts c_strengths) rr ww) : ∀ (n : Nat) (x6_137 : Int32) (c_rows_137 : Nat → Int32), lp_X9_vee_137 y1 y2 c_fronts k168 n x6_137 c_rows_137 = some res → gg_G MD_X9_vee 137 [some (.ref 0), some (.int y1), some (.int y2), none, none, some (.int y5), some (.int x6_137), none] [] (wd_X9_vee c_latest c_asked c_upper c_lower c_n c_readAt c_readMany c_readFood c_isHead c_backMany c_deedMany c_whole c_wellSum c_strongSum c_hash c_sizes c_rows_137 c_kindOf c_winds c_now c_fronts c_strengths) rr ww := by
  intro n
  induction n with
  | zero =>
    intro x6_137 c_rows_137 h
    exact nomatch (show (none : Option β) = some res from h)
  | succ n ih =>
    intro x6_137 c_rows_137 h
    rw [lp_X9_vee_137] at h
    refine gg_iload dX9_vee_137 rfl ?_
    refine gg_iload_n dX9_vee_139 rfl ?_
    refine gg_icmp_ge 168 dX9_vee_140 (by decide) (fun hc => ?_) (fun hc => ?_)
    · replace h := gg_th h hc
      refine gg_fg [false, false, false, false, false, true, false, false] [none, none, none, none, none, some (.int y5), none, none] rfl ?_
      exact hk168 c_rows_137 h
    · replace h := gg_el h hc
      refine gg_aload_n dX9_vee_143 rfl ?_
      refine gg_get 0 fl_X9_20 dX9_vee_144 rfl rfl ?_
      refine gg_bipush (40 : Int32) dX9_vee_147 (by decide) ?_
      refine gg_iload_n dX9_vee_149 rfl ?_
      refine gg_imul dX9_vee_150 ?_
      refine gg_iload dX9_vee_151 rfl ?_
      refine gg_iadd dX9_vee_153 ?_
      refine gg_aload_n dX9_vee_154 rfl ?_
      refine gg_get 0 fl_X9_70 dX9_vee_155 rfl rfl ?_
      refine gg_iload dX9_vee_158 rfl ?_
      obtain ⟨hb160, h⟩ := gg_ck h
      refine gg_iald 6 dX9_vee_160 rfl hb160 ?_
      obtain ⟨hb161, h⟩ := gg_ck h
      refine gg_iast 2 (wd_X9_vee c_latest c_asked c_upper c_lower c_n c_readAt c_readMany c_readFood c_isHead c_backMany c_deedMany c_whole c_wellSum c_strongSum c_hash c_sizes (upd c_rows_137 (((40 : Int32) * y2) + x6_137).toNatClampNeg (c_fronts x6_137.toNatClampNeg)) c_kindOf c_winds c_now c_fronts c_strengths) dX9_vee_161 rfl hb161 rfl ?_
      refine gg_iinc (x6_137 + (1 : Int32)) [some (.ref 0), some (.int y1), some (.int y2), none, none, some (.int y5), some (.int (x6_137 + (1 : Int32))), none] dX9_vee_162 rfl rfl rfl (Nat.le_of_ble_eq_true rfl) rfl ?_
      refine gg_goto 137 dX9_vee_165 (by decide) ?_
      exact ih (x6_137 + (1 : Int32)) (upd c_rows_137 (((40 : Int32) * y2) + x6_137).toNatClampNeg (c_fronts x6_137.toNatClampNeg)) h
set_option maxRecDepth 20000 in
set_option maxHeartbeats 8000000 in
theorem C_X9_vee (a0 : Int32) (a1 : Int32) (c_latest : Int32) (c_asked : Int32) (c_upper : Int64) (c_lower : Int64) (c_n : Int32) (c_readAt : Int32) (c_readMany : Int32) (c_readFood : Int32) (c_isHead : Int32) (c_backMany : Int32) (c_deedMany : Int32) (c_whole : Int64) (c_wellSum : Int64) (c_strongSum : Int64) (c_hash : Int64) (c_sizes : Nat → Int32) (c_rows : Nat → Int32) (c_kindOf : Nat → Int32) (c_winds : Nat → Int32) (c_now : Nat → Int32) (c_fronts : Nat → Int32) (c_strengths : Nat → Int32) {r0 : Int32} {r1 : (Nat → Int32)} {r2 : (Nat → Int32)} {r3 : (Nat → Int32)} {r4 : (Nat → Int32)} (h : f_X9_vee a0 a1 c_n c_sizes c_rows c_kindOf c_winds c_now c_fronts c_strengths = some (r0, r1, r2, r3, r4)) : gg_C MD_X9_vee [.ref 0, .int a0, .int a1] (wd_X9_vee c_latest c_asked c_upper c_lower c_n c_readAt c_readMany c_readFood c_isHead c_backMany c_deedMany c_whole c_wellSum c_strongSum c_hash c_sizes c_rows c_kindOf c_winds c_now c_fronts c_strengths) (some (.int r0)) (wd_X9_vee c_latest c_asked c_upper c_lower c_n c_readAt c_readMany c_readFood c_isHead c_backMany c_deedMany c_whole c_wellSum c_strongSum c_hash r1 r2 c_kindOf c_winds c_now r3 r4) := by
  refine gg_ofG [some (.ref 0), some (.int a0), some (.int a1), none, none, none, none, none] (plainFor_of_name (by decide)) (Nat.le_of_ble_eq_true rfl) rfl ?_
  unfold f_X9_vee at h
  refine gg_iload_n dX9_vee_0 rfl ?_
  refine gg_iconst (0 : Int32) dX9_vee_1 (by decide) ?_
  refine gg_iconst (4 : Int32) dX9_vee_2 (by decide) ?_
  obtain ⟨v1, hv1, h⟩ := gg_bd h
  refine gg_callS (gg_sg []) [] (wd_X9_vee c_latest c_asked c_upper c_lower c_n c_readAt c_readMany c_readFood c_isHead c_backMany c_deedMany c_whole c_wellSum c_strongSum c_hash c_sizes c_rows c_kindOf c_winds c_now c_fronts c_strengths) (C_X9_in a0 (0 : Int32) (4 : Int32) hv1) nS_X9_in ml_X9_92 rfl rfl rfl rfl rfl rfl rfl [0, 1, 2, 3, 4, 5, 6, 7] 8 rfl rfl rfl rfl rfl ⟨Nat.le_of_ble_eq_true rfl, Nat.le_of_ble_eq_true rfl⟩ (Nat.le_of_ble_eq_true rfl) dX9_vee_3 [.int v1] rfl ?_
  obtain ⟨k16, hke16, h⟩ := gg_lte h
  have hk16 : k16 = some (r0, r1, r2, r3, r4) → gg_G MD_X9_vee 16 [none, none, none, none, none, none, none, none] [] (wd_X9_vee c_latest c_asked c_upper c_lower c_n c_readAt c_readMany c_readFood c_isHead c_backMany c_deedMany c_whole c_wellSum c_strongSum c_hash c_sizes c_rows c_kindOf c_winds c_now c_fronts c_strengths) (some (.int r0)) (wd_X9_vee c_latest c_asked c_upper c_lower c_n c_readAt c_readMany c_readFood c_isHead c_backMany c_deedMany c_whole c_wellSum c_strongSum c_hash r1 r2 c_kindOf c_winds c_now r3 r4) := by
    intro  h
    subst hke16
    refine gg_iconst (-1 : Int32) dX9_vee_16 (by decide) ?_
    cases h
    exact gg_iret dX9_vee_17 rfl
  clear hke16
  refine gg_if_eq 16 dX9_vee_6 (by decide) (fun hc => ?_) (fun hc => ?_)
  · replace h := gg_th h hc
    refine gg_fg [false, false, false, false, false, false, false, false] [none, none, none, none, none, none, none, none] rfl ?_
    exact hk16 h
  · replace h := gg_el h hc
    refine gg_iload_n dX9_vee_9 rfl ?_
    obtain ⟨v2, hv2, h⟩ := gg_bd h
    refine gg_callS (gg_sg []) [] (wd_X9_vee c_latest c_asked c_upper c_lower c_n c_readAt c_readMany c_readFood c_isHead c_backMany c_deedMany c_whole c_wellSum c_strongSum c_hash c_sizes c_rows c_kindOf c_winds c_now c_fronts c_strengths) (C_X9_isRow a1 hv2) nS_X9_isRow ml_X9_102 rfl rfl rfl rfl rfl rfl rfl [0, 1, 2, 3, 4, 5, 6, 7] 8 rfl rfl rfl rfl rfl ⟨Nat.le_of_ble_eq_true rfl, Nat.le_of_ble_eq_true rfl⟩ (Nat.le_of_ble_eq_true rfl) dX9_vee_10 [.int v2] rfl ?_
    refine gg_if_ne 18 dX9_vee_13 (by decide) (fun hc => ?_) (fun hc => ?_)
    · replace h := gg_el h hc
      refine gg_aload_n dX9_vee_18 rfl ?_
      refine gg_aload_n dX9_vee_19 rfl ?_
      refine gg_get 0 fl_X9_39 dX9_vee_20 rfl rfl ?_
      obtain ⟨v3, hv3, h⟩ := gg_bd h
      refine gg_callV (gg_sg [0, 9]) [0, 5] (wd_X9_vee c_latest c_asked c_upper c_lower c_n c_readAt c_readMany c_readFood c_isHead c_backMany c_deedMany c_whole c_wellSum c_strongSum c_hash c_sizes c_rows c_kindOf c_winds c_now c_fronts c_strengths) 0 (C_X9_there_a26 c_latest c_asked c_upper c_lower c_n c_readAt c_readMany c_readFood c_isHead c_backMany c_deedMany c_whole c_wellSum c_strongSum c_hash c_now hv3) nV_X9_there_a26 ml_X9_217 rfl rfl rfl rfl rfl rfl rfl rfl rfl rfl [1, 2, 3, 4, 6, 7] 8 rfl rfl rfl rfl rfl ⟨Nat.le_of_ble_eq_true rfl, Nat.le_of_ble_eq_true rfl⟩ (Nat.le_of_ble_eq_true rfl) dX9_vee_23 [.int v3] rfl ?_
      refine gg_if_ne 32 dX9_vee_26 (by decide) (fun hc => ?_) (fun hc => ?_)
      · replace h := gg_el h hc
        refine gg_iconst (1 : Int32) dX9_vee_32 (by decide) ?_
        refine gg_istore_n [some (.ref 0), some (.int a0), some (.int a1), some (.int (1 : Int32)), none, none, none, none] dX9_vee_33 rfl (Nat.le_of_ble_eq_true rfl) rfl ?_
        refine gg_iconst (0 : Int32) dX9_vee_34 (by decide) ?_
        refine gg_istore [some (.ref 0), some (.int a0), some (.int a1), some (.int (1 : Int32)), some (.int (0 : Int32)), none, none, none] dX9_vee_35 rfl (Nat.le_of_ble_eq_true rfl) rfl ?_
        refine lq_X9_vee_37 a0 a1 c_latest c_asked c_upper c_lower c_n c_readAt c_readMany c_readFood c_isHead c_backMany c_deedMany c_whole c_wellSum c_strongSum c_hash c_sizes c_rows c_kindOf c_winds c_now c_fronts c_strengths _ ?_ gg_fuel (1 : Int32) (0 : Int32) h
        intro x3_56 h
        refine gg_iconst (0 : Int32) dX9_vee_56 (by decide) ?_
        refine gg_istore [some (.ref 0), some (.int a0), some (.int a1), some (.int x3_56), some (.int (0 : Int32)), none, none, none] dX9_vee_57 rfl (Nat.le_of_ble_eq_true rfl) rfl ?_
        refine gg_ldc (-2000000 : Int32) dX9_vee_59 (gg_mem (by decide +kernel) rfl) ?_
        refine gg_istore [some (.ref 0), some (.int a0), some (.int a1), some (.int x3_56), some (.int (0 : Int32)), some (.int (-2000000 : Int32)), none, none] dX9_vee_61 rfl (Nat.le_of_ble_eq_true rfl) rfl ?_
        refine gg_iconst (0 : Int32) dX9_vee_63 (by decide) ?_
        refine gg_istore [some (.ref 0), some (.int a0), some (.int a1), some (.int x3_56), some (.int (0 : Int32)), some (.int (-2000000 : Int32)), some (.int (0 : Int32)), none] dX9_vee_64 rfl (Nat.le_of_ble_eq_true rfl) rfl ?_
        refine lq_X9_vee_66 a0 a1 x3_56 c_latest c_asked c_upper c_lower c_n c_readAt c_readMany c_readFood c_isHead c_backMany c_deedMany c_whole c_wellSum c_strongSum c_hash c_sizes c_rows c_kindOf c_winds c_now _ ?_ gg_fuel (0 : Int32) (-2000000 : Int32) (0 : Int32) c_fronts c_strengths h
        intro x4_119 x5_119 c_fronts_119 c_strengths_119 h
        refine gg_aload_n dX9_vee_119 rfl ?_
        refine gg_iload dX9_vee_120 rfl ?_
        refine gg_iload_n dX9_vee_122 rfl ?_
        obtain ⟨v5_0, v5_1, v5_2, hv5, h⟩ := gg_bd3 h
        refine gg_callV (gg_sg [0]) [0, 3, 4, 5, 6, 7] (wd_X9_vee c_latest c_asked c_upper c_lower c_n c_readAt c_readMany c_readFood c_isHead c_backMany c_deedMany c_whole c_wellSum c_strongSum c_hash c_sizes c_rows c_kindOf c_winds c_now v5_1 v5_2) 0 (C_X9_weakest x4_119 a0 c_latest c_asked c_upper c_lower c_n c_readAt c_readMany c_readFood c_isHead c_backMany c_deedMany c_whole c_wellSum c_strongSum c_hash c_kindOf c_winds c_now c_fronts_119 c_strengths_119 hv5) nV_X9_weakest ml_X9_239 rfl rfl rfl rfl rfl rfl rfl rfl rfl rfl [1, 2] 8 rfl rfl rfl rfl rfl ⟨Nat.le_of_ble_eq_true rfl, Nat.le_of_ble_eq_true rfl⟩ (Nat.le_of_ble_eq_true rfl) dX9_vee_123 [.int v5_0] rfl ?_
        refine gg_pop dX9_vee_126 rfl ?_
        refine gg_aload_n dX9_vee_127 rfl ?_
        refine gg_get 0 fl_X9_17 dX9_vee_128 rfl rfl ?_
        refine gg_iload_n dX9_vee_131 rfl ?_
        refine gg_iload_n dX9_vee_132 rfl ?_
        obtain ⟨hb133, h⟩ := gg_ck h
        refine gg_iast 1 (wd_X9_vee c_latest c_asked c_upper c_lower c_n c_readAt c_readMany c_readFood c_isHead c_backMany c_deedMany c_whole c_wellSum c_strongSum c_hash (upd c_sizes a1.toNatClampNeg a0) c_rows c_kindOf c_winds c_now v5_1 v5_2) dX9_vee_133 rfl hb133 rfl ?_
        refine gg_iconst (0 : Int32) dX9_vee_134 (by decide) ?_
        refine gg_istore [some (.ref 0), some (.int a0), some (.int a1), none, some (.int x4_119), some (.int x5_119), some (.int (0 : Int32)), none] dX9_vee_135 rfl (Nat.le_of_ble_eq_true rfl) rfl ?_
        refine gg_fg [true, true, true, false, false, true, true, false] [some (.ref 0), some (.int a0), some (.int a1), none, none, some (.int x5_119), some (.int (0 : Int32)), none] rfl ?_
        refine lq_X9_vee_137 a0 a1 x5_119 c_latest c_asked c_upper c_lower c_n c_readAt c_readMany c_readFood c_isHead c_backMany c_deedMany c_whole c_wellSum c_strongSum c_hash (upd c_sizes a1.toNatClampNeg a0) c_kindOf c_winds c_now v5_1 v5_2 _ ?_ gg_fuel (0 : Int32) c_rows h
        intro c_rows_168 h
        refine gg_iload dX9_vee_168 rfl ?_
        refine gg_bipush (100 : Int32) dX9_vee_170 (by decide) ?_
        refine gg_iadd dX9_vee_172 ?_
        cases h
        exact gg_iret dX9_vee_173 rfl
      · replace h := gg_th h hc
        refine gg_bipush (-4 : Int32) dX9_vee_29 (by decide) ?_
        cases h
        exact gg_iret dX9_vee_31 rfl
    · replace h := gg_th h hc
      refine gg_fg [false, false, false, false, false, false, false, false] [none, none, none, none, none, none, none, none] rfl ?_
      exact hk16 h
def wd_X9_isPut (c_latest : Int32) (c_asked : Int32) (c_upper : Int64) (c_lower : Int64) (c_n : Int32) (c_readAt : Int32) (c_readMany : Int32) (c_readFood : Int32) (c_isHead : Int32) (c_backMany : Int32) (c_deedMany : Int32) (c_whole : Int64) (c_wellSum : Int64) (c_strongSum : Int64) (c_hash : Int64) (c_now : Nat → Int32) (c_free : Nat → Int32) (c_placed : Nat → Int32) : va_W := [(0, .inr (8, [.int c_latest, .ref 1, .int c_asked, .long c_upper, .long c_lower, .ref 2, .ref 3, .ref 4, .ref 5, .ref 6, .int c_n, .ref 7, .ref 8, .ref 9, .ref 10, .int c_readAt, .int c_readMany, .int c_readFood, .int c_isHead, .ref 11, .ref 12, .ref 13, .int c_backMany, .int c_deedMany, .ref 14, .ref 15, .ref 16, .ref 17, .ref 18, .ref 19, .ref 20, .ref 21, .ref 22, .ref 23, .ref 24, .long c_whole, .long c_wellSum, .long c_strongSum, .long c_hash])), (9, .inl (0, 26, .inl c_now)), (21, .inl (0, 6, .inl c_free)), (22, .inl (0, 6, .inl c_placed))]
def MD_X9_isPut : gg_M := (yX9_isPut, cX9_isPut, 6, some .boolean, 1, 22)
theorem nV_X9_isPut : gg_nV MD_X9_isPut 2 := ⟨⟨gg_mem (by decide +kernel) rfl, gg_mem cw_X9_isPut rfl, by decide, by decide, by decide +kernel⟩, gg_mem (by decide +kernel) rfl, gg_mem (by decide +kernel) rfl⟩
def lp_X9_isPut_13 {β : Type} (y2 : Int32) (c_now : Nat → Int32) (c_free : Nat → Int32) (k74 : (Int32) → (Nat → Int32) → Option β) : Nat → (Int32) → (Int32) → (Int32) → (Nat → Int32) → Option β
  | 0, _, _, _, _ => none
  | n + 1, x3_13, x4_13, x5_13, c_placed_13 => (if x5_13 < (0 : Int32) then (k74 x4_13 c_placed_13) else gg_chk (gg_in x5_13 6) ((f_X9_isThere_a26 x5_13 c_now).bind (fun v1 => gg_lt (fun (x3_68 : Int32) (x4_68 : Int32) (c_placed_68 : Nat → Int32) => (lp_X9_isPut_13 y2 c_now c_free k74 n x3_68 x4_68 (x5_13 + (-1 : Int32)) c_placed_68)) (fun k68 => (if v1 = (0 : Int32) then (k68 x3_13 x4_13 (upd c_placed_13 x5_13.toNatClampNeg (-9 : Int32))) else gg_chk (!decide (y2 = 0)) (gg_chk (!decide (y2 = 0)) (gg_chk (gg_in (x3_13 - x3_13 / y2 * y2) 6) (gg_chk (gg_in x5_13 6) (gg_chk (!decide (y2 = 0)) ((k68 (x3_13 / y2) (x4_13 ||| ((1 : Int32) <<< ((x3_13 - x3_13 / y2 * y2) &&& 31))) (upd (upd c_placed_13 x5_13.toNatClampNeg (-9 : Int32)) x5_13.toNatClampNeg (c_free (x3_13 - x3_13 / y2 * y2).toNatClampNeg)))))))))))))
def f_X9_isPut (a0 : Int32) (a1 : Int32) (c_n : Int32) (c_now : Nat → Int32) (c_free : Nat → Int32) (c_placed : Nat → Int32) : Option (Int32 × (Nat → Int32)) := (lp_X9_isPut_13 a1 c_now c_free (fun (x4_74 : Int32) (c_placed_74 : Nat → Int32) => (f_X9_bits x4_74).bind (fun v2 => gg_lt (fun (s0_88 : Int32) => gg_chk (gg_isb s0_88) (some (s0_88, c_placed_74))) (fun k88 => (if v2 = a1 then (k88 (1 : Int32)) else (k88 (0 : Int32)))))) gg_fuel a0 (0 : Int32) (c_n - (1 : Int32)) c_placed)
set_option maxRecDepth 20000 in
set_option maxHeartbeats 4000000 in
theorem lq_X9_isPut_13 {β : Type} {res : β} {rr : Option Value} {ww : va_W} (y2 : Int32) (c_latest : Int32) (c_asked : Int32) (c_upper : Int64) (c_lower : Int64) (c_n : Int32) (c_readAt : Int32) (c_readMany : Int32) (c_readFood : Int32) (c_isHead : Int32) (c_backMany : Int32) (c_deedMany : Int32) (c_whole : Int64) (c_wellSum : Int64) (c_strongSum : Int64) (c_hash : Int64) (c_now : Nat → Int32) (c_free : Nat → Int32) (k74 : (Int32) → (Nat → Int32) → Option β) (hk74 : ∀ (x4_74 : Int32) (c_placed_74 : Nat → Int32), k74 x4_74 c_placed_74 = some res → gg_G MD_X9_isPut 74 [none, none, some (.int y2), none, some (.int x4_74), none] [] (wd_X9_isPut c_latest c_asked c_upper c_lower c_n c_readAt c_readMany c_readFood c_isHead c_backMany c_deedMany c_whole c_wellSum c_strongSum c_hash c_now c_free c_placed_74) rr ww) : ∀ (n : Nat) (x3_13 : Int32) (x4_13 : Int32) (x5_13 : Int32) (c_placed_13 : Nat → Int32), lp_X9_isPut_13 y2 c_now c_free k74 n x3_13 x4_13 x5_13 c_placed_13 = some res → gg_G MD_X9_isPut 13 [some (.ref 0), none, some (.int y2), some (.int x3_13), some (.int x4_13), some (.int x5_13)] [] (wd_X9_isPut c_latest c_asked c_upper c_lower c_n c_readAt c_readMany c_readFood c_isHead c_backMany c_deedMany c_whole c_wellSum c_strongSum c_hash c_now c_free c_placed_13) rr ww := by
  intro n
  induction n with
  | zero =>
    intro x3_13 x4_13 x5_13 c_placed_13 h
    exact nomatch (show (none : Option β) = some res from h)
  | succ n ih =>
    intro x3_13 x4_13 x5_13 c_placed_13 h
    rw [lp_X9_isPut_13] at h
    refine gg_iload dX9_isPut_13 rfl ?_
    refine gg_if_lt 74 dX9_isPut_15 (by decide) (fun hc => ?_) (fun hc => ?_)
    · replace h := gg_th h hc
      refine gg_fg [false, false, true, false, true, false] [none, none, some (.int y2), none, some (.int x4_13), none] rfl ?_
      exact hk74 x4_13 c_placed_13 h
    · replace h := gg_el h hc
      refine gg_aload_n dX9_isPut_18 rfl ?_
      refine gg_get 0 fl_X9_79 dX9_isPut_19 rfl rfl ?_
      refine gg_iload dX9_isPut_22 rfl ?_
      refine gg_bipush (-9 : Int32) dX9_isPut_24 (by decide) ?_
      obtain ⟨hb26, h⟩ := gg_ck h
      refine gg_iast 3 (wd_X9_isPut c_latest c_asked c_upper c_lower c_n c_readAt c_readMany c_readFood c_isHead c_backMany c_deedMany c_whole c_wellSum c_strongSum c_hash c_now c_free (upd c_placed_13 x5_13.toNatClampNeg (-9 : Int32))) dX9_isPut_26 rfl hb26 rfl ?_
      refine gg_aload_n dX9_isPut_27 rfl ?_
      refine gg_get 0 fl_X9_39 dX9_isPut_28 rfl rfl ?_
      refine gg_iload dX9_isPut_31 rfl ?_
      obtain ⟨v1, hv1, h⟩ := gg_bd h
      refine gg_callS (gg_sg [9]) [1] (wd_X9_isPut c_latest c_asked c_upper c_lower c_n c_readAt c_readMany c_readFood c_isHead c_backMany c_deedMany c_whole c_wellSum c_strongSum c_hash c_now c_free (upd c_placed_13 x5_13.toNatClampNeg (-9 : Int32))) (C_X9_isThere_a26 x5_13 c_now hv1) nS_X9_isThere_a26 ml_X9_160 rfl rfl rfl rfl rfl rfl rfl [0, 2, 3] 4 rfl rfl rfl rfl rfl ⟨Nat.le_of_ble_eq_true rfl, Nat.le_of_ble_eq_true rfl⟩ (Nat.le_of_ble_eq_true rfl) dX9_isPut_33 [.int v1] rfl ?_
      obtain ⟨k68, hke68, h⟩ := gg_lte h
      have hk68 : ∀ (x3_68 : Int32) (x4_68 : Int32) (c_placed_68 : Nat → Int32), k68 x3_68 x4_68 c_placed_68 = some res → gg_G MD_X9_isPut 68 [some (.ref 0), none, some (.int y2), some (.int x3_68), some (.int x4_68), some (.int x5_13)] [] (wd_X9_isPut c_latest c_asked c_upper c_lower c_n c_readAt c_readMany c_readFood c_isHead c_backMany c_deedMany c_whole c_wellSum c_strongSum c_hash c_now c_free c_placed_68) rr ww := by
        intro x3_68 x4_68 c_placed_68 h
        subst hke68
        refine gg_iinc (x5_13 + (-1 : Int32)) [some (.ref 0), none, some (.int y2), some (.int x3_68), some (.int x4_68), some (.int (x5_13 + (-1 : Int32)))] dX9_isPut_68 rfl rfl rfl (Nat.le_of_ble_eq_true rfl) rfl ?_
        refine gg_goto 13 dX9_isPut_71 (by decide) ?_
        exact ih x3_68 x4_68 (x5_13 + (-1 : Int32)) c_placed_68 h
      clear hke68
      refine gg_if_eq 68 dX9_isPut_36 (by decide) (fun hc => ?_) (fun hc => ?_)
      · replace h := gg_th h hc
        exact hk68 x3_13 x4_13 (upd c_placed_13 x5_13.toNatClampNeg (-9 : Int32)) h
      · replace h := gg_el h hc
        refine gg_iload dX9_isPut_39 rfl ?_
        refine gg_iconst (1 : Int32) dX9_isPut_41 (by decide) ?_
        refine gg_iload_n dX9_isPut_42 rfl ?_
        refine gg_iload_n dX9_isPut_43 rfl ?_
        obtain ⟨hz44, h⟩ := gg_ck h
        refine gg_irem dX9_isPut_44 (gg_nz hz44) ?_
        refine gg_ishl dX9_isPut_45 ?_
        refine gg_ior dX9_isPut_46 ?_
        refine gg_istore [some (.ref 0), none, some (.int y2), some (.int x3_13), some (.int (x4_13 ||| ((1 : Int32) <<< ((x3_13 - x3_13 / y2 * y2) &&& 31)))), some (.int x5_13)] dX9_isPut_47 rfl (Nat.le_of_ble_eq_true rfl) rfl ?_
        refine gg_aload_n dX9_isPut_49 rfl ?_
        refine gg_get 0 fl_X9_79 dX9_isPut_50 rfl rfl ?_
        refine gg_iload dX9_isPut_53 rfl ?_
        refine gg_aload_n dX9_isPut_55 rfl ?_
        refine gg_get 0 fl_X9_76 dX9_isPut_56 rfl rfl ?_
        refine gg_iload_n dX9_isPut_59 rfl ?_
        refine gg_iload_n dX9_isPut_60 rfl ?_
        obtain ⟨hz61, h⟩ := gg_ck h
        refine gg_irem dX9_isPut_61 (gg_nz hz61) ?_
        obtain ⟨hb62, h⟩ := gg_ck h
        refine gg_iald 2 dX9_isPut_62 rfl hb62 ?_
        obtain ⟨hb63, h⟩ := gg_ck h
        refine gg_iast 3 (wd_X9_isPut c_latest c_asked c_upper c_lower c_n c_readAt c_readMany c_readFood c_isHead c_backMany c_deedMany c_whole c_wellSum c_strongSum c_hash c_now c_free (upd (upd c_placed_13 x5_13.toNatClampNeg (-9 : Int32)) x5_13.toNatClampNeg (c_free (x3_13 - x3_13 / y2 * y2).toNatClampNeg))) dX9_isPut_63 rfl hb63 rfl ?_
        refine gg_iload_n dX9_isPut_64 rfl ?_
        refine gg_iload_n dX9_isPut_65 rfl ?_
        obtain ⟨hz66, h⟩ := gg_ck h
        refine gg_idiv dX9_isPut_66 (gg_nz hz66) ?_
        refine gg_istore_n [some (.ref 0), none, some (.int y2), some (.int (x3_13 / y2)), some (.int (x4_13 ||| ((1 : Int32) <<< ((x3_13 - x3_13 / y2 * y2) &&& 31)))), some (.int x5_13)] dX9_isPut_67 rfl (Nat.le_of_ble_eq_true rfl) rfl ?_
        exact hk68 (x3_13 / y2) (x4_13 ||| ((1 : Int32) <<< ((x3_13 - x3_13 / y2 * y2) &&& 31))) (upd (upd c_placed_13 x5_13.toNatClampNeg (-9 : Int32)) x5_13.toNatClampNeg (c_free (x3_13 - x3_13 / y2 * y2).toNatClampNeg)) h
set_option maxRecDepth 20000 in
set_option maxHeartbeats 8000000 in
theorem C_X9_isPut (a0 : Int32) (a1 : Int32) (c_latest : Int32) (c_asked : Int32) (c_upper : Int64) (c_lower : Int64) (c_n : Int32) (c_readAt : Int32) (c_readMany : Int32) (c_readFood : Int32) (c_isHead : Int32) (c_backMany : Int32) (c_deedMany : Int32) (c_whole : Int64) (c_wellSum : Int64) (c_strongSum : Int64) (c_hash : Int64) (c_now : Nat → Int32) (c_free : Nat → Int32) (c_placed : Nat → Int32) {r0 : Int32} {r1 : (Nat → Int32)} (h : f_X9_isPut a0 a1 c_n c_now c_free c_placed = some (r0, r1)) : gg_C MD_X9_isPut [.ref 0, .int a0, .int a1] (wd_X9_isPut c_latest c_asked c_upper c_lower c_n c_readAt c_readMany c_readFood c_isHead c_backMany c_deedMany c_whole c_wellSum c_strongSum c_hash c_now c_free c_placed) (some (.int r0)) (wd_X9_isPut c_latest c_asked c_upper c_lower c_n c_readAt c_readMany c_readFood c_isHead c_backMany c_deedMany c_whole c_wellSum c_strongSum c_hash c_now c_free r1) := by
  refine gg_ofG [some (.ref 0), some (.int a0), some (.int a1), none, none, none] (plainFor_of_name (by decide)) (Nat.le_of_ble_eq_true rfl) rfl ?_
  unfold f_X9_isPut at h
  refine gg_iload_n dX9_isPut_0 rfl ?_
  refine gg_istore_n [some (.ref 0), some (.int a0), some (.int a1), some (.int a0), none, none] dX9_isPut_1 rfl (Nat.le_of_ble_eq_true rfl) rfl ?_
  refine gg_iconst (0 : Int32) dX9_isPut_2 (by decide) ?_
  refine gg_istore [some (.ref 0), some (.int a0), some (.int a1), some (.int a0), some (.int (0 : Int32)), none] dX9_isPut_3 rfl (Nat.le_of_ble_eq_true rfl) rfl ?_
  refine gg_aload_n dX9_isPut_5 rfl ?_
  refine gg_get 0 fl_X9_154 dX9_isPut_6 rfl rfl ?_
  refine gg_iconst (1 : Int32) dX9_isPut_9 (by decide) ?_
  refine gg_isub dX9_isPut_10 ?_
  refine gg_istore [some (.ref 0), some (.int a0), some (.int a1), some (.int a0), some (.int (0 : Int32)), some (.int (c_n - (1 : Int32)))] dX9_isPut_11 rfl (Nat.le_of_ble_eq_true rfl) rfl ?_
  refine gg_fg [true, false, true, true, true, true] [some (.ref 0), none, some (.int a1), some (.int a0), some (.int (0 : Int32)), some (.int (c_n - (1 : Int32)))] rfl ?_
  refine lq_X9_isPut_13 a1 c_latest c_asked c_upper c_lower c_n c_readAt c_readMany c_readFood c_isHead c_backMany c_deedMany c_whole c_wellSum c_strongSum c_hash c_now c_free _ ?_ gg_fuel a0 (0 : Int32) (c_n - (1 : Int32)) c_placed h
  intro x4_74 c_placed_74 h
  refine gg_iload dX9_isPut_74 rfl ?_
  obtain ⟨v2, hv2, h⟩ := gg_bd h
  refine gg_callS (gg_sg []) [] (wd_X9_isPut c_latest c_asked c_upper c_lower c_n c_readAt c_readMany c_readFood c_isHead c_backMany c_deedMany c_whole c_wellSum c_strongSum c_hash c_now c_free c_placed_74) (C_X9_bits x4_74 hv2) nS_X9_bits ml_X9_220 rfl rfl rfl rfl rfl rfl rfl [0, 1, 2, 3] 4 rfl rfl rfl rfl rfl ⟨Nat.le_of_ble_eq_true rfl, Nat.le_of_ble_eq_true rfl⟩ (Nat.le_of_ble_eq_true rfl) dX9_isPut_76 [.int v2] rfl ?_
  refine gg_iload_n dX9_isPut_79 rfl ?_
  obtain ⟨k88, hke88, h⟩ := gg_lte h
  have hk88 : ∀ (s0_88 : Int32), k88 s0_88 = some (r0, r1) → gg_G MD_X9_isPut 88 [none, none, none, none, none, none] [.int s0_88] (wd_X9_isPut c_latest c_asked c_upper c_lower c_n c_readAt c_readMany c_readFood c_isHead c_backMany c_deedMany c_whole c_wellSum c_strongSum c_hash c_now c_free c_placed_74) (some (.int r0)) (wd_X9_isPut c_latest c_asked c_upper c_lower c_n c_readAt c_readMany c_readFood c_isHead c_backMany c_deedMany c_whole c_wellSum c_strongSum c_hash c_now c_free r1) := by
    intro s0_88 h
    subst hke88
    obtain ⟨hz, h⟩ := gg_ck h
    cases h
    exact gg_zret dX9_isPut_88 rfl hz
  clear hke88
  refine gg_icmp_ne 87 dX9_isPut_80 (by decide) (fun hc => ?_) (fun hc => ?_)
  · replace h := gg_el h hc
    refine gg_iconst (0 : Int32) dX9_isPut_87 (by decide) ?_
    refine gg_fg [false, false, false, false, false, false] [none, none, none, none, none, none] rfl ?_
    exact hk88 (0 : Int32) h
  · replace h := gg_th h hc
    refine gg_iconst (1 : Int32) dX9_isPut_83 (by decide) ?_
    refine gg_goto 88 dX9_isPut_84 (by decide) ?_
    refine gg_fg [false, false, false, false, false, false] [none, none, none, none, none, none] rfl ?_
    exact hk88 (1 : Int32) h
def wd_X9_pairsApart (c_latest : Int32) (c_asked : Int32) (c_upper : Int64) (c_lower : Int64) (c_n : Int32) (c_readAt : Int32) (c_readMany : Int32) (c_readFood : Int32) (c_isHead : Int32) (c_backMany : Int32) (c_deedMany : Int32) (c_whole : Int64) (c_wellSum : Int64) (c_strongSum : Int64) (c_hash : Int64) (c_now : Nat → Int32) (c_placed : Nat → Int32) : va_W := [(0, .inr (8, [.int c_latest, .ref 1, .int c_asked, .long c_upper, .long c_lower, .ref 2, .ref 3, .ref 4, .ref 5, .ref 6, .int c_n, .ref 7, .ref 8, .ref 9, .ref 10, .int c_readAt, .int c_readMany, .int c_readFood, .int c_isHead, .ref 11, .ref 12, .ref 13, .int c_backMany, .int c_deedMany, .ref 14, .ref 15, .ref 16, .ref 17, .ref 18, .ref 19, .ref 20, .ref 21, .ref 22, .ref 23, .ref 24, .long c_whole, .long c_wellSum, .long c_strongSum, .long c_hash])), (9, .inl (0, 26, .inl c_now)), (22, .inl (0, 6, .inl c_placed))]
def MD_X9_pairsApart : gg_M := (yX9_pairsApart, cX9_pairsApart, 3, some .int, 1, 21)
theorem nV_X9_pairsApart : gg_nV MD_X9_pairsApart 0 := ⟨⟨gg_mem (by decide +kernel) rfl, gg_mem cw_X9_pairsApart rfl, by decide, by decide, by decide +kernel⟩, gg_mem (by decide +kernel) rfl, gg_mem (by decide +kernel) rfl⟩
def lp_X9_pairsApart_4 {β : Type} (c_n : Int32) (c_now : Nat → Int32) (c_placed : Nat → Int32) (k68 : (Int32) → Option β) : Nat → (Int32) → (Int32) → Option β
  | 0, _, _ => none
  | n + 1, x1_4, x2_4 => (if c_n ≤ (x2_4 + (1 : Int32)) then (k68 x1_4) else (f_X9_isThere_a26 x2_4 c_now).bind (fun v1 => gg_lt (fun (s1_60 : Int32) => (lp_X9_pairsApart_4 c_n c_now c_placed k68 n (x1_4 + s1_60) (x2_4 + (2 : Int32)))) (fun k60 => gg_lt ((k60 (0 : Int32))) (fun k59 => (if v1 = (0 : Int32) then k59 else (f_X9_isThere_a26 (x2_4 + (1 : Int32)) c_now).bind (fun v2 => (if v2 = (0 : Int32) then k59 else gg_chk (gg_in x2_4 6) (gg_chk (gg_in (x2_4 + (1 : Int32)) 6) ((f_X9_apart (c_placed x2_4.toNatClampNeg) (c_placed (x2_4 + (1 : Int32)).toNatClampNeg)).bind (fun v3 => (k60 v3)))))))))))
def f_X9_pairsApart  (c_n : Int32) (c_now : Nat → Int32) (c_placed : Nat → Int32) : Option (Int32) := (lp_X9_pairsApart_4 c_n c_now c_placed (fun (x1_68 : Int32) => (some x1_68)) gg_fuel (0 : Int32) (0 : Int32))
set_option maxRecDepth 20000 in
set_option maxHeartbeats 4000000 in
theorem lq_X9_pairsApart_4 {β : Type} {res : β} {rr : Option Value} {ww : va_W} (c_latest : Int32) (c_asked : Int32) (c_upper : Int64) (c_lower : Int64) (c_n : Int32) (c_readAt : Int32) (c_readMany : Int32) (c_readFood : Int32) (c_isHead : Int32) (c_backMany : Int32) (c_deedMany : Int32) (c_whole : Int64) (c_wellSum : Int64) (c_strongSum : Int64) (c_hash : Int64) (c_now : Nat → Int32) (c_placed : Nat → Int32) (k68 : (Int32) → Option β) (hk68 : ∀ (x1_68 : Int32), k68 x1_68 = some res → gg_G MD_X9_pairsApart 68 [none, some (.int x1_68), none] [] (wd_X9_pairsApart c_latest c_asked c_upper c_lower c_n c_readAt c_readMany c_readFood c_isHead c_backMany c_deedMany c_whole c_wellSum c_strongSum c_hash c_now c_placed) rr ww) : ∀ (n : Nat) (x1_4 : Int32) (x2_4 : Int32), lp_X9_pairsApart_4 c_n c_now c_placed k68 n x1_4 x2_4 = some res → gg_G MD_X9_pairsApart 4 [some (.ref 0), some (.int x1_4), some (.int x2_4)] [] (wd_X9_pairsApart c_latest c_asked c_upper c_lower c_n c_readAt c_readMany c_readFood c_isHead c_backMany c_deedMany c_whole c_wellSum c_strongSum c_hash c_now c_placed) rr ww := by
  intro n
  induction n with
  | zero =>
    intro x1_4 x2_4 h
    exact nomatch (show (none : Option β) = some res from h)
  | succ n ih =>
    intro x1_4 x2_4 h
    rw [lp_X9_pairsApart_4] at h
    refine gg_iload_n dX9_pairsApart_4 rfl ?_
    refine gg_iconst (1 : Int32) dX9_pairsApart_5 (by decide) ?_
    refine gg_iadd dX9_pairsApart_6 ?_
    refine gg_aload_n dX9_pairsApart_7 rfl ?_
    refine gg_get 0 fl_X9_154 dX9_pairsApart_8 rfl rfl ?_
    refine gg_icmp_ge 68 dX9_pairsApart_11 (by decide) (fun hc => ?_) (fun hc => ?_)
    · replace h := gg_th h hc
      refine gg_fg [false, true, false] [none, some (.int x1_4), none] rfl ?_
      exact hk68 x1_4 h
    · replace h := gg_el h hc
      refine gg_iload_n dX9_pairsApart_14 rfl ?_
      refine gg_aload_n dX9_pairsApart_15 rfl ?_
      refine gg_get 0 fl_X9_39 dX9_pairsApart_16 rfl rfl ?_
      refine gg_iload_n dX9_pairsApart_19 rfl ?_
      obtain ⟨v1, hv1, h⟩ := gg_bd h
      refine gg_callS (gg_sg [9]) [1] (wd_X9_pairsApart c_latest c_asked c_upper c_lower c_n c_readAt c_readMany c_readFood c_isHead c_backMany c_deedMany c_whole c_wellSum c_strongSum c_hash c_now c_placed) (C_X9_isThere_a26 x2_4 c_now hv1) nS_X9_isThere_a26 ml_X9_160 rfl rfl rfl rfl rfl rfl rfl [0, 2] 3 rfl rfl rfl rfl rfl ⟨Nat.le_of_ble_eq_true rfl, Nat.le_of_ble_eq_true rfl⟩ (Nat.le_of_ble_eq_true rfl) dX9_pairsApart_20 [.int v1, .int x1_4] rfl ?_
      obtain ⟨k60, hke60, h⟩ := gg_lte h
      have hk60 : ∀ (s1_60 : Int32), k60 s1_60 = some res → gg_G MD_X9_pairsApart 60 [some (.ref 0), none, some (.int x2_4)] [.int s1_60, .int x1_4] (wd_X9_pairsApart c_latest c_asked c_upper c_lower c_n c_readAt c_readMany c_readFood c_isHead c_backMany c_deedMany c_whole c_wellSum c_strongSum c_hash c_now c_placed) rr ww := by
        intro s1_60 h
        subst hke60
        refine gg_iadd dX9_pairsApart_60 ?_
        refine gg_istore_n [some (.ref 0), some (.int (x1_4 + s1_60)), some (.int x2_4)] dX9_pairsApart_61 rfl (Nat.le_of_ble_eq_true rfl) rfl ?_
        refine gg_iinc (x2_4 + (2 : Int32)) [some (.ref 0), some (.int (x1_4 + s1_60)), some (.int (x2_4 + (2 : Int32)))] dX9_pairsApart_62 rfl rfl rfl (Nat.le_of_ble_eq_true rfl) rfl ?_
        refine gg_goto 4 dX9_pairsApart_65 (by decide) ?_
        exact ih (x1_4 + s1_60) (x2_4 + (2 : Int32)) h
      clear hke60
      obtain ⟨k59, hke59, h⟩ := gg_lte h
      have hk59 : k59 = some res → gg_G MD_X9_pairsApart 59 [some (.ref 0), none, some (.int x2_4)] [.int x1_4] (wd_X9_pairsApart c_latest c_asked c_upper c_lower c_n c_readAt c_readMany c_readFood c_isHead c_backMany c_deedMany c_whole c_wellSum c_strongSum c_hash c_now c_placed) rr ww := by
        intro  h
        subst hke59
        refine gg_iconst (0 : Int32) dX9_pairsApart_59 (by decide) ?_
        exact hk60 (0 : Int32) h
      clear hke59
      refine gg_if_eq 59 dX9_pairsApart_23 (by decide) (fun hc => ?_) (fun hc => ?_)
      · replace h := gg_th h hc
        refine gg_fg [true, false, true] [some (.ref 0), none, some (.int x2_4)] rfl ?_
        exact hk59 h
      · replace h := gg_el h hc
        refine gg_aload_n dX9_pairsApart_26 rfl ?_
        refine gg_get 0 fl_X9_39 dX9_pairsApart_27 rfl rfl ?_
        refine gg_iload_n dX9_pairsApart_30 rfl ?_
        refine gg_iconst (1 : Int32) dX9_pairsApart_31 (by decide) ?_
        refine gg_iadd dX9_pairsApart_32 ?_
        obtain ⟨v2, hv2, h⟩ := gg_bd h
        refine gg_callS (gg_sg [9]) [1] (wd_X9_pairsApart c_latest c_asked c_upper c_lower c_n c_readAt c_readMany c_readFood c_isHead c_backMany c_deedMany c_whole c_wellSum c_strongSum c_hash c_now c_placed) (C_X9_isThere_a26 (x2_4 + (1 : Int32)) c_now hv2) nS_X9_isThere_a26 ml_X9_160 rfl rfl rfl rfl rfl rfl rfl [0, 2] 3 rfl rfl rfl rfl rfl ⟨Nat.le_of_ble_eq_true rfl, Nat.le_of_ble_eq_true rfl⟩ (Nat.le_of_ble_eq_true rfl) dX9_pairsApart_33 [.int v2, .int x1_4] rfl ?_
        refine gg_if_eq 59 dX9_pairsApart_36 (by decide) (fun hc => ?_) (fun hc => ?_)
        · replace h := gg_th h hc
          refine gg_fg [true, false, true] [some (.ref 0), none, some (.int x2_4)] rfl ?_
          exact hk59 h
        · replace h := gg_el h hc
          refine gg_aload_n dX9_pairsApart_39 rfl ?_
          refine gg_get 0 fl_X9_79 dX9_pairsApart_40 rfl rfl ?_
          refine gg_iload_n dX9_pairsApart_43 rfl ?_
          obtain ⟨hb44, h⟩ := gg_ck h
          refine gg_iald 2 dX9_pairsApart_44 rfl hb44 ?_
          refine gg_aload_n dX9_pairsApart_45 rfl ?_
          refine gg_get 0 fl_X9_79 dX9_pairsApart_46 rfl rfl ?_
          refine gg_iload_n dX9_pairsApart_49 rfl ?_
          refine gg_iconst (1 : Int32) dX9_pairsApart_50 (by decide) ?_
          refine gg_iadd dX9_pairsApart_51 ?_
          obtain ⟨hb52, h⟩ := gg_ck h
          refine gg_iald 2 dX9_pairsApart_52 rfl hb52 ?_
          obtain ⟨v3, hv3, h⟩ := gg_bd h
          refine gg_callS (gg_sg []) [] (wd_X9_pairsApart c_latest c_asked c_upper c_lower c_n c_readAt c_readMany c_readFood c_isHead c_backMany c_deedMany c_whole c_wellSum c_strongSum c_hash c_now c_placed) (C_X9_apart (c_placed x2_4.toNatClampNeg) (c_placed (x2_4 + (1 : Int32)).toNatClampNeg) hv3) nS_X9_apart ml_X9_164 rfl rfl rfl rfl rfl rfl rfl [0, 1, 2] 3 rfl rfl rfl rfl rfl ⟨Nat.le_of_ble_eq_true rfl, Nat.le_of_ble_eq_true rfl⟩ (Nat.le_of_ble_eq_true rfl) dX9_pairsApart_53 [.int v3, .int x1_4] rfl ?_
          refine gg_goto 60 dX9_pairsApart_56 (by decide) ?_
          refine gg_fg [true, false, true] [some (.ref 0), none, some (.int x2_4)] rfl ?_
          exact hk60 v3 h
set_option maxRecDepth 20000 in
set_option maxHeartbeats 8000000 in
theorem C_X9_pairsApart  (c_latest : Int32) (c_asked : Int32) (c_upper : Int64) (c_lower : Int64) (c_n : Int32) (c_readAt : Int32) (c_readMany : Int32) (c_readFood : Int32) (c_isHead : Int32) (c_backMany : Int32) (c_deedMany : Int32) (c_whole : Int64) (c_wellSum : Int64) (c_strongSum : Int64) (c_hash : Int64) (c_now : Nat → Int32) (c_placed : Nat → Int32) {res : Int32} (h : f_X9_pairsApart c_n c_now c_placed = some res) : gg_C MD_X9_pairsApart [.ref 0] (wd_X9_pairsApart c_latest c_asked c_upper c_lower c_n c_readAt c_readMany c_readFood c_isHead c_backMany c_deedMany c_whole c_wellSum c_strongSum c_hash c_now c_placed) (some (.int res)) (wd_X9_pairsApart c_latest c_asked c_upper c_lower c_n c_readAt c_readMany c_readFood c_isHead c_backMany c_deedMany c_whole c_wellSum c_strongSum c_hash c_now c_placed) := by
  refine gg_ofG [some (.ref 0), none, none] (plainFor_of_name (by decide)) (Nat.le_of_ble_eq_true rfl) rfl ?_
  unfold f_X9_pairsApart at h
  refine gg_iconst (0 : Int32) dX9_pairsApart_0 (by decide) ?_
  refine gg_istore_n [some (.ref 0), some (.int (0 : Int32)), none] dX9_pairsApart_1 rfl (Nat.le_of_ble_eq_true rfl) rfl ?_
  refine gg_iconst (0 : Int32) dX9_pairsApart_2 (by decide) ?_
  refine gg_istore_n [some (.ref 0), some (.int (0 : Int32)), some (.int (0 : Int32))] dX9_pairsApart_3 rfl (Nat.le_of_ble_eq_true rfl) rfl ?_
  refine lq_X9_pairsApart_4 c_latest c_asked c_upper c_lower c_n c_readAt c_readMany c_readFood c_isHead c_backMany c_deedMany c_whole c_wellSum c_strongSum c_hash c_now c_placed _ ?_ gg_fuel (0 : Int32) (0 : Int32) h
  intro x1_68 h
  refine gg_iload_n dX9_pairsApart_68 rfl ?_
  cases h
  exact gg_iret dX9_pairsApart_69 rfl
def wd_X9_homesApart (c_latest : Int32) (c_asked : Int32) (c_upper : Int64) (c_lower : Int64) (c_n : Int32) (c_readAt : Int32) (c_readMany : Int32) (c_readFood : Int32) (c_isHead : Int32) (c_backMany : Int32) (c_deedMany : Int32) (c_whole : Int64) (c_wellSum : Int64) (c_strongSum : Int64) (c_hash : Int64) (c_now : Nat → Int32) (c_placed : Nat → Int32) : va_W := [(0, .inr (8, [.int c_latest, .ref 1, .int c_asked, .long c_upper, .long c_lower, .ref 2, .ref 3, .ref 4, .ref 5, .ref 6, .int c_n, .ref 7, .ref 8, .ref 9, .ref 10, .int c_readAt, .int c_readMany, .int c_readFood, .int c_isHead, .ref 11, .ref 12, .ref 13, .int c_backMany, .int c_deedMany, .ref 14, .ref 15, .ref 16, .ref 17, .ref 18, .ref 19, .ref 20, .ref 21, .ref 22, .ref 23, .ref 24, .long c_whole, .long c_wellSum, .long c_strongSum, .long c_hash])), (9, .inl (0, 26, .inl c_now)), (22, .inl (0, 6, .inl c_placed))]
def MD_X9_homesApart : gg_M := (yX9_homesApart, cX9_homesApart, 3, some .int, 1, 21)
theorem nV_X9_homesApart : gg_nV MD_X9_homesApart 0 := ⟨⟨gg_mem (by decide +kernel) rfl, gg_mem cw_X9_homesApart rfl, by decide, by decide, by decide +kernel⟩, gg_mem (by decide +kernel) rfl, gg_mem (by decide +kernel) rfl⟩
def lp_X9_homesApart_4 {β : Type} (c_n : Int32) (c_now : Nat → Int32) (c_placed : Nat → Int32) (k53 : (Int32) → Option β) : Nat → (Int32) → (Int32) → Option β
  | 0, _, _ => none
  | n + 1, x1_4, x2_4 => (if c_n ≤ x2_4 then (k53 x1_4) else (f_X9_isThere_a26 x2_4 c_now).bind (fun v1 => gg_lt (fun (s1_45 : Int32) => (lp_X9_homesApart_4 c_n c_now c_placed k53 n (x1_4 + s1_45) (x2_4 + (1 : Int32)))) (fun k45 => (if v1 = (0 : Int32) then (k45 (0 : Int32)) else gg_chk (gg_in x2_4 6) (gg_chk (gg_in ((2 : Int32) + x2_4) 26) ((f_X9_apart (c_placed x2_4.toNatClampNeg) (c_now ((2 : Int32) + x2_4).toNatClampNeg)).bind (fun v2 => (k45 v2))))))))
def f_X9_homesApart  (c_n : Int32) (c_now : Nat → Int32) (c_placed : Nat → Int32) : Option (Int32) := (lp_X9_homesApart_4 c_n c_now c_placed (fun (x1_53 : Int32) => (some x1_53)) gg_fuel (0 : Int32) (0 : Int32))
set_option maxRecDepth 20000 in
set_option maxHeartbeats 4000000 in
theorem lq_X9_homesApart_4 {β : Type} {res : β} {rr : Option Value} {ww : va_W} (c_latest : Int32) (c_asked : Int32) (c_upper : Int64) (c_lower : Int64) (c_n : Int32) (c_readAt : Int32) (c_readMany : Int32) (c_readFood : Int32) (c_isHead : Int32) (c_backMany : Int32) (c_deedMany : Int32) (c_whole : Int64) (c_wellSum : Int64) (c_strongSum : Int64) (c_hash : Int64) (c_now : Nat → Int32) (c_placed : Nat → Int32) (k53 : (Int32) → Option β) (hk53 : ∀ (x1_53 : Int32), k53 x1_53 = some res → gg_G MD_X9_homesApart 53 [none, some (.int x1_53), none] [] (wd_X9_homesApart c_latest c_asked c_upper c_lower c_n c_readAt c_readMany c_readFood c_isHead c_backMany c_deedMany c_whole c_wellSum c_strongSum c_hash c_now c_placed) rr ww) : ∀ (n : Nat) (x1_4 : Int32) (x2_4 : Int32), lp_X9_homesApart_4 c_n c_now c_placed k53 n x1_4 x2_4 = some res → gg_G MD_X9_homesApart 4 [some (.ref 0), some (.int x1_4), some (.int x2_4)] [] (wd_X9_homesApart c_latest c_asked c_upper c_lower c_n c_readAt c_readMany c_readFood c_isHead c_backMany c_deedMany c_whole c_wellSum c_strongSum c_hash c_now c_placed) rr ww := by
  intro n
  induction n with
  | zero =>
    intro x1_4 x2_4 h
    exact nomatch (show (none : Option β) = some res from h)
  | succ n ih =>
    intro x1_4 x2_4 h
    rw [lp_X9_homesApart_4] at h
    refine gg_iload_n dX9_homesApart_4 rfl ?_
    refine gg_aload_n dX9_homesApart_5 rfl ?_
    refine gg_get 0 fl_X9_154 dX9_homesApart_6 rfl rfl ?_
    refine gg_icmp_ge 53 dX9_homesApart_9 (by decide) (fun hc => ?_) (fun hc => ?_)
    · replace h := gg_th h hc
      refine gg_fg [false, true, false] [none, some (.int x1_4), none] rfl ?_
      exact hk53 x1_4 h
    · replace h := gg_el h hc
      refine gg_iload_n dX9_homesApart_12 rfl ?_
      refine gg_aload_n dX9_homesApart_13 rfl ?_
      refine gg_get 0 fl_X9_39 dX9_homesApart_14 rfl rfl ?_
      refine gg_iload_n dX9_homesApart_17 rfl ?_
      obtain ⟨v1, hv1, h⟩ := gg_bd h
      refine gg_callS (gg_sg [9]) [1] (wd_X9_homesApart c_latest c_asked c_upper c_lower c_n c_readAt c_readMany c_readFood c_isHead c_backMany c_deedMany c_whole c_wellSum c_strongSum c_hash c_now c_placed) (C_X9_isThere_a26 x2_4 c_now hv1) nS_X9_isThere_a26 ml_X9_160 rfl rfl rfl rfl rfl rfl rfl [0, 2] 3 rfl rfl rfl rfl rfl ⟨Nat.le_of_ble_eq_true rfl, Nat.le_of_ble_eq_true rfl⟩ (Nat.le_of_ble_eq_true rfl) dX9_homesApart_18 [.int v1, .int x1_4] rfl ?_
      obtain ⟨k45, hke45, h⟩ := gg_lte h
      have hk45 : ∀ (s1_45 : Int32), k45 s1_45 = some res → gg_G MD_X9_homesApart 45 [some (.ref 0), none, some (.int x2_4)] [.int s1_45, .int x1_4] (wd_X9_homesApart c_latest c_asked c_upper c_lower c_n c_readAt c_readMany c_readFood c_isHead c_backMany c_deedMany c_whole c_wellSum c_strongSum c_hash c_now c_placed) rr ww := by
        intro s1_45 h
        subst hke45
        refine gg_iadd dX9_homesApart_45 ?_
        refine gg_istore_n [some (.ref 0), some (.int (x1_4 + s1_45)), some (.int x2_4)] dX9_homesApart_46 rfl (Nat.le_of_ble_eq_true rfl) rfl ?_
        refine gg_iinc (x2_4 + (1 : Int32)) [some (.ref 0), some (.int (x1_4 + s1_45)), some (.int (x2_4 + (1 : Int32)))] dX9_homesApart_47 rfl rfl rfl (Nat.le_of_ble_eq_true rfl) rfl ?_
        refine gg_goto 4 dX9_homesApart_50 (by decide) ?_
        exact ih (x1_4 + s1_45) (x2_4 + (1 : Int32)) h
      clear hke45
      refine gg_if_eq 44 dX9_homesApart_21 (by decide) (fun hc => ?_) (fun hc => ?_)
      · replace h := gg_th h hc
        refine gg_iconst (0 : Int32) dX9_homesApart_44 (by decide) ?_
        refine gg_fg [true, false, true] [some (.ref 0), none, some (.int x2_4)] rfl ?_
        exact hk45 (0 : Int32) h
      · replace h := gg_el h hc
        refine gg_aload_n dX9_homesApart_24 rfl ?_
        refine gg_get 0 fl_X9_79 dX9_homesApart_25 rfl rfl ?_
        refine gg_iload_n dX9_homesApart_28 rfl ?_
        obtain ⟨hb29, h⟩ := gg_ck h
        refine gg_iald 2 dX9_homesApart_29 rfl hb29 ?_
        refine gg_aload_n dX9_homesApart_30 rfl ?_
        refine gg_get 0 fl_X9_39 dX9_homesApart_31 rfl rfl ?_
        refine gg_iconst (2 : Int32) dX9_homesApart_34 (by decide) ?_
        refine gg_iload_n dX9_homesApart_35 rfl ?_
        refine gg_iadd dX9_homesApart_36 ?_
        obtain ⟨hb37, h⟩ := gg_ck h
        refine gg_iald 1 dX9_homesApart_37 rfl hb37 ?_
        obtain ⟨v2, hv2, h⟩ := gg_bd h
        refine gg_callS (gg_sg []) [] (wd_X9_homesApart c_latest c_asked c_upper c_lower c_n c_readAt c_readMany c_readFood c_isHead c_backMany c_deedMany c_whole c_wellSum c_strongSum c_hash c_now c_placed) (C_X9_apart (c_placed x2_4.toNatClampNeg) (c_now ((2 : Int32) + x2_4).toNatClampNeg) hv2) nS_X9_apart ml_X9_164 rfl rfl rfl rfl rfl rfl rfl [0, 1, 2] 3 rfl rfl rfl rfl rfl ⟨Nat.le_of_ble_eq_true rfl, Nat.le_of_ble_eq_true rfl⟩ (Nat.le_of_ble_eq_true rfl) dX9_homesApart_38 [.int v2, .int x1_4] rfl ?_
        refine gg_goto 45 dX9_homesApart_41 (by decide) ?_
        refine gg_fg [true, false, true] [some (.ref 0), none, some (.int x2_4)] rfl ?_
        exact hk45 v2 h
set_option maxRecDepth 20000 in
set_option maxHeartbeats 8000000 in
theorem C_X9_homesApart  (c_latest : Int32) (c_asked : Int32) (c_upper : Int64) (c_lower : Int64) (c_n : Int32) (c_readAt : Int32) (c_readMany : Int32) (c_readFood : Int32) (c_isHead : Int32) (c_backMany : Int32) (c_deedMany : Int32) (c_whole : Int64) (c_wellSum : Int64) (c_strongSum : Int64) (c_hash : Int64) (c_now : Nat → Int32) (c_placed : Nat → Int32) {res : Int32} (h : f_X9_homesApart c_n c_now c_placed = some res) : gg_C MD_X9_homesApart [.ref 0] (wd_X9_homesApart c_latest c_asked c_upper c_lower c_n c_readAt c_readMany c_readFood c_isHead c_backMany c_deedMany c_whole c_wellSum c_strongSum c_hash c_now c_placed) (some (.int res)) (wd_X9_homesApart c_latest c_asked c_upper c_lower c_n c_readAt c_readMany c_readFood c_isHead c_backMany c_deedMany c_whole c_wellSum c_strongSum c_hash c_now c_placed) := by
  refine gg_ofG [some (.ref 0), none, none] (plainFor_of_name (by decide)) (Nat.le_of_ble_eq_true rfl) rfl ?_
  unfold f_X9_homesApart at h
  refine gg_iconst (0 : Int32) dX9_homesApart_0 (by decide) ?_
  refine gg_istore_n [some (.ref 0), some (.int (0 : Int32)), none] dX9_homesApart_1 rfl (Nat.le_of_ble_eq_true rfl) rfl ?_
  refine gg_iconst (0 : Int32) dX9_homesApart_2 (by decide) ?_
  refine gg_istore_n [some (.ref 0), some (.int (0 : Int32)), some (.int (0 : Int32))] dX9_homesApart_3 rfl (Nat.le_of_ble_eq_true rfl) rfl ?_
  refine lq_X9_homesApart_4 c_latest c_asked c_upper c_lower c_n c_readAt c_readMany c_readFood c_isHead c_backMany c_deedMany c_whole c_wellSum c_strongSum c_hash c_now c_placed _ ?_ gg_fuel (0 : Int32) (0 : Int32) h
  intro x1_53 h
  refine gg_iload_n dX9_homesApart_53 rfl ?_
  cases h
  exact gg_iret dX9_homesApart_54 rfl
def wd_X9_pairs (c_latest : Int32) (c_asked : Int32) (c_upper : Int64) (c_lower : Int64) (c_n : Int32) (c_readAt : Int32) (c_readMany : Int32) (c_readFood : Int32) (c_isHead : Int32) (c_backMany : Int32) (c_deedMany : Int32) (c_whole : Int64) (c_wellSum : Int64) (c_strongSum : Int64) (c_hash : Int64) (c_sizes : Nat → Int32) (c_rows : Nat → Int32) (c_now : Nat → Int32) (c_free : Nat → Int32) (c_placed : Nat → Int32) : va_W := [(0, .inr (8, [.int c_latest, .ref 1, .int c_asked, .long c_upper, .long c_lower, .ref 2, .ref 3, .ref 4, .ref 5, .ref 6, .int c_n, .ref 7, .ref 8, .ref 9, .ref 10, .int c_readAt, .int c_readMany, .int c_readFood, .int c_isHead, .ref 11, .ref 12, .ref 13, .int c_backMany, .int c_deedMany, .ref 14, .ref 15, .ref 16, .ref 17, .ref 18, .ref 19, .ref 20, .ref 21, .ref 22, .ref 23, .ref 24, .long c_whole, .long c_wellSum, .long c_strongSum, .long c_hash])), (2, .inl (0, 6, .inl c_sizes)), (3, .inl (0, 240, .inl c_rows)), (9, .inl (0, 26, .inl c_now)), (21, .inl (0, 6, .inl c_free)), (22, .inl (0, 6, .inl c_placed))]
def MD_X9_pairs : gg_M := (yX9_pairs, cX9_pairs, 10, some .int, 2, 47)
theorem nV_X9_pairs : gg_nV MD_X9_pairs 1 := ⟨⟨gg_mem (by decide +kernel) rfl, gg_mem cw_X9_pairs rfl, by decide, by decide, by decide +kernel⟩, gg_mem (by decide +kernel) rfl, gg_mem (by decide +kernel) rfl⟩
def lp_X9_pairs_33 {β : Type} (c_n : Int32) (c_now : Nat → Int32) (k68 : (Nat → Int32) → Option β) : Nat → (Int32) → (Int32) → (Nat → Int32) → Option β
  | 0, _, _, _ => none
  | n + 1, x3_33, x4_33, c_free_33 => (if (10 : Int32) ≤ x4_33 then (k68 c_free_33) else (f_X9_atBrick x4_33 c_n c_now).bind (fun v4 => gg_lt (fun (x3_62 : Int32) (c_free_62 : Nat → Int32) => (lp_X9_pairs_33 c_n c_now k68 n x3_62 (x4_33 + (1 : Int32)) c_free_62)) (fun k62 => (if (10 : Int32) ≤ v4 then (k62 x3_33 c_free_33) else gg_chk (gg_in x3_33 6) ((k62 (x3_33 + (1 : Int32)) (upd c_free_33 x3_33.toNatClampNeg x4_33)))))))
def lp_X9_pairs_74 {β : Type} (y2 : Int32) (k92 : (Int32) → Option β) : Nat → (Int32) → (Int32) → Option β
  | 0, _, _ => none
  | n + 1, x4_74, x5_74 => (if y2 ≤ x5_74 then (k92 x4_74) else (lp_X9_pairs_74 y2 k92 n (x4_74 * y2) (x5_74 + (1 : Int32))))
def lp_X9_pairs_103 {β : Type} (y2 : Int32) (y4 : Int32) (c_n : Int32) (c_now : Nat → Int32) (c_free : Nat → Int32) (k181 : (Int32) → (Int32) → (Nat → Int32) → Option β) : Nat → (Int32) → (Int32) → (Int32) → (Nat → Int32) → Option β
  | 0, _, _, _, _ => none
  | n + 1, x5_103, x6_103, x7_103, c_placed_103 => (if y4 ≤ x7_103 then (k181 x5_103 x6_103 c_placed_103) else gg_b2 (f_X9_isPut x7_103 y2 c_n c_now c_free c_placed_103) (fun v5_0 v5_1 => gg_lt (fun (s0_141 : Int32) => gg_lt (fun (s0_157 : Int32) => gg_lt (fun (s0_173 : Int32) => (lp_X9_pairs_103 y2 y4 c_n c_now c_free k181 n s0_157 s0_173 (x7_103 + (1 : Int32)) v5_1)) (fun k173 => (if x6_103 ≤ s0_141 then (k173 x6_103) else (k173 s0_141)))) (fun k157 => (if x6_103 ≤ s0_141 then (k157 x5_103) else (k157 x7_103)))) (fun k141 => (if v5_0 = (0 : Int32) then (k141 (1000000 : Int32)) else (f_X9_pairsApart c_n c_now v5_1).bind (fun v6 => (f_X9_homesApart c_n c_now v5_1).bind (fun v7 => (k141 (((100 : Int32) * v6) + v7))))))))
def lp_X9_pairs_202 {β : Type} (y1 : Int32) (c_n : Int32) (c_now : Nat → Int32) (c_placed : Nat → Int32) (k251 : (Nat → Int32) → Option β) : Nat → (Int32) → (Int32) → (Nat → Int32) → Option β
  | 0, _, _, _ => none
  | n + 1, x7_202, x8_202, c_rows_202 => (if c_n ≤ x8_202 then (k251 c_rows_202) else (f_X9_isThere_a26 x8_202 c_now).bind (fun v9 => gg_lt (fun (x7_245 : Int32) (c_rows_245 : Nat → Int32) => (lp_X9_pairs_202 y1 c_n c_now c_placed k251 n x7_245 (x8_202 + (1 : Int32)) c_rows_245)) (fun k245 => (if v9 = (0 : Int32) then (k245 x7_202 c_rows_202) else gg_chk (gg_in x8_202 6) (gg_chk (gg_in (((40 : Int32) * y1) + x7_202) 240) ((k245 (x7_202 + (1 : Int32)) (upd c_rows_202 (((40 : Int32) * y1) + x7_202).toNatClampNeg (c_placed x8_202.toNatClampNeg)))))))))
def f_X9_pairs (a0 : Int32) (c_asked : Int32) (c_n : Int32) (c_sizes : Nat → Int32) (c_rows : Nat → Int32) (c_now : Nat → Int32) (c_free : Nat → Int32) (c_placed : Nat → Int32) : Option (Int32 × (Int32) × (Nat → Int32) × (Nat → Int32) × (Nat → Int32) × (Nat → Int32)) := (f_X9_isRow a0).bind (fun v1 => (if v1 = (0 : Int32) then (some ((-1 : Int32), c_asked, c_sizes, c_rows, c_free, c_placed)) else (f_X9_there_a26 c_n c_now).bind (fun v2 => (f_X9_bits v2).bind (fun v3 => (if v3 = (0 : Int32) then (some ((-4 : Int32), c_asked, c_sizes, c_rows, c_free, c_placed)) else (lp_X9_pairs_33 c_n c_now (fun (c_free_68 : Nat → Int32) => (lp_X9_pairs_74 v3 (fun (x4_92 : Int32) => (lp_X9_pairs_103 v3 x4_92 c_n c_now c_free_68 (fun (x5_181 : Int32) (x6_181 : Int32) (c_placed_181 : Nat → Int32) => gg_b2 (f_X9_isPut x5_181 v3 c_n c_now c_free_68 c_placed_181) (fun v8_0 v8_1 => gg_chk (gg_in a0 6) ((lp_X9_pairs_202 a0 c_n c_now v8_1 (fun (c_rows_251 : Nat → Int32) => gg_b2 (f_X9_tells (x6_181 - x6_181 / (100 : Int32) * (100 : Int32)) (x6_181 / (100 : Int32)) c_asked) (fun v10_0 v10_1 => (some (v10_0, v10_1, (upd c_sizes a0.toNatClampNeg v3), c_rows_251, c_free_68, v8_1)))) gg_fuel (0 : Int32) (0 : Int32) c_rows)))) gg_fuel (-9 : Int32) (1000000 : Int32) (0 : Int32) c_placed)) gg_fuel (1 : Int32) (0 : Int32))) gg_fuel (0 : Int32) (0 : Int32) c_free))))))
set_option maxRecDepth 20000 in
set_option maxHeartbeats 4000000 in
theorem lq_X9_pairs_33 {β : Type} {res : β} {rr : Option Value} {ww : va_W} (y1 : Int32) (y2 : Int32) (c_latest : Int32) (c_asked : Int32) (c_upper : Int64) (c_lower : Int64) (c_n : Int32) (c_readAt : Int32) (c_readMany : Int32) (c_readFood : Int32) (c_isHead : Int32) (c_backMany : Int32) (c_deedMany : Int32) (c_whole : Int64) (c_wellSum : Int64) (c_strongSum : Int64) (c_hash : Int64) (c_sizes : Nat → Int32) (c_rows : Nat → Int32) (c_now : Nat → Int32) (c_placed : Nat → Int32) (k68 : (Nat → Int32) → Option β) (hk68 : ∀ (c_free_68 : Nat → Int32), k68 c_free_68 = some res → gg_G MD_X9_pairs 68 [some (.ref 0), some (.int y1), some (.int y2), none, none, none, none, none, none, none] [] (wd_X9_pairs c_latest c_asked c_upper c_lower c_n c_readAt c_readMany c_readFood c_isHead c_backMany c_deedMany c_whole c_wellSum c_strongSum c_hash c_sizes c_rows c_now c_free_68 c_placed) rr ww) : ∀ (n : Nat) (x3_33 : Int32) (x4_33 : Int32) (c_free_33 : Nat → Int32), lp_X9_pairs_33 c_n c_now k68 n x3_33 x4_33 c_free_33 = some res → gg_G MD_X9_pairs 33 [some (.ref 0), some (.int y1), some (.int y2), some (.int x3_33), some (.int x4_33), none, none, none, none, none] [] (wd_X9_pairs c_latest c_asked c_upper c_lower c_n c_readAt c_readMany c_readFood c_isHead c_backMany c_deedMany c_whole c_wellSum c_strongSum c_hash c_sizes c_rows c_now c_free_33 c_placed) rr ww := by
  intro n
  induction n with
  | zero =>
    intro x3_33 x4_33 c_free_33 h
    exact nomatch (show (none : Option β) = some res from h)
  | succ n ih =>
    intro x3_33 x4_33 c_free_33 h
    rw [lp_X9_pairs_33] at h
    refine gg_iload dX9_pairs_33 rfl ?_
    refine gg_bipush (10 : Int32) dX9_pairs_35 (by decide) ?_
    refine gg_icmp_ge 68 dX9_pairs_37 (by decide) (fun hc => ?_) (fun hc => ?_)
    · replace h := gg_th h hc
      refine gg_fg [true, true, true, false, false, false, false, false, false, false] [some (.ref 0), some (.int y1), some (.int y2), none, none, none, none, none, none, none] rfl ?_
      exact hk68 c_free_33 h
    · replace h := gg_el h hc
      refine gg_aload_n dX9_pairs_40 rfl ?_
      refine gg_iload dX9_pairs_41 rfl ?_
      obtain ⟨v4, hv4, h⟩ := gg_bd h
      refine gg_callV (gg_sg [0]) [0, 3] (wd_X9_pairs c_latest c_asked c_upper c_lower c_n c_readAt c_readMany c_readFood c_isHead c_backMany c_deedMany c_whole c_wellSum c_strongSum c_hash c_sizes c_rows c_now c_free_33 c_placed) 0 (C_X9_atBrick x4_33 c_latest c_asked c_upper c_lower c_n c_readAt c_readMany c_readFood c_isHead c_backMany c_deedMany c_whole c_wellSum c_strongSum c_hash c_now hv4) nV_X9_atBrick ml_X9_204 rfl rfl rfl rfl rfl rfl rfl rfl rfl rfl [1, 2, 4, 5] 6 rfl rfl rfl rfl rfl ⟨Nat.le_of_ble_eq_true rfl, Nat.le_of_ble_eq_true rfl⟩ (Nat.le_of_ble_eq_true rfl) dX9_pairs_43 [.int v4] rfl ?_
      refine gg_bipush (10 : Int32) dX9_pairs_46 (by decide) ?_
      obtain ⟨k62, hke62, h⟩ := gg_lte h
      have hk62 : ∀ (x3_62 : Int32) (c_free_62 : Nat → Int32), k62 x3_62 c_free_62 = some res → gg_G MD_X9_pairs 62 [some (.ref 0), some (.int y1), some (.int y2), some (.int x3_62), some (.int x4_33), none, none, none, none, none] [] (wd_X9_pairs c_latest c_asked c_upper c_lower c_n c_readAt c_readMany c_readFood c_isHead c_backMany c_deedMany c_whole c_wellSum c_strongSum c_hash c_sizes c_rows c_now c_free_62 c_placed) rr ww := by
        intro x3_62 c_free_62 h
        subst hke62
        refine gg_iinc (x4_33 + (1 : Int32)) [some (.ref 0), some (.int y1), some (.int y2), some (.int x3_62), some (.int (x4_33 + (1 : Int32))), none, none, none, none, none] dX9_pairs_62 rfl rfl rfl (Nat.le_of_ble_eq_true rfl) rfl ?_
        refine gg_goto 33 dX9_pairs_65 (by decide) ?_
        exact ih x3_62 (x4_33 + (1 : Int32)) c_free_62 h
      clear hke62
      refine gg_icmp_ge 62 dX9_pairs_48 (by decide) (fun hc => ?_) (fun hc => ?_)
      · replace h := gg_th h hc
        exact hk62 x3_33 c_free_33 h
      · replace h := gg_el h hc
        refine gg_aload_n dX9_pairs_51 rfl ?_
        refine gg_get 0 fl_X9_76 dX9_pairs_52 rfl rfl ?_
        refine gg_iload_n dX9_pairs_55 rfl ?_
        refine gg_iload dX9_pairs_56 rfl ?_
        obtain ⟨hb58, h⟩ := gg_ck h
        refine gg_iast 4 (wd_X9_pairs c_latest c_asked c_upper c_lower c_n c_readAt c_readMany c_readFood c_isHead c_backMany c_deedMany c_whole c_wellSum c_strongSum c_hash c_sizes c_rows c_now (upd c_free_33 x3_33.toNatClampNeg x4_33) c_placed) dX9_pairs_58 rfl hb58 rfl ?_
        refine gg_iinc (x3_33 + (1 : Int32)) [some (.ref 0), some (.int y1), some (.int y2), some (.int (x3_33 + (1 : Int32))), some (.int x4_33), none, none, none, none, none] dX9_pairs_59 rfl rfl rfl (Nat.le_of_ble_eq_true rfl) rfl ?_
        exact hk62 (x3_33 + (1 : Int32)) (upd c_free_33 x3_33.toNatClampNeg x4_33) h
set_option maxRecDepth 20000 in
set_option maxHeartbeats 4000000 in
theorem lq_X9_pairs_74 {β : Type} {res : β} {rr : Option Value} {ww : va_W} (y1 : Int32) (y2 : Int32) (c_latest : Int32) (c_asked : Int32) (c_upper : Int64) (c_lower : Int64) (c_n : Int32) (c_readAt : Int32) (c_readMany : Int32) (c_readFood : Int32) (c_isHead : Int32) (c_backMany : Int32) (c_deedMany : Int32) (c_whole : Int64) (c_wellSum : Int64) (c_strongSum : Int64) (c_hash : Int64) (c_sizes : Nat → Int32) (c_rows : Nat → Int32) (c_now : Nat → Int32) (c_free : Nat → Int32) (c_placed : Nat → Int32) (k92 : (Int32) → Option β) (hk92 : ∀ (x4_92 : Int32), k92 x4_92 = some res → gg_G MD_X9_pairs 92 [some (.ref 0), some (.int y1), some (.int y2), none, some (.int x4_92), none, none, none, none, none] [] (wd_X9_pairs c_latest c_asked c_upper c_lower c_n c_readAt c_readMany c_readFood c_isHead c_backMany c_deedMany c_whole c_wellSum c_strongSum c_hash c_sizes c_rows c_now c_free c_placed) rr ww) : ∀ (n : Nat) (x4_74 : Int32) (x5_74 : Int32), lp_X9_pairs_74 y2 k92 n x4_74 x5_74 = some res → gg_G MD_X9_pairs 74 [some (.ref 0), some (.int y1), some (.int y2), none, some (.int x4_74), some (.int x5_74), none, none, none, none] [] (wd_X9_pairs c_latest c_asked c_upper c_lower c_n c_readAt c_readMany c_readFood c_isHead c_backMany c_deedMany c_whole c_wellSum c_strongSum c_hash c_sizes c_rows c_now c_free c_placed) rr ww := by
  intro n
  induction n with
  | zero =>
    intro x4_74 x5_74 h
    exact nomatch (show (none : Option β) = some res from h)
  | succ n ih =>
    intro x4_74 x5_74 h
    rw [lp_X9_pairs_74] at h
    refine gg_iload dX9_pairs_74 rfl ?_
    refine gg_iload_n dX9_pairs_76 rfl ?_
    refine gg_icmp_ge 92 dX9_pairs_77 (by decide) (fun hc => ?_) (fun hc => ?_)
    · replace h := gg_th h hc
      refine gg_fg [true, true, true, false, true, false, false, false, false, false] [some (.ref 0), some (.int y1), some (.int y2), none, some (.int x4_74), none, none, none, none, none] rfl ?_
      exact hk92 x4_74 h
    · replace h := gg_el h hc
      refine gg_iload dX9_pairs_80 rfl ?_
      refine gg_iload_n dX9_pairs_82 rfl ?_
      refine gg_imul dX9_pairs_83 ?_
      refine gg_istore [some (.ref 0), some (.int y1), some (.int y2), none, some (.int (x4_74 * y2)), some (.int x5_74), none, none, none, none] dX9_pairs_84 rfl (Nat.le_of_ble_eq_true rfl) rfl ?_
      refine gg_iinc (x5_74 + (1 : Int32)) [some (.ref 0), some (.int y1), some (.int y2), none, some (.int (x4_74 * y2)), some (.int (x5_74 + (1 : Int32))), none, none, none, none] dX9_pairs_86 rfl rfl rfl (Nat.le_of_ble_eq_true rfl) rfl ?_
      refine gg_goto 74 dX9_pairs_89 (by decide) ?_
      exact ih (x4_74 * y2) (x5_74 + (1 : Int32)) h
set_option maxRecDepth 20000 in
set_option maxHeartbeats 4000000 in
theorem lq_X9_pairs_103 {β : Type} {res : β} {rr : Option Value} {ww : va_W} (y1 : Int32) (y2 : Int32) (y4 : Int32) (c_latest : Int32) (c_asked : Int32) (c_upper : Int64) (c_lower : Int64) (c_n : Int32) (c_readAt : Int32) (c_readMany : Int32) (c_readFood : Int32) (c_isHead : Int32) (c_backMany : Int32) (c_deedMany : Int32) (c_whole : Int64) (c_wellSum : Int64) (c_strongSum : Int64) (c_hash : Int64) (c_sizes : Nat → Int32) (c_rows : Nat → Int32) (c_now : Nat → Int32) (c_free : Nat → Int32) (k181 : (Int32) → (Int32) → (Nat → Int32) → Option β) (hk181 : ∀ (x5_181 : Int32) (x6_181 : Int32) (c_placed_181 : Nat → Int32), k181 x5_181 x6_181 c_placed_181 = some res → gg_G MD_X9_pairs 181 [some (.ref 0), some (.int y1), some (.int y2), none, none, some (.int x5_181), some (.int x6_181), none, none, none] [] (wd_X9_pairs c_latest c_asked c_upper c_lower c_n c_readAt c_readMany c_readFood c_isHead c_backMany c_deedMany c_whole c_wellSum c_strongSum c_hash c_sizes c_rows c_now c_free c_placed_181) rr ww) : ∀ (n : Nat) (x5_103 : Int32) (x6_103 : Int32) (x7_103 : Int32) (c_placed_103 : Nat → Int32), lp_X9_pairs_103 y2 y4 c_n c_now c_free k181 n x5_103 x6_103 x7_103 c_placed_103 = some res → gg_G MD_X9_pairs 103 [some (.ref 0), some (.int y1), some (.int y2), none, some (.int y4), some (.int x5_103), some (.int x6_103), some (.int x7_103), none, none] [] (wd_X9_pairs c_latest c_asked c_upper c_lower c_n c_readAt c_readMany c_readFood c_isHead c_backMany c_deedMany c_whole c_wellSum c_strongSum c_hash c_sizes c_rows c_now c_free c_placed_103) rr ww := by
  intro n
  induction n with
  | zero =>
    intro x5_103 x6_103 x7_103 c_placed_103 h
    exact nomatch (show (none : Option β) = some res from h)
  | succ n ih =>
    intro x5_103 x6_103 x7_103 c_placed_103 h
    rw [lp_X9_pairs_103] at h
    refine gg_iload dX9_pairs_103 rfl ?_
    refine gg_iload dX9_pairs_105 rfl ?_
    refine gg_icmp_ge 181 dX9_pairs_107 (by decide) (fun hc => ?_) (fun hc => ?_)
    · replace h := gg_th h hc
      refine gg_fg [true, true, true, false, false, true, true, false, false, false] [some (.ref 0), some (.int y1), some (.int y2), none, none, some (.int x5_103), some (.int x6_103), none, none, none] rfl ?_
      exact hk181 x5_103 x6_103 c_placed_103 h
    · replace h := gg_el h hc
      refine gg_aload_n dX9_pairs_110 rfl ?_
      refine gg_iload dX9_pairs_111 rfl ?_
      refine gg_iload_n dX9_pairs_113 rfl ?_
      obtain ⟨v5_0, v5_1, hv5, h⟩ := gg_bd2 h
      refine gg_callV (gg_sg [0]) [0, 3, 4, 5] (wd_X9_pairs c_latest c_asked c_upper c_lower c_n c_readAt c_readMany c_readFood c_isHead c_backMany c_deedMany c_whole c_wellSum c_strongSum c_hash c_sizes c_rows c_now c_free v5_1) 0 (C_X9_isPut x7_103 y2 c_latest c_asked c_upper c_lower c_n c_readAt c_readMany c_readFood c_isHead c_backMany c_deedMany c_whole c_wellSum c_strongSum c_hash c_now c_free c_placed_103 hv5) nV_X9_isPut ml_X9_242 rfl rfl rfl rfl rfl rfl rfl rfl rfl rfl [1, 2] 6 rfl rfl rfl rfl rfl ⟨Nat.le_of_ble_eq_true rfl, Nat.le_of_ble_eq_true rfl⟩ (Nat.le_of_ble_eq_true rfl) dX9_pairs_114 [.int v5_0] rfl ?_
      refine gg_istore [some (.ref 0), some (.int y1), some (.int y2), none, some (.int y4), some (.int x5_103), some (.int x6_103), some (.int x7_103), some (.int v5_0), none] dX9_pairs_117 rfl (Nat.le_of_ble_eq_true rfl) rfl ?_
      refine gg_iload dX9_pairs_119 rfl ?_
      obtain ⟨k141, hke141, h⟩ := gg_lte h
      have hk141 : ∀ (s0_141 : Int32), k141 s0_141 = some res → gg_G MD_X9_pairs 141 [some (.ref 0), some (.int y1), some (.int y2), none, some (.int y4), some (.int x5_103), some (.int x6_103), some (.int x7_103), none, none] [.int s0_141] (wd_X9_pairs c_latest c_asked c_upper c_lower c_n c_readAt c_readMany c_readFood c_isHead c_backMany c_deedMany c_whole c_wellSum c_strongSum c_hash c_sizes c_rows c_now c_free v5_1) rr ww := by
        intro s0_141 h
        subst hke141
        refine gg_istore [some (.ref 0), some (.int y1), some (.int y2), none, some (.int y4), some (.int x5_103), some (.int x6_103), some (.int x7_103), none, some (.int s0_141)] dX9_pairs_141 rfl (Nat.le_of_ble_eq_true rfl) rfl ?_
        refine gg_iload dX9_pairs_143 rfl ?_
        refine gg_iload dX9_pairs_145 rfl ?_
        obtain ⟨k157, hke157, h⟩ := gg_lte h
        have hk157 : ∀ (s0_157 : Int32), k157 s0_157 = some res → gg_G MD_X9_pairs 157 [some (.ref 0), some (.int y1), some (.int y2), none, some (.int y4), none, some (.int x6_103), some (.int x7_103), none, some (.int s0_141)] [.int s0_157] (wd_X9_pairs c_latest c_asked c_upper c_lower c_n c_readAt c_readMany c_readFood c_isHead c_backMany c_deedMany c_whole c_wellSum c_strongSum c_hash c_sizes c_rows c_now c_free v5_1) rr ww := by
          intro s0_157 h
          subst hke157
          refine gg_istore [some (.ref 0), some (.int y1), some (.int y2), none, some (.int y4), some (.int s0_157), some (.int x6_103), some (.int x7_103), none, some (.int s0_141)] dX9_pairs_157 rfl (Nat.le_of_ble_eq_true rfl) rfl ?_
          refine gg_iload dX9_pairs_159 rfl ?_
          refine gg_iload dX9_pairs_161 rfl ?_
          obtain ⟨k173, hke173, h⟩ := gg_lte h
          have hk173 : ∀ (s0_173 : Int32), k173 s0_173 = some res → gg_G MD_X9_pairs 173 [some (.ref 0), some (.int y1), some (.int y2), none, some (.int y4), some (.int s0_157), none, some (.int x7_103), none, none] [.int s0_173] (wd_X9_pairs c_latest c_asked c_upper c_lower c_n c_readAt c_readMany c_readFood c_isHead c_backMany c_deedMany c_whole c_wellSum c_strongSum c_hash c_sizes c_rows c_now c_free v5_1) rr ww := by
            intro s0_173 h
            subst hke173
            refine gg_istore [some (.ref 0), some (.int y1), some (.int y2), none, some (.int y4), some (.int s0_157), some (.int s0_173), some (.int x7_103), none, none] dX9_pairs_173 rfl (Nat.le_of_ble_eq_true rfl) rfl ?_
            refine gg_iinc (x7_103 + (1 : Int32)) [some (.ref 0), some (.int y1), some (.int y2), none, some (.int y4), some (.int s0_157), some (.int s0_173), some (.int (x7_103 + (1 : Int32))), none, none] dX9_pairs_175 rfl rfl rfl (Nat.le_of_ble_eq_true rfl) rfl ?_
            refine gg_goto 103 dX9_pairs_178 (by decide) ?_
            exact ih s0_157 s0_173 (x7_103 + (1 : Int32)) v5_1 h
          clear hke173
          refine gg_icmp_ge 171 dX9_pairs_163 (by decide) (fun hc => ?_) (fun hc => ?_)
          · replace h := gg_th h hc
            refine gg_iload dX9_pairs_171 rfl ?_
            refine gg_fg [true, true, true, false, true, true, false, true, false, false] [some (.ref 0), some (.int y1), some (.int y2), none, some (.int y4), some (.int s0_157), none, some (.int x7_103), none, none] rfl ?_
            exact hk173 x6_103 h
          · replace h := gg_el h hc
            refine gg_iload dX9_pairs_166 rfl ?_
            refine gg_goto 173 dX9_pairs_168 (by decide) ?_
            refine gg_fg [true, true, true, false, true, true, false, true, false, false] [some (.ref 0), some (.int y1), some (.int y2), none, some (.int y4), some (.int s0_157), none, some (.int x7_103), none, none] rfl ?_
            exact hk173 s0_141 h
        clear hke157
        refine gg_icmp_ge 155 dX9_pairs_147 (by decide) (fun hc => ?_) (fun hc => ?_)
        · replace h := gg_th h hc
          refine gg_iload dX9_pairs_155 rfl ?_
          refine gg_fg [true, true, true, false, true, false, true, true, false, true] [some (.ref 0), some (.int y1), some (.int y2), none, some (.int y4), none, some (.int x6_103), some (.int x7_103), none, some (.int s0_141)] rfl ?_
          exact hk157 x5_103 h
        · replace h := gg_el h hc
          refine gg_iload dX9_pairs_150 rfl ?_
          refine gg_goto 157 dX9_pairs_152 (by decide) ?_
          refine gg_fg [true, true, true, false, true, false, true, true, false, true] [some (.ref 0), some (.int y1), some (.int y2), none, some (.int y4), none, some (.int x6_103), some (.int x7_103), none, some (.int s0_141)] rfl ?_
          exact hk157 x7_103 h
      clear hke141
      refine gg_if_eq 139 dX9_pairs_121 (by decide) (fun hc => ?_) (fun hc => ?_)
      · replace h := gg_th h hc
        refine gg_ldc (1000000 : Int32) dX9_pairs_139 (gg_mem (by decide +kernel) rfl) ?_
        refine gg_fg [true, true, true, false, true, true, true, true, false, false] [some (.ref 0), some (.int y1), some (.int y2), none, some (.int y4), some (.int x5_103), some (.int x6_103), some (.int x7_103), none, none] rfl ?_
        exact hk141 (1000000 : Int32) h
      · replace h := gg_el h hc
        refine gg_bipush (100 : Int32) dX9_pairs_124 (by decide) ?_
        refine gg_aload_n dX9_pairs_126 rfl ?_
        obtain ⟨v6, hv6, h⟩ := gg_bd h
        refine gg_callV (gg_sg [0]) [0, 3, 5] (wd_X9_pairs c_latest c_asked c_upper c_lower c_n c_readAt c_readMany c_readFood c_isHead c_backMany c_deedMany c_whole c_wellSum c_strongSum c_hash c_sizes c_rows c_now c_free v5_1) 0 (C_X9_pairsApart c_latest c_asked c_upper c_lower c_n c_readAt c_readMany c_readFood c_isHead c_backMany c_deedMany c_whole c_wellSum c_strongSum c_hash c_now v5_1 hv6) nV_X9_pairsApart ml_X9_245 rfl rfl rfl rfl rfl rfl rfl rfl rfl rfl [1, 2, 4] 6 rfl rfl rfl rfl rfl ⟨Nat.le_of_ble_eq_true rfl, Nat.le_of_ble_eq_true rfl⟩ (Nat.le_of_ble_eq_true rfl) dX9_pairs_127 [.int v6, .int (100 : Int32)] rfl ?_
        refine gg_imul dX9_pairs_130 ?_
        refine gg_aload_n dX9_pairs_131 rfl ?_
        obtain ⟨v7, hv7, h⟩ := gg_bd h
        refine gg_callV (gg_sg [0]) [0, 3, 5] (wd_X9_pairs c_latest c_asked c_upper c_lower c_n c_readAt c_readMany c_readFood c_isHead c_backMany c_deedMany c_whole c_wellSum c_strongSum c_hash c_sizes c_rows c_now c_free v5_1) 0 (C_X9_homesApart c_latest c_asked c_upper c_lower c_n c_readAt c_readMany c_readFood c_isHead c_backMany c_deedMany c_whole c_wellSum c_strongSum c_hash c_now v5_1 hv7) nV_X9_homesApart ml_X9_249 rfl rfl rfl rfl rfl rfl rfl rfl rfl rfl [1, 2, 4] 6 rfl rfl rfl rfl rfl ⟨Nat.le_of_ble_eq_true rfl, Nat.le_of_ble_eq_true rfl⟩ (Nat.le_of_ble_eq_true rfl) dX9_pairs_132 [.int v7, .int ((100 : Int32) * v6)] rfl ?_
        refine gg_iadd dX9_pairs_135 ?_
        refine gg_goto 141 dX9_pairs_136 (by decide) ?_
        refine gg_fg [true, true, true, false, true, true, true, true, false, false] [some (.ref 0), some (.int y1), some (.int y2), none, some (.int y4), some (.int x5_103), some (.int x6_103), some (.int x7_103), none, none] rfl ?_
        exact hk141 (((100 : Int32) * v6) + v7) h
set_option maxRecDepth 20000 in
set_option maxHeartbeats 4000000 in
theorem lq_X9_pairs_202 {β : Type} {res : β} {rr : Option Value} {ww : va_W} (y1 : Int32) (y6 : Int32) (c_latest : Int32) (c_asked : Int32) (c_upper : Int64) (c_lower : Int64) (c_n : Int32) (c_readAt : Int32) (c_readMany : Int32) (c_readFood : Int32) (c_isHead : Int32) (c_backMany : Int32) (c_deedMany : Int32) (c_whole : Int64) (c_wellSum : Int64) (c_strongSum : Int64) (c_hash : Int64) (c_sizes : Nat → Int32) (c_now : Nat → Int32) (c_free : Nat → Int32) (c_placed : Nat → Int32) (k251 : (Nat → Int32) → Option β) (hk251 : ∀ (c_rows_251 : Nat → Int32), k251 c_rows_251 = some res → gg_G MD_X9_pairs 251 [some (.ref 0), none, none, none, none, none, some (.int y6), none, none, none] [] (wd_X9_pairs c_latest c_asked c_upper c_lower c_n c_readAt c_readMany c_readFood c_isHead c_backMany c_deedMany c_whole c_wellSum c_strongSum c_hash c_sizes c_rows_251 c_now c_free c_placed) rr ww) : ∀ (n : Nat) (x7_202 : Int32) (x8_202 : Int32) (c_rows_202 : Nat → Int32), lp_X9_pairs_202 y1 c_n c_now c_placed k251 n x7_202 x8_202 c_rows_202 = some res → gg_G MD_X9_pairs 202 [some (.ref 0), some (.int y1), none, none, none, none, some (.int y6), some (.int x7_202), some (.int x8_202), none] [] (wd_X9_pairs c_latest c_asked c_upper c_lower c_n c_readAt c_readMany c_readFood c_isHead c_backMany c_deedMany c_whole c_wellSum c_strongSum c_hash c_sizes c_rows_202 c_now c_free c_placed) rr ww := by
  intro n
  induction n with
  | zero =>
    intro x7_202 x8_202 c_rows_202 h
    exact nomatch (show (none : Option β) = some res from h)
  | succ n ih =>
    intro x7_202 x8_202 c_rows_202 h
    rw [lp_X9_pairs_202] at h
    refine gg_iload dX9_pairs_202 rfl ?_
    refine gg_aload_n dX9_pairs_204 rfl ?_
    refine gg_get 0 fl_X9_154 dX9_pairs_205 rfl rfl ?_
    refine gg_icmp_ge 251 dX9_pairs_208 (by decide) (fun hc => ?_) (fun hc => ?_)
    · replace h := gg_th h hc
      refine gg_fg [true, false, false, false, false, false, true, false, false, false] [some (.ref 0), none, none, none, none, none, some (.int y6), none, none, none] rfl ?_
      exact hk251 c_rows_202 h
    · replace h := gg_el h hc
      refine gg_aload_n dX9_pairs_211 rfl ?_
      refine gg_get 0 fl_X9_39 dX9_pairs_212 rfl rfl ?_
      refine gg_iload dX9_pairs_215 rfl ?_
      obtain ⟨v9, hv9, h⟩ := gg_bd h
      refine gg_callS (gg_sg [9]) [3] (wd_X9_pairs c_latest c_asked c_upper c_lower c_n c_readAt c_readMany c_readFood c_isHead c_backMany c_deedMany c_whole c_wellSum c_strongSum c_hash c_sizes c_rows_202 c_now c_free c_placed) (C_X9_isThere_a26 x8_202 c_now hv9) nS_X9_isThere_a26 ml_X9_160 rfl rfl rfl rfl rfl rfl rfl [0, 1, 2, 4, 5] 6 rfl rfl rfl rfl rfl ⟨Nat.le_of_ble_eq_true rfl, Nat.le_of_ble_eq_true rfl⟩ (Nat.le_of_ble_eq_true rfl) dX9_pairs_217 [.int v9] rfl ?_
      obtain ⟨k245, hke245, h⟩ := gg_lte h
      have hk245 : ∀ (x7_245 : Int32) (c_rows_245 : Nat → Int32), k245 x7_245 c_rows_245 = some res → gg_G MD_X9_pairs 245 [some (.ref 0), some (.int y1), none, none, none, none, some (.int y6), some (.int x7_245), some (.int x8_202), none] [] (wd_X9_pairs c_latest c_asked c_upper c_lower c_n c_readAt c_readMany c_readFood c_isHead c_backMany c_deedMany c_whole c_wellSum c_strongSum c_hash c_sizes c_rows_245 c_now c_free c_placed) rr ww := by
        intro x7_245 c_rows_245 h
        subst hke245
        refine gg_iinc (x8_202 + (1 : Int32)) [some (.ref 0), some (.int y1), none, none, none, none, some (.int y6), some (.int x7_245), some (.int (x8_202 + (1 : Int32))), none] dX9_pairs_245 rfl rfl rfl (Nat.le_of_ble_eq_true rfl) rfl ?_
        refine gg_goto 202 dX9_pairs_248 (by decide) ?_
        exact ih x7_245 (x8_202 + (1 : Int32)) c_rows_245 h
      clear hke245
      refine gg_if_eq 245 dX9_pairs_220 (by decide) (fun hc => ?_) (fun hc => ?_)
      · replace h := gg_th h hc
        exact hk245 x7_202 c_rows_202 h
      · replace h := gg_el h hc
        refine gg_aload_n dX9_pairs_223 rfl ?_
        refine gg_get 0 fl_X9_20 dX9_pairs_224 rfl rfl ?_
        refine gg_bipush (40 : Int32) dX9_pairs_227 (by decide) ?_
        refine gg_iload_n dX9_pairs_229 rfl ?_
        refine gg_imul dX9_pairs_230 ?_
        refine gg_iload dX9_pairs_231 rfl ?_
        refine gg_iadd dX9_pairs_233 ?_
        refine gg_aload_n dX9_pairs_234 rfl ?_
        refine gg_get 0 fl_X9_79 dX9_pairs_235 rfl rfl ?_
        refine gg_iload dX9_pairs_238 rfl ?_
        obtain ⟨hb240, h⟩ := gg_ck h
        refine gg_iald 5 dX9_pairs_240 rfl hb240 ?_
        obtain ⟨hb241, h⟩ := gg_ck h
        refine gg_iast 2 (wd_X9_pairs c_latest c_asked c_upper c_lower c_n c_readAt c_readMany c_readFood c_isHead c_backMany c_deedMany c_whole c_wellSum c_strongSum c_hash c_sizes (upd c_rows_202 (((40 : Int32) * y1) + x7_202).toNatClampNeg (c_placed x8_202.toNatClampNeg)) c_now c_free c_placed) dX9_pairs_241 rfl hb241 rfl ?_
        refine gg_iinc (x7_202 + (1 : Int32)) [some (.ref 0), some (.int y1), none, none, none, none, some (.int y6), some (.int (x7_202 + (1 : Int32))), some (.int x8_202), none] dX9_pairs_242 rfl rfl rfl (Nat.le_of_ble_eq_true rfl) rfl ?_
        exact hk245 (x7_202 + (1 : Int32)) (upd c_rows_202 (((40 : Int32) * y1) + x7_202).toNatClampNeg (c_placed x8_202.toNatClampNeg)) h
set_option maxRecDepth 20000 in
set_option maxHeartbeats 8000000 in
theorem C_X9_pairs (a0 : Int32) (c_latest : Int32) (c_asked : Int32) (c_upper : Int64) (c_lower : Int64) (c_n : Int32) (c_readAt : Int32) (c_readMany : Int32) (c_readFood : Int32) (c_isHead : Int32) (c_backMany : Int32) (c_deedMany : Int32) (c_whole : Int64) (c_wellSum : Int64) (c_strongSum : Int64) (c_hash : Int64) (c_sizes : Nat → Int32) (c_rows : Nat → Int32) (c_now : Nat → Int32) (c_free : Nat → Int32) (c_placed : Nat → Int32) {r0 : Int32} {r1 : (Int32)} {r2 : (Nat → Int32)} {r3 : (Nat → Int32)} {r4 : (Nat → Int32)} {r5 : (Nat → Int32)} (h : f_X9_pairs a0 c_asked c_n c_sizes c_rows c_now c_free c_placed = some (r0, r1, r2, r3, r4, r5)) : gg_C MD_X9_pairs [.ref 0, .int a0] (wd_X9_pairs c_latest c_asked c_upper c_lower c_n c_readAt c_readMany c_readFood c_isHead c_backMany c_deedMany c_whole c_wellSum c_strongSum c_hash c_sizes c_rows c_now c_free c_placed) (some (.int r0)) (wd_X9_pairs c_latest r1 c_upper c_lower c_n c_readAt c_readMany c_readFood c_isHead c_backMany c_deedMany c_whole c_wellSum c_strongSum c_hash r2 r3 c_now r4 r5) := by
  refine gg_ofG [some (.ref 0), some (.int a0), none, none, none, none, none, none, none, none] (plainFor_of_name (by decide)) (Nat.le_of_ble_eq_true rfl) rfl ?_
  unfold f_X9_pairs at h
  refine gg_iload_n dX9_pairs_0 rfl ?_
  obtain ⟨v1, hv1, h⟩ := gg_bd h
  refine gg_callS (gg_sg []) [] (wd_X9_pairs c_latest c_asked c_upper c_lower c_n c_readAt c_readMany c_readFood c_isHead c_backMany c_deedMany c_whole c_wellSum c_strongSum c_hash c_sizes c_rows c_now c_free c_placed) (C_X9_isRow a0 hv1) nS_X9_isRow ml_X9_102 rfl rfl rfl rfl rfl rfl rfl [0, 1, 2, 3, 4, 5] 6 rfl rfl rfl rfl rfl ⟨Nat.le_of_ble_eq_true rfl, Nat.le_of_ble_eq_true rfl⟩ (Nat.le_of_ble_eq_true rfl) dX9_pairs_1 [.int v1] rfl ?_
  refine gg_if_ne 9 dX9_pairs_4 (by decide) (fun hc => ?_) (fun hc => ?_)
  · replace h := gg_el h hc
    refine gg_aload_n dX9_pairs_9 rfl ?_
    refine gg_aload_n dX9_pairs_10 rfl ?_
    refine gg_get 0 fl_X9_39 dX9_pairs_11 rfl rfl ?_
    obtain ⟨v2, hv2, h⟩ := gg_bd h
    refine gg_callV (gg_sg [0, 9]) [0, 3] (wd_X9_pairs c_latest c_asked c_upper c_lower c_n c_readAt c_readMany c_readFood c_isHead c_backMany c_deedMany c_whole c_wellSum c_strongSum c_hash c_sizes c_rows c_now c_free c_placed) 0 (C_X9_there_a26 c_latest c_asked c_upper c_lower c_n c_readAt c_readMany c_readFood c_isHead c_backMany c_deedMany c_whole c_wellSum c_strongSum c_hash c_now hv2) nV_X9_there_a26 ml_X9_217 rfl rfl rfl rfl rfl rfl rfl rfl rfl rfl [1, 2, 4, 5] 6 rfl rfl rfl rfl rfl ⟨Nat.le_of_ble_eq_true rfl, Nat.le_of_ble_eq_true rfl⟩ (Nat.le_of_ble_eq_true rfl) dX9_pairs_14 [.int v2] rfl ?_
    obtain ⟨v3, hv3, h⟩ := gg_bd h
    refine gg_callS (gg_sg []) [] (wd_X9_pairs c_latest c_asked c_upper c_lower c_n c_readAt c_readMany c_readFood c_isHead c_backMany c_deedMany c_whole c_wellSum c_strongSum c_hash c_sizes c_rows c_now c_free c_placed) (C_X9_bits v2 hv3) nS_X9_bits ml_X9_220 rfl rfl rfl rfl rfl rfl rfl [0, 1, 2, 3, 4, 5] 6 rfl rfl rfl rfl rfl ⟨Nat.le_of_ble_eq_true rfl, Nat.le_of_ble_eq_true rfl⟩ (Nat.le_of_ble_eq_true rfl) dX9_pairs_17 [.int v3] rfl ?_
    refine gg_istore_n [some (.ref 0), some (.int a0), some (.int v3), none, none, none, none, none, none, none] dX9_pairs_20 rfl (Nat.le_of_ble_eq_true rfl) rfl ?_
    refine gg_iload_n dX9_pairs_21 rfl ?_
    refine gg_if_ne 28 dX9_pairs_22 (by decide) (fun hc => ?_) (fun hc => ?_)
    · replace h := gg_el h hc
      refine gg_iconst (0 : Int32) dX9_pairs_28 (by decide) ?_
      refine gg_istore_n [some (.ref 0), some (.int a0), some (.int v3), some (.int (0 : Int32)), none, none, none, none, none, none] dX9_pairs_29 rfl (Nat.le_of_ble_eq_true rfl) rfl ?_
      refine gg_iconst (0 : Int32) dX9_pairs_30 (by decide) ?_
      refine gg_istore [some (.ref 0), some (.int a0), some (.int v3), some (.int (0 : Int32)), some (.int (0 : Int32)), none, none, none, none, none] dX9_pairs_31 rfl (Nat.le_of_ble_eq_true rfl) rfl ?_
      refine lq_X9_pairs_33 a0 v3 c_latest c_asked c_upper c_lower c_n c_readAt c_readMany c_readFood c_isHead c_backMany c_deedMany c_whole c_wellSum c_strongSum c_hash c_sizes c_rows c_now c_placed _ ?_ gg_fuel (0 : Int32) (0 : Int32) c_free h
      intro c_free_68 h
      refine gg_iconst (1 : Int32) dX9_pairs_68 (by decide) ?_
      refine gg_istore [some (.ref 0), some (.int a0), some (.int v3), none, some (.int (1 : Int32)), none, none, none, none, none] dX9_pairs_69 rfl (Nat.le_of_ble_eq_true rfl) rfl ?_
      refine gg_iconst (0 : Int32) dX9_pairs_71 (by decide) ?_
      refine gg_istore [some (.ref 0), some (.int a0), some (.int v3), none, some (.int (1 : Int32)), some (.int (0 : Int32)), none, none, none, none] dX9_pairs_72 rfl (Nat.le_of_ble_eq_true rfl) rfl ?_
      refine lq_X9_pairs_74 a0 v3 c_latest c_asked c_upper c_lower c_n c_readAt c_readMany c_readFood c_isHead c_backMany c_deedMany c_whole c_wellSum c_strongSum c_hash c_sizes c_rows c_now c_free_68 c_placed _ ?_ gg_fuel (1 : Int32) (0 : Int32) h
      intro x4_92 h
      refine gg_bipush (-9 : Int32) dX9_pairs_92 (by decide) ?_
      refine gg_istore [some (.ref 0), some (.int a0), some (.int v3), none, some (.int x4_92), some (.int (-9 : Int32)), none, none, none, none] dX9_pairs_94 rfl (Nat.le_of_ble_eq_true rfl) rfl ?_
      refine gg_ldc (1000000 : Int32) dX9_pairs_96 (gg_mem (by decide +kernel) rfl) ?_
      refine gg_istore [some (.ref 0), some (.int a0), some (.int v3), none, some (.int x4_92), some (.int (-9 : Int32)), some (.int (1000000 : Int32)), none, none, none] dX9_pairs_98 rfl (Nat.le_of_ble_eq_true rfl) rfl ?_
      refine gg_iconst (0 : Int32) dX9_pairs_100 (by decide) ?_
      refine gg_istore [some (.ref 0), some (.int a0), some (.int v3), none, some (.int x4_92), some (.int (-9 : Int32)), some (.int (1000000 : Int32)), some (.int (0 : Int32)), none, none] dX9_pairs_101 rfl (Nat.le_of_ble_eq_true rfl) rfl ?_
      refine lq_X9_pairs_103 a0 v3 x4_92 c_latest c_asked c_upper c_lower c_n c_readAt c_readMany c_readFood c_isHead c_backMany c_deedMany c_whole c_wellSum c_strongSum c_hash c_sizes c_rows c_now c_free_68 _ ?_ gg_fuel (-9 : Int32) (1000000 : Int32) (0 : Int32) c_placed h
      intro x5_181 x6_181 c_placed_181 h
      refine gg_aload_n dX9_pairs_181 rfl ?_
      refine gg_iload dX9_pairs_182 rfl ?_
      refine gg_iload_n dX9_pairs_184 rfl ?_
      obtain ⟨v8_0, v8_1, hv8, h⟩ := gg_bd2 h
      refine gg_callV (gg_sg [0]) [0, 3, 4, 5] (wd_X9_pairs c_latest c_asked c_upper c_lower c_n c_readAt c_readMany c_readFood c_isHead c_backMany c_deedMany c_whole c_wellSum c_strongSum c_hash c_sizes c_rows c_now c_free_68 v8_1) 0 (C_X9_isPut x5_181 v3 c_latest c_asked c_upper c_lower c_n c_readAt c_readMany c_readFood c_isHead c_backMany c_deedMany c_whole c_wellSum c_strongSum c_hash c_now c_free_68 c_placed_181 hv8) nV_X9_isPut ml_X9_242 rfl rfl rfl rfl rfl rfl rfl rfl rfl rfl [1, 2] 6 rfl rfl rfl rfl rfl ⟨Nat.le_of_ble_eq_true rfl, Nat.le_of_ble_eq_true rfl⟩ (Nat.le_of_ble_eq_true rfl) dX9_pairs_185 [.int v8_0] rfl ?_
      refine gg_pop dX9_pairs_188 rfl ?_
      refine gg_aload_n dX9_pairs_189 rfl ?_
      refine gg_get 0 fl_X9_17 dX9_pairs_190 rfl rfl ?_
      refine gg_iload_n dX9_pairs_193 rfl ?_
      refine gg_iload_n dX9_pairs_194 rfl ?_
      obtain ⟨hb195, h⟩ := gg_ck h
      refine gg_iast 1 (wd_X9_pairs c_latest c_asked c_upper c_lower c_n c_readAt c_readMany c_readFood c_isHead c_backMany c_deedMany c_whole c_wellSum c_strongSum c_hash (upd c_sizes a0.toNatClampNeg v3) c_rows c_now c_free_68 v8_1) dX9_pairs_195 rfl hb195 rfl ?_
      refine gg_iconst (0 : Int32) dX9_pairs_196 (by decide) ?_
      refine gg_istore [some (.ref 0), some (.int a0), some (.int v3), none, none, some (.int x5_181), some (.int x6_181), some (.int (0 : Int32)), none, none] dX9_pairs_197 rfl (Nat.le_of_ble_eq_true rfl) rfl ?_
      refine gg_iconst (0 : Int32) dX9_pairs_199 (by decide) ?_
      refine gg_istore [some (.ref 0), some (.int a0), some (.int v3), none, none, some (.int x5_181), some (.int x6_181), some (.int (0 : Int32)), some (.int (0 : Int32)), none] dX9_pairs_200 rfl (Nat.le_of_ble_eq_true rfl) rfl ?_
      refine gg_fg [true, true, false, false, false, false, true, true, true, false] [some (.ref 0), some (.int a0), none, none, none, none, some (.int x6_181), some (.int (0 : Int32)), some (.int (0 : Int32)), none] rfl ?_
      refine lq_X9_pairs_202 a0 x6_181 c_latest c_asked c_upper c_lower c_n c_readAt c_readMany c_readFood c_isHead c_backMany c_deedMany c_whole c_wellSum c_strongSum c_hash (upd c_sizes a0.toNatClampNeg v3) c_now c_free_68 v8_1 _ ?_ gg_fuel (0 : Int32) (0 : Int32) c_rows h
      intro c_rows_251 h
      refine gg_aload_n dX9_pairs_251 rfl ?_
      refine gg_iload dX9_pairs_252 rfl ?_
      refine gg_bipush (100 : Int32) dX9_pairs_254 (by decide) ?_
      refine gg_irem dX9_pairs_256 (by decide) ?_
      refine gg_iload dX9_pairs_257 rfl ?_
      refine gg_bipush (100 : Int32) dX9_pairs_259 (by decide) ?_
      refine gg_idiv dX9_pairs_261 (by decide) ?_
      obtain ⟨v10_0, v10_1, hv10, h⟩ := gg_bd2 h
      refine gg_callV (gg_sg [0]) [0] (wd_X9_pairs c_latest v10_1 c_upper c_lower c_n c_readAt c_readMany c_readFood c_isHead c_backMany c_deedMany c_whole c_wellSum c_strongSum c_hash (upd c_sizes a0.toNatClampNeg v3) c_rows_251 c_now c_free_68 v8_1) 0 (C_X9_tells (x6_181 - x6_181 / (100 : Int32) * (100 : Int32)) (x6_181 / (100 : Int32)) c_latest c_asked c_upper c_lower c_n c_readAt c_readMany c_readFood c_isHead c_backMany c_deedMany c_whole c_wellSum c_strongSum c_hash hv10) nV_X9_tells ml_X9_114 rfl rfl rfl rfl rfl rfl rfl rfl rfl rfl [1, 2, 3, 4, 5] 6 rfl rfl rfl rfl rfl ⟨Nat.le_of_ble_eq_true rfl, Nat.le_of_ble_eq_true rfl⟩ (Nat.le_of_ble_eq_true rfl) dX9_pairs_262 [.int v10_0] rfl ?_
      cases h
      exact gg_iret dX9_pairs_265 rfl
    · replace h := gg_th h hc
      refine gg_bipush (-4 : Int32) dX9_pairs_25 (by decide) ?_
      cases h
      exact gg_iret dX9_pairs_27 rfl
  · replace h := gg_th h hc
    refine gg_iconst (-1 : Int32) dX9_pairs_7 (by decide) ?_
    cases h
    exact gg_iret dX9_pairs_8 rfl
