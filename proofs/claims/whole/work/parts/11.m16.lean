def wd_X9_count (c_latest : Int32) (c_asked : Int32) (c_upper : Int64) (c_lower : Int64) (c_n : Int32) (c_readAt : Int32) (c_readMany : Int32) (c_readFood : Int32) (c_isHead : Int32) (c_backMany : Int32) (c_deedMany : Int32) (c_whole : Int64) (c_wellSum : Int64) (c_strongSum : Int64) (c_hash : Int64) (c_sizes : Nat → Int32) (c_textSizes : Nat → Int32) (c_kindOf : Nat → Int32) (c_now : Nat → Int32) (c_isKept : Nat → Int32) : va_W := [(0, .inr (8, [.int c_latest, .ref 1, .int c_asked, .long c_upper, .long c_lower, .ref 2, .ref 3, .ref 4, .ref 5, .ref 6, .int c_n, .ref 7, .ref 8, .ref 9, .ref 10, .int c_readAt, .int c_readMany, .int c_readFood, .int c_isHead, .ref 11, .ref 12, .ref 13, .int c_backMany, .int c_deedMany, .ref 14, .ref 15, .ref 16, .ref 17, .ref 18, .ref 19, .ref 20, .ref 21, .ref 22, .ref 23, .ref 24, .long c_whole, .long c_wellSum, .long c_strongSum, .long c_hash])), (2, .inl (0, 6, .inl c_sizes)), (5, .inl (0, 4, .inl c_textSizes)), (7, .inl (0, 6, .inl c_kindOf)), (9, .inl (0, 26, .inl c_now)), (15, .inl (2, 3, .inl c_isKept))]
def MD_X9_count : gg_M := (yX9_count, cX9_count, 2, some .int, 3, 67)
theorem nV_X9_count : gg_nV MD_X9_count 1 := ⟨⟨gg_mem (by decide +kernel) rfl, gg_mem cw_X9_count rfl, by decide, by decide, by decide +kernel⟩, gg_mem (by decide +kernel) rfl, gg_mem (by decide +kernel) rfl⟩
def f_X9_count (a0 : Int32) (c_n : Int32) (c_deedMany : Int32) (c_sizes : Nat → Int32) (c_textSizes : Nat → Int32) (c_kindOf : Nat → Int32) (c_now : Nat → Int32) (c_isKept : Nat → Int32) : Option (Int32) := (f_X9_in a0 (0 : Int32) (10 : Int32)).bind (fun v1 => gg_lt (fun (s0_19 : Int32) => (some s0_19)) (fun k19 => (if v1 = (0 : Int32) then (k19 (-1 : Int32)) else (f_X9_counted a0 c_n c_deedMany c_sizes c_textSizes c_kindOf c_now c_isKept).bind (fun v2 => (k19 v2)))))
set_option maxRecDepth 20000 in
set_option maxHeartbeats 8000000 in
theorem C_X9_count (a0 : Int32) (c_latest : Int32) (c_asked : Int32) (c_upper : Int64) (c_lower : Int64) (c_n : Int32) (c_readAt : Int32) (c_readMany : Int32) (c_readFood : Int32) (c_isHead : Int32) (c_backMany : Int32) (c_deedMany : Int32) (c_whole : Int64) (c_wellSum : Int64) (c_strongSum : Int64) (c_hash : Int64) (c_sizes : Nat → Int32) (c_textSizes : Nat → Int32) (c_kindOf : Nat → Int32) (c_now : Nat → Int32) (c_isKept : Nat → Int32) {res : Int32} (h : f_X9_count a0 c_n c_deedMany c_sizes c_textSizes c_kindOf c_now c_isKept = some res) : gg_C MD_X9_count [.ref 0, .int a0] (wd_X9_count c_latest c_asked c_upper c_lower c_n c_readAt c_readMany c_readFood c_isHead c_backMany c_deedMany c_whole c_wellSum c_strongSum c_hash c_sizes c_textSizes c_kindOf c_now c_isKept) (some (.int res)) (wd_X9_count c_latest c_asked c_upper c_lower c_n c_readAt c_readMany c_readFood c_isHead c_backMany c_deedMany c_whole c_wellSum c_strongSum c_hash c_sizes c_textSizes c_kindOf c_now c_isKept) := by
  refine gg_ofG [some (.ref 0), some (.int a0)] (plainFor_of_name (by decide)) (Nat.le_of_ble_eq_true rfl) rfl ?_
  unfold f_X9_count at h
  refine gg_iload_n dX9_count_0 rfl ?_
  refine gg_iconst (0 : Int32) dX9_count_1 (by decide) ?_
  refine gg_bipush (10 : Int32) dX9_count_2 (by decide) ?_
  obtain ⟨v1, hv1, h⟩ := gg_bd h
  refine gg_callS (gg_sg []) [] (wd_X9_count c_latest c_asked c_upper c_lower c_n c_readAt c_readMany c_readFood c_isHead c_backMany c_deedMany c_whole c_wellSum c_strongSum c_hash c_sizes c_textSizes c_kindOf c_now c_isKept) (C_X9_in a0 (0 : Int32) (10 : Int32) hv1) nS_X9_in ml_X9_92 rfl rfl rfl rfl rfl rfl rfl [0, 1, 2, 3, 4, 5] 6 rfl rfl rfl rfl rfl ⟨Nat.le_of_ble_eq_true rfl, Nat.le_of_ble_eq_true rfl⟩ (Nat.le_of_ble_eq_true rfl) dX9_count_4 [.int v1] rfl ?_
  obtain ⟨k19, hke19, h⟩ := gg_lte h
  have hk19 : ∀ (s0_19 : Int32), k19 s0_19 = some res → gg_G MD_X9_count 19 [none, none] [.int s0_19] (wd_X9_count c_latest c_asked c_upper c_lower c_n c_readAt c_readMany c_readFood c_isHead c_backMany c_deedMany c_whole c_wellSum c_strongSum c_hash c_sizes c_textSizes c_kindOf c_now c_isKept) (some (.int res)) (wd_X9_count c_latest c_asked c_upper c_lower c_n c_readAt c_readMany c_readFood c_isHead c_backMany c_deedMany c_whole c_wellSum c_strongSum c_hash c_sizes c_textSizes c_kindOf c_now c_isKept) := by
    intro s0_19 h
    subst hke19
    cases h
    exact gg_iret dX9_count_19 rfl
  clear hke19
  refine gg_if_eq 18 dX9_count_7 (by decide) (fun hc => ?_) (fun hc => ?_)
  · replace h := gg_th h hc
    refine gg_iconst (-1 : Int32) dX9_count_18 (by decide) ?_
    refine gg_fg [false, false] [none, none] rfl ?_
    exact hk19 (-1 : Int32) h
  · replace h := gg_el h hc
    refine gg_aload_n dX9_count_10 rfl ?_
    refine gg_iload_n dX9_count_11 rfl ?_
    obtain ⟨v2, hv2, h⟩ := gg_bd h
    refine gg_callV (gg_sg [0]) [0, 1, 2, 3, 4, 5] (wd_X9_count c_latest c_asked c_upper c_lower c_n c_readAt c_readMany c_readFood c_isHead c_backMany c_deedMany c_whole c_wellSum c_strongSum c_hash c_sizes c_textSizes c_kindOf c_now c_isKept) 0 (C_X9_counted a0 c_latest c_asked c_upper c_lower c_n c_readAt c_readMany c_readFood c_isHead c_backMany c_deedMany c_whole c_wellSum c_strongSum c_hash c_sizes c_textSizes c_kindOf c_now c_isKept hv2) nV_X9_counted ml_X9_299 rfl rfl rfl rfl rfl rfl rfl rfl rfl rfl [] 6 rfl rfl rfl rfl rfl ⟨Nat.le_of_ble_eq_true rfl, Nat.le_of_ble_eq_true rfl⟩ (Nat.le_of_ble_eq_true rfl) dX9_count_12 [.int v2] rfl ?_
    refine gg_goto 19 dX9_count_15 (by decide) ?_
    refine gg_fg [false, false] [none, none] rfl ?_
    exact hk19 v2 h
def wd_X9_mix (c_latest : Int32) (c_asked : Int32) (c_upper : Int64) (c_lower : Int64) (c_n : Int32) (c_readAt : Int32) (c_readMany : Int32) (c_readFood : Int32) (c_isHead : Int32) (c_backMany : Int32) (c_deedMany : Int32) (c_whole : Int64) (c_wellSum : Int64) (c_strongSum : Int64) (c_hash : Int64) : va_W := [(0, .inr (8, [.int c_latest, .ref 1, .int c_asked, .long c_upper, .long c_lower, .ref 2, .ref 3, .ref 4, .ref 5, .ref 6, .int c_n, .ref 7, .ref 8, .ref 9, .ref 10, .int c_readAt, .int c_readMany, .int c_readFood, .int c_isHead, .ref 11, .ref 12, .ref 13, .int c_backMany, .int c_deedMany, .ref 14, .ref 15, .ref 16, .ref 17, .ref 18, .ref 19, .ref 20, .ref 21, .ref 22, .ref 23, .ref 24, .long c_whole, .long c_wellSum, .long c_strongSum, .long c_hash]))]
def MD_X9_mix : gg_M := (yX9_mix, cX9_mix, 3, none, 0, 0)
theorem nV_X9_mix : gg_nV MD_X9_mix 1 := ⟨⟨gg_mem (by decide +kernel) rfl, gg_mem cw_X9_mix rfl, by decide, by decide, by decide +kernel⟩, gg_mem (by decide +kernel) rfl, gg_mem (by decide +kernel) rfl⟩
def f_X9_mix (a0 : Int64) (c_hash : Int64) : Option ((Int64)) := (some (((31 : Int64) * c_hash) + a0))
set_option maxRecDepth 20000 in
set_option maxHeartbeats 8000000 in
theorem C_X9_mix (a0 : Int64) (c_latest : Int32) (c_asked : Int32) (c_upper : Int64) (c_lower : Int64) (c_n : Int32) (c_readAt : Int32) (c_readMany : Int32) (c_readFood : Int32) (c_isHead : Int32) (c_backMany : Int32) (c_deedMany : Int32) (c_whole : Int64) (c_wellSum : Int64) (c_strongSum : Int64) (c_hash : Int64) {res : (Int64)} (h : f_X9_mix a0 c_hash = some res) : gg_C MD_X9_mix [.ref 0, .long a0] (wd_X9_mix c_latest c_asked c_upper c_lower c_n c_readAt c_readMany c_readFood c_isHead c_backMany c_deedMany c_whole c_wellSum c_strongSum c_hash) (none) (wd_X9_mix c_latest c_asked c_upper c_lower c_n c_readAt c_readMany c_readFood c_isHead c_backMany c_deedMany c_whole c_wellSum c_strongSum res) := by
  refine gg_ofG [some (.ref 0), some (.long a0), none] (plainFor_of_name (by decide)) (Nat.le_of_ble_eq_true rfl) rfl ?_
  unfold f_X9_mix at h
  refine gg_aload_n dX9_mix_0 rfl ?_
  refine gg_ldc2 (31 : Int64) dX9_mix_1 (gg_mem (by decide +kernel) rfl) ?_
  refine gg_aload_n dX9_mix_4 rfl ?_
  refine gg_get 0 fl_X9_304 dX9_mix_5 rfl rfl ?_
  refine gg_lmul dX9_mix_8 ?_
  refine gg_lload_n dX9_mix_9 rfl ?_
  refine gg_ladd dX9_mix_10 ?_
  refine gg_putf 0 (wd_X9_mix c_latest c_asked c_upper c_lower c_n c_readAt c_readMany c_readFood c_isHead c_backMany c_deedMany c_whole c_wellSum c_strongSum (((31 : Int64) * c_hash) + a0)) fl_X9_304 dX9_mix_11 rfl (Nat.le_of_ble_eq_true rfl) (fun _ => ⟨rfl, rfl⟩) rfl ?_
  cases h
  exact gg_vret dX9_mix_14 rfl
def wd_X9_mixFront (c_latest : Int32) (c_asked : Int32) (c_upper : Int64) (c_lower : Int64) (c_n : Int32) (c_readAt : Int32) (c_readMany : Int32) (c_readFood : Int32) (c_isHead : Int32) (c_backMany : Int32) (c_deedMany : Int32) (c_whole : Int64) (c_wellSum : Int64) (c_strongSum : Int64) (c_hash : Int64) (c_kindOf : Nat → Int32) (c_winds : Nat → Int32) (c_now : Nat → Int32) (c_isKept : Nat → Int32) (c_keptMany : Nat → Int32) : va_W := [(0, .inr (8, [.int c_latest, .ref 1, .int c_asked, .long c_upper, .long c_lower, .ref 2, .ref 3, .ref 4, .ref 5, .ref 6, .int c_n, .ref 7, .ref 8, .ref 9, .ref 10, .int c_readAt, .int c_readMany, .int c_readFood, .int c_isHead, .ref 11, .ref 12, .ref 13, .int c_backMany, .int c_deedMany, .ref 14, .ref 15, .ref 16, .ref 17, .ref 18, .ref 19, .ref 20, .ref 21, .ref 22, .ref 23, .ref 24, .long c_whole, .long c_wellSum, .long c_strongSum, .long c_hash])), (7, .inl (0, 6, .inl c_kindOf)), (8, .inl (0, 4, .inl c_winds)), (9, .inl (0, 26, .inl c_now)), (15, .inl (2, 3, .inl c_isKept)), (16, .inl (0, 3, .inl c_keptMany))]
def MD_X9_mixFront : gg_M := (yX9_mixFront, cX9_mixFront, 3, none, 2, 43)
theorem nV_X9_mixFront : gg_nV MD_X9_mixFront 0 := ⟨⟨gg_mem (by decide +kernel) rfl, gg_mem cw_X9_mixFront rfl, by decide, by decide, by decide +kernel⟩, gg_mem (by decide +kernel) rfl, gg_mem (by decide +kernel) rfl⟩
def lp_X9_mixFront_12 {β : Type} (y1 : Int32) (c_kindOf : Nat → Int32) (c_winds : Nat → Int32) (c_now : Nat → Int32) (k35 : (Int64) → Option β) : Nat → (Int32) → (Int64) → Option β
  | 0, _, _ => none
  | n + 1, x2_12, c_hash_12 => (if (7 : Int32) ≤ x2_12 then (k35 c_hash_12) else (f_X9_hutTells y1 x2_12 c_kindOf c_winds c_now).bind (fun v1 => (f_X9_mix (v1.toInt64) c_hash_12).bind (fun v2 => (lp_X9_mixFront_12 y1 c_kindOf c_winds c_now k35 n (x2_12 + (1 : Int32)) v2))))
def lp_X9_mixFront_2 {β : Type} (c_n : Int32) (c_kindOf : Nat → Int32) (c_winds : Nat → Int32) (c_now : Nat → Int32) (k41 : (Int64) → Option β) : Nat → (Int32) → (Int64) → Option β
  | 0, _, _ => none
  | n + 1, x1_2, c_hash_2 => (if c_n ≤ x1_2 then (k41 c_hash_2) else (lp_X9_mixFront_12 x1_2 c_kindOf c_winds c_now (fun (c_hash_35 : Int64) => (lp_X9_mixFront_2 c_n c_kindOf c_winds c_now k41 n (x1_2 + (1 : Int32)) c_hash_35)) gg_fuel (0 : Int32) c_hash_2))
def lp_X9_mixFront_43 {β : Type} (c_isKept : Nat → Int32) (c_keptMany : Nat → Int32) (k80 : (Int64) → Option β) : Nat → (Int32) → (Int64) → Option β
  | 0, _, _ => none
  | n + 1, x1_43, c_hash_43 => (if (3 : Int32) ≤ x1_43 then (k80 c_hash_43) else gg_chk (gg_in x1_43 3) (gg_lt (fun (s1_71 : Int64) => (f_X9_mix s1_71 c_hash_43).bind (fun v3 => (lp_X9_mixFront_43 c_isKept c_keptMany k80 n (x1_43 + (1 : Int32)) v3))) (fun k71 => (if (c_isKept x1_43.toNatClampNeg) = (0 : Int32) then (k71 (-1 : Int64)) else gg_chk (gg_in x1_43 3) ((k71 ((c_keptMany x1_43.toNatClampNeg).toInt64)))))))
def f_X9_mixFront  (c_n : Int32) (c_hash : Int64) (c_kindOf : Nat → Int32) (c_winds : Nat → Int32) (c_now : Nat → Int32) (c_isKept : Nat → Int32) (c_keptMany : Nat → Int32) : Option ((Int64)) := (lp_X9_mixFront_2 c_n c_kindOf c_winds c_now (fun (c_hash_41 : Int64) => (lp_X9_mixFront_43 c_isKept c_keptMany (fun (c_hash_80 : Int64) => (some c_hash_80)) gg_fuel (0 : Int32) c_hash_41)) gg_fuel (0 : Int32) c_hash)
set_option maxRecDepth 20000 in
set_option maxHeartbeats 4000000 in
theorem lq_X9_mixFront_12 {β : Type} {res : β} {rr : Option Value} {ww : va_W} (y1 : Int32) (c_latest : Int32) (c_asked : Int32) (c_upper : Int64) (c_lower : Int64) (c_n : Int32) (c_readAt : Int32) (c_readMany : Int32) (c_readFood : Int32) (c_isHead : Int32) (c_backMany : Int32) (c_deedMany : Int32) (c_whole : Int64) (c_wellSum : Int64) (c_strongSum : Int64) (c_kindOf : Nat → Int32) (c_winds : Nat → Int32) (c_now : Nat → Int32) (c_isKept : Nat → Int32) (c_keptMany : Nat → Int32) (k35 : (Int64) → Option β) (hk35 : ∀ (c_hash_35 : Int64), k35 c_hash_35 = some res → gg_G MD_X9_mixFront 35 [some (.ref 0), some (.int y1), none] [] (wd_X9_mixFront c_latest c_asked c_upper c_lower c_n c_readAt c_readMany c_readFood c_isHead c_backMany c_deedMany c_whole c_wellSum c_strongSum c_hash_35 c_kindOf c_winds c_now c_isKept c_keptMany) rr ww) : ∀ (n : Nat) (x2_12 : Int32) (c_hash_12 : Int64), lp_X9_mixFront_12 y1 c_kindOf c_winds c_now k35 n x2_12 c_hash_12 = some res → gg_G MD_X9_mixFront 12 [some (.ref 0), some (.int y1), some (.int x2_12)] [] (wd_X9_mixFront c_latest c_asked c_upper c_lower c_n c_readAt c_readMany c_readFood c_isHead c_backMany c_deedMany c_whole c_wellSum c_strongSum c_hash_12 c_kindOf c_winds c_now c_isKept c_keptMany) rr ww := by
  intro n
  induction n with
  | zero =>
    intro x2_12 c_hash_12 h
    exact nomatch (show (none : Option β) = some res from h)
  | succ n ih =>
    intro x2_12 c_hash_12 h
    rw [lp_X9_mixFront_12] at h
    refine gg_iload_n dX9_mixFront_12 rfl ?_
    refine gg_bipush (7 : Int32) dX9_mixFront_13 (by decide) ?_
    refine gg_icmp_ge 35 dX9_mixFront_15 (by decide) (fun hc => ?_) (fun hc => ?_)
    · replace h := gg_th h hc
      refine gg_fg [true, true, false] [some (.ref 0), some (.int y1), none] rfl ?_
      exact hk35 c_hash_12 h
    · replace h := gg_el h hc
      refine gg_aload_n dX9_mixFront_18 rfl ?_
      refine gg_aload_n dX9_mixFront_19 rfl ?_
      refine gg_iload_n dX9_mixFront_20 rfl ?_
      refine gg_iload_n dX9_mixFront_21 rfl ?_
      obtain ⟨v1, hv1, h⟩ := gg_bd h
      refine gg_callV (gg_sg [0]) [0, 1, 2, 3] (wd_X9_mixFront c_latest c_asked c_upper c_lower c_n c_readAt c_readMany c_readFood c_isHead c_backMany c_deedMany c_whole c_wellSum c_strongSum c_hash_12 c_kindOf c_winds c_now c_isKept c_keptMany) 0 (C_X9_hutTells y1 x2_12 c_latest c_asked c_upper c_lower c_n c_readAt c_readMany c_readFood c_isHead c_backMany c_deedMany c_whole c_wellSum c_strongSum c_hash_12 c_kindOf c_winds c_now hv1) nV_X9_hutTells ml_X9_201 rfl rfl rfl rfl rfl rfl rfl rfl rfl rfl [4, 5] 6 rfl rfl rfl rfl rfl ⟨Nat.le_of_ble_eq_true rfl, Nat.le_of_ble_eq_true rfl⟩ (Nat.le_of_ble_eq_true rfl) dX9_mixFront_22 [.int v1, .ref 0] rfl ?_
      refine gg_i2l dX9_mixFront_25 ?_
      obtain ⟨v2, hv2, h⟩ := gg_bd h
      refine gg_callV (gg_sg [0]) [0] (wd_X9_mixFront c_latest c_asked c_upper c_lower c_n c_readAt c_readMany c_readFood c_isHead c_backMany c_deedMany c_whole c_wellSum c_strongSum v2 c_kindOf c_winds c_now c_isKept c_keptMany) 0 (C_X9_mix (v1.toInt64) c_latest c_asked c_upper c_lower c_n c_readAt c_readMany c_readFood c_isHead c_backMany c_deedMany c_whole c_wellSum c_strongSum c_hash_12 hv2) nV_X9_mix ml_X9_307 rfl rfl rfl rfl rfl rfl rfl rfl rfl rfl [1, 2, 3, 4, 5] 6 rfl rfl rfl rfl rfl ⟨Nat.le_of_ble_eq_true rfl, Nat.le_of_ble_eq_true rfl⟩ (Nat.le_of_ble_eq_true rfl) dX9_mixFront_26 [] rfl ?_
      refine gg_iinc (x2_12 + (1 : Int32)) [some (.ref 0), some (.int y1), some (.int (x2_12 + (1 : Int32)))] dX9_mixFront_29 rfl rfl rfl (Nat.le_of_ble_eq_true rfl) rfl ?_
      refine gg_goto 12 dX9_mixFront_32 (by decide) ?_
      exact ih (x2_12 + (1 : Int32)) v2 h
set_option maxRecDepth 20000 in
set_option maxHeartbeats 4000000 in
theorem lq_X9_mixFront_2 {β : Type} {res : β} {rr : Option Value} {ww : va_W} (c_latest : Int32) (c_asked : Int32) (c_upper : Int64) (c_lower : Int64) (c_n : Int32) (c_readAt : Int32) (c_readMany : Int32) (c_readFood : Int32) (c_isHead : Int32) (c_backMany : Int32) (c_deedMany : Int32) (c_whole : Int64) (c_wellSum : Int64) (c_strongSum : Int64) (c_kindOf : Nat → Int32) (c_winds : Nat → Int32) (c_now : Nat → Int32) (c_isKept : Nat → Int32) (c_keptMany : Nat → Int32) (k41 : (Int64) → Option β) (hk41 : ∀ (c_hash_41 : Int64), k41 c_hash_41 = some res → gg_G MD_X9_mixFront 41 [some (.ref 0), none, none] [] (wd_X9_mixFront c_latest c_asked c_upper c_lower c_n c_readAt c_readMany c_readFood c_isHead c_backMany c_deedMany c_whole c_wellSum c_strongSum c_hash_41 c_kindOf c_winds c_now c_isKept c_keptMany) rr ww) : ∀ (n : Nat) (x1_2 : Int32) (c_hash_2 : Int64), lp_X9_mixFront_2 c_n c_kindOf c_winds c_now k41 n x1_2 c_hash_2 = some res → gg_G MD_X9_mixFront 2 [some (.ref 0), some (.int x1_2), none] [] (wd_X9_mixFront c_latest c_asked c_upper c_lower c_n c_readAt c_readMany c_readFood c_isHead c_backMany c_deedMany c_whole c_wellSum c_strongSum c_hash_2 c_kindOf c_winds c_now c_isKept c_keptMany) rr ww := by
  intro n
  induction n with
  | zero =>
    intro x1_2 c_hash_2 h
    exact nomatch (show (none : Option β) = some res from h)
  | succ n ih =>
    intro x1_2 c_hash_2 h
    rw [lp_X9_mixFront_2] at h
    refine gg_iload_n dX9_mixFront_2 rfl ?_
    refine gg_aload_n dX9_mixFront_3 rfl ?_
    refine gg_get 0 fl_X9_154 dX9_mixFront_4 rfl rfl ?_
    refine gg_icmp_ge 41 dX9_mixFront_7 (by decide) (fun hc => ?_) (fun hc => ?_)
    · replace h := gg_th h hc
      refine gg_fg [true, false, false] [some (.ref 0), none, none] rfl ?_
      exact hk41 c_hash_2 h
    · replace h := gg_el h hc
      refine gg_iconst (0 : Int32) dX9_mixFront_10 (by decide) ?_
      refine gg_istore_n [some (.ref 0), some (.int x1_2), some (.int (0 : Int32))] dX9_mixFront_11 rfl (Nat.le_of_ble_eq_true rfl) rfl ?_
      refine lq_X9_mixFront_12 x1_2 c_latest c_asked c_upper c_lower c_n c_readAt c_readMany c_readFood c_isHead c_backMany c_deedMany c_whole c_wellSum c_strongSum c_kindOf c_winds c_now c_isKept c_keptMany _ ?_ gg_fuel (0 : Int32) c_hash_2 h
      intro c_hash_35 h
      refine gg_iinc (x1_2 + (1 : Int32)) [some (.ref 0), some (.int (x1_2 + (1 : Int32))), none] dX9_mixFront_35 rfl rfl rfl (Nat.le_of_ble_eq_true rfl) rfl ?_
      refine gg_goto 2 dX9_mixFront_38 (by decide) ?_
      exact ih (x1_2 + (1 : Int32)) c_hash_35 h
set_option maxRecDepth 20000 in
set_option maxHeartbeats 4000000 in
theorem lq_X9_mixFront_43 {β : Type} {res : β} {rr : Option Value} {ww : va_W} (c_latest : Int32) (c_asked : Int32) (c_upper : Int64) (c_lower : Int64) (c_n : Int32) (c_readAt : Int32) (c_readMany : Int32) (c_readFood : Int32) (c_isHead : Int32) (c_backMany : Int32) (c_deedMany : Int32) (c_whole : Int64) (c_wellSum : Int64) (c_strongSum : Int64) (c_kindOf : Nat → Int32) (c_winds : Nat → Int32) (c_now : Nat → Int32) (c_isKept : Nat → Int32) (c_keptMany : Nat → Int32) (k80 : (Int64) → Option β) (hk80 : ∀ (c_hash_80 : Int64), k80 c_hash_80 = some res → gg_G MD_X9_mixFront 80 [none, none, none] [] (wd_X9_mixFront c_latest c_asked c_upper c_lower c_n c_readAt c_readMany c_readFood c_isHead c_backMany c_deedMany c_whole c_wellSum c_strongSum c_hash_80 c_kindOf c_winds c_now c_isKept c_keptMany) rr ww) : ∀ (n : Nat) (x1_43 : Int32) (c_hash_43 : Int64), lp_X9_mixFront_43 c_isKept c_keptMany k80 n x1_43 c_hash_43 = some res → gg_G MD_X9_mixFront 43 [some (.ref 0), some (.int x1_43), none] [] (wd_X9_mixFront c_latest c_asked c_upper c_lower c_n c_readAt c_readMany c_readFood c_isHead c_backMany c_deedMany c_whole c_wellSum c_strongSum c_hash_43 c_kindOf c_winds c_now c_isKept c_keptMany) rr ww := by
  intro n
  induction n with
  | zero =>
    intro x1_43 c_hash_43 h
    exact nomatch (show (none : Option β) = some res from h)
  | succ n ih =>
    intro x1_43 c_hash_43 h
    rw [lp_X9_mixFront_43] at h
    refine gg_iload_n dX9_mixFront_43 rfl ?_
    refine gg_iconst (3 : Int32) dX9_mixFront_44 (by decide) ?_
    refine gg_icmp_ge 80 dX9_mixFront_45 (by decide) (fun hc => ?_) (fun hc => ?_)
    · replace h := gg_th h hc
      refine gg_fg [false, false, false] [none, none, none] rfl ?_
      exact hk80 c_hash_43 h
    · replace h := gg_el h hc
      refine gg_aload_n dX9_mixFront_48 rfl ?_
      refine gg_aload_n dX9_mixFront_49 rfl ?_
      refine gg_get 0 fl_X9_57 dX9_mixFront_50 rfl rfl ?_
      refine gg_iload_n dX9_mixFront_53 rfl ?_
      obtain ⟨hb54, h⟩ := gg_ck h
      refine gg_zald 4 dX9_mixFront_54 rfl hb54 ?_
      obtain ⟨k71, hke71, h⟩ := gg_lte h
      have hk71 : ∀ (s1_71 : Int64), k71 s1_71 = some res → gg_G MD_X9_mixFront 71 [some (.ref 0), some (.int x1_43), none] [.long s1_71, .ref 0] (wd_X9_mixFront c_latest c_asked c_upper c_lower c_n c_readAt c_readMany c_readFood c_isHead c_backMany c_deedMany c_whole c_wellSum c_strongSum c_hash_43 c_kindOf c_winds c_now c_isKept c_keptMany) rr ww := by
        intro s1_71 h
        subst hke71
        obtain ⟨v3, hv3, h⟩ := gg_bd h
        refine gg_callV (gg_sg [0]) [0] (wd_X9_mixFront c_latest c_asked c_upper c_lower c_n c_readAt c_readMany c_readFood c_isHead c_backMany c_deedMany c_whole c_wellSum c_strongSum v3 c_kindOf c_winds c_now c_isKept c_keptMany) 0 (C_X9_mix s1_71 c_latest c_asked c_upper c_lower c_n c_readAt c_readMany c_readFood c_isHead c_backMany c_deedMany c_whole c_wellSum c_strongSum c_hash_43 hv3) nV_X9_mix ml_X9_307 rfl rfl rfl rfl rfl rfl rfl rfl rfl rfl [1, 2, 3, 4, 5] 6 rfl rfl rfl rfl rfl ⟨Nat.le_of_ble_eq_true rfl, Nat.le_of_ble_eq_true rfl⟩ (Nat.le_of_ble_eq_true rfl) dX9_mixFront_71 [] rfl ?_
        refine gg_iinc (x1_43 + (1 : Int32)) [some (.ref 0), some (.int (x1_43 + (1 : Int32))), none] dX9_mixFront_74 rfl rfl rfl (Nat.le_of_ble_eq_true rfl) rfl ?_
        refine gg_goto 43 dX9_mixFront_77 (by decide) ?_
        exact ih (x1_43 + (1 : Int32)) v3 h
      clear hke71
      refine gg_if_eq 68 dX9_mixFront_55 (by decide) (fun hc => ?_) (fun hc => ?_)
      · replace h := gg_th h hc
        refine gg_ldc2 (-1 : Int64) dX9_mixFront_68 (gg_mem (by decide +kernel) rfl) ?_
        exact hk71 (-1 : Int64) h
      · replace h := gg_el h hc
        refine gg_aload_n dX9_mixFront_58 rfl ?_
        refine gg_get 0 fl_X9_61 dX9_mixFront_59 rfl rfl ?_
        refine gg_iload_n dX9_mixFront_62 rfl ?_
        obtain ⟨hb63, h⟩ := gg_ck h
        refine gg_iald 5 dX9_mixFront_63 rfl hb63 ?_
        refine gg_i2l dX9_mixFront_64 ?_
        refine gg_goto 71 dX9_mixFront_65 (by decide) ?_
        exact hk71 ((c_keptMany x1_43.toNatClampNeg).toInt64) h
set_option maxRecDepth 20000 in
set_option maxHeartbeats 8000000 in
theorem C_X9_mixFront  (c_latest : Int32) (c_asked : Int32) (c_upper : Int64) (c_lower : Int64) (c_n : Int32) (c_readAt : Int32) (c_readMany : Int32) (c_readFood : Int32) (c_isHead : Int32) (c_backMany : Int32) (c_deedMany : Int32) (c_whole : Int64) (c_wellSum : Int64) (c_strongSum : Int64) (c_hash : Int64) (c_kindOf : Nat → Int32) (c_winds : Nat → Int32) (c_now : Nat → Int32) (c_isKept : Nat → Int32) (c_keptMany : Nat → Int32) {res : (Int64)} (h : f_X9_mixFront c_n c_hash c_kindOf c_winds c_now c_isKept c_keptMany = some res) : gg_C MD_X9_mixFront [.ref 0] (wd_X9_mixFront c_latest c_asked c_upper c_lower c_n c_readAt c_readMany c_readFood c_isHead c_backMany c_deedMany c_whole c_wellSum c_strongSum c_hash c_kindOf c_winds c_now c_isKept c_keptMany) (none) (wd_X9_mixFront c_latest c_asked c_upper c_lower c_n c_readAt c_readMany c_readFood c_isHead c_backMany c_deedMany c_whole c_wellSum c_strongSum res c_kindOf c_winds c_now c_isKept c_keptMany) := by
  refine gg_ofG [some (.ref 0), none, none] (plainFor_of_name (by decide)) (Nat.le_of_ble_eq_true rfl) rfl ?_
  unfold f_X9_mixFront at h
  refine gg_iconst (0 : Int32) dX9_mixFront_0 (by decide) ?_
  refine gg_istore_n [some (.ref 0), some (.int (0 : Int32)), none] dX9_mixFront_1 rfl (Nat.le_of_ble_eq_true rfl) rfl ?_
  refine lq_X9_mixFront_2 c_latest c_asked c_upper c_lower c_n c_readAt c_readMany c_readFood c_isHead c_backMany c_deedMany c_whole c_wellSum c_strongSum c_kindOf c_winds c_now c_isKept c_keptMany _ ?_ gg_fuel (0 : Int32) c_hash h
  intro c_hash_41 h
  refine gg_iconst (0 : Int32) dX9_mixFront_41 (by decide) ?_
  refine gg_istore_n [some (.ref 0), some (.int (0 : Int32)), none] dX9_mixFront_42 rfl (Nat.le_of_ble_eq_true rfl) rfl ?_
  refine lq_X9_mixFront_43 c_latest c_asked c_upper c_lower c_n c_readAt c_readMany c_readFood c_isHead c_backMany c_deedMany c_whole c_wellSum c_strongSum c_kindOf c_winds c_now c_isKept c_keptMany _ ?_ gg_fuel (0 : Int32) c_hash_41 h
  intro c_hash_80 h
  cases h
  exact gg_vret dX9_mixFront_80 rfl
def wd_X9_digest (c_latest : Int32) (c_asked : Int32) (c_upper : Int64) (c_lower : Int64) (c_n : Int32) (c_readAt : Int32) (c_readMany : Int32) (c_readFood : Int32) (c_isHead : Int32) (c_backMany : Int32) (c_deedMany : Int32) (c_whole : Int64) (c_wellSum : Int64) (c_strongSum : Int64) (c_hash : Int64) (c_sizes : Nat → Int32) (c_rows : Nat → Int32) (c_textSizes : Nat → Int32) (c_bytes : Nat → Int32) (c_kindOf : Nat → Int32) (c_winds : Nat → Int32) (c_now : Nat → Int32) (c_isKept : Nat → Int32) (c_keptMany : Nat → Int32) : va_W := [(0, .inr (8, [.int c_latest, .ref 1, .int c_asked, .long c_upper, .long c_lower, .ref 2, .ref 3, .ref 4, .ref 5, .ref 6, .int c_n, .ref 7, .ref 8, .ref 9, .ref 10, .int c_readAt, .int c_readMany, .int c_readFood, .int c_isHead, .ref 11, .ref 12, .ref 13, .int c_backMany, .int c_deedMany, .ref 14, .ref 15, .ref 16, .ref 17, .ref 18, .ref 19, .ref 20, .ref 21, .ref 22, .ref 23, .ref 24, .long c_whole, .long c_wellSum, .long c_strongSum, .long c_hash])), (2, .inl (0, 6, .inl c_sizes)), (3, .inl (0, 240, .inl c_rows)), (5, .inl (0, 4, .inl c_textSizes)), (6, .inl (1, 240, .inl c_bytes)), (7, .inl (0, 6, .inl c_kindOf)), (8, .inl (0, 4, .inl c_winds)), (9, .inl (0, 26, .inl c_now)), (15, .inl (2, 3, .inl c_isKept)), (16, .inl (0, 3, .inl c_keptMany))]
def MD_X9_digest : gg_M := (yX9_digest, cX9_digest, 3, some .long, 3, 67)
theorem nV_X9_digest : gg_nV MD_X9_digest 0 := ⟨⟨gg_mem (by decide +kernel) rfl, gg_mem cw_X9_digest rfl, by decide, by decide, by decide +kernel⟩, gg_mem (by decide +kernel) rfl, gg_mem (by decide +kernel) rfl⟩
def lp_X9_digest_9 {β : Type} (c_n : Int32) (c_deedMany : Int32) (c_sizes : Nat → Int32) (c_textSizes : Nat → Int32) (c_kindOf : Nat → Int32) (c_now : Nat → Int32) (c_isKept : Nat → Int32) (k31 : (Int64) → Option β) : Nat → (Int32) → (Int64) → Option β
  | 0, _, _ => none
  | n + 1, x1_9, c_hash_9 => (if (11 : Int32) ≤ x1_9 then (k31 c_hash_9) else (f_X9_counted x1_9 c_n c_deedMany c_sizes c_textSizes c_kindOf c_now c_isKept).bind (fun v1 => (f_X9_mix (v1.toInt64) c_hash_9).bind (fun v2 => (lp_X9_digest_9 c_n c_deedMany c_sizes c_textSizes c_kindOf c_now c_isKept k31 n (x1_9 + (1 : Int32)) v2))))
def lp_X9_digest_56 {β : Type} (y1 : Int32) (c_sizes : Nat → Int32) (c_rows : Nat → Int32) (k83 : (Int64) → Option β) : Nat → (Int32) → (Int64) → Option β
  | 0, _, _ => none
  | n + 1, x2_56, c_hash_56 => gg_chk (gg_in y1 6) ((if (c_sizes y1.toNatClampNeg) ≤ x2_56 then (k83 c_hash_56) else (f_X9_rowAt y1 x2_56 c_rows).bind (fun v5 => (f_X9_mix (v5.toInt64) c_hash_56).bind (fun v6 => (lp_X9_digest_56 y1 c_sizes c_rows k83 n (x2_56 + (1 : Int32)) v6)))))
def lp_X9_digest_37 {β : Type} (c_sizes : Nat → Int32) (c_rows : Nat → Int32) (k89 : (Int64) → Option β) : Nat → (Int32) → (Int64) → Option β
  | 0, _, _ => none
  | n + 1, x1_37, c_hash_37 => (if (6 : Int32) ≤ x1_37 then (k89 c_hash_37) else gg_chk (gg_in x1_37 6) ((f_X9_mix ((c_sizes x1_37.toNatClampNeg).toInt64) c_hash_37).bind (fun v4 => (lp_X9_digest_56 x1_37 c_sizes c_rows (fun (c_hash_83 : Int64) => (lp_X9_digest_37 c_sizes c_rows k89 n (x1_37 + (1 : Int32)) c_hash_83)) gg_fuel (0 : Int32) v4))))
def lp_X9_digest_109 {β : Type} (y1 : Int32) (c_textSizes : Nat → Int32) (c_bytes : Nat → Int32) (k136 : (Int64) → Option β) : Nat → (Int32) → (Int64) → Option β
  | 0, _, _ => none
  | n + 1, x2_109, c_hash_109 => gg_chk (gg_in y1 4) ((if (c_textSizes y1.toNatClampNeg) ≤ x2_109 then (k136 c_hash_109) else (f_X9_byteAt y1 x2_109 c_textSizes c_bytes).bind (fun v8 => (f_X9_mix (v8.toInt64) c_hash_109).bind (fun v9 => (lp_X9_digest_109 y1 c_textSizes c_bytes k136 n (x2_109 + (1 : Int32)) v9)))))
def lp_X9_digest_91 {β : Type} (c_textSizes : Nat → Int32) (c_bytes : Nat → Int32) (k142 : (Int64) → Option β) : Nat → (Int32) → (Int64) → Option β
  | 0, _, _ => none
  | n + 1, x1_91, c_hash_91 => (if (4 : Int32) ≤ x1_91 then (k142 c_hash_91) else gg_chk (gg_in x1_91 4) ((f_X9_mix ((c_textSizes x1_91.toNatClampNeg).toInt64) c_hash_91).bind (fun v7 => (lp_X9_digest_109 x1_91 c_textSizes c_bytes (fun (c_hash_136 : Int64) => (lp_X9_digest_91 c_textSizes c_bytes k142 n (x1_91 + (1 : Int32)) c_hash_136)) gg_fuel (0 : Int32) v7))))
def f_X9_digest  (c_n : Int32) (c_deedMany : Int32) (c_hash : Int64) (c_sizes : Nat → Int32) (c_rows : Nat → Int32) (c_textSizes : Nat → Int32) (c_bytes : Nat → Int32) (c_kindOf : Nat → Int32) (c_winds : Nat → Int32) (c_now : Nat → Int32) (c_isKept : Nat → Int32) (c_keptMany : Nat → Int32) : Option (Int64 × (Int64)) := (lp_X9_digest_9 c_n c_deedMany c_sizes c_textSizes c_kindOf c_now c_isKept (fun (c_hash_31 : Int64) => (f_X9_mixFront c_n c_hash_31 c_kindOf c_winds c_now c_isKept c_keptMany).bind (fun v3 => (lp_X9_digest_37 c_sizes c_rows (fun (c_hash_89 : Int64) => (lp_X9_digest_91 c_textSizes c_bytes (fun (c_hash_142 : Int64) => (some (c_hash_142, c_hash_142))) gg_fuel (0 : Int32) c_hash_89)) gg_fuel (0 : Int32) v3))) gg_fuel (0 : Int32) (17 : Int64))
set_option maxRecDepth 20000 in
set_option maxHeartbeats 4000000 in
theorem lq_X9_digest_9 {β : Type} {res : β} {rr : Option Value} {ww : va_W} (c_latest : Int32) (c_asked : Int32) (c_upper : Int64) (c_lower : Int64) (c_n : Int32) (c_readAt : Int32) (c_readMany : Int32) (c_readFood : Int32) (c_isHead : Int32) (c_backMany : Int32) (c_deedMany : Int32) (c_whole : Int64) (c_wellSum : Int64) (c_strongSum : Int64) (c_sizes : Nat → Int32) (c_rows : Nat → Int32) (c_textSizes : Nat → Int32) (c_bytes : Nat → Int32) (c_kindOf : Nat → Int32) (c_winds : Nat → Int32) (c_now : Nat → Int32) (c_isKept : Nat → Int32) (c_keptMany : Nat → Int32) (k31 : (Int64) → Option β) (hk31 : ∀ (c_hash_31 : Int64), k31 c_hash_31 = some res → gg_G MD_X9_digest 31 [some (.ref 0), none, none] [] (wd_X9_digest c_latest c_asked c_upper c_lower c_n c_readAt c_readMany c_readFood c_isHead c_backMany c_deedMany c_whole c_wellSum c_strongSum c_hash_31 c_sizes c_rows c_textSizes c_bytes c_kindOf c_winds c_now c_isKept c_keptMany) rr ww) : ∀ (n : Nat) (x1_9 : Int32) (c_hash_9 : Int64), lp_X9_digest_9 c_n c_deedMany c_sizes c_textSizes c_kindOf c_now c_isKept k31 n x1_9 c_hash_9 = some res → gg_G MD_X9_digest 9 [some (.ref 0), some (.int x1_9), none] [] (wd_X9_digest c_latest c_asked c_upper c_lower c_n c_readAt c_readMany c_readFood c_isHead c_backMany c_deedMany c_whole c_wellSum c_strongSum c_hash_9 c_sizes c_rows c_textSizes c_bytes c_kindOf c_winds c_now c_isKept c_keptMany) rr ww := by
  intro n
  induction n with
  | zero =>
    intro x1_9 c_hash_9 h
    exact nomatch (show (none : Option β) = some res from h)
  | succ n ih =>
    intro x1_9 c_hash_9 h
    rw [lp_X9_digest_9] at h
    refine gg_iload_n dX9_digest_9 rfl ?_
    refine gg_bipush (11 : Int32) dX9_digest_10 (by decide) ?_
    refine gg_icmp_ge 31 dX9_digest_12 (by decide) (fun hc => ?_) (fun hc => ?_)
    · replace h := gg_th h hc
      refine gg_fg [true, false, false] [some (.ref 0), none, none] rfl ?_
      exact hk31 c_hash_9 h
    · replace h := gg_el h hc
      refine gg_aload_n dX9_digest_15 rfl ?_
      refine gg_aload_n dX9_digest_16 rfl ?_
      refine gg_iload_n dX9_digest_17 rfl ?_
      obtain ⟨v1, hv1, h⟩ := gg_bd h
      refine gg_callV (gg_sg [0]) [0, 1, 3, 5, 7, 8] (wd_X9_digest c_latest c_asked c_upper c_lower c_n c_readAt c_readMany c_readFood c_isHead c_backMany c_deedMany c_whole c_wellSum c_strongSum c_hash_9 c_sizes c_rows c_textSizes c_bytes c_kindOf c_winds c_now c_isKept c_keptMany) 0 (C_X9_counted x1_9 c_latest c_asked c_upper c_lower c_n c_readAt c_readMany c_readFood c_isHead c_backMany c_deedMany c_whole c_wellSum c_strongSum c_hash_9 c_sizes c_textSizes c_kindOf c_now c_isKept hv1) nV_X9_counted ml_X9_299 rfl rfl rfl rfl rfl rfl rfl rfl rfl rfl [2, 4, 6, 9] 10 rfl rfl rfl rfl rfl ⟨Nat.le_of_ble_eq_true rfl, Nat.le_of_ble_eq_true rfl⟩ (Nat.le_of_ble_eq_true rfl) dX9_digest_18 [.int v1, .ref 0] rfl ?_
      refine gg_i2l dX9_digest_21 ?_
      obtain ⟨v2, hv2, h⟩ := gg_bd h
      refine gg_callV (gg_sg [0]) [0] (wd_X9_digest c_latest c_asked c_upper c_lower c_n c_readAt c_readMany c_readFood c_isHead c_backMany c_deedMany c_whole c_wellSum c_strongSum v2 c_sizes c_rows c_textSizes c_bytes c_kindOf c_winds c_now c_isKept c_keptMany) 0 (C_X9_mix (v1.toInt64) c_latest c_asked c_upper c_lower c_n c_readAt c_readMany c_readFood c_isHead c_backMany c_deedMany c_whole c_wellSum c_strongSum c_hash_9 hv2) nV_X9_mix ml_X9_307 rfl rfl rfl rfl rfl rfl rfl rfl rfl rfl [1, 2, 3, 4, 5, 6, 7, 8, 9] 10 rfl rfl rfl rfl rfl ⟨Nat.le_of_ble_eq_true rfl, Nat.le_of_ble_eq_true rfl⟩ (Nat.le_of_ble_eq_true rfl) dX9_digest_22 [] rfl ?_
      refine gg_iinc (x1_9 + (1 : Int32)) [some (.ref 0), some (.int (x1_9 + (1 : Int32))), none] dX9_digest_25 rfl rfl rfl (Nat.le_of_ble_eq_true rfl) rfl ?_
      refine gg_goto 9 dX9_digest_28 (by decide) ?_
      exact ih (x1_9 + (1 : Int32)) v2 h
set_option maxRecDepth 20000 in
set_option maxHeartbeats 4000000 in
theorem lq_X9_digest_56 {β : Type} {res : β} {rr : Option Value} {ww : va_W} (y1 : Int32) (c_latest : Int32) (c_asked : Int32) (c_upper : Int64) (c_lower : Int64) (c_n : Int32) (c_readAt : Int32) (c_readMany : Int32) (c_readFood : Int32) (c_isHead : Int32) (c_backMany : Int32) (c_deedMany : Int32) (c_whole : Int64) (c_wellSum : Int64) (c_strongSum : Int64) (c_sizes : Nat → Int32) (c_rows : Nat → Int32) (c_textSizes : Nat → Int32) (c_bytes : Nat → Int32) (c_kindOf : Nat → Int32) (c_winds : Nat → Int32) (c_now : Nat → Int32) (c_isKept : Nat → Int32) (c_keptMany : Nat → Int32) (k83 : (Int64) → Option β) (hk83 : ∀ (c_hash_83 : Int64), k83 c_hash_83 = some res → gg_G MD_X9_digest 83 [some (.ref 0), some (.int y1), none] [] (wd_X9_digest c_latest c_asked c_upper c_lower c_n c_readAt c_readMany c_readFood c_isHead c_backMany c_deedMany c_whole c_wellSum c_strongSum c_hash_83 c_sizes c_rows c_textSizes c_bytes c_kindOf c_winds c_now c_isKept c_keptMany) rr ww) : ∀ (n : Nat) (x2_56 : Int32) (c_hash_56 : Int64), lp_X9_digest_56 y1 c_sizes c_rows k83 n x2_56 c_hash_56 = some res → gg_G MD_X9_digest 56 [some (.ref 0), some (.int y1), some (.int x2_56)] [] (wd_X9_digest c_latest c_asked c_upper c_lower c_n c_readAt c_readMany c_readFood c_isHead c_backMany c_deedMany c_whole c_wellSum c_strongSum c_hash_56 c_sizes c_rows c_textSizes c_bytes c_kindOf c_winds c_now c_isKept c_keptMany) rr ww := by
  intro n
  induction n with
  | zero =>
    intro x2_56 c_hash_56 h
    exact nomatch (show (none : Option β) = some res from h)
  | succ n ih =>
    intro x2_56 c_hash_56 h
    rw [lp_X9_digest_56] at h
    refine gg_iload_n dX9_digest_56 rfl ?_
    refine gg_aload_n dX9_digest_57 rfl ?_
    refine gg_get 0 fl_X9_17 dX9_digest_58 rfl rfl ?_
    refine gg_iload_n dX9_digest_61 rfl ?_
    obtain ⟨hb62, h⟩ := gg_ck h
    refine gg_iald 1 dX9_digest_62 rfl hb62 ?_
    refine gg_icmp_ge 83 dX9_digest_63 (by decide) (fun hc => ?_) (fun hc => ?_)
    · replace h := gg_th h hc
      refine gg_fg [true, true, false] [some (.ref 0), some (.int y1), none] rfl ?_
      exact hk83 c_hash_56 h
    · replace h := gg_el h hc
      refine gg_aload_n dX9_digest_66 rfl ?_
      refine gg_aload_n dX9_digest_67 rfl ?_
      refine gg_iload_n dX9_digest_68 rfl ?_
      refine gg_iload_n dX9_digest_69 rfl ?_
      obtain ⟨v5, hv5, h⟩ := gg_bd h
      refine gg_callV (gg_sg [0]) [0, 2] (wd_X9_digest c_latest c_asked c_upper c_lower c_n c_readAt c_readMany c_readFood c_isHead c_backMany c_deedMany c_whole c_wellSum c_strongSum c_hash_56 c_sizes c_rows c_textSizes c_bytes c_kindOf c_winds c_now c_isKept c_keptMany) 0 (C_X9_rowAt y1 x2_56 c_latest c_asked c_upper c_lower c_n c_readAt c_readMany c_readFood c_isHead c_backMany c_deedMany c_whole c_wellSum c_strongSum c_hash_56 c_rows hv5) nV_X9_rowAt ml_X9_110 rfl rfl rfl rfl rfl rfl rfl rfl rfl rfl [1, 3, 4, 5, 6, 7, 8, 9] 10 rfl rfl rfl rfl rfl ⟨Nat.le_of_ble_eq_true rfl, Nat.le_of_ble_eq_true rfl⟩ (Nat.le_of_ble_eq_true rfl) dX9_digest_70 [.int v5, .ref 0] rfl ?_
      refine gg_i2l dX9_digest_73 ?_
      obtain ⟨v6, hv6, h⟩ := gg_bd h
      refine gg_callV (gg_sg [0]) [0] (wd_X9_digest c_latest c_asked c_upper c_lower c_n c_readAt c_readMany c_readFood c_isHead c_backMany c_deedMany c_whole c_wellSum c_strongSum v6 c_sizes c_rows c_textSizes c_bytes c_kindOf c_winds c_now c_isKept c_keptMany) 0 (C_X9_mix (v5.toInt64) c_latest c_asked c_upper c_lower c_n c_readAt c_readMany c_readFood c_isHead c_backMany c_deedMany c_whole c_wellSum c_strongSum c_hash_56 hv6) nV_X9_mix ml_X9_307 rfl rfl rfl rfl rfl rfl rfl rfl rfl rfl [1, 2, 3, 4, 5, 6, 7, 8, 9] 10 rfl rfl rfl rfl rfl ⟨Nat.le_of_ble_eq_true rfl, Nat.le_of_ble_eq_true rfl⟩ (Nat.le_of_ble_eq_true rfl) dX9_digest_74 [] rfl ?_
      refine gg_iinc (x2_56 + (1 : Int32)) [some (.ref 0), some (.int y1), some (.int (x2_56 + (1 : Int32)))] dX9_digest_77 rfl rfl rfl (Nat.le_of_ble_eq_true rfl) rfl ?_
      refine gg_goto 56 dX9_digest_80 (by decide) ?_
      exact ih (x2_56 + (1 : Int32)) v6 h
set_option maxRecDepth 20000 in
set_option maxHeartbeats 4000000 in
theorem lq_X9_digest_37 {β : Type} {res : β} {rr : Option Value} {ww : va_W} (c_latest : Int32) (c_asked : Int32) (c_upper : Int64) (c_lower : Int64) (c_n : Int32) (c_readAt : Int32) (c_readMany : Int32) (c_readFood : Int32) (c_isHead : Int32) (c_backMany : Int32) (c_deedMany : Int32) (c_whole : Int64) (c_wellSum : Int64) (c_strongSum : Int64) (c_sizes : Nat → Int32) (c_rows : Nat → Int32) (c_textSizes : Nat → Int32) (c_bytes : Nat → Int32) (c_kindOf : Nat → Int32) (c_winds : Nat → Int32) (c_now : Nat → Int32) (c_isKept : Nat → Int32) (c_keptMany : Nat → Int32) (k89 : (Int64) → Option β) (hk89 : ∀ (c_hash_89 : Int64), k89 c_hash_89 = some res → gg_G MD_X9_digest 89 [some (.ref 0), none, none] [] (wd_X9_digest c_latest c_asked c_upper c_lower c_n c_readAt c_readMany c_readFood c_isHead c_backMany c_deedMany c_whole c_wellSum c_strongSum c_hash_89 c_sizes c_rows c_textSizes c_bytes c_kindOf c_winds c_now c_isKept c_keptMany) rr ww) : ∀ (n : Nat) (x1_37 : Int32) (c_hash_37 : Int64), lp_X9_digest_37 c_sizes c_rows k89 n x1_37 c_hash_37 = some res → gg_G MD_X9_digest 37 [some (.ref 0), some (.int x1_37), none] [] (wd_X9_digest c_latest c_asked c_upper c_lower c_n c_readAt c_readMany c_readFood c_isHead c_backMany c_deedMany c_whole c_wellSum c_strongSum c_hash_37 c_sizes c_rows c_textSizes c_bytes c_kindOf c_winds c_now c_isKept c_keptMany) rr ww := by
  intro n
  induction n with
  | zero =>
    intro x1_37 c_hash_37 h
    exact nomatch (show (none : Option β) = some res from h)
  | succ n ih =>
    intro x1_37 c_hash_37 h
    rw [lp_X9_digest_37] at h
    refine gg_iload_n dX9_digest_37 rfl ?_
    refine gg_bipush (6 : Int32) dX9_digest_38 (by decide) ?_
    refine gg_icmp_ge 89 dX9_digest_40 (by decide) (fun hc => ?_) (fun hc => ?_)
    · replace h := gg_th h hc
      refine gg_fg [true, false, false] [some (.ref 0), none, none] rfl ?_
      exact hk89 c_hash_37 h
    · replace h := gg_el h hc
      refine gg_aload_n dX9_digest_43 rfl ?_
      refine gg_aload_n dX9_digest_44 rfl ?_
      refine gg_get 0 fl_X9_17 dX9_digest_45 rfl rfl ?_
      refine gg_iload_n dX9_digest_48 rfl ?_
      obtain ⟨hb49, h⟩ := gg_ck h
      refine gg_iald 1 dX9_digest_49 rfl hb49 ?_
      refine gg_i2l dX9_digest_50 ?_
      obtain ⟨v4, hv4, h⟩ := gg_bd h
      refine gg_callV (gg_sg [0]) [0] (wd_X9_digest c_latest c_asked c_upper c_lower c_n c_readAt c_readMany c_readFood c_isHead c_backMany c_deedMany c_whole c_wellSum c_strongSum v4 c_sizes c_rows c_textSizes c_bytes c_kindOf c_winds c_now c_isKept c_keptMany) 0 (C_X9_mix ((c_sizes x1_37.toNatClampNeg).toInt64) c_latest c_asked c_upper c_lower c_n c_readAt c_readMany c_readFood c_isHead c_backMany c_deedMany c_whole c_wellSum c_strongSum c_hash_37 hv4) nV_X9_mix ml_X9_307 rfl rfl rfl rfl rfl rfl rfl rfl rfl rfl [1, 2, 3, 4, 5, 6, 7, 8, 9] 10 rfl rfl rfl rfl rfl ⟨Nat.le_of_ble_eq_true rfl, Nat.le_of_ble_eq_true rfl⟩ (Nat.le_of_ble_eq_true rfl) dX9_digest_51 [] rfl ?_
      refine gg_iconst (0 : Int32) dX9_digest_54 (by decide) ?_
      refine gg_istore_n [some (.ref 0), some (.int x1_37), some (.int (0 : Int32))] dX9_digest_55 rfl (Nat.le_of_ble_eq_true rfl) rfl ?_
      refine lq_X9_digest_56 x1_37 c_latest c_asked c_upper c_lower c_n c_readAt c_readMany c_readFood c_isHead c_backMany c_deedMany c_whole c_wellSum c_strongSum c_sizes c_rows c_textSizes c_bytes c_kindOf c_winds c_now c_isKept c_keptMany _ ?_ gg_fuel (0 : Int32) v4 h
      intro c_hash_83 h
      refine gg_iinc (x1_37 + (1 : Int32)) [some (.ref 0), some (.int (x1_37 + (1 : Int32))), none] dX9_digest_83 rfl rfl rfl (Nat.le_of_ble_eq_true rfl) rfl ?_
      refine gg_goto 37 dX9_digest_86 (by decide) ?_
      exact ih (x1_37 + (1 : Int32)) c_hash_83 h
set_option maxRecDepth 20000 in
set_option maxHeartbeats 4000000 in
theorem lq_X9_digest_109 {β : Type} {res : β} {rr : Option Value} {ww : va_W} (y1 : Int32) (c_latest : Int32) (c_asked : Int32) (c_upper : Int64) (c_lower : Int64) (c_n : Int32) (c_readAt : Int32) (c_readMany : Int32) (c_readFood : Int32) (c_isHead : Int32) (c_backMany : Int32) (c_deedMany : Int32) (c_whole : Int64) (c_wellSum : Int64) (c_strongSum : Int64) (c_sizes : Nat → Int32) (c_rows : Nat → Int32) (c_textSizes : Nat → Int32) (c_bytes : Nat → Int32) (c_kindOf : Nat → Int32) (c_winds : Nat → Int32) (c_now : Nat → Int32) (c_isKept : Nat → Int32) (c_keptMany : Nat → Int32) (k136 : (Int64) → Option β) (hk136 : ∀ (c_hash_136 : Int64), k136 c_hash_136 = some res → gg_G MD_X9_digest 136 [some (.ref 0), some (.int y1), none] [] (wd_X9_digest c_latest c_asked c_upper c_lower c_n c_readAt c_readMany c_readFood c_isHead c_backMany c_deedMany c_whole c_wellSum c_strongSum c_hash_136 c_sizes c_rows c_textSizes c_bytes c_kindOf c_winds c_now c_isKept c_keptMany) rr ww) : ∀ (n : Nat) (x2_109 : Int32) (c_hash_109 : Int64), lp_X9_digest_109 y1 c_textSizes c_bytes k136 n x2_109 c_hash_109 = some res → gg_G MD_X9_digest 109 [some (.ref 0), some (.int y1), some (.int x2_109)] [] (wd_X9_digest c_latest c_asked c_upper c_lower c_n c_readAt c_readMany c_readFood c_isHead c_backMany c_deedMany c_whole c_wellSum c_strongSum c_hash_109 c_sizes c_rows c_textSizes c_bytes c_kindOf c_winds c_now c_isKept c_keptMany) rr ww := by
  intro n
  induction n with
  | zero =>
    intro x2_109 c_hash_109 h
    exact nomatch (show (none : Option β) = some res from h)
  | succ n ih =>
    intro x2_109 c_hash_109 h
    rw [lp_X9_digest_109] at h
    refine gg_iload_n dX9_digest_109 rfl ?_
    refine gg_aload_n dX9_digest_110 rfl ?_
    refine gg_get 0 fl_X9_26 dX9_digest_111 rfl rfl ?_
    refine gg_iload_n dX9_digest_114 rfl ?_
    obtain ⟨hb115, h⟩ := gg_ck h
    refine gg_iald 3 dX9_digest_115 rfl hb115 ?_
    refine gg_icmp_ge 136 dX9_digest_116 (by decide) (fun hc => ?_) (fun hc => ?_)
    · replace h := gg_th h hc
      refine gg_fg [true, true, false] [some (.ref 0), some (.int y1), none] rfl ?_
      exact hk136 c_hash_109 h
    · replace h := gg_el h hc
      refine gg_aload_n dX9_digest_119 rfl ?_
      refine gg_aload_n dX9_digest_120 rfl ?_
      refine gg_iload_n dX9_digest_121 rfl ?_
      refine gg_iload_n dX9_digest_122 rfl ?_
      obtain ⟨v8, hv8, h⟩ := gg_bd h
      refine gg_callV (gg_sg [0]) [0, 3, 4] (wd_X9_digest c_latest c_asked c_upper c_lower c_n c_readAt c_readMany c_readFood c_isHead c_backMany c_deedMany c_whole c_wellSum c_strongSum c_hash_109 c_sizes c_rows c_textSizes c_bytes c_kindOf c_winds c_now c_isKept c_keptMany) 0 (C_X9_byteAt y1 x2_109 c_latest c_asked c_upper c_lower c_n c_readAt c_readMany c_readFood c_isHead c_backMany c_deedMany c_whole c_wellSum c_strongSum c_hash_109 c_textSizes c_bytes hv8) nV_X9_byteAt ml_X9_123 rfl rfl rfl rfl rfl rfl rfl rfl rfl rfl [1, 2, 5, 6, 7, 8, 9] 10 rfl rfl rfl rfl rfl ⟨Nat.le_of_ble_eq_true rfl, Nat.le_of_ble_eq_true rfl⟩ (Nat.le_of_ble_eq_true rfl) dX9_digest_123 [.int v8, .ref 0] rfl ?_
      refine gg_i2l dX9_digest_126 ?_
      obtain ⟨v9, hv9, h⟩ := gg_bd h
      refine gg_callV (gg_sg [0]) [0] (wd_X9_digest c_latest c_asked c_upper c_lower c_n c_readAt c_readMany c_readFood c_isHead c_backMany c_deedMany c_whole c_wellSum c_strongSum v9 c_sizes c_rows c_textSizes c_bytes c_kindOf c_winds c_now c_isKept c_keptMany) 0 (C_X9_mix (v8.toInt64) c_latest c_asked c_upper c_lower c_n c_readAt c_readMany c_readFood c_isHead c_backMany c_deedMany c_whole c_wellSum c_strongSum c_hash_109 hv9) nV_X9_mix ml_X9_307 rfl rfl rfl rfl rfl rfl rfl rfl rfl rfl [1, 2, 3, 4, 5, 6, 7, 8, 9] 10 rfl rfl rfl rfl rfl ⟨Nat.le_of_ble_eq_true rfl, Nat.le_of_ble_eq_true rfl⟩ (Nat.le_of_ble_eq_true rfl) dX9_digest_127 [] rfl ?_
      refine gg_iinc (x2_109 + (1 : Int32)) [some (.ref 0), some (.int y1), some (.int (x2_109 + (1 : Int32)))] dX9_digest_130 rfl rfl rfl (Nat.le_of_ble_eq_true rfl) rfl ?_
      refine gg_goto 109 dX9_digest_133 (by decide) ?_
      exact ih (x2_109 + (1 : Int32)) v9 h
set_option maxRecDepth 20000 in
set_option maxHeartbeats 4000000 in
theorem lq_X9_digest_91 {β : Type} {res : β} {rr : Option Value} {ww : va_W} (c_latest : Int32) (c_asked : Int32) (c_upper : Int64) (c_lower : Int64) (c_n : Int32) (c_readAt : Int32) (c_readMany : Int32) (c_readFood : Int32) (c_isHead : Int32) (c_backMany : Int32) (c_deedMany : Int32) (c_whole : Int64) (c_wellSum : Int64) (c_strongSum : Int64) (c_sizes : Nat → Int32) (c_rows : Nat → Int32) (c_textSizes : Nat → Int32) (c_bytes : Nat → Int32) (c_kindOf : Nat → Int32) (c_winds : Nat → Int32) (c_now : Nat → Int32) (c_isKept : Nat → Int32) (c_keptMany : Nat → Int32) (k142 : (Int64) → Option β) (hk142 : ∀ (c_hash_142 : Int64), k142 c_hash_142 = some res → gg_G MD_X9_digest 142 [some (.ref 0), none, none] [] (wd_X9_digest c_latest c_asked c_upper c_lower c_n c_readAt c_readMany c_readFood c_isHead c_backMany c_deedMany c_whole c_wellSum c_strongSum c_hash_142 c_sizes c_rows c_textSizes c_bytes c_kindOf c_winds c_now c_isKept c_keptMany) rr ww) : ∀ (n : Nat) (x1_91 : Int32) (c_hash_91 : Int64), lp_X9_digest_91 c_textSizes c_bytes k142 n x1_91 c_hash_91 = some res → gg_G MD_X9_digest 91 [some (.ref 0), some (.int x1_91), none] [] (wd_X9_digest c_latest c_asked c_upper c_lower c_n c_readAt c_readMany c_readFood c_isHead c_backMany c_deedMany c_whole c_wellSum c_strongSum c_hash_91 c_sizes c_rows c_textSizes c_bytes c_kindOf c_winds c_now c_isKept c_keptMany) rr ww := by
  intro n
  induction n with
  | zero =>
    intro x1_91 c_hash_91 h
    exact nomatch (show (none : Option β) = some res from h)
  | succ n ih =>
    intro x1_91 c_hash_91 h
    rw [lp_X9_digest_91] at h
    refine gg_iload_n dX9_digest_91 rfl ?_
    refine gg_iconst (4 : Int32) dX9_digest_92 (by decide) ?_
    refine gg_icmp_ge 142 dX9_digest_93 (by decide) (fun hc => ?_) (fun hc => ?_)
    · replace h := gg_th h hc
      refine gg_fg [true, false, false] [some (.ref 0), none, none] rfl ?_
      exact hk142 c_hash_91 h
    · replace h := gg_el h hc
      refine gg_aload_n dX9_digest_96 rfl ?_
      refine gg_aload_n dX9_digest_97 rfl ?_
      refine gg_get 0 fl_X9_26 dX9_digest_98 rfl rfl ?_
      refine gg_iload_n dX9_digest_101 rfl ?_
      obtain ⟨hb102, h⟩ := gg_ck h
      refine gg_iald 3 dX9_digest_102 rfl hb102 ?_
      refine gg_i2l dX9_digest_103 ?_
      obtain ⟨v7, hv7, h⟩ := gg_bd h
      refine gg_callV (gg_sg [0]) [0] (wd_X9_digest c_latest c_asked c_upper c_lower c_n c_readAt c_readMany c_readFood c_isHead c_backMany c_deedMany c_whole c_wellSum c_strongSum v7 c_sizes c_rows c_textSizes c_bytes c_kindOf c_winds c_now c_isKept c_keptMany) 0 (C_X9_mix ((c_textSizes x1_91.toNatClampNeg).toInt64) c_latest c_asked c_upper c_lower c_n c_readAt c_readMany c_readFood c_isHead c_backMany c_deedMany c_whole c_wellSum c_strongSum c_hash_91 hv7) nV_X9_mix ml_X9_307 rfl rfl rfl rfl rfl rfl rfl rfl rfl rfl [1, 2, 3, 4, 5, 6, 7, 8, 9] 10 rfl rfl rfl rfl rfl ⟨Nat.le_of_ble_eq_true rfl, Nat.le_of_ble_eq_true rfl⟩ (Nat.le_of_ble_eq_true rfl) dX9_digest_104 [] rfl ?_
      refine gg_iconst (0 : Int32) dX9_digest_107 (by decide) ?_
      refine gg_istore_n [some (.ref 0), some (.int x1_91), some (.int (0 : Int32))] dX9_digest_108 rfl (Nat.le_of_ble_eq_true rfl) rfl ?_
      refine lq_X9_digest_109 x1_91 c_latest c_asked c_upper c_lower c_n c_readAt c_readMany c_readFood c_isHead c_backMany c_deedMany c_whole c_wellSum c_strongSum c_sizes c_rows c_textSizes c_bytes c_kindOf c_winds c_now c_isKept c_keptMany _ ?_ gg_fuel (0 : Int32) v7 h
      intro c_hash_136 h
      refine gg_iinc (x1_91 + (1 : Int32)) [some (.ref 0), some (.int (x1_91 + (1 : Int32))), none] dX9_digest_136 rfl rfl rfl (Nat.le_of_ble_eq_true rfl) rfl ?_
      refine gg_goto 91 dX9_digest_139 (by decide) ?_
      exact ih (x1_91 + (1 : Int32)) c_hash_136 h
set_option maxRecDepth 20000 in
set_option maxHeartbeats 8000000 in
theorem C_X9_digest  (c_latest : Int32) (c_asked : Int32) (c_upper : Int64) (c_lower : Int64) (c_n : Int32) (c_readAt : Int32) (c_readMany : Int32) (c_readFood : Int32) (c_isHead : Int32) (c_backMany : Int32) (c_deedMany : Int32) (c_whole : Int64) (c_wellSum : Int64) (c_strongSum : Int64) (c_hash : Int64) (c_sizes : Nat → Int32) (c_rows : Nat → Int32) (c_textSizes : Nat → Int32) (c_bytes : Nat → Int32) (c_kindOf : Nat → Int32) (c_winds : Nat → Int32) (c_now : Nat → Int32) (c_isKept : Nat → Int32) (c_keptMany : Nat → Int32) {r0 : Int64} {r1 : (Int64)} (h : f_X9_digest c_n c_deedMany c_hash c_sizes c_rows c_textSizes c_bytes c_kindOf c_winds c_now c_isKept c_keptMany = some (r0, r1)) : gg_C MD_X9_digest [.ref 0] (wd_X9_digest c_latest c_asked c_upper c_lower c_n c_readAt c_readMany c_readFood c_isHead c_backMany c_deedMany c_whole c_wellSum c_strongSum c_hash c_sizes c_rows c_textSizes c_bytes c_kindOf c_winds c_now c_isKept c_keptMany) (some (.long r0)) (wd_X9_digest c_latest c_asked c_upper c_lower c_n c_readAt c_readMany c_readFood c_isHead c_backMany c_deedMany c_whole c_wellSum c_strongSum r1 c_sizes c_rows c_textSizes c_bytes c_kindOf c_winds c_now c_isKept c_keptMany) := by
  refine gg_ofG [some (.ref 0), none, none] (plainFor_of_name (by decide)) (Nat.le_of_ble_eq_true rfl) rfl ?_
  unfold f_X9_digest at h
  refine gg_aload_n dX9_digest_0 rfl ?_
  refine gg_ldc2 (17 : Int64) dX9_digest_1 (gg_mem (by decide +kernel) rfl) ?_
  refine gg_putf 0 (wd_X9_digest c_latest c_asked c_upper c_lower c_n c_readAt c_readMany c_readFood c_isHead c_backMany c_deedMany c_whole c_wellSum c_strongSum (17 : Int64) c_sizes c_rows c_textSizes c_bytes c_kindOf c_winds c_now c_isKept c_keptMany) fl_X9_304 dX9_digest_4 rfl (Nat.le_of_ble_eq_true rfl) (fun _ => ⟨rfl, rfl⟩) rfl ?_
  refine gg_iconst (0 : Int32) dX9_digest_7 (by decide) ?_
  refine gg_istore_n [some (.ref 0), some (.int (0 : Int32)), none] dX9_digest_8 rfl (Nat.le_of_ble_eq_true rfl) rfl ?_
  refine lq_X9_digest_9 c_latest c_asked c_upper c_lower c_n c_readAt c_readMany c_readFood c_isHead c_backMany c_deedMany c_whole c_wellSum c_strongSum c_sizes c_rows c_textSizes c_bytes c_kindOf c_winds c_now c_isKept c_keptMany _ ?_ gg_fuel (0 : Int32) (17 : Int64) h
  intro c_hash_31 h
  refine gg_aload_n dX9_digest_31 rfl ?_
  obtain ⟨v3, hv3, h⟩ := gg_bd h
  refine gg_callV (gg_sg [0]) [0, 5, 6, 7, 8, 9] (wd_X9_digest c_latest c_asked c_upper c_lower c_n c_readAt c_readMany c_readFood c_isHead c_backMany c_deedMany c_whole c_wellSum c_strongSum v3 c_sizes c_rows c_textSizes c_bytes c_kindOf c_winds c_now c_isKept c_keptMany) 0 (C_X9_mixFront c_latest c_asked c_upper c_lower c_n c_readAt c_readMany c_readFood c_isHead c_backMany c_deedMany c_whole c_wellSum c_strongSum c_hash_31 c_kindOf c_winds c_now c_isKept c_keptMany hv3) nV_X9_mixFront ml_X9_315 rfl rfl rfl rfl rfl rfl rfl rfl rfl rfl [1, 2, 3, 4] 10 rfl rfl rfl rfl rfl ⟨Nat.le_of_ble_eq_true rfl, Nat.le_of_ble_eq_true rfl⟩ (Nat.le_of_ble_eq_true rfl) dX9_digest_32 [] rfl ?_
  refine gg_iconst (0 : Int32) dX9_digest_35 (by decide) ?_
  refine gg_istore_n [some (.ref 0), some (.int (0 : Int32)), none] dX9_digest_36 rfl (Nat.le_of_ble_eq_true rfl) rfl ?_
  refine lq_X9_digest_37 c_latest c_asked c_upper c_lower c_n c_readAt c_readMany c_readFood c_isHead c_backMany c_deedMany c_whole c_wellSum c_strongSum c_sizes c_rows c_textSizes c_bytes c_kindOf c_winds c_now c_isKept c_keptMany _ ?_ gg_fuel (0 : Int32) v3 h
  intro c_hash_89 h
  refine gg_iconst (0 : Int32) dX9_digest_89 (by decide) ?_
  refine gg_istore_n [some (.ref 0), some (.int (0 : Int32)), none] dX9_digest_90 rfl (Nat.le_of_ble_eq_true rfl) rfl ?_
  refine lq_X9_digest_91 c_latest c_asked c_upper c_lower c_n c_readAt c_readMany c_readFood c_isHead c_backMany c_deedMany c_whole c_wellSum c_strongSum c_sizes c_rows c_textSizes c_bytes c_kindOf c_winds c_now c_isKept c_keptMany _ ?_ gg_fuel (0 : Int32) c_hash_89 h
  intro c_hash_142 h
  refine gg_aload_n dX9_digest_142 rfl ?_
  refine gg_get 0 fl_X9_304 dX9_digest_143 rfl rfl ?_
  cases h
  exact gg_lret dX9_digest_146 rfl
