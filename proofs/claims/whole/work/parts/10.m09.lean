def wd_X9_in  : va_W := []
def MD_X9_in : gg_M := (yX9_in, cX9_in, 3, some .boolean, 0, 0)
theorem nS_X9_in : gg_nS MD_X9_in 3 := ⟨⟨gg_mem (by decide +kernel) rfl, gg_mem cw_X9_in rfl, by decide, by decide, by decide +kernel⟩, gg_mem (by decide +kernel) rfl⟩
def f_X9_in (a0 : Int32) (a1 : Int32) (a2 : Int32)  : Option (Int32) := gg_lt (fun (s0_15 : Int32) => gg_chk (gg_isb s0_15) (some s0_15)) (fun k15 => gg_lt ((k15 (0 : Int32))) (fun k14 => (if a0 < a1 then k14 else (if a2 < a0 then k14 else (k15 (1 : Int32))))))
set_option maxRecDepth 20000 in
set_option maxHeartbeats 8000000 in
theorem C_X9_in (a0 : Int32) (a1 : Int32) (a2 : Int32)  {res : Int32} (h : f_X9_in a0 a1 a2 = some res) : gg_C MD_X9_in [.int a0, .int a1, .int a2] (wd_X9_in) (some (.int res)) (wd_X9_in) := by
  refine gg_ofG [some (.int a0), some (.int a1), some (.int a2)] (plainFor_of_name (by decide)) (Nat.le_of_ble_eq_true rfl) rfl ?_
  unfold f_X9_in at h
  refine gg_iload_n dX9_in_0 rfl ?_
  refine gg_iload_n dX9_in_1 rfl ?_
  obtain ⟨k15, hke15, h⟩ := gg_lte h
  have hk15 : ∀ (s0_15 : Int32), k15 s0_15 = some res → gg_G MD_X9_in 15 [none, none, none] [.int s0_15] (wd_X9_in) (some (.int res)) (wd_X9_in) := by
    intro s0_15 h
    subst hke15
    obtain ⟨hz, h⟩ := gg_ck h
    cases h
    exact gg_zret dX9_in_15 rfl hz
  clear hke15
  obtain ⟨k14, hke14, h⟩ := gg_lte h
  have hk14 : k14 = some res → gg_G MD_X9_in 14 [none, none, none] [] (wd_X9_in) (some (.int res)) (wd_X9_in) := by
    intro  h
    subst hke14
    refine gg_iconst (0 : Int32) dX9_in_14 (by decide) ?_
    exact hk15 (0 : Int32) h
  clear hke14
  refine gg_icmp_lt 14 dX9_in_2 (by decide) (fun hc => ?_) (fun hc => ?_)
  · replace h := gg_th h hc
    refine gg_fg [false, false, false] [none, none, none] rfl ?_
    exact hk14 h
  · replace h := gg_el h hc
    refine gg_iload_n dX9_in_5 rfl ?_
    refine gg_iload_n dX9_in_6 rfl ?_
    refine gg_icmp_gt 14 dX9_in_7 (by decide) (fun hc => ?_) (fun hc => ?_)
    · replace h := gg_th h hc
      refine gg_fg [false, false, false] [none, none, none] rfl ?_
      exact hk14 h
    · replace h := gg_el h hc
      refine gg_iconst (1 : Int32) dX9_in_10 (by decide) ?_
      refine gg_goto 15 dX9_in_11 (by decide) ?_
      refine gg_fg [false, false, false] [none, none, none] rfl ?_
      exact hk15 (1 : Int32) h
def wd_X9_has  : va_W := []
def MD_X9_has : gg_M := (yX9_has, cX9_has, 2, some .boolean, 0, 0)
theorem nS_X9_has : gg_nS MD_X9_has 2 := ⟨⟨gg_mem (by decide +kernel) rfl, gg_mem cw_X9_has rfl, by decide, by decide, by decide +kernel⟩, gg_mem (by decide +kernel) rfl⟩
def f_X9_has (a0 : Int32) (a1 : Int32)  : Option (Int32) := gg_lt (fun (s0_14 : Int32) => gg_chk (gg_isb s0_14) (some s0_14)) (fun k14 => (if ((a0 >>> (a1 &&& 31)) &&& (1 : Int32)) = (1 : Int32) then (k14 (1 : Int32)) else (k14 (0 : Int32))))
set_option maxRecDepth 20000 in
set_option maxHeartbeats 8000000 in
theorem C_X9_has (a0 : Int32) (a1 : Int32)  {res : Int32} (h : f_X9_has a0 a1 = some res) : gg_C MD_X9_has [.int a0, .int a1] (wd_X9_has) (some (.int res)) (wd_X9_has) := by
  refine gg_ofG [some (.int a0), some (.int a1)] (plainFor_of_name (by decide)) (Nat.le_of_ble_eq_true rfl) rfl ?_
  unfold f_X9_has at h
  refine gg_iload_n dX9_has_0 rfl ?_
  refine gg_iload_n dX9_has_1 rfl ?_
  refine gg_ishr dX9_has_2 ?_
  refine gg_iconst (1 : Int32) dX9_has_3 (by decide) ?_
  refine gg_iand dX9_has_4 ?_
  refine gg_iconst (1 : Int32) dX9_has_5 (by decide) ?_
  obtain ⟨k14, hke14, h⟩ := gg_lte h
  have hk14 : ∀ (s0_14 : Int32), k14 s0_14 = some res → gg_G MD_X9_has 14 [none, none] [.int s0_14] (wd_X9_has) (some (.int res)) (wd_X9_has) := by
    intro s0_14 h
    subst hke14
    obtain ⟨hz, h⟩ := gg_ck h
    cases h
    exact gg_zret dX9_has_14 rfl hz
  clear hke14
  refine gg_icmp_ne 13 dX9_has_6 (by decide) (fun hc => ?_) (fun hc => ?_)
  · replace h := gg_el h hc
    refine gg_iconst (0 : Int32) dX9_has_13 (by decide) ?_
    refine gg_fg [false, false] [none, none] rfl ?_
    exact hk14 (0 : Int32) h
  · replace h := gg_th h hc
    refine gg_iconst (1 : Int32) dX9_has_9 (by decide) ?_
    refine gg_goto 14 dX9_has_10 (by decide) ?_
    refine gg_fg [false, false] [none, none] rfl ?_
    exact hk14 (1 : Int32) h
def wd_X9_bits  : va_W := []
def MD_X9_bits : gg_M := (yX9_bits, cX9_bits, 3, some .int, 0, 0)
theorem nS_X9_bits : gg_nS MD_X9_bits 1 := ⟨⟨gg_mem (by decide +kernel) rfl, gg_mem cw_X9_bits rfl, by decide, by decide, by decide +kernel⟩, gg_mem (by decide +kernel) rfl⟩
def lp_X9_bits_4 {β : Type}  (k20 : (Int32) → Option β) : Nat → (Int32) → (Int32) → Option β
  | 0, _, _ => none
  | n + 1, x1_4, x2_4 => (if x2_4 = (0 : Int32) then (k20 x1_4) else (lp_X9_bits_4 k20 n (x1_4 + (1 : Int32)) (x2_4 &&& (x2_4 - (1 : Int32)))))
def f_X9_bits (a0 : Int32)  : Option (Int32) := (lp_X9_bits_4 (fun (x1_20 : Int32) => (some x1_20)) gg_fuel (0 : Int32) a0)
set_option maxRecDepth 20000 in
set_option maxHeartbeats 4000000 in
theorem lq_X9_bits_4 {β : Type} {res : β} {rr : Option Value} {ww : va_W}  (k20 : (Int32) → Option β) (hk20 : ∀ (x1_20 : Int32), k20 x1_20 = some res → gg_G MD_X9_bits 20 [none, some (.int x1_20), none] [] (wd_X9_bits) rr ww) : ∀ (n : Nat) (x1_4 : Int32) (x2_4 : Int32), lp_X9_bits_4 k20 n x1_4 x2_4 = some res → gg_G MD_X9_bits 4 [none, some (.int x1_4), some (.int x2_4)] [] (wd_X9_bits) rr ww := by
  intro n
  induction n with
  | zero =>
    intro x1_4 x2_4 h
    exact nomatch (show (none : Option β) = some res from h)
  | succ n ih =>
    intro x1_4 x2_4 h
    rw [lp_X9_bits_4] at h
    refine gg_iload_n dX9_bits_4 rfl ?_
    refine gg_if_eq 20 dX9_bits_5 (by decide) (fun hc => ?_) (fun hc => ?_)
    · replace h := gg_th h hc
      refine gg_fg [false, true, false] [none, some (.int x1_4), none] rfl ?_
      exact hk20 x1_4 h
    · replace h := gg_el h hc
      refine gg_iinc (x1_4 + (1 : Int32)) [none, some (.int (x1_4 + (1 : Int32))), some (.int x2_4)] dX9_bits_8 rfl rfl rfl (Nat.le_of_ble_eq_true rfl) rfl ?_
      refine gg_iload_n dX9_bits_11 rfl ?_
      refine gg_iload_n dX9_bits_12 rfl ?_
      refine gg_iconst (1 : Int32) dX9_bits_13 (by decide) ?_
      refine gg_isub dX9_bits_14 ?_
      refine gg_iand dX9_bits_15 ?_
      refine gg_istore_n [none, some (.int (x1_4 + (1 : Int32))), some (.int (x2_4 &&& (x2_4 - (1 : Int32))))] dX9_bits_16 rfl (Nat.le_of_ble_eq_true rfl) rfl ?_
      refine gg_goto 4 dX9_bits_17 (by decide) ?_
      exact ih (x1_4 + (1 : Int32)) (x2_4 &&& (x2_4 - (1 : Int32))) h
set_option maxRecDepth 20000 in
set_option maxHeartbeats 8000000 in
theorem C_X9_bits (a0 : Int32)  {res : Int32} (h : f_X9_bits a0 = some res) : gg_C MD_X9_bits [.int a0] (wd_X9_bits) (some (.int res)) (wd_X9_bits) := by
  refine gg_ofG [some (.int a0), none, none] (plainFor_of_name (by decide)) (Nat.le_of_ble_eq_true rfl) rfl ?_
  unfold f_X9_bits at h
  refine gg_iconst (0 : Int32) dX9_bits_0 (by decide) ?_
  refine gg_istore_n [some (.int a0), some (.int (0 : Int32)), none] dX9_bits_1 rfl (Nat.le_of_ble_eq_true rfl) rfl ?_
  refine gg_iload_n dX9_bits_2 rfl ?_
  refine gg_istore_n [some (.int a0), some (.int (0 : Int32)), some (.int a0)] dX9_bits_3 rfl (Nat.le_of_ble_eq_true rfl) rfl ?_
  refine gg_fg [false, true, true] [none, some (.int (0 : Int32)), some (.int a0)] rfl ?_
  refine lq_X9_bits_4 _ ?_ gg_fuel (0 : Int32) a0 h
  intro x1_20 h
  refine gg_iload_n dX9_bits_20 rfl ?_
  cases h
  exact gg_iret dX9_bits_21 rfl
def wd_X9_apart  : va_W := []
def MD_X9_apart : gg_M := (yX9_apart, cX9_apart, 2, some .int, 0, 0)
theorem nS_X9_apart : gg_nS MD_X9_apart 2 := ⟨⟨gg_mem (by decide +kernel) rfl, gg_mem cw_X9_apart rfl, by decide, by decide, by decide +kernel⟩, gg_mem (by decide +kernel) rfl⟩
def f_X9_apart (a0 : Int32) (a1 : Int32)  : Option (Int32) := gg_lt (fun (s0_14 : Int32) => (some s0_14)) (fun k14 => (if a1 ≤ a0 then (k14 (a0 - a1)) else (k14 (a1 - a0))))
set_option maxRecDepth 20000 in
set_option maxHeartbeats 8000000 in
theorem C_X9_apart (a0 : Int32) (a1 : Int32)  {res : Int32} (h : f_X9_apart a0 a1 = some res) : gg_C MD_X9_apart [.int a0, .int a1] (wd_X9_apart) (some (.int res)) (wd_X9_apart) := by
  refine gg_ofG [some (.int a0), some (.int a1)] (plainFor_of_name (by decide)) (Nat.le_of_ble_eq_true rfl) rfl ?_
  unfold f_X9_apart at h
  refine gg_iload_n dX9_apart_0 rfl ?_
  refine gg_iload_n dX9_apart_1 rfl ?_
  obtain ⟨k14, hke14, h⟩ := gg_lte h
  have hk14 : ∀ (s0_14 : Int32), k14 s0_14 = some res → gg_G MD_X9_apart 14 [none, none] [.int s0_14] (wd_X9_apart) (some (.int res)) (wd_X9_apart) := by
    intro s0_14 h
    subst hke14
    cases h
    exact gg_iret dX9_apart_14 rfl
  clear hke14
  refine gg_icmp_ge 11 dX9_apart_2 (by decide) (fun hc => ?_) (fun hc => ?_)
  · replace h := gg_th h hc
    refine gg_iload_n dX9_apart_11 rfl ?_
    refine gg_iload_n dX9_apart_12 rfl ?_
    refine gg_isub dX9_apart_13 ?_
    refine gg_fg [false, false] [none, none] rfl ?_
    exact hk14 (a0 - a1) h
  · replace h := gg_el h hc
    refine gg_iload_n dX9_apart_5 rfl ?_
    refine gg_iload_n dX9_apart_6 rfl ?_
    refine gg_isub dX9_apart_7 ?_
    refine gg_goto 14 dX9_apart_8 (by decide) ?_
    refine gg_fg [false, false] [none, none] rfl ?_
    exact hk14 (a1 - a0) h
def wd_X9_meets (c_latest : Int32) (c_asked : Int32) (c_upper : Int64) (c_lower : Int64) (c_n : Int32) (c_readAt : Int32) (c_readMany : Int32) (c_readFood : Int32) (c_isHead : Int32) (c_backMany : Int32) (c_deedMany : Int32) (c_whole : Int64) (c_wellSum : Int64) (c_strongSum : Int64) (c_hash : Int64) (c_came : Nat → Int32) : va_W := [(0, .inr (8, [.int c_latest, .ref 1, .int c_asked, .long c_upper, .long c_lower, .ref 2, .ref 3, .ref 4, .ref 5, .ref 6, .int c_n, .ref 7, .ref 8, .ref 9, .ref 10, .int c_readAt, .int c_readMany, .int c_readFood, .int c_isHead, .ref 11, .ref 12, .ref 13, .int c_backMany, .int c_deedMany, .ref 14, .ref 15, .ref 16, .ref 17, .ref 18, .ref 19, .ref 20, .ref 21, .ref 22, .ref 23, .ref 24, .long c_whole, .long c_wellSum, .long c_strongSum, .long c_hash])), (1, .inl (0, 6, .inl c_came))]
def MD_X9_meets : gg_M := (yX9_meets, cX9_meets, 2, some .int, 0, 0)
theorem nV_X9_meets : gg_nV MD_X9_meets 1 := ⟨⟨gg_mem (by decide +kernel) rfl, gg_mem cw_X9_meets rfl, by decide, by decide, by decide +kernel⟩, gg_mem (by decide +kernel) rfl, gg_mem (by decide +kernel) rfl⟩
def f_X9_meets (a0 : Int32) (c_latest : Int32) (c_came : Nat → Int32) : Option (Int32 × (Int32) × (Nat → Int32)) := gg_chk (gg_in a0 6) (gg_chk (gg_in a0 6) ((some ((-3 : Int32), a0, (upd c_came a0.toNatClampNeg ((c_came a0.toNatClampNeg) + (1 : Int32)))))))
set_option maxRecDepth 20000 in
set_option maxHeartbeats 8000000 in
theorem C_X9_meets (a0 : Int32) (c_latest : Int32) (c_asked : Int32) (c_upper : Int64) (c_lower : Int64) (c_n : Int32) (c_readAt : Int32) (c_readMany : Int32) (c_readFood : Int32) (c_isHead : Int32) (c_backMany : Int32) (c_deedMany : Int32) (c_whole : Int64) (c_wellSum : Int64) (c_strongSum : Int64) (c_hash : Int64) (c_came : Nat → Int32) {r0 : Int32} {r1 : (Int32)} {r2 : (Nat → Int32)} (h : f_X9_meets a0 c_latest c_came = some (r0, r1, r2)) : gg_C MD_X9_meets [.ref 0, .int a0] (wd_X9_meets c_latest c_asked c_upper c_lower c_n c_readAt c_readMany c_readFood c_isHead c_backMany c_deedMany c_whole c_wellSum c_strongSum c_hash c_came) (some (.int r0)) (wd_X9_meets r1 c_asked c_upper c_lower c_n c_readAt c_readMany c_readFood c_isHead c_backMany c_deedMany c_whole c_wellSum c_strongSum c_hash r2) := by
  refine gg_ofG [some (.ref 0), some (.int a0)] (plainFor_of_name (by decide)) (Nat.le_of_ble_eq_true rfl) rfl ?_
  unfold f_X9_meets at h
  refine gg_aload_n dX9_meets_0 rfl ?_
  refine gg_iload_n dX9_meets_1 rfl ?_
  refine gg_putf 0 (wd_X9_meets a0 c_asked c_upper c_lower c_n c_readAt c_readMany c_readFood c_isHead c_backMany c_deedMany c_whole c_wellSum c_strongSum c_hash c_came) fl_X9_88 dX9_meets_2 rfl (Nat.le_of_ble_eq_true rfl) (fun _ => ⟨rfl, rfl⟩) rfl ?_
  refine gg_aload_n dX9_meets_5 rfl ?_
  refine gg_get 0 fl_X9_7 dX9_meets_6 rfl rfl ?_
  refine gg_iload_n dX9_meets_9 rfl ?_
  refine gg_dup2 dX9_meets_10 rfl rfl ?_
  obtain ⟨hb11, h⟩ := gg_ck h
  refine gg_iald 1 dX9_meets_11 rfl hb11 ?_
  refine gg_iconst (1 : Int32) dX9_meets_12 (by decide) ?_
  refine gg_iadd dX9_meets_13 ?_
  obtain ⟨hb14, h⟩ := gg_ck h
  refine gg_iast 1 (wd_X9_meets a0 c_asked c_upper c_lower c_n c_readAt c_readMany c_readFood c_isHead c_backMany c_deedMany c_whole c_wellSum c_strongSum c_hash (upd c_came a0.toNatClampNeg ((c_came a0.toNatClampNeg) + (1 : Int32)))) dX9_meets_14 rfl hb14 rfl ?_
  refine gg_bipush (-3 : Int32) dX9_meets_15 (by decide) ?_
  cases h
  exact gg_iret dX9_meets_17 rfl
def wd_X9_finding (c_latest : Int32) (c_asked : Int32) (c_upper : Int64) (c_lower : Int64) (c_n : Int32) (c_readAt : Int32) (c_readMany : Int32) (c_readFood : Int32) (c_isHead : Int32) (c_backMany : Int32) (c_deedMany : Int32) (c_whole : Int64) (c_wellSum : Int64) (c_strongSum : Int64) (c_hash : Int64) : va_W := [(0, .inr (8, [.int c_latest, .ref 1, .int c_asked, .long c_upper, .long c_lower, .ref 2, .ref 3, .ref 4, .ref 5, .ref 6, .int c_n, .ref 7, .ref 8, .ref 9, .ref 10, .int c_readAt, .int c_readMany, .int c_readFood, .int c_isHead, .ref 11, .ref 12, .ref 13, .int c_backMany, .int c_deedMany, .ref 14, .ref 15, .ref 16, .ref 17, .ref 18, .ref 19, .ref 20, .ref 21, .ref 22, .ref 23, .ref 24, .long c_whole, .long c_wellSum, .long c_strongSum, .long c_hash]))]
def MD_X9_finding : gg_M := (yX9_finding, cX9_finding, 1, some .int, 0, 0)
theorem nV_X9_finding : gg_nV MD_X9_finding 0 := ⟨⟨gg_mem (by decide +kernel) rfl, gg_mem cw_X9_finding rfl, by decide, by decide, by decide +kernel⟩, gg_mem (by decide +kernel) rfl, gg_mem (by decide +kernel) rfl⟩
def f_X9_finding  (c_latest : Int32) : Option (Int32) := (some c_latest)
set_option maxRecDepth 20000 in
set_option maxHeartbeats 8000000 in
theorem C_X9_finding  (c_latest : Int32) (c_asked : Int32) (c_upper : Int64) (c_lower : Int64) (c_n : Int32) (c_readAt : Int32) (c_readMany : Int32) (c_readFood : Int32) (c_isHead : Int32) (c_backMany : Int32) (c_deedMany : Int32) (c_whole : Int64) (c_wellSum : Int64) (c_strongSum : Int64) (c_hash : Int64) {res : Int32} (h : f_X9_finding c_latest = some res) : gg_C MD_X9_finding [.ref 0] (wd_X9_finding c_latest c_asked c_upper c_lower c_n c_readAt c_readMany c_readFood c_isHead c_backMany c_deedMany c_whole c_wellSum c_strongSum c_hash) (some (.int res)) (wd_X9_finding c_latest c_asked c_upper c_lower c_n c_readAt c_readMany c_readFood c_isHead c_backMany c_deedMany c_whole c_wellSum c_strongSum c_hash) := by
  refine gg_ofG [some (.ref 0)] (plainFor_of_name (by decide)) (Nat.le_of_ble_eq_true rfl) rfl ?_
  unfold f_X9_finding at h
  refine gg_aload_n dX9_finding_0 rfl ?_
  refine gg_get 0 fl_X9_88 dX9_finding_1 rfl rfl ?_
  cases h
  exact gg_iret dX9_finding_4 rfl
def wd_X9_findings (c_latest : Int32) (c_asked : Int32) (c_upper : Int64) (c_lower : Int64) (c_n : Int32) (c_readAt : Int32) (c_readMany : Int32) (c_readFood : Int32) (c_isHead : Int32) (c_backMany : Int32) (c_deedMany : Int32) (c_whole : Int64) (c_wellSum : Int64) (c_strongSum : Int64) (c_hash : Int64) (c_came : Nat → Int32) : va_W := [(0, .inr (8, [.int c_latest, .ref 1, .int c_asked, .long c_upper, .long c_lower, .ref 2, .ref 3, .ref 4, .ref 5, .ref 6, .int c_n, .ref 7, .ref 8, .ref 9, .ref 10, .int c_readAt, .int c_readMany, .int c_readFood, .int c_isHead, .ref 11, .ref 12, .ref 13, .int c_backMany, .int c_deedMany, .ref 14, .ref 15, .ref 16, .ref 17, .ref 18, .ref 19, .ref 20, .ref 21, .ref 22, .ref 23, .ref 24, .long c_whole, .long c_wellSum, .long c_strongSum, .long c_hash])), (1, .inl (0, 6, .inl c_came))]
def MD_X9_findings : gg_M := (yX9_findings, cX9_findings, 2, some .int, 1, 22)
theorem nV_X9_findings : gg_nV MD_X9_findings 1 := ⟨⟨gg_mem (by decide +kernel) rfl, gg_mem cw_X9_findings rfl, by decide, by decide, by decide +kernel⟩, gg_mem (by decide +kernel) rfl, gg_mem (by decide +kernel) rfl⟩
def f_X9_findings (a0 : Int32) (c_came : Nat → Int32) : Option (Int32) := (f_X9_in a0 (1 : Int32) (5 : Int32)).bind (fun v1 => gg_lt (fun (s0_19 : Int32) => (some s0_19)) (fun k19 => (if v1 = (0 : Int32) then (k19 (-1 : Int32)) else gg_chk (gg_in a0 6) ((k19 (c_came a0.toNatClampNeg))))))
set_option maxRecDepth 20000 in
set_option maxHeartbeats 8000000 in
theorem C_X9_findings (a0 : Int32) (c_latest : Int32) (c_asked : Int32) (c_upper : Int64) (c_lower : Int64) (c_n : Int32) (c_readAt : Int32) (c_readMany : Int32) (c_readFood : Int32) (c_isHead : Int32) (c_backMany : Int32) (c_deedMany : Int32) (c_whole : Int64) (c_wellSum : Int64) (c_strongSum : Int64) (c_hash : Int64) (c_came : Nat → Int32) {res : Int32} (h : f_X9_findings a0 c_came = some res) : gg_C MD_X9_findings [.ref 0, .int a0] (wd_X9_findings c_latest c_asked c_upper c_lower c_n c_readAt c_readMany c_readFood c_isHead c_backMany c_deedMany c_whole c_wellSum c_strongSum c_hash c_came) (some (.int res)) (wd_X9_findings c_latest c_asked c_upper c_lower c_n c_readAt c_readMany c_readFood c_isHead c_backMany c_deedMany c_whole c_wellSum c_strongSum c_hash c_came) := by
  refine gg_ofG [some (.ref 0), some (.int a0)] (plainFor_of_name (by decide)) (Nat.le_of_ble_eq_true rfl) rfl ?_
  unfold f_X9_findings at h
  refine gg_iload_n dX9_findings_0 rfl ?_
  refine gg_iconst (1 : Int32) dX9_findings_1 (by decide) ?_
  refine gg_iconst (5 : Int32) dX9_findings_2 (by decide) ?_
  obtain ⟨v1, hv1, h⟩ := gg_bd h
  refine gg_callS (gg_sg []) [] (wd_X9_findings c_latest c_asked c_upper c_lower c_n c_readAt c_readMany c_readFood c_isHead c_backMany c_deedMany c_whole c_wellSum c_strongSum c_hash c_came) (C_X9_in a0 (1 : Int32) (5 : Int32) hv1) nS_X9_in ml_X9_92 rfl rfl rfl rfl rfl rfl rfl [0, 1] 2 rfl rfl rfl rfl rfl ⟨Nat.le_of_ble_eq_true rfl, Nat.le_of_ble_eq_true rfl⟩ (Nat.le_of_ble_eq_true rfl) dX9_findings_3 [.int v1] rfl ?_
  obtain ⟨k19, hke19, h⟩ := gg_lte h
  have hk19 : ∀ (s0_19 : Int32), k19 s0_19 = some res → gg_G MD_X9_findings 19 [none, none] [.int s0_19] (wd_X9_findings c_latest c_asked c_upper c_lower c_n c_readAt c_readMany c_readFood c_isHead c_backMany c_deedMany c_whole c_wellSum c_strongSum c_hash c_came) (some (.int res)) (wd_X9_findings c_latest c_asked c_upper c_lower c_n c_readAt c_readMany c_readFood c_isHead c_backMany c_deedMany c_whole c_wellSum c_strongSum c_hash c_came) := by
    intro s0_19 h
    subst hke19
    cases h
    exact gg_iret dX9_findings_19 rfl
  clear hke19
  refine gg_if_eq 18 dX9_findings_6 (by decide) (fun hc => ?_) (fun hc => ?_)
  · replace h := gg_th h hc
    refine gg_iconst (-1 : Int32) dX9_findings_18 (by decide) ?_
    refine gg_fg [false, false] [none, none] rfl ?_
    exact hk19 (-1 : Int32) h
  · replace h := gg_el h hc
    refine gg_aload_n dX9_findings_9 rfl ?_
    refine gg_get 0 fl_X9_7 dX9_findings_10 rfl rfl ?_
    refine gg_iload_n dX9_findings_13 rfl ?_
    obtain ⟨hb14, h⟩ := gg_ck h
    refine gg_iald 1 dX9_findings_14 rfl hb14 ?_
    refine gg_goto 19 dX9_findings_15 (by decide) ?_
    refine gg_fg [false, false] [none, none] rfl ?_
    exact hk19 (c_came a0.toNatClampNeg) h
def wd_X9_tells (c_latest : Int32) (c_asked : Int32) (c_upper : Int64) (c_lower : Int64) (c_n : Int32) (c_readAt : Int32) (c_readMany : Int32) (c_readFood : Int32) (c_isHead : Int32) (c_backMany : Int32) (c_deedMany : Int32) (c_whole : Int64) (c_wellSum : Int64) (c_strongSum : Int64) (c_hash : Int64) : va_W := [(0, .inr (8, [.int c_latest, .ref 1, .int c_asked, .long c_upper, .long c_lower, .ref 2, .ref 3, .ref 4, .ref 5, .ref 6, .int c_n, .ref 7, .ref 8, .ref 9, .ref 10, .int c_readAt, .int c_readMany, .int c_readFood, .int c_isHead, .ref 11, .ref 12, .ref 13, .int c_backMany, .int c_deedMany, .ref 14, .ref 15, .ref 16, .ref 17, .ref 18, .ref 19, .ref 20, .ref 21, .ref 22, .ref 23, .ref 24, .long c_whole, .long c_wellSum, .long c_strongSum, .long c_hash]))]
def MD_X9_tells : gg_M := (yX9_tells, cX9_tells, 3, some .int, 0, 0)
theorem nV_X9_tells : gg_nV MD_X9_tells 2 := ⟨⟨gg_mem (by decide +kernel) rfl, gg_mem cw_X9_tells rfl, by decide, by decide, by decide +kernel⟩, gg_mem (by decide +kernel) rfl, gg_mem (by decide +kernel) rfl⟩
def f_X9_tells (a0 : Int32) (a1 : Int32) (c_asked : Int32) : Option (Int32 × (Int32)) := (some (a1, a0))
set_option maxRecDepth 20000 in
set_option maxHeartbeats 8000000 in
theorem C_X9_tells (a0 : Int32) (a1 : Int32) (c_latest : Int32) (c_asked : Int32) (c_upper : Int64) (c_lower : Int64) (c_n : Int32) (c_readAt : Int32) (c_readMany : Int32) (c_readFood : Int32) (c_isHead : Int32) (c_backMany : Int32) (c_deedMany : Int32) (c_whole : Int64) (c_wellSum : Int64) (c_strongSum : Int64) (c_hash : Int64) {r0 : Int32} {r1 : (Int32)} (h : f_X9_tells a0 a1 c_asked = some (r0, r1)) : gg_C MD_X9_tells [.ref 0, .int a0, .int a1] (wd_X9_tells c_latest c_asked c_upper c_lower c_n c_readAt c_readMany c_readFood c_isHead c_backMany c_deedMany c_whole c_wellSum c_strongSum c_hash) (some (.int r0)) (wd_X9_tells c_latest r1 c_upper c_lower c_n c_readAt c_readMany c_readFood c_isHead c_backMany c_deedMany c_whole c_wellSum c_strongSum c_hash) := by
  refine gg_ofG [some (.ref 0), some (.int a0), some (.int a1)] (plainFor_of_name (by decide)) (Nat.le_of_ble_eq_true rfl) rfl ?_
  unfold f_X9_tells at h
  refine gg_aload_n dX9_tells_0 rfl ?_
  refine gg_iload_n dX9_tells_1 rfl ?_
  refine gg_putf 0 (wd_X9_tells c_latest a0 c_upper c_lower c_n c_readAt c_readMany c_readFood c_isHead c_backMany c_deedMany c_whole c_wellSum c_strongSum c_hash) fl_X9_96 dX9_tells_2 rfl (Nat.le_of_ble_eq_true rfl) (fun _ => ⟨rfl, rfl⟩) rfl ?_
  refine gg_iload_n dX9_tells_5 rfl ?_
  cases h
  exact gg_iret dX9_tells_6 rfl
def wd_X9_asked (c_latest : Int32) (c_asked : Int32) (c_upper : Int64) (c_lower : Int64) (c_n : Int32) (c_readAt : Int32) (c_readMany : Int32) (c_readFood : Int32) (c_isHead : Int32) (c_backMany : Int32) (c_deedMany : Int32) (c_whole : Int64) (c_wellSum : Int64) (c_strongSum : Int64) (c_hash : Int64) : va_W := [(0, .inr (8, [.int c_latest, .ref 1, .int c_asked, .long c_upper, .long c_lower, .ref 2, .ref 3, .ref 4, .ref 5, .ref 6, .int c_n, .ref 7, .ref 8, .ref 9, .ref 10, .int c_readAt, .int c_readMany, .int c_readFood, .int c_isHead, .ref 11, .ref 12, .ref 13, .int c_backMany, .int c_deedMany, .ref 14, .ref 15, .ref 16, .ref 17, .ref 18, .ref 19, .ref 20, .ref 21, .ref 22, .ref 23, .ref 24, .long c_whole, .long c_wellSum, .long c_strongSum, .long c_hash]))]
def MD_X9_asked : gg_M := (yX9_asked, cX9_asked, 1, some .int, 0, 0)
theorem nV_X9_asked : gg_nV MD_X9_asked 0 := ⟨⟨gg_mem (by decide +kernel) rfl, gg_mem cw_X9_asked rfl, by decide, by decide, by decide +kernel⟩, gg_mem (by decide +kernel) rfl, gg_mem (by decide +kernel) rfl⟩
def f_X9_asked  (c_asked : Int32) : Option (Int32) := (some c_asked)
set_option maxRecDepth 20000 in
set_option maxHeartbeats 8000000 in
theorem C_X9_asked  (c_latest : Int32) (c_asked : Int32) (c_upper : Int64) (c_lower : Int64) (c_n : Int32) (c_readAt : Int32) (c_readMany : Int32) (c_readFood : Int32) (c_isHead : Int32) (c_backMany : Int32) (c_deedMany : Int32) (c_whole : Int64) (c_wellSum : Int64) (c_strongSum : Int64) (c_hash : Int64) {res : Int32} (h : f_X9_asked c_asked = some res) : gg_C MD_X9_asked [.ref 0] (wd_X9_asked c_latest c_asked c_upper c_lower c_n c_readAt c_readMany c_readFood c_isHead c_backMany c_deedMany c_whole c_wellSum c_strongSum c_hash) (some (.int res)) (wd_X9_asked c_latest c_asked c_upper c_lower c_n c_readAt c_readMany c_readFood c_isHead c_backMany c_deedMany c_whole c_wellSum c_strongSum c_hash) := by
  refine gg_ofG [some (.ref 0)] (plainFor_of_name (by decide)) (Nat.le_of_ble_eq_true rfl) rfl ?_
  unfold f_X9_asked at h
  refine gg_aload_n dX9_asked_0 rfl ?_
  refine gg_get 0 fl_X9_96 dX9_asked_1 rfl rfl ?_
  cases h
  exact gg_iret dX9_asked_4 rfl
def wd_X9_fraction (c_latest : Int32) (c_asked : Int32) (c_upper : Int64) (c_lower : Int64) (c_n : Int32) (c_readAt : Int32) (c_readMany : Int32) (c_readFood : Int32) (c_isHead : Int32) (c_backMany : Int32) (c_deedMany : Int32) (c_whole : Int64) (c_wellSum : Int64) (c_strongSum : Int64) (c_hash : Int64) : va_W := [(0, .inr (8, [.int c_latest, .ref 1, .int c_asked, .long c_upper, .long c_lower, .ref 2, .ref 3, .ref 4, .ref 5, .ref 6, .int c_n, .ref 7, .ref 8, .ref 9, .ref 10, .int c_readAt, .int c_readMany, .int c_readFood, .int c_isHead, .ref 11, .ref 12, .ref 13, .int c_backMany, .int c_deedMany, .ref 14, .ref 15, .ref 16, .ref 17, .ref 18, .ref 19, .ref 20, .ref 21, .ref 22, .ref 23, .ref 24, .long c_whole, .long c_wellSum, .long c_strongSum, .long c_hash]))]
def MD_X9_fraction : gg_M := (yX9_fraction, cX9_fraction, 11, some .int, 0, 0)
theorem nV_X9_fraction : gg_nV MD_X9_fraction 2 := ⟨⟨gg_mem (by decide +kernel) rfl, gg_mem cw_X9_fraction rfl, by decide, by decide, by decide +kernel⟩, gg_mem (by decide +kernel) rfl, gg_mem (by decide +kernel) rfl⟩
def lp_X9_fraction_6 {β : Type}  (k31 : (Int64) → Option β) : Nat → (Int64) → (Int64) → Option β
  | 0, _, _ => none
  | n + 1, x5_6, x7_6 => (if (lg_cmp x7_6 (0 : Int64)) = (0 : Int32) then (k31 x5_6) else gg_chk (!decide (x7_6 = 0)) ((lp_X9_fraction_6 k31 n x7_6 (x5_6 - x5_6 / x7_6 * x7_6))))
def f_X9_fraction (a0 : Int64) (a1 : Int64) (c_upper : Int64) (c_lower : Int64) : Option (Int32 × (Int64) × (Int64)) := (lp_X9_fraction_6 (fun (x5_31 : Int64) => gg_chk (!decide (x5_31 = 0)) (gg_chk (!decide (x5_31 = 0)) ((some ((1 : Int32), (a0 / x5_31), (a1 / x5_31)))))) gg_fuel a0 a1)
set_option maxRecDepth 20000 in
set_option maxHeartbeats 4000000 in
theorem lq_X9_fraction_6 {β : Type} {res : β} {rr : Option Value} {ww : va_W} (y1 : Int64) (y3 : Int64) (c_latest : Int32) (c_asked : Int32) (c_upper : Int64) (c_lower : Int64) (c_n : Int32) (c_readAt : Int32) (c_readMany : Int32) (c_readFood : Int32) (c_isHead : Int32) (c_backMany : Int32) (c_deedMany : Int32) (c_whole : Int64) (c_wellSum : Int64) (c_strongSum : Int64) (c_hash : Int64) (k31 : (Int64) → Option β) (hk31 : ∀ (x5_31 : Int64), k31 x5_31 = some res → gg_G MD_X9_fraction 31 [some (.ref 0), some (.long y1), none, some (.long y3), none, some (.long x5_31), none, none, none, none, none] [] (wd_X9_fraction c_latest c_asked c_upper c_lower c_n c_readAt c_readMany c_readFood c_isHead c_backMany c_deedMany c_whole c_wellSum c_strongSum c_hash) rr ww) : ∀ (n : Nat) (x5_6 : Int64) (x7_6 : Int64), lp_X9_fraction_6 k31 n x5_6 x7_6 = some res → gg_G MD_X9_fraction 6 [some (.ref 0), some (.long y1), none, some (.long y3), none, some (.long x5_6), none, some (.long x7_6), none, none, none] [] (wd_X9_fraction c_latest c_asked c_upper c_lower c_n c_readAt c_readMany c_readFood c_isHead c_backMany c_deedMany c_whole c_wellSum c_strongSum c_hash) rr ww := by
  intro n
  induction n with
  | zero =>
    intro x5_6 x7_6 h
    exact nomatch (show (none : Option β) = some res from h)
  | succ n ih =>
    intro x5_6 x7_6 h
    rw [lp_X9_fraction_6] at h
    refine gg_lload dX9_fraction_6 rfl ?_
    refine gg_lconst (0 : Int64) dX9_fraction_8 (by decide) ?_
    refine gg_lcmp dX9_fraction_9 ?_
    refine gg_if_eq 31 dX9_fraction_10 (by decide) (fun hc => ?_) (fun hc => ?_)
    · replace h := gg_th h hc
      refine gg_fg [true, true, false, true, false, true, false, false, false, false, false] [some (.ref 0), some (.long y1), none, some (.long y3), none, some (.long x5_6), none, none, none, none, none] rfl ?_
      exact hk31 x5_6 h
    · replace h := gg_el h hc
      refine gg_lload dX9_fraction_13 rfl ?_
      refine gg_lload dX9_fraction_15 rfl ?_
      obtain ⟨hz17, h⟩ := gg_ck h
      refine gg_lrem dX9_fraction_17 (gg_nz hz17) ?_
      refine gg_lstore [some (.ref 0), some (.long y1), none, some (.long y3), none, some (.long x5_6), none, some (.long x7_6), none, some (.long (x5_6 - x5_6 / x7_6 * x7_6)), none] dX9_fraction_18 rfl (Nat.le_of_ble_eq_true rfl) rfl ?_
      refine gg_lload dX9_fraction_20 rfl ?_
      refine gg_lstore [some (.ref 0), some (.long y1), none, some (.long y3), none, some (.long x7_6), none, some (.long x7_6), none, some (.long (x5_6 - x5_6 / x7_6 * x7_6)), none] dX9_fraction_22 rfl (Nat.le_of_ble_eq_true rfl) rfl ?_
      refine gg_lload dX9_fraction_24 rfl ?_
      refine gg_lstore [some (.ref 0), some (.long y1), none, some (.long y3), none, some (.long x7_6), none, some (.long (x5_6 - x5_6 / x7_6 * x7_6)), none, some (.long (x5_6 - x5_6 / x7_6 * x7_6)), none] dX9_fraction_26 rfl (Nat.le_of_ble_eq_true rfl) rfl ?_
      refine gg_goto 6 dX9_fraction_28 (by decide) ?_
      refine gg_fg [true, true, false, true, false, true, false, true, false, false, false] [some (.ref 0), some (.long y1), none, some (.long y3), none, some (.long x7_6), none, some (.long (x5_6 - x5_6 / x7_6 * x7_6)), none, none, none] rfl ?_
      exact ih x7_6 (x5_6 - x5_6 / x7_6 * x7_6) h
set_option maxRecDepth 20000 in
set_option maxHeartbeats 8000000 in
theorem C_X9_fraction (a0 : Int64) (a1 : Int64) (c_latest : Int32) (c_asked : Int32) (c_upper : Int64) (c_lower : Int64) (c_n : Int32) (c_readAt : Int32) (c_readMany : Int32) (c_readFood : Int32) (c_isHead : Int32) (c_backMany : Int32) (c_deedMany : Int32) (c_whole : Int64) (c_wellSum : Int64) (c_strongSum : Int64) (c_hash : Int64) {r0 : Int32} {r1 : (Int64)} {r2 : (Int64)} (h : f_X9_fraction a0 a1 c_upper c_lower = some (r0, r1, r2)) : gg_C MD_X9_fraction [.ref 0, .long a0, .long a1] (wd_X9_fraction c_latest c_asked c_upper c_lower c_n c_readAt c_readMany c_readFood c_isHead c_backMany c_deedMany c_whole c_wellSum c_strongSum c_hash) (some (.int r0)) (wd_X9_fraction c_latest c_asked r1 r2 c_n c_readAt c_readMany c_readFood c_isHead c_backMany c_deedMany c_whole c_wellSum c_strongSum c_hash) := by
  refine gg_ofG [some (.ref 0), some (.long a0), none, some (.long a1), none, none, none, none, none, none, none] (plainFor_of_name (by decide)) (Nat.le_of_ble_eq_true rfl) rfl ?_
  unfold f_X9_fraction at h
  refine gg_lload_n dX9_fraction_0 rfl ?_
  refine gg_lstore [some (.ref 0), some (.long a0), none, some (.long a1), none, some (.long a0), none, none, none, none, none] dX9_fraction_1 rfl (Nat.le_of_ble_eq_true rfl) rfl ?_
  refine gg_lload_n dX9_fraction_3 rfl ?_
  refine gg_lstore [some (.ref 0), some (.long a0), none, some (.long a1), none, some (.long a0), none, some (.long a1), none, none, none] dX9_fraction_4 rfl (Nat.le_of_ble_eq_true rfl) rfl ?_
  refine lq_X9_fraction_6 a0 a1 c_latest c_asked c_upper c_lower c_n c_readAt c_readMany c_readFood c_isHead c_backMany c_deedMany c_whole c_wellSum c_strongSum c_hash _ ?_ gg_fuel a0 a1 h
  intro x5_31 h
  refine gg_aload_n dX9_fraction_31 rfl ?_
  refine gg_lload_n dX9_fraction_32 rfl ?_
  refine gg_lload dX9_fraction_33 rfl ?_
  obtain ⟨hz35, h⟩ := gg_ck h
  refine gg_ldiv dX9_fraction_35 (gg_nz hz35) ?_
  refine gg_putf 0 (wd_X9_fraction c_latest c_asked (a0 / x5_31) c_lower c_n c_readAt c_readMany c_readFood c_isHead c_backMany c_deedMany c_whole c_wellSum c_strongSum c_hash) fl_X9_99 dX9_fraction_36 rfl (Nat.le_of_ble_eq_true rfl) (fun _ => ⟨rfl, rfl⟩) rfl ?_
  refine gg_aload_n dX9_fraction_39 rfl ?_
  refine gg_lload_n dX9_fraction_40 rfl ?_
  refine gg_lload dX9_fraction_41 rfl ?_
  obtain ⟨hz43, h⟩ := gg_ck h
  refine gg_ldiv dX9_fraction_43 (gg_nz hz43) ?_
  refine gg_putf 0 (wd_X9_fraction c_latest c_asked (a0 / x5_31) (a1 / x5_31) c_n c_readAt c_readMany c_readFood c_isHead c_backMany c_deedMany c_whole c_wellSum c_strongSum c_hash) fl_X9_13 dX9_fraction_44 rfl (Nat.le_of_ble_eq_true rfl) (fun _ => ⟨rfl, rfl⟩) rfl ?_
  refine gg_iconst (1 : Int32) dX9_fraction_47 (by decide) ?_
  cases h
  exact gg_iret dX9_fraction_48 rfl
def wd_X9_upper (c_latest : Int32) (c_asked : Int32) (c_upper : Int64) (c_lower : Int64) (c_n : Int32) (c_readAt : Int32) (c_readMany : Int32) (c_readFood : Int32) (c_isHead : Int32) (c_backMany : Int32) (c_deedMany : Int32) (c_whole : Int64) (c_wellSum : Int64) (c_strongSum : Int64) (c_hash : Int64) : va_W := [(0, .inr (8, [.int c_latest, .ref 1, .int c_asked, .long c_upper, .long c_lower, .ref 2, .ref 3, .ref 4, .ref 5, .ref 6, .int c_n, .ref 7, .ref 8, .ref 9, .ref 10, .int c_readAt, .int c_readMany, .int c_readFood, .int c_isHead, .ref 11, .ref 12, .ref 13, .int c_backMany, .int c_deedMany, .ref 14, .ref 15, .ref 16, .ref 17, .ref 18, .ref 19, .ref 20, .ref 21, .ref 22, .ref 23, .ref 24, .long c_whole, .long c_wellSum, .long c_strongSum, .long c_hash]))]
def MD_X9_upper : gg_M := (yX9_upper, cX9_upper, 1, some .long, 0, 0)
theorem nV_X9_upper : gg_nV MD_X9_upper 0 := ⟨⟨gg_mem (by decide +kernel) rfl, gg_mem cw_X9_upper rfl, by decide, by decide, by decide +kernel⟩, gg_mem (by decide +kernel) rfl, gg_mem (by decide +kernel) rfl⟩
def f_X9_upper  (c_upper : Int64) : Option (Int64) := (some c_upper)
set_option maxRecDepth 20000 in
set_option maxHeartbeats 8000000 in
theorem C_X9_upper  (c_latest : Int32) (c_asked : Int32) (c_upper : Int64) (c_lower : Int64) (c_n : Int32) (c_readAt : Int32) (c_readMany : Int32) (c_readFood : Int32) (c_isHead : Int32) (c_backMany : Int32) (c_deedMany : Int32) (c_whole : Int64) (c_wellSum : Int64) (c_strongSum : Int64) (c_hash : Int64) {res : Int64} (h : f_X9_upper c_upper = some res) : gg_C MD_X9_upper [.ref 0] (wd_X9_upper c_latest c_asked c_upper c_lower c_n c_readAt c_readMany c_readFood c_isHead c_backMany c_deedMany c_whole c_wellSum c_strongSum c_hash) (some (.long res)) (wd_X9_upper c_latest c_asked c_upper c_lower c_n c_readAt c_readMany c_readFood c_isHead c_backMany c_deedMany c_whole c_wellSum c_strongSum c_hash) := by
  refine gg_ofG [some (.ref 0)] (plainFor_of_name (by decide)) (Nat.le_of_ble_eq_true rfl) rfl ?_
  unfold f_X9_upper at h
  refine gg_aload_n dX9_upper_0 rfl ?_
  refine gg_get 0 fl_X9_99 dX9_upper_1 rfl rfl ?_
  cases h
  exact gg_lret dX9_upper_4 rfl
def wd_X9_lower (c_latest : Int32) (c_asked : Int32) (c_upper : Int64) (c_lower : Int64) (c_n : Int32) (c_readAt : Int32) (c_readMany : Int32) (c_readFood : Int32) (c_isHead : Int32) (c_backMany : Int32) (c_deedMany : Int32) (c_whole : Int64) (c_wellSum : Int64) (c_strongSum : Int64) (c_hash : Int64) : va_W := [(0, .inr (8, [.int c_latest, .ref 1, .int c_asked, .long c_upper, .long c_lower, .ref 2, .ref 3, .ref 4, .ref 5, .ref 6, .int c_n, .ref 7, .ref 8, .ref 9, .ref 10, .int c_readAt, .int c_readMany, .int c_readFood, .int c_isHead, .ref 11, .ref 12, .ref 13, .int c_backMany, .int c_deedMany, .ref 14, .ref 15, .ref 16, .ref 17, .ref 18, .ref 19, .ref 20, .ref 21, .ref 22, .ref 23, .ref 24, .long c_whole, .long c_wellSum, .long c_strongSum, .long c_hash]))]
def MD_X9_lower : gg_M := (yX9_lower, cX9_lower, 1, some .long, 0, 0)
theorem nV_X9_lower : gg_nV MD_X9_lower 0 := ⟨⟨gg_mem (by decide +kernel) rfl, gg_mem cw_X9_lower rfl, by decide, by decide, by decide +kernel⟩, gg_mem (by decide +kernel) rfl, gg_mem (by decide +kernel) rfl⟩
def f_X9_lower  (c_lower : Int64) : Option (Int64) := (some c_lower)
set_option maxRecDepth 20000 in
set_option maxHeartbeats 8000000 in
theorem C_X9_lower  (c_latest : Int32) (c_asked : Int32) (c_upper : Int64) (c_lower : Int64) (c_n : Int32) (c_readAt : Int32) (c_readMany : Int32) (c_readFood : Int32) (c_isHead : Int32) (c_backMany : Int32) (c_deedMany : Int32) (c_whole : Int64) (c_wellSum : Int64) (c_strongSum : Int64) (c_hash : Int64) {res : Int64} (h : f_X9_lower c_lower = some res) : gg_C MD_X9_lower [.ref 0] (wd_X9_lower c_latest c_asked c_upper c_lower c_n c_readAt c_readMany c_readFood c_isHead c_backMany c_deedMany c_whole c_wellSum c_strongSum c_hash) (some (.long res)) (wd_X9_lower c_latest c_asked c_upper c_lower c_n c_readAt c_readMany c_readFood c_isHead c_backMany c_deedMany c_whole c_wellSum c_strongSum c_hash) := by
  refine gg_ofG [some (.ref 0)] (plainFor_of_name (by decide)) (Nat.le_of_ble_eq_true rfl) rfl ?_
  unfold f_X9_lower at h
  refine gg_aload_n dX9_lower_0 rfl ?_
  refine gg_get 0 fl_X9_13 dX9_lower_1 rfl rfl ?_
  cases h
  exact gg_lret dX9_lower_4 rfl
def wd_X9_isRow  : va_W := []
def MD_X9_isRow : gg_M := (yX9_isRow, cX9_isRow, 1, some .boolean, 1, 22)
theorem nS_X9_isRow : gg_nS MD_X9_isRow 1 := ⟨⟨gg_mem (by decide +kernel) rfl, gg_mem cw_X9_isRow rfl, by decide, by decide, by decide +kernel⟩, gg_mem (by decide +kernel) rfl⟩
def f_X9_isRow (a0 : Int32)  : Option (Int32) := (f_X9_in a0 (0 : Int32) (5 : Int32)).bind (fun v1 => gg_chk (gg_isb v1) (some v1))
set_option maxRecDepth 20000 in
set_option maxHeartbeats 8000000 in
theorem C_X9_isRow (a0 : Int32)  {res : Int32} (h : f_X9_isRow a0 = some res) : gg_C MD_X9_isRow [.int a0] (wd_X9_isRow) (some (.int res)) (wd_X9_isRow) := by
  refine gg_ofG [some (.int a0)] (plainFor_of_name (by decide)) (Nat.le_of_ble_eq_true rfl) rfl ?_
  unfold f_X9_isRow at h
  refine gg_iload_n dX9_isRow_0 rfl ?_
  refine gg_iconst (0 : Int32) dX9_isRow_1 (by decide) ?_
  refine gg_iconst (5 : Int32) dX9_isRow_2 (by decide) ?_
  obtain ⟨v1, hv1, h⟩ := gg_bd h
  refine gg_callS (gg_sg []) [] (wd_X9_isRow) (C_X9_in a0 (0 : Int32) (5 : Int32) hv1) nS_X9_in ml_X9_92 rfl rfl rfl rfl rfl rfl rfl [] 0 rfl rfl rfl rfl rfl ⟨Nat.le_of_ble_eq_true rfl, Nat.le_of_ble_eq_true rfl⟩ (Nat.le_of_ble_eq_true rfl) dX9_isRow_3 [.int v1] rfl ?_
  obtain ⟨hz, h⟩ := gg_ck h
  cases h
  exact gg_zret dX9_isRow_6 rfl hz
def wd_X9_rowAt (c_latest : Int32) (c_asked : Int32) (c_upper : Int64) (c_lower : Int64) (c_n : Int32) (c_readAt : Int32) (c_readMany : Int32) (c_readFood : Int32) (c_isHead : Int32) (c_backMany : Int32) (c_deedMany : Int32) (c_whole : Int64) (c_wellSum : Int64) (c_strongSum : Int64) (c_hash : Int64) (c_rows : Nat → Int32) : va_W := [(0, .inr (8, [.int c_latest, .ref 1, .int c_asked, .long c_upper, .long c_lower, .ref 2, .ref 3, .ref 4, .ref 5, .ref 6, .int c_n, .ref 7, .ref 8, .ref 9, .ref 10, .int c_readAt, .int c_readMany, .int c_readFood, .int c_isHead, .ref 11, .ref 12, .ref 13, .int c_backMany, .int c_deedMany, .ref 14, .ref 15, .ref 16, .ref 17, .ref 18, .ref 19, .ref 20, .ref 21, .ref 22, .ref 23, .ref 24, .long c_whole, .long c_wellSum, .long c_strongSum, .long c_hash])), (3, .inl (0, 240, .inl c_rows))]
def MD_X9_rowAt : gg_M := (yX9_rowAt, cX9_rowAt, 3, some .int, 0, 0)
theorem nV_X9_rowAt : gg_nV MD_X9_rowAt 2 := ⟨⟨gg_mem (by decide +kernel) rfl, gg_mem cw_X9_rowAt rfl, by decide, by decide, by decide +kernel⟩, gg_mem (by decide +kernel) rfl, gg_mem (by decide +kernel) rfl⟩
def f_X9_rowAt (a0 : Int32) (a1 : Int32) (c_rows : Nat → Int32) : Option (Int32) := gg_chk (gg_in (((40 : Int32) * a0) + a1) 240) ((some (c_rows (((40 : Int32) * a0) + a1).toNatClampNeg)))
set_option maxRecDepth 20000 in
set_option maxHeartbeats 8000000 in
theorem C_X9_rowAt (a0 : Int32) (a1 : Int32) (c_latest : Int32) (c_asked : Int32) (c_upper : Int64) (c_lower : Int64) (c_n : Int32) (c_readAt : Int32) (c_readMany : Int32) (c_readFood : Int32) (c_isHead : Int32) (c_backMany : Int32) (c_deedMany : Int32) (c_whole : Int64) (c_wellSum : Int64) (c_strongSum : Int64) (c_hash : Int64) (c_rows : Nat → Int32) {res : Int32} (h : f_X9_rowAt a0 a1 c_rows = some res) : gg_C MD_X9_rowAt [.ref 0, .int a0, .int a1] (wd_X9_rowAt c_latest c_asked c_upper c_lower c_n c_readAt c_readMany c_readFood c_isHead c_backMany c_deedMany c_whole c_wellSum c_strongSum c_hash c_rows) (some (.int res)) (wd_X9_rowAt c_latest c_asked c_upper c_lower c_n c_readAt c_readMany c_readFood c_isHead c_backMany c_deedMany c_whole c_wellSum c_strongSum c_hash c_rows) := by
  refine gg_ofG [some (.ref 0), some (.int a0), some (.int a1)] (plainFor_of_name (by decide)) (Nat.le_of_ble_eq_true rfl) rfl ?_
  unfold f_X9_rowAt at h
  refine gg_aload_n dX9_rowAt_0 rfl ?_
  refine gg_get 0 fl_X9_20 dX9_rowAt_1 rfl rfl ?_
  refine gg_bipush (40 : Int32) dX9_rowAt_4 (by decide) ?_
  refine gg_iload_n dX9_rowAt_6 rfl ?_
  refine gg_imul dX9_rowAt_7 ?_
  refine gg_iload_n dX9_rowAt_8 rfl ?_
  refine gg_iadd dX9_rowAt_9 ?_
  obtain ⟨hb10, h⟩ := gg_ck h
  refine gg_iald 1 dX9_rowAt_10 rfl hb10 ?_
  cases h
  exact gg_iret dX9_rowAt_11 rfl
def wd_X9_row (c_latest : Int32) (c_asked : Int32) (c_upper : Int64) (c_lower : Int64) (c_n : Int32) (c_readAt : Int32) (c_readMany : Int32) (c_readFood : Int32) (c_isHead : Int32) (c_backMany : Int32) (c_deedMany : Int32) (c_whole : Int64) (c_wellSum : Int64) (c_strongSum : Int64) (c_hash : Int64) (c_came : Nat → Int32) (c_sizes : Nat → Int32) (c_rows : Nat → Int32) : va_W := [(0, .inr (8, [.int c_latest, .ref 1, .int c_asked, .long c_upper, .long c_lower, .ref 2, .ref 3, .ref 4, .ref 5, .ref 6, .int c_n, .ref 7, .ref 8, .ref 9, .ref 10, .int c_readAt, .int c_readMany, .int c_readFood, .int c_isHead, .ref 11, .ref 12, .ref 13, .int c_backMany, .int c_deedMany, .ref 14, .ref 15, .ref 16, .ref 17, .ref 18, .ref 19, .ref 20, .ref 21, .ref 22, .ref 23, .ref 24, .long c_whole, .long c_wellSum, .long c_strongSum, .long c_hash])), (1, .inl (0, 6, .inl c_came)), (2, .inl (0, 6, .inl c_sizes)), (3, .inl (0, 240, .inl c_rows))]
def MD_X9_row : gg_M := (yX9_row, cX9_row, 4, some .int, 2, 42)
theorem nV_X9_row : gg_nV MD_X9_row 2 := ⟨⟨gg_mem (by decide +kernel) rfl, gg_mem cw_X9_row rfl, by decide, by decide, by decide +kernel⟩, gg_mem (by decide +kernel) rfl, gg_mem (by decide +kernel) rfl⟩
def lp_X9_row_34 {β : Type} (y1 : Int32) (k58 : (Nat → Int32) → Option β) : Nat → (Int32) → (Nat → Int32) → Option β
  | 0, _, _ => none
  | n + 1, x3_34, c_rows_34 => (if (40 : Int32) ≤ x3_34 then (k58 c_rows_34) else gg_chk (gg_in (((40 : Int32) * y1) + x3_34) 240) ((lp_X9_row_34 y1 k58 n (x3_34 + (1 : Int32)) (upd c_rows_34 (((40 : Int32) * y1) + x3_34).toNatClampNeg (0 : Int32)))))
def f_X9_row (a0 : Int32) (a1 : Int32) (c_latest : Int32) (c_came : Nat → Int32) (c_sizes : Nat → Int32) (c_rows : Nat → Int32) : Option (Int32 × (Int32) × (Nat → Int32) × (Nat → Int32) × (Nat → Int32)) := (f_X9_isRow a0).bind (fun v1 => gg_lt ((some ((-1 : Int32), c_latest, c_came, c_sizes, c_rows))) (fun k13 => (if v1 = (0 : Int32) then k13 else (if a1 ≤ (40 : Int32) then (if (0 : Int32) ≤ a1 then gg_chk (gg_in a0 6) ((lp_X9_row_34 a0 (fun (c_rows_58 : Nat → Int32) => (some (a1, c_latest, c_came, (upd c_sizes a0.toNatClampNeg a1), c_rows_58))) gg_fuel (0 : Int32) c_rows)) else gg_b3 (f_X9_meets (5 : Int32) c_latest c_came) (fun v2_0 v2_1 v2_2 => (some (v2_0, v2_1, v2_2, c_sizes, c_rows)))) else k13))))
set_option maxRecDepth 20000 in
set_option maxHeartbeats 4000000 in
theorem lq_X9_row_34 {β : Type} {res : β} {rr : Option Value} {ww : va_W} (y1 : Int32) (y2 : Int32) (c_latest : Int32) (c_asked : Int32) (c_upper : Int64) (c_lower : Int64) (c_n : Int32) (c_readAt : Int32) (c_readMany : Int32) (c_readFood : Int32) (c_isHead : Int32) (c_backMany : Int32) (c_deedMany : Int32) (c_whole : Int64) (c_wellSum : Int64) (c_strongSum : Int64) (c_hash : Int64) (c_came : Nat → Int32) (c_sizes : Nat → Int32) (k58 : (Nat → Int32) → Option β) (hk58 : ∀ (c_rows_58 : Nat → Int32), k58 c_rows_58 = some res → gg_G MD_X9_row 58 [none, none, some (.int y2), none] [] (wd_X9_row c_latest c_asked c_upper c_lower c_n c_readAt c_readMany c_readFood c_isHead c_backMany c_deedMany c_whole c_wellSum c_strongSum c_hash c_came c_sizes c_rows_58) rr ww) : ∀ (n : Nat) (x3_34 : Int32) (c_rows_34 : Nat → Int32), lp_X9_row_34 y1 k58 n x3_34 c_rows_34 = some res → gg_G MD_X9_row 34 [some (.ref 0), some (.int y1), some (.int y2), some (.int x3_34)] [] (wd_X9_row c_latest c_asked c_upper c_lower c_n c_readAt c_readMany c_readFood c_isHead c_backMany c_deedMany c_whole c_wellSum c_strongSum c_hash c_came c_sizes c_rows_34) rr ww := by
  intro n
  induction n with
  | zero =>
    intro x3_34 c_rows_34 h
    exact nomatch (show (none : Option β) = some res from h)
  | succ n ih =>
    intro x3_34 c_rows_34 h
    rw [lp_X9_row_34] at h
    refine gg_iload_n dX9_row_34 rfl ?_
    refine gg_bipush (40 : Int32) dX9_row_35 (by decide) ?_
    refine gg_icmp_ge 58 dX9_row_37 (by decide) (fun hc => ?_) (fun hc => ?_)
    · replace h := gg_th h hc
      refine gg_fg [false, false, true, false] [none, none, some (.int y2), none] rfl ?_
      exact hk58 c_rows_34 h
    · replace h := gg_el h hc
      refine gg_aload_n dX9_row_40 rfl ?_
      refine gg_get 0 fl_X9_20 dX9_row_41 rfl rfl ?_
      refine gg_bipush (40 : Int32) dX9_row_44 (by decide) ?_
      refine gg_iload_n dX9_row_46 rfl ?_
      refine gg_imul dX9_row_47 ?_
      refine gg_iload_n dX9_row_48 rfl ?_
      refine gg_iadd dX9_row_49 ?_
      refine gg_iconst (0 : Int32) dX9_row_50 (by decide) ?_
      obtain ⟨hb51, h⟩ := gg_ck h
      refine gg_iast 3 (wd_X9_row c_latest c_asked c_upper c_lower c_n c_readAt c_readMany c_readFood c_isHead c_backMany c_deedMany c_whole c_wellSum c_strongSum c_hash c_came c_sizes (upd c_rows_34 (((40 : Int32) * y1) + x3_34).toNatClampNeg (0 : Int32))) dX9_row_51 rfl hb51 rfl ?_
      refine gg_iinc (x3_34 + (1 : Int32)) [some (.ref 0), some (.int y1), some (.int y2), some (.int (x3_34 + (1 : Int32)))] dX9_row_52 rfl rfl rfl (Nat.le_of_ble_eq_true rfl) rfl ?_
      refine gg_goto 34 dX9_row_55 (by decide) ?_
      exact ih (x3_34 + (1 : Int32)) (upd c_rows_34 (((40 : Int32) * y1) + x3_34).toNatClampNeg (0 : Int32)) h
set_option maxRecDepth 20000 in
set_option maxHeartbeats 8000000 in
theorem C_X9_row (a0 : Int32) (a1 : Int32) (c_latest : Int32) (c_asked : Int32) (c_upper : Int64) (c_lower : Int64) (c_n : Int32) (c_readAt : Int32) (c_readMany : Int32) (c_readFood : Int32) (c_isHead : Int32) (c_backMany : Int32) (c_deedMany : Int32) (c_whole : Int64) (c_wellSum : Int64) (c_strongSum : Int64) (c_hash : Int64) (c_came : Nat → Int32) (c_sizes : Nat → Int32) (c_rows : Nat → Int32) {r0 : Int32} {r1 : (Int32)} {r2 : (Nat → Int32)} {r3 : (Nat → Int32)} {r4 : (Nat → Int32)} (h : f_X9_row a0 a1 c_latest c_came c_sizes c_rows = some (r0, r1, r2, r3, r4)) : gg_C MD_X9_row [.ref 0, .int a0, .int a1] (wd_X9_row c_latest c_asked c_upper c_lower c_n c_readAt c_readMany c_readFood c_isHead c_backMany c_deedMany c_whole c_wellSum c_strongSum c_hash c_came c_sizes c_rows) (some (.int r0)) (wd_X9_row r1 c_asked c_upper c_lower c_n c_readAt c_readMany c_readFood c_isHead c_backMany c_deedMany c_whole c_wellSum c_strongSum c_hash r2 r3 r4) := by
  refine gg_ofG [some (.ref 0), some (.int a0), some (.int a1), none] (plainFor_of_name (by decide)) (Nat.le_of_ble_eq_true rfl) rfl ?_
  unfold f_X9_row at h
  refine gg_iload_n dX9_row_0 rfl ?_
  obtain ⟨v1, hv1, h⟩ := gg_bd h
  refine gg_callS (gg_sg []) [] (wd_X9_row c_latest c_asked c_upper c_lower c_n c_readAt c_readMany c_readFood c_isHead c_backMany c_deedMany c_whole c_wellSum c_strongSum c_hash c_came c_sizes c_rows) (C_X9_isRow a0 hv1) nS_X9_isRow ml_X9_102 rfl rfl rfl rfl rfl rfl rfl [0, 1, 2, 3] 4 rfl rfl rfl rfl rfl ⟨Nat.le_of_ble_eq_true rfl, Nat.le_of_ble_eq_true rfl⟩ (Nat.le_of_ble_eq_true rfl) dX9_row_1 [.int v1] rfl ?_
  obtain ⟨k13, hke13, h⟩ := gg_lte h
  have hk13 : k13 = some (r0, r1, r2, r3, r4) → gg_G MD_X9_row 13 [none, none, none, none] [] (wd_X9_row c_latest c_asked c_upper c_lower c_n c_readAt c_readMany c_readFood c_isHead c_backMany c_deedMany c_whole c_wellSum c_strongSum c_hash c_came c_sizes c_rows) (some (.int r0)) (wd_X9_row r1 c_asked c_upper c_lower c_n c_readAt c_readMany c_readFood c_isHead c_backMany c_deedMany c_whole c_wellSum c_strongSum c_hash r2 r3 r4) := by
    intro  h
    subst hke13
    refine gg_iconst (-1 : Int32) dX9_row_13 (by decide) ?_
    cases h
    exact gg_iret dX9_row_14 rfl
  clear hke13
  refine gg_if_eq 13 dX9_row_4 (by decide) (fun hc => ?_) (fun hc => ?_)
  · replace h := gg_th h hc
    refine gg_fg [false, false, false, false] [none, none, none, none] rfl ?_
    exact hk13 h
  · replace h := gg_el h hc
    refine gg_iload_n dX9_row_7 rfl ?_
    refine gg_bipush (40 : Int32) dX9_row_8 (by decide) ?_
    refine gg_icmp_le 15 dX9_row_10 (by decide) (fun hc => ?_) (fun hc => ?_)
    · replace h := gg_th h hc
      refine gg_iload_n dX9_row_15 rfl ?_
      refine gg_if_ge 25 dX9_row_16 (by decide) (fun hc => ?_) (fun hc => ?_)
      · replace h := gg_th h hc
        refine gg_aload_n dX9_row_25 rfl ?_
        refine gg_get 0 fl_X9_17 dX9_row_26 rfl rfl ?_
        refine gg_iload_n dX9_row_29 rfl ?_
        refine gg_iload_n dX9_row_30 rfl ?_
        obtain ⟨hb31, h⟩ := gg_ck h
        refine gg_iast 2 (wd_X9_row c_latest c_asked c_upper c_lower c_n c_readAt c_readMany c_readFood c_isHead c_backMany c_deedMany c_whole c_wellSum c_strongSum c_hash c_came (upd c_sizes a0.toNatClampNeg a1) c_rows) dX9_row_31 rfl hb31 rfl ?_
        refine gg_iconst (0 : Int32) dX9_row_32 (by decide) ?_
        refine gg_istore_n [some (.ref 0), some (.int a0), some (.int a1), some (.int (0 : Int32))] dX9_row_33 rfl (Nat.le_of_ble_eq_true rfl) rfl ?_
        refine lq_X9_row_34 a0 a1 c_latest c_asked c_upper c_lower c_n c_readAt c_readMany c_readFood c_isHead c_backMany c_deedMany c_whole c_wellSum c_strongSum c_hash c_came (upd c_sizes a0.toNatClampNeg a1) _ ?_ gg_fuel (0 : Int32) c_rows h
        intro c_rows_58 h
        refine gg_iload_n dX9_row_58 rfl ?_
        cases h
        exact gg_iret dX9_row_59 rfl
      · replace h := gg_el h hc
        refine gg_aload_n dX9_row_19 rfl ?_
        refine gg_iconst (5 : Int32) dX9_row_20 (by decide) ?_
        obtain ⟨v2_0, v2_1, v2_2, hv2, h⟩ := gg_bd3 h
        refine gg_callV (gg_sg [0]) [0, 1] (wd_X9_row v2_1 c_asked c_upper c_lower c_n c_readAt c_readMany c_readFood c_isHead c_backMany c_deedMany c_whole c_wellSum c_strongSum c_hash v2_2 c_sizes c_rows) 0 (C_X9_meets (5 : Int32) c_latest c_asked c_upper c_lower c_n c_readAt c_readMany c_readFood c_isHead c_backMany c_deedMany c_whole c_wellSum c_strongSum c_hash c_came hv2) nV_X9_meets ml_X9_106 rfl rfl rfl rfl rfl rfl rfl rfl rfl rfl [2, 3] 4 rfl rfl rfl rfl rfl ⟨Nat.le_of_ble_eq_true rfl, Nat.le_of_ble_eq_true rfl⟩ (Nat.le_of_ble_eq_true rfl) dX9_row_21 [.int v2_0] rfl ?_
        cases h
        exact gg_iret dX9_row_24 rfl
    · replace h := gg_el h hc
      refine gg_fg [false, false, false, false] [none, none, none, none] rfl ?_
      exact hk13 h
def wd_X9_lay (c_latest : Int32) (c_asked : Int32) (c_upper : Int64) (c_lower : Int64) (c_n : Int32) (c_readAt : Int32) (c_readMany : Int32) (c_readFood : Int32) (c_isHead : Int32) (c_backMany : Int32) (c_deedMany : Int32) (c_whole : Int64) (c_wellSum : Int64) (c_strongSum : Int64) (c_hash : Int64) (c_came : Nat → Int32) (c_sizes : Nat → Int32) (c_rows : Nat → Int32) : va_W := [(0, .inr (8, [.int c_latest, .ref 1, .int c_asked, .long c_upper, .long c_lower, .ref 2, .ref 3, .ref 4, .ref 5, .ref 6, .int c_n, .ref 7, .ref 8, .ref 9, .ref 10, .int c_readAt, .int c_readMany, .int c_readFood, .int c_isHead, .ref 11, .ref 12, .ref 13, .int c_backMany, .int c_deedMany, .ref 14, .ref 15, .ref 16, .ref 17, .ref 18, .ref 19, .ref 20, .ref 21, .ref 22, .ref 23, .ref 24, .long c_whole, .long c_wellSum, .long c_strongSum, .long c_hash])), (1, .inl (0, 6, .inl c_came)), (2, .inl (0, 6, .inl c_sizes)), (3, .inl (0, 240, .inl c_rows))]
def MD_X9_lay : gg_M := (yX9_lay, cX9_lay, 5, some .int, 2, 42)
theorem nV_X9_lay : gg_nV MD_X9_lay 3 := ⟨⟨gg_mem (by decide +kernel) rfl, gg_mem cw_X9_lay rfl, by decide, by decide, by decide +kernel⟩, gg_mem (by decide +kernel) rfl, gg_mem (by decide +kernel) rfl⟩
def f_X9_lay (a0 : Int32) (a1 : Int32) (a2 : Int32) (c_latest : Int32) (c_asked : Int32) (c_came : Nat → Int32) (c_sizes : Nat → Int32) (c_rows : Nat → Int32) : Option (Int32 × (Int32) × (Int32) × (Nat → Int32) × (Nat → Int32)) := (f_X9_isRow a0).bind (fun v1 => (if v1 = (0 : Int32) then (some ((-1 : Int32), c_latest, c_asked, c_came, c_rows)) else gg_chk (gg_in a0 6) ((if (0 : Int32) ≤ (c_sizes a0.toNatClampNeg) then gg_chk (gg_in a0 6) ((f_X9_in a1 (0 : Int32) ((c_sizes a0.toNatClampNeg) - (1 : Int32))).bind (fun v2 => (if v2 = (0 : Int32) then gg_b3 (f_X9_meets (2 : Int32) c_latest c_came) (fun v5_0 v5_1 v5_2 => (some (v5_0, v5_1, c_asked, v5_2, c_rows))) else (f_X9_rowAt a0 a1 c_rows).bind (fun v3 => gg_chk (gg_in (((40 : Int32) * a0) + a1) 240) (gg_b2 (f_X9_tells v3 (1 : Int32) c_asked) (fun v4_0 v4_1 => (some (v4_0, c_latest, v4_1, c_came, (upd c_rows (((40 : Int32) * a0) + a1).toNatClampNeg a2))))))))) else gg_b3 (f_X9_meets (1 : Int32) c_latest c_came) (fun v6_0 v6_1 v6_2 => (some (v6_0, v6_1, c_asked, v6_2, c_rows)))))))
set_option maxRecDepth 20000 in
set_option maxHeartbeats 8000000 in
theorem C_X9_lay (a0 : Int32) (a1 : Int32) (a2 : Int32) (c_latest : Int32) (c_asked : Int32) (c_upper : Int64) (c_lower : Int64) (c_n : Int32) (c_readAt : Int32) (c_readMany : Int32) (c_readFood : Int32) (c_isHead : Int32) (c_backMany : Int32) (c_deedMany : Int32) (c_whole : Int64) (c_wellSum : Int64) (c_strongSum : Int64) (c_hash : Int64) (c_came : Nat → Int32) (c_sizes : Nat → Int32) (c_rows : Nat → Int32) {r0 : Int32} {r1 : (Int32)} {r2 : (Int32)} {r3 : (Nat → Int32)} {r4 : (Nat → Int32)} (h : f_X9_lay a0 a1 a2 c_latest c_asked c_came c_sizes c_rows = some (r0, r1, r2, r3, r4)) : gg_C MD_X9_lay [.ref 0, .int a0, .int a1, .int a2] (wd_X9_lay c_latest c_asked c_upper c_lower c_n c_readAt c_readMany c_readFood c_isHead c_backMany c_deedMany c_whole c_wellSum c_strongSum c_hash c_came c_sizes c_rows) (some (.int r0)) (wd_X9_lay r1 r2 c_upper c_lower c_n c_readAt c_readMany c_readFood c_isHead c_backMany c_deedMany c_whole c_wellSum c_strongSum c_hash r3 c_sizes r4) := by
  refine gg_ofG [some (.ref 0), some (.int a0), some (.int a1), some (.int a2), none] (plainFor_of_name (by decide)) (Nat.le_of_ble_eq_true rfl) rfl ?_
  unfold f_X9_lay at h
  refine gg_iload_n dX9_lay_0 rfl ?_
  obtain ⟨v1, hv1, h⟩ := gg_bd h
  refine gg_callS (gg_sg []) [] (wd_X9_lay c_latest c_asked c_upper c_lower c_n c_readAt c_readMany c_readFood c_isHead c_backMany c_deedMany c_whole c_wellSum c_strongSum c_hash c_came c_sizes c_rows) (C_X9_isRow a0 hv1) nS_X9_isRow ml_X9_102 rfl rfl rfl rfl rfl rfl rfl [0, 1, 2, 3] 4 rfl rfl rfl rfl rfl ⟨Nat.le_of_ble_eq_true rfl, Nat.le_of_ble_eq_true rfl⟩ (Nat.le_of_ble_eq_true rfl) dX9_lay_1 [.int v1] rfl ?_
  refine gg_if_ne 9 dX9_lay_4 (by decide) (fun hc => ?_) (fun hc => ?_)
  · replace h := gg_el h hc
    refine gg_aload_n dX9_lay_9 rfl ?_
    refine gg_get 0 fl_X9_17 dX9_lay_10 rfl rfl ?_
    refine gg_iload_n dX9_lay_13 rfl ?_
    obtain ⟨hb14, h⟩ := gg_ck h
    refine gg_iald 2 dX9_lay_14 rfl hb14 ?_
    refine gg_if_ge 24 dX9_lay_15 (by decide) (fun hc => ?_) (fun hc => ?_)
    · replace h := gg_th h hc
      refine gg_iload_n dX9_lay_24 rfl ?_
      refine gg_iconst (0 : Int32) dX9_lay_25 (by decide) ?_
      refine gg_aload_n dX9_lay_26 rfl ?_
      refine gg_get 0 fl_X9_17 dX9_lay_27 rfl rfl ?_
      refine gg_iload_n dX9_lay_30 rfl ?_
      obtain ⟨hb31, h⟩ := gg_ck h
      refine gg_iald 2 dX9_lay_31 rfl hb31 ?_
      refine gg_iconst (1 : Int32) dX9_lay_32 (by decide) ?_
      refine gg_isub dX9_lay_33 ?_
      obtain ⟨v2, hv2, h⟩ := gg_bd h
      refine gg_callS (gg_sg []) [] (wd_X9_lay c_latest c_asked c_upper c_lower c_n c_readAt c_readMany c_readFood c_isHead c_backMany c_deedMany c_whole c_wellSum c_strongSum c_hash c_came c_sizes c_rows) (C_X9_in a1 (0 : Int32) ((c_sizes a0.toNatClampNeg) - (1 : Int32)) hv2) nS_X9_in ml_X9_92 rfl rfl rfl rfl rfl rfl rfl [0, 1, 2, 3] 4 rfl rfl rfl rfl rfl ⟨Nat.le_of_ble_eq_true rfl, Nat.le_of_ble_eq_true rfl⟩ (Nat.le_of_ble_eq_true rfl) dX9_lay_34 [.int v2] rfl ?_
      refine gg_if_ne 46 dX9_lay_37 (by decide) (fun hc => ?_) (fun hc => ?_)
      · replace h := gg_el h hc
        refine gg_aload_n dX9_lay_46 rfl ?_
        refine gg_iload_n dX9_lay_47 rfl ?_
        refine gg_iload_n dX9_lay_48 rfl ?_
        obtain ⟨v3, hv3, h⟩ := gg_bd h
        refine gg_callV (gg_sg [0]) [0, 3] (wd_X9_lay c_latest c_asked c_upper c_lower c_n c_readAt c_readMany c_readFood c_isHead c_backMany c_deedMany c_whole c_wellSum c_strongSum c_hash c_came c_sizes c_rows) 0 (C_X9_rowAt a0 a1 c_latest c_asked c_upper c_lower c_n c_readAt c_readMany c_readFood c_isHead c_backMany c_deedMany c_whole c_wellSum c_strongSum c_hash c_rows hv3) nV_X9_rowAt ml_X9_110 rfl rfl rfl rfl rfl rfl rfl rfl rfl rfl [1, 2] 4 rfl rfl rfl rfl rfl ⟨Nat.le_of_ble_eq_true rfl, Nat.le_of_ble_eq_true rfl⟩ (Nat.le_of_ble_eq_true rfl) dX9_lay_49 [.int v3] rfl ?_
        refine gg_istore [some (.ref 0), some (.int a0), some (.int a1), some (.int a2), some (.int v3)] dX9_lay_52 rfl (Nat.le_of_ble_eq_true rfl) rfl ?_
        refine gg_aload_n dX9_lay_54 rfl ?_
        refine gg_get 0 fl_X9_20 dX9_lay_55 rfl rfl ?_
        refine gg_bipush (40 : Int32) dX9_lay_58 (by decide) ?_
        refine gg_iload_n dX9_lay_60 rfl ?_
        refine gg_imul dX9_lay_61 ?_
        refine gg_iload_n dX9_lay_62 rfl ?_
        refine gg_iadd dX9_lay_63 ?_
        refine gg_iload_n dX9_lay_64 rfl ?_
        obtain ⟨hb65, h⟩ := gg_ck h
        refine gg_iast 3 (wd_X9_lay c_latest c_asked c_upper c_lower c_n c_readAt c_readMany c_readFood c_isHead c_backMany c_deedMany c_whole c_wellSum c_strongSum c_hash c_came c_sizes (upd c_rows (((40 : Int32) * a0) + a1).toNatClampNeg a2)) dX9_lay_65 rfl hb65 rfl ?_
        refine gg_aload_n dX9_lay_66 rfl ?_
        refine gg_iload dX9_lay_67 rfl ?_
        refine gg_iconst (1 : Int32) dX9_lay_69 (by decide) ?_
        obtain ⟨v4_0, v4_1, hv4, h⟩ := gg_bd2 h
        refine gg_callV (gg_sg [0]) [0] (wd_X9_lay c_latest v4_1 c_upper c_lower c_n c_readAt c_readMany c_readFood c_isHead c_backMany c_deedMany c_whole c_wellSum c_strongSum c_hash c_came c_sizes (upd c_rows (((40 : Int32) * a0) + a1).toNatClampNeg a2)) 0 (C_X9_tells v3 (1 : Int32) c_latest c_asked c_upper c_lower c_n c_readAt c_readMany c_readFood c_isHead c_backMany c_deedMany c_whole c_wellSum c_strongSum c_hash hv4) nV_X9_tells ml_X9_114 rfl rfl rfl rfl rfl rfl rfl rfl rfl rfl [1, 2, 3] 4 rfl rfl rfl rfl rfl ⟨Nat.le_of_ble_eq_true rfl, Nat.le_of_ble_eq_true rfl⟩ (Nat.le_of_ble_eq_true rfl) dX9_lay_70 [.int v4_0] rfl ?_
        cases h
        exact gg_iret dX9_lay_73 rfl
      · replace h := gg_th h hc
        refine gg_aload_n dX9_lay_40 rfl ?_
        refine gg_iconst (2 : Int32) dX9_lay_41 (by decide) ?_
        obtain ⟨v5_0, v5_1, v5_2, hv5, h⟩ := gg_bd3 h
        refine gg_callV (gg_sg [0]) [0, 1] (wd_X9_lay v5_1 c_asked c_upper c_lower c_n c_readAt c_readMany c_readFood c_isHead c_backMany c_deedMany c_whole c_wellSum c_strongSum c_hash v5_2 c_sizes c_rows) 0 (C_X9_meets (2 : Int32) c_latest c_asked c_upper c_lower c_n c_readAt c_readMany c_readFood c_isHead c_backMany c_deedMany c_whole c_wellSum c_strongSum c_hash c_came hv5) nV_X9_meets ml_X9_106 rfl rfl rfl rfl rfl rfl rfl rfl rfl rfl [2, 3] 4 rfl rfl rfl rfl rfl ⟨Nat.le_of_ble_eq_true rfl, Nat.le_of_ble_eq_true rfl⟩ (Nat.le_of_ble_eq_true rfl) dX9_lay_42 [.int v5_0] rfl ?_
        cases h
        exact gg_iret dX9_lay_45 rfl
    · replace h := gg_el h hc
      refine gg_aload_n dX9_lay_18 rfl ?_
      refine gg_iconst (1 : Int32) dX9_lay_19 (by decide) ?_
      obtain ⟨v6_0, v6_1, v6_2, hv6, h⟩ := gg_bd3 h
      refine gg_callV (gg_sg [0]) [0, 1] (wd_X9_lay v6_1 c_asked c_upper c_lower c_n c_readAt c_readMany c_readFood c_isHead c_backMany c_deedMany c_whole c_wellSum c_strongSum c_hash v6_2 c_sizes c_rows) 0 (C_X9_meets (1 : Int32) c_latest c_asked c_upper c_lower c_n c_readAt c_readMany c_readFood c_isHead c_backMany c_deedMany c_whole c_wellSum c_strongSum c_hash c_came hv6) nV_X9_meets ml_X9_106 rfl rfl rfl rfl rfl rfl rfl rfl rfl rfl [2, 3] 4 rfl rfl rfl rfl rfl ⟨Nat.le_of_ble_eq_true rfl, Nat.le_of_ble_eq_true rfl⟩ (Nat.le_of_ble_eq_true rfl) dX9_lay_20 [.int v6_0] rfl ?_
      cases h
      exact gg_iret dX9_lay_23 rfl
  · replace h := gg_th h hc
    refine gg_iconst (-1 : Int32) dX9_lay_7 (by decide) ?_
    cases h
    exact gg_iret dX9_lay_8 rfl
def wd_X9_at (c_latest : Int32) (c_asked : Int32) (c_upper : Int64) (c_lower : Int64) (c_n : Int32) (c_readAt : Int32) (c_readMany : Int32) (c_readFood : Int32) (c_isHead : Int32) (c_backMany : Int32) (c_deedMany : Int32) (c_whole : Int64) (c_wellSum : Int64) (c_strongSum : Int64) (c_hash : Int64) (c_came : Nat → Int32) (c_sizes : Nat → Int32) (c_rows : Nat → Int32) : va_W := [(0, .inr (8, [.int c_latest, .ref 1, .int c_asked, .long c_upper, .long c_lower, .ref 2, .ref 3, .ref 4, .ref 5, .ref 6, .int c_n, .ref 7, .ref 8, .ref 9, .ref 10, .int c_readAt, .int c_readMany, .int c_readFood, .int c_isHead, .ref 11, .ref 12, .ref 13, .int c_backMany, .int c_deedMany, .ref 14, .ref 15, .ref 16, .ref 17, .ref 18, .ref 19, .ref 20, .ref 21, .ref 22, .ref 23, .ref 24, .long c_whole, .long c_wellSum, .long c_strongSum, .long c_hash])), (1, .inl (0, 6, .inl c_came)), (2, .inl (0, 6, .inl c_sizes)), (3, .inl (0, 240, .inl c_rows))]
def MD_X9_at : gg_M := (yX9_at, cX9_at, 3, some .int, 2, 42)
theorem nV_X9_at : gg_nV MD_X9_at 2 := ⟨⟨gg_mem (by decide +kernel) rfl, gg_mem cw_X9_at rfl, by decide, by decide, by decide +kernel⟩, gg_mem (by decide +kernel) rfl, gg_mem (by decide +kernel) rfl⟩
def f_X9_at (a0 : Int32) (a1 : Int32) (c_latest : Int32) (c_asked : Int32) (c_came : Nat → Int32) (c_sizes : Nat → Int32) (c_rows : Nat → Int32) : Option (Int32 × (Int32) × (Int32) × (Nat → Int32)) := (f_X9_isRow a0).bind (fun v1 => (if v1 = (0 : Int32) then (some ((-1 : Int32), c_latest, c_asked, c_came)) else gg_chk (gg_in a0 6) ((if (0 : Int32) ≤ (c_sizes a0.toNatClampNeg) then gg_chk (gg_in a0 6) ((f_X9_in a1 (0 : Int32) ((c_sizes a0.toNatClampNeg) - (1 : Int32))).bind (fun v2 => gg_lt (fun (s0_59 : Int32) (c_latest_59 : Int32) (c_asked_59 : Int32) (c_came_59 : Nat → Int32) => (some (s0_59, c_latest_59, c_asked_59, c_came_59))) (fun k59 => (if v2 = (0 : Int32) then gg_b3 (f_X9_meets (2 : Int32) c_latest c_came) (fun v3_0 v3_1 v3_2 => (k59 v3_0 v3_1 c_asked v3_2)) else (f_X9_rowAt a0 a1 c_rows).bind (fun v4 => gg_b2 (f_X9_tells v4 (1 : Int32) c_asked) (fun v5_0 v5_1 => (k59 v5_0 c_latest v5_1 c_came))))))) else gg_b3 (f_X9_meets (1 : Int32) c_latest c_came) (fun v6_0 v6_1 v6_2 => (some (v6_0, v6_1, c_asked, v6_2)))))))
set_option maxRecDepth 20000 in
set_option maxHeartbeats 8000000 in
theorem C_X9_at (a0 : Int32) (a1 : Int32) (c_latest : Int32) (c_asked : Int32) (c_upper : Int64) (c_lower : Int64) (c_n : Int32) (c_readAt : Int32) (c_readMany : Int32) (c_readFood : Int32) (c_isHead : Int32) (c_backMany : Int32) (c_deedMany : Int32) (c_whole : Int64) (c_wellSum : Int64) (c_strongSum : Int64) (c_hash : Int64) (c_came : Nat → Int32) (c_sizes : Nat → Int32) (c_rows : Nat → Int32) {r0 : Int32} {r1 : (Int32)} {r2 : (Int32)} {r3 : (Nat → Int32)} (h : f_X9_at a0 a1 c_latest c_asked c_came c_sizes c_rows = some (r0, r1, r2, r3)) : gg_C MD_X9_at [.ref 0, .int a0, .int a1] (wd_X9_at c_latest c_asked c_upper c_lower c_n c_readAt c_readMany c_readFood c_isHead c_backMany c_deedMany c_whole c_wellSum c_strongSum c_hash c_came c_sizes c_rows) (some (.int r0)) (wd_X9_at r1 r2 c_upper c_lower c_n c_readAt c_readMany c_readFood c_isHead c_backMany c_deedMany c_whole c_wellSum c_strongSum c_hash r3 c_sizes c_rows) := by
  refine gg_ofG [some (.ref 0), some (.int a0), some (.int a1)] (plainFor_of_name (by decide)) (Nat.le_of_ble_eq_true rfl) rfl ?_
  unfold f_X9_at at h
  refine gg_iload_n dX9_at_0 rfl ?_
  obtain ⟨v1, hv1, h⟩ := gg_bd h
  refine gg_callS (gg_sg []) [] (wd_X9_at c_latest c_asked c_upper c_lower c_n c_readAt c_readMany c_readFood c_isHead c_backMany c_deedMany c_whole c_wellSum c_strongSum c_hash c_came c_sizes c_rows) (C_X9_isRow a0 hv1) nS_X9_isRow ml_X9_102 rfl rfl rfl rfl rfl rfl rfl [0, 1, 2, 3] 4 rfl rfl rfl rfl rfl ⟨Nat.le_of_ble_eq_true rfl, Nat.le_of_ble_eq_true rfl⟩ (Nat.le_of_ble_eq_true rfl) dX9_at_1 [.int v1] rfl ?_
  refine gg_if_ne 9 dX9_at_4 (by decide) (fun hc => ?_) (fun hc => ?_)
  · replace h := gg_el h hc
    refine gg_aload_n dX9_at_9 rfl ?_
    refine gg_get 0 fl_X9_17 dX9_at_10 rfl rfl ?_
    refine gg_iload_n dX9_at_13 rfl ?_
    obtain ⟨hb14, h⟩ := gg_ck h
    refine gg_iald 2 dX9_at_14 rfl hb14 ?_
    refine gg_if_ge 24 dX9_at_15 (by decide) (fun hc => ?_) (fun hc => ?_)
    · replace h := gg_th h hc
      refine gg_iload_n dX9_at_24 rfl ?_
      refine gg_iconst (0 : Int32) dX9_at_25 (by decide) ?_
      refine gg_aload_n dX9_at_26 rfl ?_
      refine gg_get 0 fl_X9_17 dX9_at_27 rfl rfl ?_
      refine gg_iload_n dX9_at_30 rfl ?_
      obtain ⟨hb31, h⟩ := gg_ck h
      refine gg_iald 2 dX9_at_31 rfl hb31 ?_
      refine gg_iconst (1 : Int32) dX9_at_32 (by decide) ?_
      refine gg_isub dX9_at_33 ?_
      obtain ⟨v2, hv2, h⟩ := gg_bd h
      refine gg_callS (gg_sg []) [] (wd_X9_at c_latest c_asked c_upper c_lower c_n c_readAt c_readMany c_readFood c_isHead c_backMany c_deedMany c_whole c_wellSum c_strongSum c_hash c_came c_sizes c_rows) (C_X9_in a1 (0 : Int32) ((c_sizes a0.toNatClampNeg) - (1 : Int32)) hv2) nS_X9_in ml_X9_92 rfl rfl rfl rfl rfl rfl rfl [0, 1, 2, 3] 4 rfl rfl rfl rfl rfl ⟨Nat.le_of_ble_eq_true rfl, Nat.le_of_ble_eq_true rfl⟩ (Nat.le_of_ble_eq_true rfl) dX9_at_34 [.int v2] rfl ?_
      obtain ⟨k59, hke59, h⟩ := gg_lte h
      have hk59 : ∀ (s0_59 : Int32) (c_latest_59 : Int32) (c_asked_59 : Int32) (c_came_59 : Nat → Int32), k59 s0_59 c_latest_59 c_asked_59 c_came_59 = some (r0, r1, r2, r3) → gg_G MD_X9_at 59 [none, none, none] [.int s0_59] (wd_X9_at c_latest_59 c_asked_59 c_upper c_lower c_n c_readAt c_readMany c_readFood c_isHead c_backMany c_deedMany c_whole c_wellSum c_strongSum c_hash c_came_59 c_sizes c_rows) (some (.int r0)) (wd_X9_at r1 r2 c_upper c_lower c_n c_readAt c_readMany c_readFood c_isHead c_backMany c_deedMany c_whole c_wellSum c_strongSum c_hash r3 c_sizes c_rows) := by
        intro s0_59 c_latest_59 c_asked_59 c_came_59 h
        subst hke59
        cases h
        exact gg_iret dX9_at_59 rfl
      clear hke59
      refine gg_if_eq 54 dX9_at_37 (by decide) (fun hc => ?_) (fun hc => ?_)
      · replace h := gg_th h hc
        refine gg_aload_n dX9_at_54 rfl ?_
        refine gg_iconst (2 : Int32) dX9_at_55 (by decide) ?_
        obtain ⟨v3_0, v3_1, v3_2, hv3, h⟩ := gg_bd3 h
        refine gg_callV (gg_sg [0]) [0, 1] (wd_X9_at v3_1 c_asked c_upper c_lower c_n c_readAt c_readMany c_readFood c_isHead c_backMany c_deedMany c_whole c_wellSum c_strongSum c_hash v3_2 c_sizes c_rows) 0 (C_X9_meets (2 : Int32) c_latest c_asked c_upper c_lower c_n c_readAt c_readMany c_readFood c_isHead c_backMany c_deedMany c_whole c_wellSum c_strongSum c_hash c_came hv3) nV_X9_meets ml_X9_106 rfl rfl rfl rfl rfl rfl rfl rfl rfl rfl [2, 3] 4 rfl rfl rfl rfl rfl ⟨Nat.le_of_ble_eq_true rfl, Nat.le_of_ble_eq_true rfl⟩ (Nat.le_of_ble_eq_true rfl) dX9_at_56 [.int v3_0] rfl ?_
        refine gg_fg [false, false, false] [none, none, none] rfl ?_
        exact hk59 v3_0 v3_1 c_asked v3_2 h
      · replace h := gg_el h hc
        refine gg_aload_n dX9_at_40 rfl ?_
        refine gg_aload_n dX9_at_41 rfl ?_
        refine gg_iload_n dX9_at_42 rfl ?_
        refine gg_iload_n dX9_at_43 rfl ?_
        obtain ⟨v4, hv4, h⟩ := gg_bd h
        refine gg_callV (gg_sg [0]) [0, 3] (wd_X9_at c_latest c_asked c_upper c_lower c_n c_readAt c_readMany c_readFood c_isHead c_backMany c_deedMany c_whole c_wellSum c_strongSum c_hash c_came c_sizes c_rows) 0 (C_X9_rowAt a0 a1 c_latest c_asked c_upper c_lower c_n c_readAt c_readMany c_readFood c_isHead c_backMany c_deedMany c_whole c_wellSum c_strongSum c_hash c_rows hv4) nV_X9_rowAt ml_X9_110 rfl rfl rfl rfl rfl rfl rfl rfl rfl rfl [1, 2] 4 rfl rfl rfl rfl rfl ⟨Nat.le_of_ble_eq_true rfl, Nat.le_of_ble_eq_true rfl⟩ (Nat.le_of_ble_eq_true rfl) dX9_at_44 [.int v4, .ref 0] rfl ?_
        refine gg_iconst (1 : Int32) dX9_at_47 (by decide) ?_
        obtain ⟨v5_0, v5_1, hv5, h⟩ := gg_bd2 h
        refine gg_callV (gg_sg [0]) [0] (wd_X9_at c_latest v5_1 c_upper c_lower c_n c_readAt c_readMany c_readFood c_isHead c_backMany c_deedMany c_whole c_wellSum c_strongSum c_hash c_came c_sizes c_rows) 0 (C_X9_tells v4 (1 : Int32) c_latest c_asked c_upper c_lower c_n c_readAt c_readMany c_readFood c_isHead c_backMany c_deedMany c_whole c_wellSum c_strongSum c_hash hv5) nV_X9_tells ml_X9_114 rfl rfl rfl rfl rfl rfl rfl rfl rfl rfl [1, 2, 3] 4 rfl rfl rfl rfl rfl ⟨Nat.le_of_ble_eq_true rfl, Nat.le_of_ble_eq_true rfl⟩ (Nat.le_of_ble_eq_true rfl) dX9_at_48 [.int v5_0] rfl ?_
        refine gg_goto 59 dX9_at_51 (by decide) ?_
        refine gg_fg [false, false, false] [none, none, none] rfl ?_
        exact hk59 v5_0 c_latest v5_1 c_came h
    · replace h := gg_el h hc
      refine gg_aload_n dX9_at_18 rfl ?_
      refine gg_iconst (1 : Int32) dX9_at_19 (by decide) ?_
      obtain ⟨v6_0, v6_1, v6_2, hv6, h⟩ := gg_bd3 h
      refine gg_callV (gg_sg [0]) [0, 1] (wd_X9_at v6_1 c_asked c_upper c_lower c_n c_readAt c_readMany c_readFood c_isHead c_backMany c_deedMany c_whole c_wellSum c_strongSum c_hash v6_2 c_sizes c_rows) 0 (C_X9_meets (1 : Int32) c_latest c_asked c_upper c_lower c_n c_readAt c_readMany c_readFood c_isHead c_backMany c_deedMany c_whole c_wellSum c_strongSum c_hash c_came hv6) nV_X9_meets ml_X9_106 rfl rfl rfl rfl rfl rfl rfl rfl rfl rfl [2, 3] 4 rfl rfl rfl rfl rfl ⟨Nat.le_of_ble_eq_true rfl, Nat.le_of_ble_eq_true rfl⟩ (Nat.le_of_ble_eq_true rfl) dX9_at_20 [.int v6_0] rfl ?_
      cases h
      exact gg_iret dX9_at_23 rfl
  · replace h := gg_th h hc
    refine gg_iconst (-1 : Int32) dX9_at_7 (by decide) ?_
    cases h
    exact gg_iret dX9_at_8 rfl
def wd_X9_tear (c_latest : Int32) (c_asked : Int32) (c_upper : Int64) (c_lower : Int64) (c_n : Int32) (c_readAt : Int32) (c_readMany : Int32) (c_readFood : Int32) (c_isHead : Int32) (c_backMany : Int32) (c_deedMany : Int32) (c_whole : Int64) (c_wellSum : Int64) (c_strongSum : Int64) (c_hash : Int64) (c_came : Nat → Int32) (c_sizes : Nat → Int32) : va_W := [(0, .inr (8, [.int c_latest, .ref 1, .int c_asked, .long c_upper, .long c_lower, .ref 2, .ref 3, .ref 4, .ref 5, .ref 6, .int c_n, .ref 7, .ref 8, .ref 9, .ref 10, .int c_readAt, .int c_readMany, .int c_readFood, .int c_isHead, .ref 11, .ref 12, .ref 13, .int c_backMany, .int c_deedMany, .ref 14, .ref 15, .ref 16, .ref 17, .ref 18, .ref 19, .ref 20, .ref 21, .ref 22, .ref 23, .ref 24, .long c_whole, .long c_wellSum, .long c_strongSum, .long c_hash])), (1, .inl (0, 6, .inl c_came)), (2, .inl (0, 6, .inl c_sizes))]
def MD_X9_tear : gg_M := (yX9_tear, cX9_tear, 2, some .int, 2, 42)
theorem nV_X9_tear : gg_nV MD_X9_tear 1 := ⟨⟨gg_mem (by decide +kernel) rfl, gg_mem cw_X9_tear rfl, by decide, by decide, by decide +kernel⟩, gg_mem (by decide +kernel) rfl, gg_mem (by decide +kernel) rfl⟩
def f_X9_tear (a0 : Int32) (c_latest : Int32) (c_came : Nat → Int32) (c_sizes : Nat → Int32) : Option (Int32 × (Int32) × (Nat → Int32) × (Nat → Int32)) := (f_X9_isRow a0).bind (fun v1 => (if v1 = (0 : Int32) then (some ((-1 : Int32), c_latest, c_came, c_sizes)) else gg_chk (gg_in a0 6) ((if (0 : Int32) ≤ (c_sizes a0.toNatClampNeg) then gg_chk (gg_in a0 6) ((some ((1 : Int32), c_latest, c_came, (upd c_sizes a0.toNatClampNeg (-1 : Int32))))) else gg_b3 (f_X9_meets (1 : Int32) c_latest c_came) (fun v2_0 v2_1 v2_2 => (some (v2_0, v2_1, v2_2, c_sizes)))))))
set_option maxRecDepth 20000 in
set_option maxHeartbeats 8000000 in
theorem C_X9_tear (a0 : Int32) (c_latest : Int32) (c_asked : Int32) (c_upper : Int64) (c_lower : Int64) (c_n : Int32) (c_readAt : Int32) (c_readMany : Int32) (c_readFood : Int32) (c_isHead : Int32) (c_backMany : Int32) (c_deedMany : Int32) (c_whole : Int64) (c_wellSum : Int64) (c_strongSum : Int64) (c_hash : Int64) (c_came : Nat → Int32) (c_sizes : Nat → Int32) {r0 : Int32} {r1 : (Int32)} {r2 : (Nat → Int32)} {r3 : (Nat → Int32)} (h : f_X9_tear a0 c_latest c_came c_sizes = some (r0, r1, r2, r3)) : gg_C MD_X9_tear [.ref 0, .int a0] (wd_X9_tear c_latest c_asked c_upper c_lower c_n c_readAt c_readMany c_readFood c_isHead c_backMany c_deedMany c_whole c_wellSum c_strongSum c_hash c_came c_sizes) (some (.int r0)) (wd_X9_tear r1 c_asked c_upper c_lower c_n c_readAt c_readMany c_readFood c_isHead c_backMany c_deedMany c_whole c_wellSum c_strongSum c_hash r2 r3) := by
  refine gg_ofG [some (.ref 0), some (.int a0)] (plainFor_of_name (by decide)) (Nat.le_of_ble_eq_true rfl) rfl ?_
  unfold f_X9_tear at h
  refine gg_iload_n dX9_tear_0 rfl ?_
  obtain ⟨v1, hv1, h⟩ := gg_bd h
  refine gg_callS (gg_sg []) [] (wd_X9_tear c_latest c_asked c_upper c_lower c_n c_readAt c_readMany c_readFood c_isHead c_backMany c_deedMany c_whole c_wellSum c_strongSum c_hash c_came c_sizes) (C_X9_isRow a0 hv1) nS_X9_isRow ml_X9_102 rfl rfl rfl rfl rfl rfl rfl [0, 1, 2] 3 rfl rfl rfl rfl rfl ⟨Nat.le_of_ble_eq_true rfl, Nat.le_of_ble_eq_true rfl⟩ (Nat.le_of_ble_eq_true rfl) dX9_tear_1 [.int v1] rfl ?_
  refine gg_if_ne 9 dX9_tear_4 (by decide) (fun hc => ?_) (fun hc => ?_)
  · replace h := gg_el h hc
    refine gg_aload_n dX9_tear_9 rfl ?_
    refine gg_get 0 fl_X9_17 dX9_tear_10 rfl rfl ?_
    refine gg_iload_n dX9_tear_13 rfl ?_
    obtain ⟨hb14, h⟩ := gg_ck h
    refine gg_iald 2 dX9_tear_14 rfl hb14 ?_
    refine gg_if_ge 24 dX9_tear_15 (by decide) (fun hc => ?_) (fun hc => ?_)
    · replace h := gg_th h hc
      refine gg_aload_n dX9_tear_24 rfl ?_
      refine gg_get 0 fl_X9_17 dX9_tear_25 rfl rfl ?_
      refine gg_iload_n dX9_tear_28 rfl ?_
      refine gg_iconst (-1 : Int32) dX9_tear_29 (by decide) ?_
      obtain ⟨hb30, h⟩ := gg_ck h
      refine gg_iast 2 (wd_X9_tear c_latest c_asked c_upper c_lower c_n c_readAt c_readMany c_readFood c_isHead c_backMany c_deedMany c_whole c_wellSum c_strongSum c_hash c_came (upd c_sizes a0.toNatClampNeg (-1 : Int32))) dX9_tear_30 rfl hb30 rfl ?_
      refine gg_iconst (1 : Int32) dX9_tear_31 (by decide) ?_
      cases h
      exact gg_iret dX9_tear_32 rfl
    · replace h := gg_el h hc
      refine gg_aload_n dX9_tear_18 rfl ?_
      refine gg_iconst (1 : Int32) dX9_tear_19 (by decide) ?_
      obtain ⟨v2_0, v2_1, v2_2, hv2, h⟩ := gg_bd3 h
      refine gg_callV (gg_sg [0]) [0, 1] (wd_X9_tear v2_1 c_asked c_upper c_lower c_n c_readAt c_readMany c_readFood c_isHead c_backMany c_deedMany c_whole c_wellSum c_strongSum c_hash v2_2 c_sizes) 0 (C_X9_meets (1 : Int32) c_latest c_asked c_upper c_lower c_n c_readAt c_readMany c_readFood c_isHead c_backMany c_deedMany c_whole c_wellSum c_strongSum c_hash c_came hv2) nV_X9_meets ml_X9_106 rfl rfl rfl rfl rfl rfl rfl rfl rfl rfl [2] 3 rfl rfl rfl rfl rfl ⟨Nat.le_of_ble_eq_true rfl, Nat.le_of_ble_eq_true rfl⟩ (Nat.le_of_ble_eq_true rfl) dX9_tear_20 [.int v2_0] rfl ?_
      cases h
      exact gg_iret dX9_tear_23 rfl
  · replace h := gg_th h hc
    refine gg_iconst (-1 : Int32) dX9_tear_7 (by decide) ?_
    cases h
    exact gg_iret dX9_tear_8 rfl
def wd_X9_copy (c_latest : Int32) (c_asked : Int32) (c_upper : Int64) (c_lower : Int64) (c_n : Int32) (c_readAt : Int32) (c_readMany : Int32) (c_readFood : Int32) (c_isHead : Int32) (c_backMany : Int32) (c_deedMany : Int32) (c_whole : Int64) (c_wellSum : Int64) (c_strongSum : Int64) (c_hash : Int64) (c_came : Nat → Int32) (c_sizes : Nat → Int32) (c_rows : Nat → Int32) (c_copied : Nat → Int32) : va_W := [(0, .inr (8, [.int c_latest, .ref 1, .int c_asked, .long c_upper, .long c_lower, .ref 2, .ref 3, .ref 4, .ref 5, .ref 6, .int c_n, .ref 7, .ref 8, .ref 9, .ref 10, .int c_readAt, .int c_readMany, .int c_readFood, .int c_isHead, .ref 11, .ref 12, .ref 13, .int c_backMany, .int c_deedMany, .ref 14, .ref 15, .ref 16, .ref 17, .ref 18, .ref 19, .ref 20, .ref 21, .ref 22, .ref 23, .ref 24, .long c_whole, .long c_wellSum, .long c_strongSum, .long c_hash])), (1, .inl (0, 6, .inl c_came)), (2, .inl (0, 6, .inl c_sizes)), (3, .inl (0, 240, .inl c_rows)), (4, .inl (0, 40, .inl c_copied))]
def MD_X9_copy : gg_M := (yX9_copy, cX9_copy, 7, some .int, 2, 42)
theorem nV_X9_copy : gg_nV MD_X9_copy 5 := ⟨⟨gg_mem (by decide +kernel) rfl, gg_mem cw_X9_copy rfl, by decide, by decide, by decide +kernel⟩, gg_mem (by decide +kernel) rfl, gg_mem (by decide +kernel) rfl⟩
def lp_X9_copy_104 {β : Type} (y1 : Int32) (y2 : Int32) (y5 : Int32) (c_rows : Nat → Int32) (k133 : (Nat → Int32) → Option β) : Nat → (Int32) → (Nat → Int32) → Option β
  | 0, _, _ => none
  | n + 1, x6_104, c_copied_104 => (if y5 ≤ x6_104 then (k133 c_copied_104) else (f_X9_rowAt y1 (y2 + x6_104) c_rows).bind (fun v5 => gg_chk (gg_in x6_104 40) ((lp_X9_copy_104 y1 y2 y5 c_rows k133 n (x6_104 + (1 : Int32)) (upd c_copied_104 x6_104.toNatClampNeg v5)))))
def lp_X9_copy_136 {β : Type} (y3 : Int32) (y4 : Int32) (y5 : Int32) (c_copied : Nat → Int32) (k171 : (Nat → Int32) → Option β) : Nat → (Int32) → (Nat → Int32) → Option β
  | 0, _, _ => none
  | n + 1, x6_136, c_rows_136 => (if y5 ≤ x6_136 then (k171 c_rows_136) else gg_chk (gg_in x6_136 40) (gg_chk (gg_in ((((40 : Int32) * y3) + y4) + x6_136) 240) ((lp_X9_copy_136 y3 y4 y5 c_copied k171 n (x6_136 + (1 : Int32)) (upd c_rows_136 ((((40 : Int32) * y3) + y4) + x6_136).toNatClampNeg (c_copied x6_136.toNatClampNeg))))))
def f_X9_copy (a0 : Int32) (a1 : Int32) (a2 : Int32) (a3 : Int32) (a4 : Int32) (c_latest : Int32) (c_came : Nat → Int32) (c_sizes : Nat → Int32) (c_rows : Nat → Int32) (c_copied : Nat → Int32) : Option (Int32 × (Int32) × (Nat → Int32) × (Nat → Int32) × (Nat → Int32)) := (f_X9_isRow a0).bind (fun v1 => gg_lt ((some ((-1 : Int32), c_latest, c_came, c_rows, c_copied))) (fun k14 => (if v1 = (0 : Int32) then k14 else (f_X9_isRow a2).bind (fun v2 => (if v2 = (0 : Int32) then k14 else (if (0 : Int32) ≤ a4 then gg_chk (gg_in a0 6) (gg_lt (gg_b3 (f_X9_meets (1 : Int32) c_latest c_came) (fun v3_0 v3_1 v3_2 => (some (v3_0, v3_1, v3_2, c_rows, c_copied)))) (fun k45 => (if (c_sizes a0.toNatClampNeg) < (0 : Int32) then k45 else gg_chk (gg_in a2 6) ((if (0 : Int32) ≤ (c_sizes a2.toNatClampNeg) then gg_lt (gg_b3 (f_X9_meets (2 : Int32) c_latest c_came) (fun v4_0 v4_1 v4_2 => (some (v4_0, v4_1, v4_2, c_rows, c_copied)))) (fun k95 => (if a1 < (0 : Int32) then k95 else (if a3 < (0 : Int32) then k95 else gg_chk (gg_in a0 6) ((if (0 : Int32) < (lg_cmp ((a1.toInt64) + (a4.toInt64)) ((c_sizes a0.toNatClampNeg).toInt64)) then k95 else gg_chk (gg_in a2 6) ((if (lg_cmp ((a3.toInt64) + (a4.toInt64)) ((c_sizes a2.toNatClampNeg).toInt64)) ≤ (0 : Int32) then (lp_X9_copy_104 a0 a1 a4 c_rows (fun (c_copied_133 : Nat → Int32) => (lp_X9_copy_136 a2 a3 a4 c_copied_133 (fun (c_rows_171 : Nat → Int32) => (some ((1 : Int32), c_latest, c_came, c_rows_171, c_copied_133))) gg_fuel (0 : Int32) c_rows)) gg_fuel (0 : Int32) c_copied) else k95))))))) else k45))))) else gg_b3 (f_X9_meets (5 : Int32) c_latest c_came) (fun v6_0 v6_1 v6_2 => (some (v6_0, v6_1, v6_2, c_rows, c_copied)))))))))
set_option maxRecDepth 20000 in
set_option maxHeartbeats 4000000 in
theorem lq_X9_copy_104 {β : Type} {res : β} {rr : Option Value} {ww : va_W} (y1 : Int32) (y2 : Int32) (y3 : Int32) (y4 : Int32) (y5 : Int32) (c_latest : Int32) (c_asked : Int32) (c_upper : Int64) (c_lower : Int64) (c_n : Int32) (c_readAt : Int32) (c_readMany : Int32) (c_readFood : Int32) (c_isHead : Int32) (c_backMany : Int32) (c_deedMany : Int32) (c_whole : Int64) (c_wellSum : Int64) (c_strongSum : Int64) (c_hash : Int64) (c_came : Nat → Int32) (c_sizes : Nat → Int32) (c_rows : Nat → Int32) (k133 : (Nat → Int32) → Option β) (hk133 : ∀ (c_copied_133 : Nat → Int32), k133 c_copied_133 = some res → gg_G MD_X9_copy 133 [some (.ref 0), none, none, some (.int y3), some (.int y4), some (.int y5), none] [] (wd_X9_copy c_latest c_asked c_upper c_lower c_n c_readAt c_readMany c_readFood c_isHead c_backMany c_deedMany c_whole c_wellSum c_strongSum c_hash c_came c_sizes c_rows c_copied_133) rr ww) : ∀ (n : Nat) (x6_104 : Int32) (c_copied_104 : Nat → Int32), lp_X9_copy_104 y1 y2 y5 c_rows k133 n x6_104 c_copied_104 = some res → gg_G MD_X9_copy 104 [some (.ref 0), some (.int y1), some (.int y2), some (.int y3), some (.int y4), some (.int y5), some (.int x6_104)] [] (wd_X9_copy c_latest c_asked c_upper c_lower c_n c_readAt c_readMany c_readFood c_isHead c_backMany c_deedMany c_whole c_wellSum c_strongSum c_hash c_came c_sizes c_rows c_copied_104) rr ww := by
  intro n
  induction n with
  | zero =>
    intro x6_104 c_copied_104 h
    exact nomatch (show (none : Option β) = some res from h)
  | succ n ih =>
    intro x6_104 c_copied_104 h
    rw [lp_X9_copy_104] at h
    refine gg_iload dX9_copy_104 rfl ?_
    refine gg_iload dX9_copy_106 rfl ?_
    refine gg_icmp_ge 133 dX9_copy_108 (by decide) (fun hc => ?_) (fun hc => ?_)
    · replace h := gg_th h hc
      refine gg_fg [true, false, false, true, true, true, false] [some (.ref 0), none, none, some (.int y3), some (.int y4), some (.int y5), none] rfl ?_
      exact hk133 c_copied_104 h
    · replace h := gg_el h hc
      refine gg_aload_n dX9_copy_111 rfl ?_
      refine gg_get 0 fl_X9_23 dX9_copy_112 rfl rfl ?_
      refine gg_iload dX9_copy_115 rfl ?_
      refine gg_aload_n dX9_copy_117 rfl ?_
      refine gg_iload_n dX9_copy_118 rfl ?_
      refine gg_iload_n dX9_copy_119 rfl ?_
      refine gg_iload dX9_copy_120 rfl ?_
      refine gg_iadd dX9_copy_122 ?_
      obtain ⟨v5, hv5, h⟩ := gg_bd h
      refine gg_callV (gg_sg [0]) [0, 3] (wd_X9_copy c_latest c_asked c_upper c_lower c_n c_readAt c_readMany c_readFood c_isHead c_backMany c_deedMany c_whole c_wellSum c_strongSum c_hash c_came c_sizes c_rows c_copied_104) 0 (C_X9_rowAt y1 (y2 + x6_104) c_latest c_asked c_upper c_lower c_n c_readAt c_readMany c_readFood c_isHead c_backMany c_deedMany c_whole c_wellSum c_strongSum c_hash c_rows hv5) nV_X9_rowAt ml_X9_110 rfl rfl rfl rfl rfl rfl rfl rfl rfl rfl [1, 2, 4] 5 rfl rfl rfl rfl rfl ⟨Nat.le_of_ble_eq_true rfl, Nat.le_of_ble_eq_true rfl⟩ (Nat.le_of_ble_eq_true rfl) dX9_copy_123 [.int v5, .int x6_104, .ref 4] rfl ?_
      obtain ⟨hb126, h⟩ := gg_ck h
      refine gg_iast 4 (wd_X9_copy c_latest c_asked c_upper c_lower c_n c_readAt c_readMany c_readFood c_isHead c_backMany c_deedMany c_whole c_wellSum c_strongSum c_hash c_came c_sizes c_rows (upd c_copied_104 x6_104.toNatClampNeg v5)) dX9_copy_126 rfl hb126 rfl ?_
      refine gg_iinc (x6_104 + (1 : Int32)) [some (.ref 0), some (.int y1), some (.int y2), some (.int y3), some (.int y4), some (.int y5), some (.int (x6_104 + (1 : Int32)))] dX9_copy_127 rfl rfl rfl (Nat.le_of_ble_eq_true rfl) rfl ?_
      refine gg_goto 104 dX9_copy_130 (by decide) ?_
      exact ih (x6_104 + (1 : Int32)) (upd c_copied_104 x6_104.toNatClampNeg v5) h
set_option maxRecDepth 20000 in
set_option maxHeartbeats 4000000 in
theorem lq_X9_copy_136 {β : Type} {res : β} {rr : Option Value} {ww : va_W} (y3 : Int32) (y4 : Int32) (y5 : Int32) (c_latest : Int32) (c_asked : Int32) (c_upper : Int64) (c_lower : Int64) (c_n : Int32) (c_readAt : Int32) (c_readMany : Int32) (c_readFood : Int32) (c_isHead : Int32) (c_backMany : Int32) (c_deedMany : Int32) (c_whole : Int64) (c_wellSum : Int64) (c_strongSum : Int64) (c_hash : Int64) (c_came : Nat → Int32) (c_sizes : Nat → Int32) (c_copied : Nat → Int32) (k171 : (Nat → Int32) → Option β) (hk171 : ∀ (c_rows_171 : Nat → Int32), k171 c_rows_171 = some res → gg_G MD_X9_copy 171 [none, none, none, none, none, none, none] [] (wd_X9_copy c_latest c_asked c_upper c_lower c_n c_readAt c_readMany c_readFood c_isHead c_backMany c_deedMany c_whole c_wellSum c_strongSum c_hash c_came c_sizes c_rows_171 c_copied) rr ww) : ∀ (n : Nat) (x6_136 : Int32) (c_rows_136 : Nat → Int32), lp_X9_copy_136 y3 y4 y5 c_copied k171 n x6_136 c_rows_136 = some res → gg_G MD_X9_copy 136 [some (.ref 0), none, none, some (.int y3), some (.int y4), some (.int y5), some (.int x6_136)] [] (wd_X9_copy c_latest c_asked c_upper c_lower c_n c_readAt c_readMany c_readFood c_isHead c_backMany c_deedMany c_whole c_wellSum c_strongSum c_hash c_came c_sizes c_rows_136 c_copied) rr ww := by
  intro n
  induction n with
  | zero =>
    intro x6_136 c_rows_136 h
    exact nomatch (show (none : Option β) = some res from h)
  | succ n ih =>
    intro x6_136 c_rows_136 h
    rw [lp_X9_copy_136] at h
    refine gg_iload dX9_copy_136 rfl ?_
    refine gg_iload dX9_copy_138 rfl ?_
    refine gg_icmp_ge 171 dX9_copy_140 (by decide) (fun hc => ?_) (fun hc => ?_)
    · replace h := gg_th h hc
      refine gg_fg [false, false, false, false, false, false, false] [none, none, none, none, none, none, none] rfl ?_
      exact hk171 c_rows_136 h
    · replace h := gg_el h hc
      refine gg_aload_n dX9_copy_143 rfl ?_
      refine gg_get 0 fl_X9_20 dX9_copy_144 rfl rfl ?_
      refine gg_bipush (40 : Int32) dX9_copy_147 (by decide) ?_
      refine gg_iload_n dX9_copy_149 rfl ?_
      refine gg_imul dX9_copy_150 ?_
      refine gg_iload dX9_copy_151 rfl ?_
      refine gg_iadd dX9_copy_153 ?_
      refine gg_iload dX9_copy_154 rfl ?_
      refine gg_iadd dX9_copy_156 ?_
      refine gg_aload_n dX9_copy_157 rfl ?_
      refine gg_get 0 fl_X9_23 dX9_copy_158 rfl rfl ?_
      refine gg_iload dX9_copy_161 rfl ?_
      obtain ⟨hb163, h⟩ := gg_ck h
      refine gg_iald 4 dX9_copy_163 rfl hb163 ?_
      obtain ⟨hb164, h⟩ := gg_ck h
      refine gg_iast 3 (wd_X9_copy c_latest c_asked c_upper c_lower c_n c_readAt c_readMany c_readFood c_isHead c_backMany c_deedMany c_whole c_wellSum c_strongSum c_hash c_came c_sizes (upd c_rows_136 ((((40 : Int32) * y3) + y4) + x6_136).toNatClampNeg (c_copied x6_136.toNatClampNeg)) c_copied) dX9_copy_164 rfl hb164 rfl ?_
      refine gg_iinc (x6_136 + (1 : Int32)) [some (.ref 0), none, none, some (.int y3), some (.int y4), some (.int y5), some (.int (x6_136 + (1 : Int32)))] dX9_copy_165 rfl rfl rfl (Nat.le_of_ble_eq_true rfl) rfl ?_
      refine gg_goto 136 dX9_copy_168 (by decide) ?_
      exact ih (x6_136 + (1 : Int32)) (upd c_rows_136 ((((40 : Int32) * y3) + y4) + x6_136).toNatClampNeg (c_copied x6_136.toNatClampNeg)) h
set_option maxRecDepth 20000 in
set_option maxHeartbeats 8000000 in
theorem C_X9_copy (a0 : Int32) (a1 : Int32) (a2 : Int32) (a3 : Int32) (a4 : Int32) (c_latest : Int32) (c_asked : Int32) (c_upper : Int64) (c_lower : Int64) (c_n : Int32) (c_readAt : Int32) (c_readMany : Int32) (c_readFood : Int32) (c_isHead : Int32) (c_backMany : Int32) (c_deedMany : Int32) (c_whole : Int64) (c_wellSum : Int64) (c_strongSum : Int64) (c_hash : Int64) (c_came : Nat → Int32) (c_sizes : Nat → Int32) (c_rows : Nat → Int32) (c_copied : Nat → Int32) {r0 : Int32} {r1 : (Int32)} {r2 : (Nat → Int32)} {r3 : (Nat → Int32)} {r4 : (Nat → Int32)} (h : f_X9_copy a0 a1 a2 a3 a4 c_latest c_came c_sizes c_rows c_copied = some (r0, r1, r2, r3, r4)) : gg_C MD_X9_copy [.ref 0, .int a0, .int a1, .int a2, .int a3, .int a4] (wd_X9_copy c_latest c_asked c_upper c_lower c_n c_readAt c_readMany c_readFood c_isHead c_backMany c_deedMany c_whole c_wellSum c_strongSum c_hash c_came c_sizes c_rows c_copied) (some (.int r0)) (wd_X9_copy r1 c_asked c_upper c_lower c_n c_readAt c_readMany c_readFood c_isHead c_backMany c_deedMany c_whole c_wellSum c_strongSum c_hash r2 c_sizes r3 r4) := by
  refine gg_ofG [some (.ref 0), some (.int a0), some (.int a1), some (.int a2), some (.int a3), some (.int a4), none] (plainFor_of_name (by decide)) (Nat.le_of_ble_eq_true rfl) rfl ?_
  unfold f_X9_copy at h
  refine gg_iload_n dX9_copy_0 rfl ?_
  obtain ⟨v1, hv1, h⟩ := gg_bd h
  refine gg_callS (gg_sg []) [] (wd_X9_copy c_latest c_asked c_upper c_lower c_n c_readAt c_readMany c_readFood c_isHead c_backMany c_deedMany c_whole c_wellSum c_strongSum c_hash c_came c_sizes c_rows c_copied) (C_X9_isRow a0 hv1) nS_X9_isRow ml_X9_102 rfl rfl rfl rfl rfl rfl rfl [0, 1, 2, 3, 4] 5 rfl rfl rfl rfl rfl ⟨Nat.le_of_ble_eq_true rfl, Nat.le_of_ble_eq_true rfl⟩ (Nat.le_of_ble_eq_true rfl) dX9_copy_1 [.int v1] rfl ?_
  obtain ⟨k14, hke14, h⟩ := gg_lte h
  have hk14 : k14 = some (r0, r1, r2, r3, r4) → gg_G MD_X9_copy 14 [none, none, none, none, none, none, none] [] (wd_X9_copy c_latest c_asked c_upper c_lower c_n c_readAt c_readMany c_readFood c_isHead c_backMany c_deedMany c_whole c_wellSum c_strongSum c_hash c_came c_sizes c_rows c_copied) (some (.int r0)) (wd_X9_copy r1 c_asked c_upper c_lower c_n c_readAt c_readMany c_readFood c_isHead c_backMany c_deedMany c_whole c_wellSum c_strongSum c_hash r2 c_sizes r3 r4) := by
    intro  h
    subst hke14
    refine gg_iconst (-1 : Int32) dX9_copy_14 (by decide) ?_
    cases h
    exact gg_iret dX9_copy_15 rfl
  clear hke14
  refine gg_if_eq 14 dX9_copy_4 (by decide) (fun hc => ?_) (fun hc => ?_)
  · replace h := gg_th h hc
    refine gg_fg [false, false, false, false, false, false, false] [none, none, none, none, none, none, none] rfl ?_
    exact hk14 h
  · replace h := gg_el h hc
    refine gg_iload_n dX9_copy_7 rfl ?_
    obtain ⟨v2, hv2, h⟩ := gg_bd h
    refine gg_callS (gg_sg []) [] (wd_X9_copy c_latest c_asked c_upper c_lower c_n c_readAt c_readMany c_readFood c_isHead c_backMany c_deedMany c_whole c_wellSum c_strongSum c_hash c_came c_sizes c_rows c_copied) (C_X9_isRow a2 hv2) nS_X9_isRow ml_X9_102 rfl rfl rfl rfl rfl rfl rfl [0, 1, 2, 3, 4] 5 rfl rfl rfl rfl rfl ⟨Nat.le_of_ble_eq_true rfl, Nat.le_of_ble_eq_true rfl⟩ (Nat.le_of_ble_eq_true rfl) dX9_copy_8 [.int v2] rfl ?_
    refine gg_if_ne 16 dX9_copy_11 (by decide) (fun hc => ?_) (fun hc => ?_)
    · replace h := gg_el h hc
      refine gg_iload dX9_copy_16 rfl ?_
      refine gg_if_ge 27 dX9_copy_18 (by decide) (fun hc => ?_) (fun hc => ?_)
      · replace h := gg_th h hc
        refine gg_aload_n dX9_copy_27 rfl ?_
        refine gg_get 0 fl_X9_17 dX9_copy_28 rfl rfl ?_
        refine gg_iload_n dX9_copy_31 rfl ?_
        obtain ⟨hb32, h⟩ := gg_ck h
        refine gg_iald 2 dX9_copy_32 rfl hb32 ?_
        obtain ⟨k45, hke45, h⟩ := gg_lte h
        have hk45 : k45 = some (r0, r1, r2, r3, r4) → gg_G MD_X9_copy 45 [some (.ref 0), none, none, none, none, none, none] [] (wd_X9_copy c_latest c_asked c_upper c_lower c_n c_readAt c_readMany c_readFood c_isHead c_backMany c_deedMany c_whole c_wellSum c_strongSum c_hash c_came c_sizes c_rows c_copied) (some (.int r0)) (wd_X9_copy r1 c_asked c_upper c_lower c_n c_readAt c_readMany c_readFood c_isHead c_backMany c_deedMany c_whole c_wellSum c_strongSum c_hash r2 c_sizes r3 r4) := by
          intro  h
          subst hke45
          refine gg_aload_n dX9_copy_45 rfl ?_
          refine gg_iconst (1 : Int32) dX9_copy_46 (by decide) ?_
          obtain ⟨v3_0, v3_1, v3_2, hv3, h⟩ := gg_bd3 h
          refine gg_callV (gg_sg [0]) [0, 1] (wd_X9_copy v3_1 c_asked c_upper c_lower c_n c_readAt c_readMany c_readFood c_isHead c_backMany c_deedMany c_whole c_wellSum c_strongSum c_hash v3_2 c_sizes c_rows c_copied) 0 (C_X9_meets (1 : Int32) c_latest c_asked c_upper c_lower c_n c_readAt c_readMany c_readFood c_isHead c_backMany c_deedMany c_whole c_wellSum c_strongSum c_hash c_came hv3) nV_X9_meets ml_X9_106 rfl rfl rfl rfl rfl rfl rfl rfl rfl rfl [2, 3, 4] 5 rfl rfl rfl rfl rfl ⟨Nat.le_of_ble_eq_true rfl, Nat.le_of_ble_eq_true rfl⟩ (Nat.le_of_ble_eq_true rfl) dX9_copy_47 [.int v3_0] rfl ?_
          cases h
          exact gg_iret dX9_copy_50 rfl
        clear hke45
        refine gg_if_lt 45 dX9_copy_33 (by decide) (fun hc => ?_) (fun hc => ?_)
        · replace h := gg_th h hc
          refine gg_fg [true, false, false, false, false, false, false] [some (.ref 0), none, none, none, none, none, none] rfl ?_
          exact hk45 h
        · replace h := gg_el h hc
          refine gg_aload_n dX9_copy_36 rfl ?_
          refine gg_get 0 fl_X9_17 dX9_copy_37 rfl rfl ?_
          refine gg_iload_n dX9_copy_40 rfl ?_
          obtain ⟨hb41, h⟩ := gg_ck h
          refine gg_iald 2 dX9_copy_41 rfl hb41 ?_
          refine gg_if_ge 51 dX9_copy_42 (by decide) (fun hc => ?_) (fun hc => ?_)
          · replace h := gg_th h hc
            refine gg_iload_n dX9_copy_51 rfl ?_
            obtain ⟨k95, hke95, h⟩ := gg_lte h
            have hk95 : k95 = some (r0, r1, r2, r3, r4) → gg_G MD_X9_copy 95 [some (.ref 0), none, none, none, none, none, none] [] (wd_X9_copy c_latest c_asked c_upper c_lower c_n c_readAt c_readMany c_readFood c_isHead c_backMany c_deedMany c_whole c_wellSum c_strongSum c_hash c_came c_sizes c_rows c_copied) (some (.int r0)) (wd_X9_copy r1 c_asked c_upper c_lower c_n c_readAt c_readMany c_readFood c_isHead c_backMany c_deedMany c_whole c_wellSum c_strongSum c_hash r2 c_sizes r3 r4) := by
              intro  h
              subst hke95
              refine gg_aload_n dX9_copy_95 rfl ?_
              refine gg_iconst (2 : Int32) dX9_copy_96 (by decide) ?_
              obtain ⟨v4_0, v4_1, v4_2, hv4, h⟩ := gg_bd3 h
              refine gg_callV (gg_sg [0]) [0, 1] (wd_X9_copy v4_1 c_asked c_upper c_lower c_n c_readAt c_readMany c_readFood c_isHead c_backMany c_deedMany c_whole c_wellSum c_strongSum c_hash v4_2 c_sizes c_rows c_copied) 0 (C_X9_meets (2 : Int32) c_latest c_asked c_upper c_lower c_n c_readAt c_readMany c_readFood c_isHead c_backMany c_deedMany c_whole c_wellSum c_strongSum c_hash c_came hv4) nV_X9_meets ml_X9_106 rfl rfl rfl rfl rfl rfl rfl rfl rfl rfl [2, 3, 4] 5 rfl rfl rfl rfl rfl ⟨Nat.le_of_ble_eq_true rfl, Nat.le_of_ble_eq_true rfl⟩ (Nat.le_of_ble_eq_true rfl) dX9_copy_97 [.int v4_0] rfl ?_
              cases h
              exact gg_iret dX9_copy_100 rfl
            clear hke95
            refine gg_if_lt 95 dX9_copy_52 (by decide) (fun hc => ?_) (fun hc => ?_)
            · replace h := gg_th h hc
              refine gg_fg [true, false, false, false, false, false, false] [some (.ref 0), none, none, none, none, none, none] rfl ?_
              exact hk95 h
            · replace h := gg_el h hc
              refine gg_iload dX9_copy_55 rfl ?_
              refine gg_if_lt 95 dX9_copy_57 (by decide) (fun hc => ?_) (fun hc => ?_)
              · replace h := gg_th h hc
                refine gg_fg [true, false, false, false, false, false, false] [some (.ref 0), none, none, none, none, none, none] rfl ?_
                exact hk95 h
              · replace h := gg_el h hc
                refine gg_iload_n dX9_copy_60 rfl ?_
                refine gg_i2l dX9_copy_61 ?_
                refine gg_iload dX9_copy_62 rfl ?_
                refine gg_i2l dX9_copy_64 ?_
                refine gg_ladd dX9_copy_65 ?_
                refine gg_aload_n dX9_copy_66 rfl ?_
                refine gg_get 0 fl_X9_17 dX9_copy_67 rfl rfl ?_
                refine gg_iload_n dX9_copy_70 rfl ?_
                obtain ⟨hb71, h⟩ := gg_ck h
                refine gg_iald 2 dX9_copy_71 rfl hb71 ?_
                refine gg_i2l dX9_copy_72 ?_
                refine gg_lcmp dX9_copy_73 ?_
                refine gg_if_gt 95 dX9_copy_74 (by decide) (fun hc => ?_) (fun hc => ?_)
                · replace h := gg_th h hc
                  refine gg_fg [true, false, false, false, false, false, false] [some (.ref 0), none, none, none, none, none, none] rfl ?_
                  exact hk95 h
                · replace h := gg_el h hc
                  refine gg_iload dX9_copy_77 rfl ?_
                  refine gg_i2l dX9_copy_79 ?_
                  refine gg_iload dX9_copy_80 rfl ?_
                  refine gg_i2l dX9_copy_82 ?_
                  refine gg_ladd dX9_copy_83 ?_
                  refine gg_aload_n dX9_copy_84 rfl ?_
                  refine gg_get 0 fl_X9_17 dX9_copy_85 rfl rfl ?_
                  refine gg_iload_n dX9_copy_88 rfl ?_
                  obtain ⟨hb89, h⟩ := gg_ck h
                  refine gg_iald 2 dX9_copy_89 rfl hb89 ?_
                  refine gg_i2l dX9_copy_90 ?_
                  refine gg_lcmp dX9_copy_91 ?_
                  refine gg_if_le 101 dX9_copy_92 (by decide) (fun hc => ?_) (fun hc => ?_)
                  · replace h := gg_th h hc
                    refine gg_iconst (0 : Int32) dX9_copy_101 (by decide) ?_
                    refine gg_istore [some (.ref 0), some (.int a0), some (.int a1), some (.int a2), some (.int a3), some (.int a4), some (.int (0 : Int32))] dX9_copy_102 rfl (Nat.le_of_ble_eq_true rfl) rfl ?_
                    refine lq_X9_copy_104 a0 a1 a2 a3 a4 c_latest c_asked c_upper c_lower c_n c_readAt c_readMany c_readFood c_isHead c_backMany c_deedMany c_whole c_wellSum c_strongSum c_hash c_came c_sizes c_rows _ ?_ gg_fuel (0 : Int32) c_copied h
                    intro c_copied_133 h
                    refine gg_iconst (0 : Int32) dX9_copy_133 (by decide) ?_
                    refine gg_istore [some (.ref 0), none, none, some (.int a2), some (.int a3), some (.int a4), some (.int (0 : Int32))] dX9_copy_134 rfl (Nat.le_of_ble_eq_true rfl) rfl ?_
                    refine lq_X9_copy_136 a2 a3 a4 c_latest c_asked c_upper c_lower c_n c_readAt c_readMany c_readFood c_isHead c_backMany c_deedMany c_whole c_wellSum c_strongSum c_hash c_came c_sizes c_copied_133 _ ?_ gg_fuel (0 : Int32) c_rows h
                    intro c_rows_171 h
                    refine gg_iconst (1 : Int32) dX9_copy_171 (by decide) ?_
                    cases h
                    exact gg_iret dX9_copy_172 rfl
                  · replace h := gg_el h hc
                    refine gg_fg [true, false, false, false, false, false, false] [some (.ref 0), none, none, none, none, none, none] rfl ?_
                    exact hk95 h
          · replace h := gg_el h hc
            refine gg_fg [true, false, false, false, false, false, false] [some (.ref 0), none, none, none, none, none, none] rfl ?_
            exact hk45 h
      · replace h := gg_el h hc
        refine gg_aload_n dX9_copy_21 rfl ?_
        refine gg_iconst (5 : Int32) dX9_copy_22 (by decide) ?_
        obtain ⟨v6_0, v6_1, v6_2, hv6, h⟩ := gg_bd3 h
        refine gg_callV (gg_sg [0]) [0, 1] (wd_X9_copy v6_1 c_asked c_upper c_lower c_n c_readAt c_readMany c_readFood c_isHead c_backMany c_deedMany c_whole c_wellSum c_strongSum c_hash v6_2 c_sizes c_rows c_copied) 0 (C_X9_meets (5 : Int32) c_latest c_asked c_upper c_lower c_n c_readAt c_readMany c_readFood c_isHead c_backMany c_deedMany c_whole c_wellSum c_strongSum c_hash c_came hv6) nV_X9_meets ml_X9_106 rfl rfl rfl rfl rfl rfl rfl rfl rfl rfl [2, 3, 4] 5 rfl rfl rfl rfl rfl ⟨Nat.le_of_ble_eq_true rfl, Nat.le_of_ble_eq_true rfl⟩ (Nat.le_of_ble_eq_true rfl) dX9_copy_23 [.int v6_0] rfl ?_
        cases h
        exact gg_iret dX9_copy_26 rfl
    · replace h := gg_th h hc
      refine gg_fg [false, false, false, false, false, false, false] [none, none, none, none, none, none, none] rfl ?_
      exact hk14 h
def wd_X9_mean (c_latest : Int32) (c_asked : Int32) (c_upper : Int64) (c_lower : Int64) (c_n : Int32) (c_readAt : Int32) (c_readMany : Int32) (c_readFood : Int32) (c_isHead : Int32) (c_backMany : Int32) (c_deedMany : Int32) (c_whole : Int64) (c_wellSum : Int64) (c_strongSum : Int64) (c_hash : Int64) (c_came : Nat → Int32) (c_sizes : Nat → Int32) (c_rows : Nat → Int32) : va_W := [(0, .inr (8, [.int c_latest, .ref 1, .int c_asked, .long c_upper, .long c_lower, .ref 2, .ref 3, .ref 4, .ref 5, .ref 6, .int c_n, .ref 7, .ref 8, .ref 9, .ref 10, .int c_readAt, .int c_readMany, .int c_readFood, .int c_isHead, .ref 11, .ref 12, .ref 13, .int c_backMany, .int c_deedMany, .ref 14, .ref 15, .ref 16, .ref 17, .ref 18, .ref 19, .ref 20, .ref 21, .ref 22, .ref 23, .ref 24, .long c_whole, .long c_wellSum, .long c_strongSum, .long c_hash])), (1, .inl (0, 6, .inl c_came)), (2, .inl (0, 6, .inl c_sizes)), (3, .inl (0, 240, .inl c_rows))]
def MD_X9_mean : gg_M := (yX9_mean, cX9_mean, 5, some .int, 2, 42)
theorem nV_X9_mean : gg_nV MD_X9_mean 1 := ⟨⟨gg_mem (by decide +kernel) rfl, gg_mem cw_X9_mean rfl, by decide, by decide, by decide +kernel⟩, gg_mem (by decide +kernel) rfl, gg_mem (by decide +kernel) rfl⟩
def lp_X9_mean_44 {β : Type} (y1 : Int32) (c_sizes : Nat → Int32) (c_rows : Nat → Int32) (k72 : (Int64) → Option β) : Nat → (Int64) → (Int32) → Option β
  | 0, _, _ => none
  | n + 1, x2_44, x4_44 => gg_chk (gg_in y1 6) ((if (c_sizes y1.toNatClampNeg) ≤ x4_44 then (k72 x2_44) else (f_X9_rowAt y1 x4_44 c_rows).bind (fun v2 => (lp_X9_mean_44 y1 c_sizes c_rows k72 n (x2_44 + (v2.toInt64)) (x4_44 + (1 : Int32))))))
def f_X9_mean (a0 : Int32) (c_latest : Int32) (c_asked : Int32) (c_came : Nat → Int32) (c_sizes : Nat → Int32) (c_rows : Nat → Int32) : Option (Int32 × (Int32) × (Int32) × (Nat → Int32)) := (f_X9_isRow a0).bind (fun v1 => (if v1 = (0 : Int32) then (some ((-1 : Int32), c_latest, c_asked, c_came)) else gg_chk (gg_in a0 6) ((if (0 : Int32) ≤ (c_sizes a0.toNatClampNeg) then gg_chk (gg_in a0 6) ((if (c_sizes a0.toNatClampNeg) = (0 : Int32) then gg_b3 (f_X9_meets (4 : Int32) c_latest c_came) (fun v4_0 v4_1 v4_2 => (some (v4_0, v4_1, c_asked, v4_2))) else (lp_X9_mean_44 a0 c_sizes c_rows (fun (x2_72 : Int64) => gg_chk (gg_in a0 6) (gg_chk (!decide (((c_sizes a0.toNatClampNeg).toInt64) = 0)) (gg_b2 (f_X9_tells ((x2_72 / ((c_sizes a0.toNatClampNeg).toInt64)).toInt32) (1 : Int32) c_asked) (fun v3_0 v3_1 => (some (v3_0, c_latest, v3_1, c_came)))))) gg_fuel (0 : Int64) (0 : Int32)))) else gg_b3 (f_X9_meets (1 : Int32) c_latest c_came) (fun v5_0 v5_1 v5_2 => (some (v5_0, v5_1, c_asked, v5_2)))))))
set_option maxRecDepth 20000 in
set_option maxHeartbeats 4000000 in
theorem lq_X9_mean_44 {β : Type} {res : β} {rr : Option Value} {ww : va_W} (y1 : Int32) (c_latest : Int32) (c_asked : Int32) (c_upper : Int64) (c_lower : Int64) (c_n : Int32) (c_readAt : Int32) (c_readMany : Int32) (c_readFood : Int32) (c_isHead : Int32) (c_backMany : Int32) (c_deedMany : Int32) (c_whole : Int64) (c_wellSum : Int64) (c_strongSum : Int64) (c_hash : Int64) (c_came : Nat → Int32) (c_sizes : Nat → Int32) (c_rows : Nat → Int32) (k72 : (Int64) → Option β) (hk72 : ∀ (x2_72 : Int64), k72 x2_72 = some res → gg_G MD_X9_mean 72 [some (.ref 0), some (.int y1), some (.long x2_72), none, none] [] (wd_X9_mean c_latest c_asked c_upper c_lower c_n c_readAt c_readMany c_readFood c_isHead c_backMany c_deedMany c_whole c_wellSum c_strongSum c_hash c_came c_sizes c_rows) rr ww) : ∀ (n : Nat) (x2_44 : Int64) (x4_44 : Int32), lp_X9_mean_44 y1 c_sizes c_rows k72 n x2_44 x4_44 = some res → gg_G MD_X9_mean 44 [some (.ref 0), some (.int y1), some (.long x2_44), none, some (.int x4_44)] [] (wd_X9_mean c_latest c_asked c_upper c_lower c_n c_readAt c_readMany c_readFood c_isHead c_backMany c_deedMany c_whole c_wellSum c_strongSum c_hash c_came c_sizes c_rows) rr ww := by
  intro n
  induction n with
  | zero =>
    intro x2_44 x4_44 h
    exact nomatch (show (none : Option β) = some res from h)
  | succ n ih =>
    intro x2_44 x4_44 h
    rw [lp_X9_mean_44] at h
    refine gg_iload dX9_mean_44 rfl ?_
    refine gg_aload_n dX9_mean_46 rfl ?_
    refine gg_get 0 fl_X9_17 dX9_mean_47 rfl rfl ?_
    refine gg_iload_n dX9_mean_50 rfl ?_
    obtain ⟨hb51, h⟩ := gg_ck h
    refine gg_iald 2 dX9_mean_51 rfl hb51 ?_
    refine gg_icmp_ge 72 dX9_mean_52 (by decide) (fun hc => ?_) (fun hc => ?_)
    · replace h := gg_th h hc
      refine gg_fg [true, true, true, false, false] [some (.ref 0), some (.int y1), some (.long x2_44), none, none] rfl ?_
      exact hk72 x2_44 h
    · replace h := gg_el h hc
      refine gg_lload_n dX9_mean_55 rfl ?_
      refine gg_aload_n dX9_mean_56 rfl ?_
      refine gg_iload_n dX9_mean_57 rfl ?_
      refine gg_iload dX9_mean_58 rfl ?_
      obtain ⟨v2, hv2, h⟩ := gg_bd h
      refine gg_callV (gg_sg [0]) [0, 3] (wd_X9_mean c_latest c_asked c_upper c_lower c_n c_readAt c_readMany c_readFood c_isHead c_backMany c_deedMany c_whole c_wellSum c_strongSum c_hash c_came c_sizes c_rows) 0 (C_X9_rowAt y1 x4_44 c_latest c_asked c_upper c_lower c_n c_readAt c_readMany c_readFood c_isHead c_backMany c_deedMany c_whole c_wellSum c_strongSum c_hash c_rows hv2) nV_X9_rowAt ml_X9_110 rfl rfl rfl rfl rfl rfl rfl rfl rfl rfl [1, 2] 4 rfl rfl rfl rfl rfl ⟨Nat.le_of_ble_eq_true rfl, Nat.le_of_ble_eq_true rfl⟩ (Nat.le_of_ble_eq_true rfl) dX9_mean_60 [.int v2, .long x2_44] rfl ?_
      refine gg_i2l dX9_mean_63 ?_
      refine gg_ladd dX9_mean_64 ?_
      refine gg_lstore_n [some (.ref 0), some (.int y1), some (.long (x2_44 + (v2.toInt64))), none, some (.int x4_44)] dX9_mean_65 rfl (Nat.le_of_ble_eq_true rfl) rfl ?_
      refine gg_iinc (x4_44 + (1 : Int32)) [some (.ref 0), some (.int y1), some (.long (x2_44 + (v2.toInt64))), none, some (.int (x4_44 + (1 : Int32)))] dX9_mean_66 rfl rfl rfl (Nat.le_of_ble_eq_true rfl) rfl ?_
      refine gg_goto 44 dX9_mean_69 (by decide) ?_
      exact ih (x2_44 + (v2.toInt64)) (x4_44 + (1 : Int32)) h
set_option maxRecDepth 20000 in
set_option maxHeartbeats 8000000 in
theorem C_X9_mean (a0 : Int32) (c_latest : Int32) (c_asked : Int32) (c_upper : Int64) (c_lower : Int64) (c_n : Int32) (c_readAt : Int32) (c_readMany : Int32) (c_readFood : Int32) (c_isHead : Int32) (c_backMany : Int32) (c_deedMany : Int32) (c_whole : Int64) (c_wellSum : Int64) (c_strongSum : Int64) (c_hash : Int64) (c_came : Nat → Int32) (c_sizes : Nat → Int32) (c_rows : Nat → Int32) {r0 : Int32} {r1 : (Int32)} {r2 : (Int32)} {r3 : (Nat → Int32)} (h : f_X9_mean a0 c_latest c_asked c_came c_sizes c_rows = some (r0, r1, r2, r3)) : gg_C MD_X9_mean [.ref 0, .int a0] (wd_X9_mean c_latest c_asked c_upper c_lower c_n c_readAt c_readMany c_readFood c_isHead c_backMany c_deedMany c_whole c_wellSum c_strongSum c_hash c_came c_sizes c_rows) (some (.int r0)) (wd_X9_mean r1 r2 c_upper c_lower c_n c_readAt c_readMany c_readFood c_isHead c_backMany c_deedMany c_whole c_wellSum c_strongSum c_hash r3 c_sizes c_rows) := by
  refine gg_ofG [some (.ref 0), some (.int a0), none, none, none] (plainFor_of_name (by decide)) (Nat.le_of_ble_eq_true rfl) rfl ?_
  unfold f_X9_mean at h
  refine gg_iload_n dX9_mean_0 rfl ?_
  obtain ⟨v1, hv1, h⟩ := gg_bd h
  refine gg_callS (gg_sg []) [] (wd_X9_mean c_latest c_asked c_upper c_lower c_n c_readAt c_readMany c_readFood c_isHead c_backMany c_deedMany c_whole c_wellSum c_strongSum c_hash c_came c_sizes c_rows) (C_X9_isRow a0 hv1) nS_X9_isRow ml_X9_102 rfl rfl rfl rfl rfl rfl rfl [0, 1, 2, 3] 4 rfl rfl rfl rfl rfl ⟨Nat.le_of_ble_eq_true rfl, Nat.le_of_ble_eq_true rfl⟩ (Nat.le_of_ble_eq_true rfl) dX9_mean_1 [.int v1] rfl ?_
  refine gg_if_ne 9 dX9_mean_4 (by decide) (fun hc => ?_) (fun hc => ?_)
  · replace h := gg_el h hc
    refine gg_aload_n dX9_mean_9 rfl ?_
    refine gg_get 0 fl_X9_17 dX9_mean_10 rfl rfl ?_
    refine gg_iload_n dX9_mean_13 rfl ?_
    obtain ⟨hb14, h⟩ := gg_ck h
    refine gg_iald 2 dX9_mean_14 rfl hb14 ?_
    refine gg_if_ge 24 dX9_mean_15 (by decide) (fun hc => ?_) (fun hc => ?_)
    · replace h := gg_th h hc
      refine gg_aload_n dX9_mean_24 rfl ?_
      refine gg_get 0 fl_X9_17 dX9_mean_25 rfl rfl ?_
      refine gg_iload_n dX9_mean_28 rfl ?_
      obtain ⟨hb29, h⟩ := gg_ck h
      refine gg_iald 2 dX9_mean_29 rfl hb29 ?_
      refine gg_if_ne 39 dX9_mean_30 (by decide) (fun hc => ?_) (fun hc => ?_)
      · replace h := gg_el h hc
        refine gg_lconst (0 : Int64) dX9_mean_39 (by decide) ?_
        refine gg_lstore_n [some (.ref 0), some (.int a0), some (.long (0 : Int64)), none, none] dX9_mean_40 rfl (Nat.le_of_ble_eq_true rfl) rfl ?_
        refine gg_iconst (0 : Int32) dX9_mean_41 (by decide) ?_
        refine gg_istore [some (.ref 0), some (.int a0), some (.long (0 : Int64)), none, some (.int (0 : Int32))] dX9_mean_42 rfl (Nat.le_of_ble_eq_true rfl) rfl ?_
        refine lq_X9_mean_44 a0 c_latest c_asked c_upper c_lower c_n c_readAt c_readMany c_readFood c_isHead c_backMany c_deedMany c_whole c_wellSum c_strongSum c_hash c_came c_sizes c_rows _ ?_ gg_fuel (0 : Int64) (0 : Int32) h
        intro x2_72 h
        refine gg_aload_n dX9_mean_72 rfl ?_
        refine gg_lload_n dX9_mean_73 rfl ?_
        refine gg_aload_n dX9_mean_74 rfl ?_
        refine gg_get 0 fl_X9_17 dX9_mean_75 rfl rfl ?_
        refine gg_iload_n dX9_mean_78 rfl ?_
        obtain ⟨hb79, h⟩ := gg_ck h
        refine gg_iald 2 dX9_mean_79 rfl hb79 ?_
        refine gg_i2l dX9_mean_80 ?_
        obtain ⟨hz81, h⟩ := gg_ck h
        refine gg_ldiv dX9_mean_81 (gg_nz hz81) ?_
        refine gg_l2i dX9_mean_82 ?_
        refine gg_iconst (1 : Int32) dX9_mean_83 (by decide) ?_
        obtain ⟨v3_0, v3_1, hv3, h⟩ := gg_bd2 h
        refine gg_callV (gg_sg [0]) [0] (wd_X9_mean c_latest v3_1 c_upper c_lower c_n c_readAt c_readMany c_readFood c_isHead c_backMany c_deedMany c_whole c_wellSum c_strongSum c_hash c_came c_sizes c_rows) 0 (C_X9_tells ((x2_72 / ((c_sizes a0.toNatClampNeg).toInt64)).toInt32) (1 : Int32) c_latest c_asked c_upper c_lower c_n c_readAt c_readMany c_readFood c_isHead c_backMany c_deedMany c_whole c_wellSum c_strongSum c_hash hv3) nV_X9_tells ml_X9_114 rfl rfl rfl rfl rfl rfl rfl rfl rfl rfl [1, 2, 3] 4 rfl rfl rfl rfl rfl ⟨Nat.le_of_ble_eq_true rfl, Nat.le_of_ble_eq_true rfl⟩ (Nat.le_of_ble_eq_true rfl) dX9_mean_84 [.int v3_0] rfl ?_
        cases h
        exact gg_iret dX9_mean_87 rfl
      · replace h := gg_th h hc
        refine gg_aload_n dX9_mean_33 rfl ?_
        refine gg_iconst (4 : Int32) dX9_mean_34 (by decide) ?_
        obtain ⟨v4_0, v4_1, v4_2, hv4, h⟩ := gg_bd3 h
        refine gg_callV (gg_sg [0]) [0, 1] (wd_X9_mean v4_1 c_asked c_upper c_lower c_n c_readAt c_readMany c_readFood c_isHead c_backMany c_deedMany c_whole c_wellSum c_strongSum c_hash v4_2 c_sizes c_rows) 0 (C_X9_meets (4 : Int32) c_latest c_asked c_upper c_lower c_n c_readAt c_readMany c_readFood c_isHead c_backMany c_deedMany c_whole c_wellSum c_strongSum c_hash c_came hv4) nV_X9_meets ml_X9_106 rfl rfl rfl rfl rfl rfl rfl rfl rfl rfl [2, 3] 4 rfl rfl rfl rfl rfl ⟨Nat.le_of_ble_eq_true rfl, Nat.le_of_ble_eq_true rfl⟩ (Nat.le_of_ble_eq_true rfl) dX9_mean_35 [.int v4_0] rfl ?_
        cases h
        exact gg_iret dX9_mean_38 rfl
    · replace h := gg_el h hc
      refine gg_aload_n dX9_mean_18 rfl ?_
      refine gg_iconst (1 : Int32) dX9_mean_19 (by decide) ?_
      obtain ⟨v5_0, v5_1, v5_2, hv5, h⟩ := gg_bd3 h
      refine gg_callV (gg_sg [0]) [0, 1] (wd_X9_mean v5_1 c_asked c_upper c_lower c_n c_readAt c_readMany c_readFood c_isHead c_backMany c_deedMany c_whole c_wellSum c_strongSum c_hash v5_2 c_sizes c_rows) 0 (C_X9_meets (1 : Int32) c_latest c_asked c_upper c_lower c_n c_readAt c_readMany c_readFood c_isHead c_backMany c_deedMany c_whole c_wellSum c_strongSum c_hash c_came hv5) nV_X9_meets ml_X9_106 rfl rfl rfl rfl rfl rfl rfl rfl rfl rfl [2, 3] 4 rfl rfl rfl rfl rfl ⟨Nat.le_of_ble_eq_true rfl, Nat.le_of_ble_eq_true rfl⟩ (Nat.le_of_ble_eq_true rfl) dX9_mean_20 [.int v5_0] rfl ?_
      cases h
      exact gg_iret dX9_mean_23 rfl
  · replace h := gg_th h hc
    refine gg_iconst (-1 : Int32) dX9_mean_7 (by decide) ?_
    cases h
    exact gg_iret dX9_mean_8 rfl
def wd_X9_isText  : va_W := []
def MD_X9_isText : gg_M := (yX9_isText, cX9_isText, 1, some .boolean, 1, 22)
theorem nS_X9_isText : gg_nS MD_X9_isText 1 := ⟨⟨gg_mem (by decide +kernel) rfl, gg_mem cw_X9_isText rfl, by decide, by decide, by decide +kernel⟩, gg_mem (by decide +kernel) rfl⟩
def f_X9_isText (a0 : Int32)  : Option (Int32) := (f_X9_in a0 (0 : Int32) (3 : Int32)).bind (fun v1 => gg_chk (gg_isb v1) (some v1))
set_option maxRecDepth 20000 in
set_option maxHeartbeats 8000000 in
theorem C_X9_isText (a0 : Int32)  {res : Int32} (h : f_X9_isText a0 = some res) : gg_C MD_X9_isText [.int a0] (wd_X9_isText) (some (.int res)) (wd_X9_isText) := by
  refine gg_ofG [some (.int a0)] (plainFor_of_name (by decide)) (Nat.le_of_ble_eq_true rfl) rfl ?_
  unfold f_X9_isText at h
  refine gg_iload_n dX9_isText_0 rfl ?_
  refine gg_iconst (0 : Int32) dX9_isText_1 (by decide) ?_
  refine gg_iconst (3 : Int32) dX9_isText_2 (by decide) ?_
  obtain ⟨v1, hv1, h⟩ := gg_bd h
  refine gg_callS (gg_sg []) [] (wd_X9_isText) (C_X9_in a0 (0 : Int32) (3 : Int32) hv1) nS_X9_in ml_X9_92 rfl rfl rfl rfl rfl rfl rfl [] 0 rfl rfl rfl rfl rfl ⟨Nat.le_of_ble_eq_true rfl, Nat.le_of_ble_eq_true rfl⟩ (Nat.le_of_ble_eq_true rfl) dX9_isText_3 [.int v1] rfl ?_
  obtain ⟨hz, h⟩ := gg_ck h
  cases h
  exact gg_zret dX9_isText_6 rfl hz
def wd_X9_text (c_latest : Int32) (c_asked : Int32) (c_upper : Int64) (c_lower : Int64) (c_n : Int32) (c_readAt : Int32) (c_readMany : Int32) (c_readFood : Int32) (c_isHead : Int32) (c_backMany : Int32) (c_deedMany : Int32) (c_whole : Int64) (c_wellSum : Int64) (c_strongSum : Int64) (c_hash : Int64) (c_came : Nat → Int32) (c_textSizes : Nat → Int32) (c_bytes : Nat → Int32) : va_W := [(0, .inr (8, [.int c_latest, .ref 1, .int c_asked, .long c_upper, .long c_lower, .ref 2, .ref 3, .ref 4, .ref 5, .ref 6, .int c_n, .ref 7, .ref 8, .ref 9, .ref 10, .int c_readAt, .int c_readMany, .int c_readFood, .int c_isHead, .ref 11, .ref 12, .ref 13, .int c_backMany, .int c_deedMany, .ref 14, .ref 15, .ref 16, .ref 17, .ref 18, .ref 19, .ref 20, .ref 21, .ref 22, .ref 23, .ref 24, .long c_whole, .long c_wellSum, .long c_strongSum, .long c_hash])), (1, .inl (0, 6, .inl c_came)), (5, .inl (0, 4, .inl c_textSizes)), (6, .inl (1, 240, .inl c_bytes))]
def MD_X9_text : gg_M := (yX9_text, cX9_text, 4, some .int, 2, 42)
theorem nV_X9_text : gg_nV MD_X9_text 2 := ⟨⟨gg_mem (by decide +kernel) rfl, gg_mem cw_X9_text rfl, by decide, by decide, by decide +kernel⟩, gg_mem (by decide +kernel) rfl, gg_mem (by decide +kernel) rfl⟩
def lp_X9_text_34 {β : Type} (y1 : Int32) (k59 : (Nat → Int32) → Option β) : Nat → (Int32) → (Nat → Int32) → Option β
  | 0, _, _ => none
  | n + 1, x3_34, c_bytes_34 => (if (60 : Int32) ≤ x3_34 then (k59 c_bytes_34) else gg_chk (gg_in (((60 : Int32) * y1) + x3_34) 240) ((lp_X9_text_34 y1 k59 n (x3_34 + (1 : Int32)) (upd c_bytes_34 (((60 : Int32) * y1) + x3_34).toNatClampNeg (vp_nar .byte (32 : Int32))))))
def f_X9_text (a0 : Int32) (a1 : Int32) (c_latest : Int32) (c_came : Nat → Int32) (c_textSizes : Nat → Int32) (c_bytes : Nat → Int32) : Option (Int32 × (Int32) × (Nat → Int32) × (Nat → Int32) × (Nat → Int32)) := (f_X9_isText a0).bind (fun v1 => gg_lt ((some ((-1 : Int32), c_latest, c_came, c_textSizes, c_bytes))) (fun k13 => (if v1 = (0 : Int32) then k13 else (if a1 ≤ (60 : Int32) then (if (0 : Int32) ≤ a1 then gg_chk (gg_in a0 4) ((lp_X9_text_34 a0 (fun (c_bytes_59 : Nat → Int32) => (some (a1, c_latest, c_came, (upd c_textSizes a0.toNatClampNeg a1), c_bytes_59))) gg_fuel (0 : Int32) c_bytes)) else gg_b3 (f_X9_meets (5 : Int32) c_latest c_came) (fun v2_0 v2_1 v2_2 => (some (v2_0, v2_1, v2_2, c_textSizes, c_bytes)))) else k13))))
set_option maxRecDepth 20000 in
set_option maxHeartbeats 4000000 in
theorem lq_X9_text_34 {β : Type} {res : β} {rr : Option Value} {ww : va_W} (y1 : Int32) (y2 : Int32) (c_latest : Int32) (c_asked : Int32) (c_upper : Int64) (c_lower : Int64) (c_n : Int32) (c_readAt : Int32) (c_readMany : Int32) (c_readFood : Int32) (c_isHead : Int32) (c_backMany : Int32) (c_deedMany : Int32) (c_whole : Int64) (c_wellSum : Int64) (c_strongSum : Int64) (c_hash : Int64) (c_came : Nat → Int32) (c_textSizes : Nat → Int32) (k59 : (Nat → Int32) → Option β) (hk59 : ∀ (c_bytes_59 : Nat → Int32), k59 c_bytes_59 = some res → gg_G MD_X9_text 59 [none, none, some (.int y2), none] [] (wd_X9_text c_latest c_asked c_upper c_lower c_n c_readAt c_readMany c_readFood c_isHead c_backMany c_deedMany c_whole c_wellSum c_strongSum c_hash c_came c_textSizes c_bytes_59) rr ww) : ∀ (n : Nat) (x3_34 : Int32) (c_bytes_34 : Nat → Int32), lp_X9_text_34 y1 k59 n x3_34 c_bytes_34 = some res → gg_G MD_X9_text 34 [some (.ref 0), some (.int y1), some (.int y2), some (.int x3_34)] [] (wd_X9_text c_latest c_asked c_upper c_lower c_n c_readAt c_readMany c_readFood c_isHead c_backMany c_deedMany c_whole c_wellSum c_strongSum c_hash c_came c_textSizes c_bytes_34) rr ww := by
  intro n
  induction n with
  | zero =>
    intro x3_34 c_bytes_34 h
    exact nomatch (show (none : Option β) = some res from h)
  | succ n ih =>
    intro x3_34 c_bytes_34 h
    rw [lp_X9_text_34] at h
    refine gg_iload_n dX9_text_34 rfl ?_
    refine gg_bipush (60 : Int32) dX9_text_35 (by decide) ?_
    refine gg_icmp_ge 59 dX9_text_37 (by decide) (fun hc => ?_) (fun hc => ?_)
    · replace h := gg_th h hc
      refine gg_fg [false, false, true, false] [none, none, some (.int y2), none] rfl ?_
      exact hk59 c_bytes_34 h
    · replace h := gg_el h hc
      refine gg_aload_n dX9_text_40 rfl ?_
      refine gg_get 0 fl_X9_29 dX9_text_41 rfl rfl ?_
      refine gg_bipush (60 : Int32) dX9_text_44 (by decide) ?_
      refine gg_iload_n dX9_text_46 rfl ?_
      refine gg_imul dX9_text_47 ?_
      refine gg_iload_n dX9_text_48 rfl ?_
      refine gg_iadd dX9_text_49 ?_
      refine gg_bipush (32 : Int32) dX9_text_50 (by decide) ?_
      obtain ⟨hb52, h⟩ := gg_ck h
      refine gg_bast 3 (wd_X9_text c_latest c_asked c_upper c_lower c_n c_readAt c_readMany c_readFood c_isHead c_backMany c_deedMany c_whole c_wellSum c_strongSum c_hash c_came c_textSizes (upd c_bytes_34 (((60 : Int32) * y1) + x3_34).toNatClampNeg (vp_nar .byte (32 : Int32)))) dX9_text_52 rfl hb52 rfl ?_
      refine gg_iinc (x3_34 + (1 : Int32)) [some (.ref 0), some (.int y1), some (.int y2), some (.int (x3_34 + (1 : Int32)))] dX9_text_53 rfl rfl rfl (Nat.le_of_ble_eq_true rfl) rfl ?_
      refine gg_goto 34 dX9_text_56 (by decide) ?_
      exact ih (x3_34 + (1 : Int32)) (upd c_bytes_34 (((60 : Int32) * y1) + x3_34).toNatClampNeg (vp_nar .byte (32 : Int32))) h
set_option maxRecDepth 20000 in
set_option maxHeartbeats 8000000 in
theorem C_X9_text (a0 : Int32) (a1 : Int32) (c_latest : Int32) (c_asked : Int32) (c_upper : Int64) (c_lower : Int64) (c_n : Int32) (c_readAt : Int32) (c_readMany : Int32) (c_readFood : Int32) (c_isHead : Int32) (c_backMany : Int32) (c_deedMany : Int32) (c_whole : Int64) (c_wellSum : Int64) (c_strongSum : Int64) (c_hash : Int64) (c_came : Nat → Int32) (c_textSizes : Nat → Int32) (c_bytes : Nat → Int32) {r0 : Int32} {r1 : (Int32)} {r2 : (Nat → Int32)} {r3 : (Nat → Int32)} {r4 : (Nat → Int32)} (h : f_X9_text a0 a1 c_latest c_came c_textSizes c_bytes = some (r0, r1, r2, r3, r4)) : gg_C MD_X9_text [.ref 0, .int a0, .int a1] (wd_X9_text c_latest c_asked c_upper c_lower c_n c_readAt c_readMany c_readFood c_isHead c_backMany c_deedMany c_whole c_wellSum c_strongSum c_hash c_came c_textSizes c_bytes) (some (.int r0)) (wd_X9_text r1 c_asked c_upper c_lower c_n c_readAt c_readMany c_readFood c_isHead c_backMany c_deedMany c_whole c_wellSum c_strongSum c_hash r2 r3 r4) := by
  refine gg_ofG [some (.ref 0), some (.int a0), some (.int a1), none] (plainFor_of_name (by decide)) (Nat.le_of_ble_eq_true rfl) rfl ?_
  unfold f_X9_text at h
  refine gg_iload_n dX9_text_0 rfl ?_
  obtain ⟨v1, hv1, h⟩ := gg_bd h
  refine gg_callS (gg_sg []) [] (wd_X9_text c_latest c_asked c_upper c_lower c_n c_readAt c_readMany c_readFood c_isHead c_backMany c_deedMany c_whole c_wellSum c_strongSum c_hash c_came c_textSizes c_bytes) (C_X9_isText a0 hv1) nS_X9_isText ml_X9_117 rfl rfl rfl rfl rfl rfl rfl [0, 1, 2, 3] 4 rfl rfl rfl rfl rfl ⟨Nat.le_of_ble_eq_true rfl, Nat.le_of_ble_eq_true rfl⟩ (Nat.le_of_ble_eq_true rfl) dX9_text_1 [.int v1] rfl ?_
  obtain ⟨k13, hke13, h⟩ := gg_lte h
  have hk13 : k13 = some (r0, r1, r2, r3, r4) → gg_G MD_X9_text 13 [none, none, none, none] [] (wd_X9_text c_latest c_asked c_upper c_lower c_n c_readAt c_readMany c_readFood c_isHead c_backMany c_deedMany c_whole c_wellSum c_strongSum c_hash c_came c_textSizes c_bytes) (some (.int r0)) (wd_X9_text r1 c_asked c_upper c_lower c_n c_readAt c_readMany c_readFood c_isHead c_backMany c_deedMany c_whole c_wellSum c_strongSum c_hash r2 r3 r4) := by
    intro  h
    subst hke13
    refine gg_iconst (-1 : Int32) dX9_text_13 (by decide) ?_
    cases h
    exact gg_iret dX9_text_14 rfl
  clear hke13
  refine gg_if_eq 13 dX9_text_4 (by decide) (fun hc => ?_) (fun hc => ?_)
  · replace h := gg_th h hc
    refine gg_fg [false, false, false, false] [none, none, none, none] rfl ?_
    exact hk13 h
  · replace h := gg_el h hc
    refine gg_iload_n dX9_text_7 rfl ?_
    refine gg_bipush (60 : Int32) dX9_text_8 (by decide) ?_
    refine gg_icmp_le 15 dX9_text_10 (by decide) (fun hc => ?_) (fun hc => ?_)
    · replace h := gg_th h hc
      refine gg_iload_n dX9_text_15 rfl ?_
      refine gg_if_ge 25 dX9_text_16 (by decide) (fun hc => ?_) (fun hc => ?_)
      · replace h := gg_th h hc
        refine gg_aload_n dX9_text_25 rfl ?_
        refine gg_get 0 fl_X9_26 dX9_text_26 rfl rfl ?_
        refine gg_iload_n dX9_text_29 rfl ?_
        refine gg_iload_n dX9_text_30 rfl ?_
        obtain ⟨hb31, h⟩ := gg_ck h
        refine gg_iast 2 (wd_X9_text c_latest c_asked c_upper c_lower c_n c_readAt c_readMany c_readFood c_isHead c_backMany c_deedMany c_whole c_wellSum c_strongSum c_hash c_came (upd c_textSizes a0.toNatClampNeg a1) c_bytes) dX9_text_31 rfl hb31 rfl ?_
        refine gg_iconst (0 : Int32) dX9_text_32 (by decide) ?_
        refine gg_istore_n [some (.ref 0), some (.int a0), some (.int a1), some (.int (0 : Int32))] dX9_text_33 rfl (Nat.le_of_ble_eq_true rfl) rfl ?_
        refine lq_X9_text_34 a0 a1 c_latest c_asked c_upper c_lower c_n c_readAt c_readMany c_readFood c_isHead c_backMany c_deedMany c_whole c_wellSum c_strongSum c_hash c_came (upd c_textSizes a0.toNatClampNeg a1) _ ?_ gg_fuel (0 : Int32) c_bytes h
        intro c_bytes_59 h
        refine gg_iload_n dX9_text_59 rfl ?_
        cases h
        exact gg_iret dX9_text_60 rfl
      · replace h := gg_el h hc
        refine gg_aload_n dX9_text_19 rfl ?_
        refine gg_iconst (5 : Int32) dX9_text_20 (by decide) ?_
        obtain ⟨v2_0, v2_1, v2_2, hv2, h⟩ := gg_bd3 h
        refine gg_callV (gg_sg [0]) [0, 1] (wd_X9_text v2_1 c_asked c_upper c_lower c_n c_readAt c_readMany c_readFood c_isHead c_backMany c_deedMany c_whole c_wellSum c_strongSum c_hash v2_2 c_textSizes c_bytes) 0 (C_X9_meets (5 : Int32) c_latest c_asked c_upper c_lower c_n c_readAt c_readMany c_readFood c_isHead c_backMany c_deedMany c_whole c_wellSum c_strongSum c_hash c_came hv2) nV_X9_meets ml_X9_106 rfl rfl rfl rfl rfl rfl rfl rfl rfl rfl [2, 3] 4 rfl rfl rfl rfl rfl ⟨Nat.le_of_ble_eq_true rfl, Nat.le_of_ble_eq_true rfl⟩ (Nat.le_of_ble_eq_true rfl) dX9_text_21 [.int v2_0] rfl ?_
        cases h
        exact gg_iret dX9_text_24 rfl
    · replace h := gg_el h hc
      refine gg_fg [false, false, false, false] [none, none, none, none] rfl ?_
      exact hk13 h
