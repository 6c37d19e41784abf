def wd_X9_isHut (c_latest : Int32) (c_asked : Int32) (c_upper : Int64) (c_lower : Int64) (c_n : Int32) (c_readAt : Int32) (c_readMany : Int32) (c_readFood : Int32) (c_isHead : Int32) (c_backMany : Int32) (c_deedMany : Int32) (c_whole : Int64) (c_wellSum : Int64) (c_strongSum : Int64) (c_hash : Int64) : va_W := [(0, .inr (8, [.int c_latest, .ref 1, .int c_asked, .long c_upper, .long c_lower, .ref 2, .ref 3, .ref 4, .ref 5, .ref 6, .int c_n, .ref 7, .ref 8, .ref 9, .ref 10, .int c_readAt, .int c_readMany, .int c_readFood, .int c_isHead, .ref 11, .ref 12, .ref 13, .int c_backMany, .int c_deedMany, .ref 14, .ref 15, .ref 16, .ref 17, .ref 18, .ref 19, .ref 20, .ref 21, .ref 22, .ref 23, .ref 24, .long c_whole, .long c_wellSum, .long c_strongSum, .long c_hash]))]
def MD_X9_isHut : gg_M := (yX9_isHut, cX9_isHut, 2, some .boolean, 1, 22)
theorem nV_X9_isHut : gg_nV MD_X9_isHut 1 := ⟨⟨gg_mem (by decide +kernel) rfl, gg_mem cw_X9_isHut rfl, by decide, by decide, by decide +kernel⟩, gg_mem (by decide +kernel) rfl, gg_mem (by decide +kernel) rfl⟩
def f_X9_isHut (a0 : Int32) (c_n : Int32) : Option (Int32) := (f_X9_in a0 (0 : Int32) (c_n - (1 : Int32))).bind (fun v1 => gg_chk (gg_isb v1) (some v1))
set_option maxRecDepth 20000 in
set_option maxHeartbeats 8000000 in
theorem C_X9_isHut (a0 : Int32) (c_latest : Int32) (c_asked : Int32) (c_upper : Int64) (c_lower : Int64) (c_n : Int32) (c_readAt : Int32) (c_readMany : Int32) (c_readFood : Int32) (c_isHead : Int32) (c_backMany : Int32) (c_deedMany : Int32) (c_whole : Int64) (c_wellSum : Int64) (c_strongSum : Int64) (c_hash : Int64) {res : Int32} (h : f_X9_isHut a0 c_n = some res) : gg_C MD_X9_isHut [.ref 0, .int a0] (wd_X9_isHut c_latest c_asked c_upper c_lower c_n c_readAt c_readMany c_readFood c_isHead c_backMany c_deedMany c_whole c_wellSum c_strongSum c_hash) (some (.int res)) (wd_X9_isHut c_latest c_asked c_upper c_lower c_n c_readAt c_readMany c_readFood c_isHead c_backMany c_deedMany c_whole c_wellSum c_strongSum c_hash) := by
  refine gg_ofG [some (.ref 0), some (.int a0)] (plainFor_of_name (by decide)) (Nat.le_of_ble_eq_true rfl) rfl ?_
  unfold f_X9_isHut at h
  refine gg_iload_n dX9_isHut_0 rfl ?_
  refine gg_iconst (0 : Int32) dX9_isHut_1 (by decide) ?_
  refine gg_aload_n dX9_isHut_2 rfl ?_
  refine gg_get 0 fl_X9_154 dX9_isHut_3 rfl rfl ?_
  refine gg_iconst (1 : Int32) dX9_isHut_6 (by decide) ?_
  refine gg_isub dX9_isHut_7 ?_
  obtain ⟨v1, hv1, h⟩ := gg_bd h
  refine gg_callS (gg_sg []) [] (wd_X9_isHut c_latest c_asked c_upper c_lower c_n c_readAt c_readMany c_readFood c_isHead c_backMany c_deedMany c_whole c_wellSum c_strongSum c_hash) (C_X9_in a0 (0 : Int32) (c_n - (1 : Int32)) hv1) nS_X9_in ml_X9_92 rfl rfl rfl rfl rfl rfl rfl [0] 1 rfl rfl rfl rfl rfl ⟨Nat.le_of_ble_eq_true rfl, Nat.le_of_ble_eq_true rfl⟩ (Nat.le_of_ble_eq_true rfl) dX9_isHut_8 [.int v1] rfl ?_
  obtain ⟨hz, h⟩ := gg_ck h
  cases h
  exact gg_zret dX9_isHut_11 rfl hz
def wd_X9_stays  : va_W := []
def MD_X9_stays : gg_M := (yX9_stays, cX9_stays, 2, some .boolean, 0, 0)
theorem nS_X9_stays : gg_nS MD_X9_stays 2 := ⟨⟨gg_mem (by decide +kernel) rfl, gg_mem cw_X9_stays rfl, by decide, by decide, by decide +kernel⟩, gg_mem (by decide +kernel) rfl⟩
def f_X9_stays (a0 : Int32) (a1 : Int32)  : Option (Int32) := gg_lt (fun (s0_15 : Int32) => gg_chk (gg_isb s0_15) (some s0_15)) (fun k15 => gg_lt ((k15 (0 : Int32))) (fun k14 => (if a0 = (2 : Int32) then (if a1 ≤ (4 : Int32) then k14 else (k15 (1 : Int32))) else k14)))
set_option maxRecDepth 20000 in
set_option maxHeartbeats 8000000 in
theorem C_X9_stays (a0 : Int32) (a1 : Int32)  {res : Int32} (h : f_X9_stays a0 a1 = some res) : gg_C MD_X9_stays [.int a0, .int a1] (wd_X9_stays) (some (.int res)) (wd_X9_stays) := by
  refine gg_ofG [some (.int a0), some (.int a1)] (plainFor_of_name (by decide)) (Nat.le_of_ble_eq_true rfl) rfl ?_
  unfold f_X9_stays at h
  refine gg_iload_n dX9_stays_0 rfl ?_
  refine gg_iconst (2 : Int32) dX9_stays_1 (by decide) ?_
  obtain ⟨k15, hke15, h⟩ := gg_lte h
  have hk15 : ∀ (s0_15 : Int32), k15 s0_15 = some res → gg_G MD_X9_stays 15 [none, none] [.int s0_15] (wd_X9_stays) (some (.int res)) (wd_X9_stays) := by
    intro s0_15 h
    subst hke15
    obtain ⟨hz, h⟩ := gg_ck h
    cases h
    exact gg_zret dX9_stays_15 rfl hz
  clear hke15
  obtain ⟨k14, hke14, h⟩ := gg_lte h
  have hk14 : k14 = some res → gg_G MD_X9_stays 14 [none, none] [] (wd_X9_stays) (some (.int res)) (wd_X9_stays) := by
    intro  h
    subst hke14
    refine gg_iconst (0 : Int32) dX9_stays_14 (by decide) ?_
    exact hk15 (0 : Int32) h
  clear hke14
  refine gg_icmp_ne 14 dX9_stays_2 (by decide) (fun hc => ?_) (fun hc => ?_)
  · replace h := gg_el h hc
    refine gg_fg [false, false] [none, none] rfl ?_
    exact hk14 h
  · replace h := gg_th h hc
    refine gg_iload_n dX9_stays_5 rfl ?_
    refine gg_iconst (4 : Int32) dX9_stays_6 (by decide) ?_
    refine gg_icmp_le 14 dX9_stays_7 (by decide) (fun hc => ?_) (fun hc => ?_)
    · replace h := gg_th h hc
      refine gg_fg [false, false] [none, none] rfl ?_
      exact hk14 h
    · replace h := gg_el h hc
      refine gg_iconst (1 : Int32) dX9_stays_10 (by decide) ?_
      refine gg_goto 15 dX9_stays_11 (by decide) ?_
      refine gg_fg [false, false] [none, none] rfl ?_
      exact hk15 (1 : Int32) h
def wd_X9_tiredBy  : va_W := []
def MD_X9_tiredBy : gg_M := (yX9_tiredBy, cX9_tiredBy, 2, some .int, 0, 0)
theorem nS_X9_tiredBy : gg_nS MD_X9_tiredBy 2 := ⟨⟨gg_mem (by decide +kernel) rfl, gg_mem cw_X9_tiredBy rfl, by decide, by decide, by decide +kernel⟩, gg_mem (by decide +kernel) rfl⟩
def f_X9_tiredBy (a0 : Int32) (a1 : Int32)  : Option (Int32) := gg_lt ((some (a1 + (1 : Int32)))) (fun k36 => ((if a0 = (1 : Int32) then k36 else (if a0 = (2 : Int32) then gg_lt (fun (s0_50 : Int32) => (some s0_50)) (fun k50 => (if a1 ≤ (4 : Int32) then (k50 a1) else (k50 (0 : Int32)))) else (if a0 = (3 : Int32) then (some (a1 / (2 : Int32))) else (if a0 = (4 : Int32) then k36 else (if a0 = (5 : Int32) then (some ((a1 / (2 : Int32)) + (1 : Int32))) else (some a1))))))))
set_option maxRecDepth 20000 in
set_option maxHeartbeats 8000000 in
theorem C_X9_tiredBy (a0 : Int32) (a1 : Int32)  {res : Int32} (h : f_X9_tiredBy a0 a1 = some res) : gg_C MD_X9_tiredBy [.int a0, .int a1] (wd_X9_tiredBy) (some (.int res)) (wd_X9_tiredBy) := by
  refine gg_ofG [some (.int a0), some (.int a1)] (plainFor_of_name (by decide)) (Nat.le_of_ble_eq_true rfl) rfl ?_
  unfold f_X9_tiredBy at h
  refine gg_iload_n dX9_tiredBy_0 rfl ?_
  obtain ⟨k36, hke36, h⟩ := gg_lte h
  have hk36 : k36 = some res → gg_G MD_X9_tiredBy 36 [none, some (.int a1)] [] (wd_X9_tiredBy) (some (.int res)) (wd_X9_tiredBy) := by
    intro  h
    subst hke36
    refine gg_iload_n dX9_tiredBy_36 rfl ?_
    refine gg_iconst (1 : Int32) dX9_tiredBy_37 (by decide) ?_
    refine gg_iadd dX9_tiredBy_38 ?_
    cases h
    exact gg_iret dX9_tiredBy_39 rfl
  clear hke36
  by_cases hs0 : a0 = (1 : Int32)
  · replace h := gg_th h hs0
    refine gg_swIn 36 dX9_tiredBy_1 (by rw [hs0]; decide) (by rw [hs0]; decide) (off := (35)) (by rw [hs0]; decide) (by decide) ?_
    refine gg_fg [false, true] [none, some (.int a1)] rfl ?_
    exact hk36 h
  replace h := gg_el h hs0
  by_cases hs1 : a0 = (2 : Int32)
  · replace h := gg_th h hs1
    refine gg_swIn 40 dX9_tiredBy_1 (by rw [hs1]; decide) (by rw [hs1]; decide) (off := (39)) (by rw [hs1]; decide) (by decide) ?_
    refine gg_iload_n dX9_tiredBy_40 rfl ?_
    refine gg_iconst (4 : Int32) dX9_tiredBy_41 (by decide) ?_
    obtain ⟨k50, hke50, h⟩ := gg_lte h
    have hk50 : ∀ (s0_50 : Int32), k50 s0_50 = some res → gg_G MD_X9_tiredBy 50 [none, none] [.int s0_50] (wd_X9_tiredBy) (some (.int res)) (wd_X9_tiredBy) := by
      intro s0_50 h
      subst hke50
      cases h
      exact gg_iret dX9_tiredBy_50 rfl
    clear hke50
    refine gg_icmp_le 49 dX9_tiredBy_42 (by decide) (fun hc => ?_) (fun hc => ?_)
    · replace h := gg_th h hc
      refine gg_iload_n dX9_tiredBy_49 rfl ?_
      refine gg_fg [false, false] [none, none] rfl ?_
      exact hk50 a1 h
    · replace h := gg_el h hc
      refine gg_iconst (0 : Int32) dX9_tiredBy_45 (by decide) ?_
      refine gg_goto 50 dX9_tiredBy_46 (by decide) ?_
      refine gg_fg [false, false] [none, none] rfl ?_
      exact hk50 (0 : Int32) h
  replace h := gg_el h hs1
  by_cases hs2 : a0 = (3 : Int32)
  · replace h := gg_th h hs2
    refine gg_swIn 51 dX9_tiredBy_1 (by rw [hs2]; decide) (by rw [hs2]; decide) (off := (50)) (by rw [hs2]; decide) (by decide) ?_
    refine gg_iload_n dX9_tiredBy_51 rfl ?_
    refine gg_iconst (2 : Int32) dX9_tiredBy_52 (by decide) ?_
    refine gg_idiv dX9_tiredBy_53 (by decide) ?_
    cases h
    exact gg_iret dX9_tiredBy_54 rfl
  replace h := gg_el h hs2
  by_cases hs3 : a0 = (4 : Int32)
  · replace h := gg_th h hs3
    refine gg_swIn 36 dX9_tiredBy_1 (by rw [hs3]; decide) (by rw [hs3]; decide) (off := (35)) (by rw [hs3]; decide) (by decide) ?_
    refine gg_fg [false, true] [none, some (.int a1)] rfl ?_
    exact hk36 h
  replace h := gg_el h hs3
  by_cases hs4 : a0 = (5 : Int32)
  · replace h := gg_th h hs4
    refine gg_swIn 55 dX9_tiredBy_1 (by rw [hs4]; decide) (by rw [hs4]; decide) (off := (54)) (by rw [hs4]; decide) (by decide) ?_
    refine gg_iload_n dX9_tiredBy_55 rfl ?_
    refine gg_iconst (2 : Int32) dX9_tiredBy_56 (by decide) ?_
    refine gg_idiv dX9_tiredBy_57 (by decide) ?_
    refine gg_iconst (1 : Int32) dX9_tiredBy_58 (by decide) ?_
    refine gg_iadd dX9_tiredBy_59 ?_
    cases h
    exact gg_iret dX9_tiredBy_60 rfl
  replace h := gg_el h hs4
  refine gg_swOut 61 dX9_tiredBy_1 ?_ (by decide) ?_
  · have q0 := gg_ne32 hs0 (by decide : ((1 : Int32)).toInt = 1); have q1 := gg_ne32 hs1 (by decide : ((2 : Int32)).toInt = 2); have q2 := gg_ne32 hs2 (by decide : ((3 : Int32)).toInt = 3); have q3 := gg_ne32 hs3 (by decide : ((4 : Int32)).toInt = 4); have q4 := gg_ne32 hs4 (by decide : ((5 : Int32)).toInt = 5); omega
  refine gg_iload_n dX9_tiredBy_61 rfl ?_
  cases h
  exact gg_iret dX9_tiredBy_62 rfl
def wd_X9_lateBy  : va_W := []
def MD_X9_lateBy : gg_M := (yX9_lateBy, cX9_lateBy, 1, some .int, 0, 0)
theorem nS_X9_lateBy : gg_nS MD_X9_lateBy 1 := ⟨⟨gg_mem (by decide +kernel) rfl, gg_mem cw_X9_lateBy rfl, by decide, by decide, by decide +kernel⟩, gg_mem (by decide +kernel) rfl⟩
def f_X9_lateBy (a0 : Int32)  : Option (Int32) := gg_lt ((some (1 : Int32))) (fun k42 => gg_lt ((some (2 : Int32))) (fun k40 => ((if a0 = (1 : Int32) then (some (3 : Int32)) else (if a0 = (2 : Int32) then k42 else (if a0 = (3 : Int32) then (some (0 : Int32)) else (if a0 = (4 : Int32) then k40 else (if a0 = (5 : Int32) then k40 else k42))))))))
set_option maxRecDepth 20000 in
set_option maxHeartbeats 8000000 in
theorem C_X9_lateBy (a0 : Int32)  {res : Int32} (h : f_X9_lateBy a0 = some res) : gg_C MD_X9_lateBy [.int a0] (wd_X9_lateBy) (some (.int res)) (wd_X9_lateBy) := by
  refine gg_ofG [some (.int a0)] (plainFor_of_name (by decide)) (Nat.le_of_ble_eq_true rfl) rfl ?_
  unfold f_X9_lateBy at h
  refine gg_iload_n dX9_lateBy_0 rfl ?_
  obtain ⟨k42, hke42, h⟩ := gg_lte h
  have hk42 : k42 = some res → gg_G MD_X9_lateBy 42 [none] [] (wd_X9_lateBy) (some (.int res)) (wd_X9_lateBy) := by
    intro  h
    subst hke42
    refine gg_iconst (1 : Int32) dX9_lateBy_42 (by decide) ?_
    cases h
    exact gg_iret dX9_lateBy_43 rfl
  clear hke42
  obtain ⟨k40, hke40, h⟩ := gg_lte h
  have hk40 : k40 = some res → gg_G MD_X9_lateBy 40 [none] [] (wd_X9_lateBy) (some (.int res)) (wd_X9_lateBy) := by
    intro  h
    subst hke40
    refine gg_iconst (2 : Int32) dX9_lateBy_40 (by decide) ?_
    cases h
    exact gg_iret dX9_lateBy_41 rfl
  clear hke40
  by_cases hs0 : a0 = (1 : Int32)
  · replace h := gg_th h hs0
    refine gg_swIn 36 dX9_lateBy_1 (by rw [hs0]; decide) (by rw [hs0]; decide) (off := (35)) (by rw [hs0]; decide) (by decide) ?_
    refine gg_iconst (3 : Int32) dX9_lateBy_36 (by decide) ?_
    cases h
    exact gg_iret dX9_lateBy_37 rfl
  replace h := gg_el h hs0
  by_cases hs1 : a0 = (2 : Int32)
  · replace h := gg_th h hs1
    refine gg_swIn 42 dX9_lateBy_1 (by rw [hs1]; decide) (by rw [hs1]; decide) (off := (41)) (by rw [hs1]; decide) (by decide) ?_
    refine gg_fg [false] [none] rfl ?_
    exact hk42 h
  replace h := gg_el h hs1
  by_cases hs2 : a0 = (3 : Int32)
  · replace h := gg_th h hs2
    refine gg_swIn 38 dX9_lateBy_1 (by rw [hs2]; decide) (by rw [hs2]; decide) (off := (37)) (by rw [hs2]; decide) (by decide) ?_
    refine gg_iconst (0 : Int32) dX9_lateBy_38 (by decide) ?_
    cases h
    exact gg_iret dX9_lateBy_39 rfl
  replace h := gg_el h hs2
  by_cases hs3 : a0 = (4 : Int32)
  · replace h := gg_th h hs3
    refine gg_swIn 40 dX9_lateBy_1 (by rw [hs3]; decide) (by rw [hs3]; decide) (off := (39)) (by rw [hs3]; decide) (by decide) ?_
    refine gg_fg [false] [none] rfl ?_
    exact hk40 h
  replace h := gg_el h hs3
  by_cases hs4 : a0 = (5 : Int32)
  · replace h := gg_th h hs4
    refine gg_swIn 40 dX9_lateBy_1 (by rw [hs4]; decide) (by rw [hs4]; decide) (off := (39)) (by rw [hs4]; decide) (by decide) ?_
    refine gg_fg [false] [none] rfl ?_
    exact hk40 h
  replace h := gg_el h hs4
  refine gg_swOut 42 dX9_lateBy_1 ?_ (by decide) ?_
  · have q0 := gg_ne32 hs0 (by decide : ((1 : Int32)).toInt = 1); have q1 := gg_ne32 hs1 (by decide : ((2 : Int32)).toInt = 2); have q2 := gg_ne32 hs2 (by decide : ((3 : Int32)).toInt = 3); have q3 := gg_ne32 hs3 (by decide : ((4 : Int32)).toInt = 4); have q4 := gg_ne32 hs4 (by decide : ((5 : Int32)).toInt = 5); omega
  refine gg_fg [false] [none] rfl ?_
  exact hk42 h
def wd_X9_landing  : va_W := []
def MD_X9_landing : gg_M := (yX9_landing, cX9_landing, 5, some .int, 1, 21)
theorem nS_X9_landing : gg_nS MD_X9_landing 2 := ⟨⟨gg_mem (by decide +kernel) rfl, gg_mem cw_X9_landing rfl, by decide, by decide, by decide +kernel⟩, gg_mem (by decide +kernel) rfl⟩
def lp_X9_landing_6 {β : Type} (y0 : Int32) (y1 : Int32) (k61 : (Int32) → Option β) : Nat → (Int32) → (Int32) → Option β
  | 0, _, _ => none
  | n + 1, x2_6, x3_6 => (if x3_6 < (0 : Int32) then (k61 x2_6) else gg_lt (fun (s0_34 : Int32) => (f_X9_has y1 x3_6).bind (fun v1 => gg_lt (fun (s0_54 : Int32) => (lp_X9_landing_6 y0 y1 k61 n s0_54 (x3_6 + (-1 : Int32)))) (fun k54 => gg_lt ((k54 x2_6)) (fun k53 => (if v1 = (0 : Int32) then (if s0_34 = (0 : Int32) then k53 else (k54 x3_6)) else k53))))) (fun k34 => gg_lt ((k34 (1 : Int32))) (fun k29 => (if x2_6 = (-9 : Int32) then k29 else (f_X9_apart x3_6 y0).bind (fun v2 => (f_X9_apart x2_6 y0).bind (fun v3 => (if v3 < v2 then (k34 (0 : Int32)) else k29)))))))
def f_X9_landing (a0 : Int32) (a1 : Int32)  : Option (Int32) := (lp_X9_landing_6 a0 a1 (fun (x2_61 : Int32) => (some x2_61)) gg_fuel (-9 : Int32) (9 : Int32))
set_option maxRecDepth 20000 in
set_option maxHeartbeats 4000000 in
theorem lq_X9_landing_6 {β : Type} {res : β} {rr : Option Value} {ww : va_W} (y0 : Int32) (y1 : Int32) (k61 : (Int32) → Option β) (hk61 : ∀ (x2_61 : Int32), k61 x2_61 = some res → gg_G MD_X9_landing 61 [none, none, some (.int x2_61), none, none] [] (wd_X9_landing) rr ww) : ∀ (n : Nat) (x2_6 : Int32) (x3_6 : Int32), lp_X9_landing_6 y0 y1 k61 n x2_6 x3_6 = some res → gg_G MD_X9_landing 6 [some (.int y0), some (.int y1), some (.int x2_6), some (.int x3_6), none] [] (wd_X9_landing) rr ww := by
  intro n
  induction n with
  | zero =>
    intro x2_6 x3_6 h
    exact nomatch (show (none : Option β) = some res from h)
  | succ n ih =>
    intro x2_6 x3_6 h
    rw [lp_X9_landing_6] at h
    refine gg_iload_n dX9_landing_6 rfl ?_
    refine gg_if_lt 61 dX9_landing_7 (by decide) (fun hc => ?_) (fun hc => ?_)
    · replace h := gg_th h hc
      refine gg_fg [false, false, true, false, false] [none, none, some (.int x2_6), none, none] rfl ?_
      exact hk61 x2_6 h
    · replace h := gg_el h hc
      refine gg_iload_n dX9_landing_10 rfl ?_
      refine gg_bipush (-9 : Int32) dX9_landing_11 (by decide) ?_
      obtain ⟨k34, hke34, h⟩ := gg_lte h
      have hk34 : ∀ (s0_34 : Int32), k34 s0_34 = some res → gg_G MD_X9_landing 34 [some (.int y0), some (.int y1), some (.int x2_6), some (.int x3_6), none] [.int s0_34] (wd_X9_landing) rr ww := by
        intro s0_34 h
        subst hke34
        refine gg_istore [some (.int y0), some (.int y1), some (.int x2_6), some (.int x3_6), some (.int s0_34)] dX9_landing_34 rfl (Nat.le_of_ble_eq_true rfl) rfl ?_
        refine gg_iload_n dX9_landing_36 rfl ?_
        refine gg_iload_n dX9_landing_37 rfl ?_
        obtain ⟨v1, hv1, h⟩ := gg_bd h
        refine gg_callS (gg_sg []) [] (wd_X9_landing) (C_X9_has y1 x3_6 hv1) nS_X9_has ml_X9_167 rfl rfl rfl rfl rfl rfl rfl [] 0 rfl rfl rfl rfl rfl ⟨Nat.le_of_ble_eq_true rfl, Nat.le_of_ble_eq_true rfl⟩ (Nat.le_of_ble_eq_true rfl) dX9_landing_38 [.int v1] rfl ?_
        obtain ⟨k54, hke54, h⟩ := gg_lte h
        have hk54 : ∀ (s0_54 : Int32), k54 s0_54 = some res → gg_G MD_X9_landing 54 [some (.int y0), some (.int y1), none, some (.int x3_6), none] [.int s0_54] (wd_X9_landing) rr ww := by
          intro s0_54 h
          subst hke54
          refine gg_istore_n [some (.int y0), some (.int y1), some (.int s0_54), some (.int x3_6), none] dX9_landing_54 rfl (Nat.le_of_ble_eq_true rfl) rfl ?_
          refine gg_iinc (x3_6 + (-1 : Int32)) [some (.int y0), some (.int y1), some (.int s0_54), some (.int (x3_6 + (-1 : Int32))), none] dX9_landing_55 rfl rfl rfl (Nat.le_of_ble_eq_true rfl) rfl ?_
          refine gg_goto 6 dX9_landing_58 (by decide) ?_
          exact ih s0_54 (x3_6 + (-1 : Int32)) h
        clear hke54
        obtain ⟨k53, hke53, h⟩ := gg_lte h
        have hk53 : k53 = some res → gg_G MD_X9_landing 53 [some (.int y0), some (.int y1), some (.int x2_6), some (.int x3_6), none] [] (wd_X9_landing) rr ww := by
          intro  h
          subst hke53
          refine gg_iload_n dX9_landing_53 rfl ?_
          refine gg_fg [true, true, false, true, false] [some (.int y0), some (.int y1), none, some (.int x3_6), none] rfl ?_
          exact hk54 x2_6 h
        clear hke53
        refine gg_if_ne 53 dX9_landing_41 (by decide) (fun hc => ?_) (fun hc => ?_)
        · replace h := gg_el h hc
          refine gg_fg [true, true, true, true, false] [some (.int y0), some (.int y1), some (.int x2_6), some (.int x3_6), none] rfl ?_
          exact hk53 h
        · replace h := gg_th h hc
          refine gg_iload dX9_landing_44 rfl ?_
          refine gg_if_eq 53 dX9_landing_46 (by decide) (fun hc => ?_) (fun hc => ?_)
          · replace h := gg_th h hc
            refine gg_fg [true, true, true, true, false] [some (.int y0), some (.int y1), some (.int x2_6), some (.int x3_6), none] rfl ?_
            exact hk53 h
          · replace h := gg_el h hc
            refine gg_iload_n dX9_landing_49 rfl ?_
            refine gg_goto 54 dX9_landing_50 (by decide) ?_
            refine gg_fg [true, true, false, true, false] [some (.int y0), some (.int y1), none, some (.int x3_6), none] rfl ?_
            exact hk54 x3_6 h
      clear hke34
      obtain ⟨k29, hke29, h⟩ := gg_lte h
      have hk29 : k29 = some res → gg_G MD_X9_landing 29 [some (.int y0), some (.int y1), some (.int x2_6), some (.int x3_6), none] [] (wd_X9_landing) rr ww := by
        intro  h
        subst hke29
        refine gg_iconst (1 : Int32) dX9_landing_29 (by decide) ?_
        refine gg_goto 34 dX9_landing_30 (by decide) ?_
        exact hk34 (1 : Int32) h
      clear hke29
      refine gg_icmp_eq 29 dX9_landing_13 (by decide) (fun hc => ?_) (fun hc => ?_)
      · replace h := gg_th h hc
        exact hk29 h
      · replace h := gg_el h hc
        refine gg_iload_n dX9_landing_16 rfl ?_
        refine gg_iload_n dX9_landing_17 rfl ?_
        obtain ⟨v2, hv2, h⟩ := gg_bd h
        refine gg_callS (gg_sg []) [] (wd_X9_landing) (C_X9_apart x3_6 y0 hv2) nS_X9_apart ml_X9_164 rfl rfl rfl rfl rfl rfl rfl [] 0 rfl rfl rfl rfl rfl ⟨Nat.le_of_ble_eq_true rfl, Nat.le_of_ble_eq_true rfl⟩ (Nat.le_of_ble_eq_true rfl) dX9_landing_18 [.int v2] rfl ?_
        refine gg_iload_n dX9_landing_21 rfl ?_
        refine gg_iload_n dX9_landing_22 rfl ?_
        obtain ⟨v3, hv3, h⟩ := gg_bd h
        refine gg_callS (gg_sg []) [] (wd_X9_landing) (C_X9_apart x2_6 y0 hv3) nS_X9_apart ml_X9_164 rfl rfl rfl rfl rfl rfl rfl [] 0 rfl rfl rfl rfl rfl ⟨Nat.le_of_ble_eq_true rfl, Nat.le_of_ble_eq_true rfl⟩ (Nat.le_of_ble_eq_true rfl) dX9_landing_23 [.int v3, .int v2] rfl ?_
        refine gg_icmp_gt 33 dX9_landing_26 (by decide) (fun hc => ?_) (fun hc => ?_)
        · replace h := gg_th h hc
          refine gg_iconst (0 : Int32) dX9_landing_33 (by decide) ?_
          exact hk34 (0 : Int32) h
        · replace h := gg_el h hc
          exact hk29 h
set_option maxRecDepth 20000 in
set_option maxHeartbeats 8000000 in
theorem C_X9_landing (a0 : Int32) (a1 : Int32)  {res : Int32} (h : f_X9_landing a0 a1 = some res) : gg_C MD_X9_landing [.int a0, .int a1] (wd_X9_landing) (some (.int res)) (wd_X9_landing) := by
  refine gg_ofG [some (.int a0), some (.int a1), none, none, none] (plainFor_of_name (by decide)) (Nat.le_of_ble_eq_true rfl) rfl ?_
  unfold f_X9_landing at h
  refine gg_bipush (-9 : Int32) dX9_landing_0 (by decide) ?_
  refine gg_istore_n [some (.int a0), some (.int a1), some (.int (-9 : Int32)), none, none] dX9_landing_2 rfl (Nat.le_of_ble_eq_true rfl) rfl ?_
  refine gg_bipush (9 : Int32) dX9_landing_3 (by decide) ?_
  refine gg_istore_n [some (.int a0), some (.int a1), some (.int (-9 : Int32)), some (.int (9 : Int32)), none] dX9_landing_5 rfl (Nat.le_of_ble_eq_true rfl) rfl ?_
  refine lq_X9_landing_6 a0 a1 _ ?_ gg_fuel (-9 : Int32) (9 : Int32) h
  intro x2_61 h
  refine gg_iload_n dX9_landing_61 rfl ?_
  cases h
  exact gg_iret dX9_landing_62 rfl
def wd_X9_copyNow (c_latest : Int32) (c_asked : Int32) (c_upper : Int64) (c_lower : Int64) (c_n : Int32) (c_readAt : Int32) (c_readMany : Int32) (c_readFood : Int32) (c_isHead : Int32) (c_backMany : Int32) (c_deedMany : Int32) (c_whole : Int64) (c_wellSum : Int64) (c_strongSum : Int64) (c_hash : Int64) (c_now : Nat → Int32) (c_tried : Nat → Int32) : va_W := [(0, .inr (8, [.int c_latest, .ref 1, .int c_asked, .long c_upper, .long c_lower, .ref 2, .ref 3, .ref 4, .ref 5, .ref 6, .int c_n, .ref 7, .ref 8, .ref 9, .ref 10, .int c_readAt, .int c_readMany, .int c_readFood, .int c_isHead, .ref 11, .ref 12, .ref 13, .int c_backMany, .int c_deedMany, .ref 14, .ref 15, .ref 16, .ref 17, .ref 18, .ref 19, .ref 20, .ref 21, .ref 22, .ref 23, .ref 24, .long c_whole, .long c_wellSum, .long c_strongSum, .long c_hash])), (9, .inl (0, 26, .inl c_now)), (10, .inl (0, 26, .inl c_tried))]
def MD_X9_copyNow : gg_M := (yX9_copyNow, cX9_copyNow, 2, none, 0, 0)
theorem nV_X9_copyNow : gg_nV MD_X9_copyNow 0 := ⟨⟨gg_mem (by decide +kernel) rfl, gg_mem cw_X9_copyNow rfl, by decide, by decide, by decide +kernel⟩, gg_mem (by decide +kernel) rfl, gg_mem (by decide +kernel) rfl⟩
def lp_X9_copyNow_2 {β : Type} (c_now : Nat → Int32) (k26 : (Nat → Int32) → Option β) : Nat → (Int32) → (Nat → Int32) → Option β
  | 0, _, _ => none
  | n + 1, x1_2, c_tried_2 => (if (26 : Int32) ≤ x1_2 then (k26 c_tried_2) else gg_chk (gg_in x1_2 26) (gg_chk (gg_in x1_2 26) ((lp_X9_copyNow_2 c_now k26 n (x1_2 + (1 : Int32)) (upd c_tried_2 x1_2.toNatClampNeg (c_now x1_2.toNatClampNeg))))))
def f_X9_copyNow  (c_now : Nat → Int32) (c_tried : Nat → Int32) : Option ((Nat → Int32)) := (lp_X9_copyNow_2 c_now (fun (c_tried_26 : Nat → Int32) => (some c_tried_26)) gg_fuel (0 : Int32) c_tried)
set_option maxRecDepth 20000 in
set_option maxHeartbeats 4000000 in
theorem lq_X9_copyNow_2 {β : Type} {res : β} {rr : Option Value} {ww : va_W} (c_latest : Int32) (c_asked : Int32) (c_upper : Int64) (c_lower : Int64) (c_n : Int32) (c_readAt : Int32) (c_readMany : Int32) (c_readFood : Int32) (c_isHead : Int32) (c_backMany : Int32) (c_deedMany : Int32) (c_whole : Int64) (c_wellSum : Int64) (c_strongSum : Int64) (c_hash : Int64) (c_now : Nat → Int32) (k26 : (Nat → Int32) → Option β) (hk26 : ∀ (c_tried_26 : Nat → Int32), k26 c_tried_26 = some res → gg_G MD_X9_copyNow 26 [none, none] [] (wd_X9_copyNow c_latest c_asked c_upper c_lower c_n c_readAt c_readMany c_readFood c_isHead c_backMany c_deedMany c_whole c_wellSum c_strongSum c_hash c_now c_tried_26) rr ww) : ∀ (n : Nat) (x1_2 : Int32) (c_tried_2 : Nat → Int32), lp_X9_copyNow_2 c_now k26 n x1_2 c_tried_2 = some res → gg_G MD_X9_copyNow 2 [some (.ref 0), some (.int x1_2)] [] (wd_X9_copyNow c_latest c_asked c_upper c_lower c_n c_readAt c_readMany c_readFood c_isHead c_backMany c_deedMany c_whole c_wellSum c_strongSum c_hash c_now c_tried_2) rr ww := by
  intro n
  induction n with
  | zero =>
    intro x1_2 c_tried_2 h
    exact nomatch (show (none : Option β) = some res from h)
  | succ n ih =>
    intro x1_2 c_tried_2 h
    rw [lp_X9_copyNow_2] at h
    refine gg_iload_n dX9_copyNow_2 rfl ?_
    refine gg_bipush (26 : Int32) dX9_copyNow_3 (by decide) ?_
    refine gg_icmp_ge 26 dX9_copyNow_5 (by decide) (fun hc => ?_) (fun hc => ?_)
    · replace h := gg_th h hc
      refine gg_fg [false, false] [none, none] rfl ?_
      exact hk26 c_tried_2 h
    · replace h := gg_el h hc
      refine gg_aload_n dX9_copyNow_8 rfl ?_
      refine gg_get 0 fl_X9_42 dX9_copyNow_9 rfl rfl ?_
      refine gg_iload_n dX9_copyNow_12 rfl ?_
      refine gg_aload_n dX9_copyNow_13 rfl ?_
      refine gg_get 0 fl_X9_39 dX9_copyNow_14 rfl rfl ?_
      refine gg_iload_n dX9_copyNow_17 rfl ?_
      obtain ⟨hb18, h⟩ := gg_ck h
      refine gg_iald 1 dX9_copyNow_18 rfl hb18 ?_
      obtain ⟨hb19, h⟩ := gg_ck h
      refine gg_iast 2 (wd_X9_copyNow c_latest c_asked c_upper c_lower c_n c_readAt c_readMany c_readFood c_isHead c_backMany c_deedMany c_whole c_wellSum c_strongSum c_hash c_now (upd c_tried_2 x1_2.toNatClampNeg (c_now x1_2.toNatClampNeg))) dX9_copyNow_19 rfl hb19 rfl ?_
      refine gg_iinc (x1_2 + (1 : Int32)) [some (.ref 0), some (.int (x1_2 + (1 : Int32)))] dX9_copyNow_20 rfl rfl rfl (Nat.le_of_ble_eq_true rfl) rfl ?_
      refine gg_goto 2 dX9_copyNow_23 (by decide) ?_
      exact ih (x1_2 + (1 : Int32)) (upd c_tried_2 x1_2.toNatClampNeg (c_now x1_2.toNatClampNeg)) h
set_option maxRecDepth 20000 in
set_option maxHeartbeats 8000000 in
theorem C_X9_copyNow  (c_latest : Int32) (c_asked : Int32) (c_upper : Int64) (c_lower : Int64) (c_n : Int32) (c_readAt : Int32) (c_readMany : Int32) (c_readFood : Int32) (c_isHead : Int32) (c_backMany : Int32) (c_deedMany : Int32) (c_whole : Int64) (c_wellSum : Int64) (c_strongSum : Int64) (c_hash : Int64) (c_now : Nat → Int32) (c_tried : Nat → Int32) {res : (Nat → Int32)} (h : f_X9_copyNow c_now c_tried = some res) : gg_C MD_X9_copyNow [.ref 0] (wd_X9_copyNow c_latest c_asked c_upper c_lower c_n c_readAt c_readMany c_readFood c_isHead c_backMany c_deedMany c_whole c_wellSum c_strongSum c_hash c_now c_tried) (none) (wd_X9_copyNow c_latest c_asked c_upper c_lower c_n c_readAt c_readMany c_readFood c_isHead c_backMany c_deedMany c_whole c_wellSum c_strongSum c_hash c_now res) := by
  refine gg_ofG [some (.ref 0), none] (plainFor_of_name (by decide)) (Nat.le_of_ble_eq_true rfl) rfl ?_
  unfold f_X9_copyNow at h
  refine gg_iconst (0 : Int32) dX9_copyNow_0 (by decide) ?_
  refine gg_istore_n [some (.ref 0), some (.int (0 : Int32))] dX9_copyNow_1 rfl (Nat.le_of_ble_eq_true rfl) rfl ?_
  refine lq_X9_copyNow_2 c_latest c_asked c_upper c_lower c_n c_readAt c_readMany c_readFood c_isHead c_backMany c_deedMany c_whole c_wellSum c_strongSum c_hash c_now _ ?_ gg_fuel (0 : Int32) c_tried h
  intro c_tried_26 h
  cases h
  exact gg_vret dX9_copyNow_26 rfl
def wd_X9_windOf_a26 (c_latest : Int32) (c_asked : Int32) (c_upper : Int64) (c_lower : Int64) (c_n : Int32) (c_readAt : Int32) (c_readMany : Int32) (c_readFood : Int32) (c_isHead : Int32) (c_backMany : Int32) (c_deedMany : Int32) (c_whole : Int64) (c_wellSum : Int64) (c_strongSum : Int64) (c_hash : Int64) (c_winds : Nat → Int32) (c_p1_a : Nat → Int32) : va_W := [(0, .inr (8, [.int c_latest, .ref 1, .int c_asked, .long c_upper, .long c_lower, .ref 2, .ref 3, .ref 4, .ref 5, .ref 6, .int c_n, .ref 7, .ref 8, .ref 9, .ref 10, .int c_readAt, .int c_readMany, .int c_readFood, .int c_isHead, .ref 11, .ref 12, .ref 13, .int c_backMany, .int c_deedMany, .ref 14, .ref 15, .ref 16, .ref 17, .ref 18, .ref 19, .ref 20, .ref 21, .ref 22, .ref 23, .ref 24, .long c_whole, .long c_wellSum, .long c_strongSum, .long c_hash])), (8, .inl (0, 4, .inl c_winds)), (100, .inl (0, 26, .inl c_p1_a))]
def MD_X9_windOf_a26 : gg_M := (yX9_windOf, cX9_windOf, 2, some .int, 0, 0)
theorem nV_X9_windOf_a26 : gg_nV MD_X9_windOf_a26 1 := ⟨⟨gg_mem (by decide +kernel) rfl, gg_mem cw_X9_windOf rfl, by decide, by decide, by decide +kernel⟩, gg_mem (by decide +kernel) rfl, gg_mem (by decide +kernel) rfl⟩
def f_X9_windOf_a26  (c_winds : Nat → Int32) (c_p1_a : Nat → Int32) : Option (Int32) := gg_chk (gg_in (0 : Int32) 26) (gg_chk (gg_in ((c_p1_a (0 : Int32).toNatClampNeg) - (c_p1_a (0 : Int32).toNatClampNeg) / (4 : Int32) * (4 : Int32)) 4) ((some (c_winds ((c_p1_a (0 : Int32).toNatClampNeg) - (c_p1_a (0 : Int32).toNatClampNeg) / (4 : Int32) * (4 : Int32)).toNatClampNeg))))
set_option maxRecDepth 20000 in
set_option maxHeartbeats 8000000 in
theorem C_X9_windOf_a26  (c_latest : Int32) (c_asked : Int32) (c_upper : Int64) (c_lower : Int64) (c_n : Int32) (c_readAt : Int32) (c_readMany : Int32) (c_readFood : Int32) (c_isHead : Int32) (c_backMany : Int32) (c_deedMany : Int32) (c_whole : Int64) (c_wellSum : Int64) (c_strongSum : Int64) (c_hash : Int64) (c_winds : Nat → Int32) (c_p1_a : Nat → Int32) {res : Int32} (h : f_X9_windOf_a26 c_winds c_p1_a = some res) : gg_C MD_X9_windOf_a26 [.ref 0, .ref 100] (wd_X9_windOf_a26 c_latest c_asked c_upper c_lower c_n c_readAt c_readMany c_readFood c_isHead c_backMany c_deedMany c_whole c_wellSum c_strongSum c_hash c_winds c_p1_a) (some (.int res)) (wd_X9_windOf_a26 c_latest c_asked c_upper c_lower c_n c_readAt c_readMany c_readFood c_isHead c_backMany c_deedMany c_whole c_wellSum c_strongSum c_hash c_winds c_p1_a) := by
  refine gg_ofG [some (.ref 0), some (.ref 100)] (plainFor_of_name (by decide)) (Nat.le_of_ble_eq_true rfl) rfl ?_
  unfold f_X9_windOf_a26 at h
  refine gg_aload_n dX9_windOf_0 rfl ?_
  refine gg_get 0 fl_X9_36 dX9_windOf_1 rfl rfl ?_
  refine gg_aload_n dX9_windOf_4 rfl ?_
  refine gg_iconst (0 : Int32) dX9_windOf_5 (by decide) ?_
  obtain ⟨hb6, h⟩ := gg_ck h
  refine gg_iald 2 dX9_windOf_6 rfl hb6 ?_
  refine gg_iconst (4 : Int32) dX9_windOf_7 (by decide) ?_
  refine gg_irem dX9_windOf_8 (by decide) ?_
  obtain ⟨hb9, h⟩ := gg_ck h
  refine gg_iald 1 dX9_windOf_9 rfl hb9 ?_
  cases h
  exact gg_iret dX9_windOf_10 rfl
def wd_X9_hutTells (c_latest : Int32) (c_asked : Int32) (c_upper : Int64) (c_lower : Int64) (c_n : Int32) (c_readAt : Int32) (c_readMany : Int32) (c_readFood : Int32) (c_isHead : Int32) (c_backMany : Int32) (c_deedMany : Int32) (c_whole : Int64) (c_wellSum : Int64) (c_strongSum : Int64) (c_hash : Int64) (c_kindOf : Nat → Int32) (c_winds : Nat → Int32) (c_now : Nat → Int32) : va_W := [(0, .inr (8, [.int c_latest, .ref 1, .int c_asked, .long c_upper, .long c_lower, .ref 2, .ref 3, .ref 4, .ref 5, .ref 6, .int c_n, .ref 7, .ref 8, .ref 9, .ref 10, .int c_readAt, .int c_readMany, .int c_readFood, .int c_isHead, .ref 11, .ref 12, .ref 13, .int c_backMany, .int c_deedMany, .ref 14, .ref 15, .ref 16, .ref 17, .ref 18, .ref 19, .ref 20, .ref 21, .ref 22, .ref 23, .ref 24, .long c_whole, .long c_wellSum, .long c_strongSum, .long c_hash])), (7, .inl (0, 6, .inl c_kindOf)), (8, .inl (0, 4, .inl c_winds)), (9, .inl (0, 26, .inl c_now))]
def MD_X9_hutTells : gg_M := (yX9_hutTells, cX9_hutTells, 3, some .int, 1, 21)
theorem nV_X9_hutTells : gg_nV MD_X9_hutTells 2 := ⟨⟨gg_mem (by decide +kernel) rfl, gg_mem cw_X9_hutTells rfl, by decide, by decide, by decide +kernel⟩, gg_mem (by decide +kernel) rfl, gg_mem (by decide +kernel) rfl⟩
def f_X9_hutTells (a0 : Int32) (a1 : Int32) (c_kindOf : Nat → Int32) (c_winds : Nat → Int32) (c_now : Nat → Int32) : Option (Int32) := ((if a1 = (0 : Int32) then gg_chk (gg_in a0 6) ((some (c_kindOf a0.toNatClampNeg))) else (if a1 = (1 : Int32) then gg_chk (gg_in ((2 : Int32) + a0) 26) ((some (c_now ((2 : Int32) + a0).toNatClampNeg))) else (if a1 = (2 : Int32) then gg_chk (gg_in ((8 : Int32) + a0) 26) ((some (c_now ((8 : Int32) + a0).toNatClampNeg))) else (if a1 = (3 : Int32) then gg_chk (gg_in ((14 : Int32) + a0) 26) ((some (c_now ((14 : Int32) + a0).toNatClampNeg))) else (if a1 = (4 : Int32) then gg_chk (gg_in ((20 : Int32) + a0) 26) ((some (c_now ((20 : Int32) + a0).toNatClampNeg))) else (if a1 = (5 : Int32) then gg_chk (gg_in a0 6) ((f_X9_windOf_a26 c_winds c_now).bind (fun v1 => (f_X9_tiredBy (c_kindOf a0.toNatClampNeg) v1).bind (fun v2 => (some v2)))) else gg_chk (gg_in a0 6) ((f_X9_lateBy (c_kindOf a0.toNatClampNeg)).bind (fun v3 => (some v3))))))))))
set_option maxRecDepth 20000 in
set_option maxHeartbeats 8000000 in
theorem C_X9_hutTells (a0 : Int32) (a1 : Int32) (c_latest : Int32) (c_asked : Int32) (c_upper : Int64) (c_lower : Int64) (c_n : Int32) (c_readAt : Int32) (c_readMany : Int32) (c_readFood : Int32) (c_isHead : Int32) (c_backMany : Int32) (c_deedMany : Int32) (c_whole : Int64) (c_wellSum : Int64) (c_strongSum : Int64) (c_hash : Int64) (c_kindOf : Nat → Int32) (c_winds : Nat → Int32) (c_now : Nat → Int32) {res : Int32} (h : f_X9_hutTells a0 a1 c_kindOf c_winds c_now = some res) : gg_C MD_X9_hutTells [.ref 0, .int a0, .int a1] (wd_X9_hutTells c_latest c_asked c_upper c_lower c_n c_readAt c_readMany c_readFood c_isHead c_backMany c_deedMany c_whole c_wellSum c_strongSum c_hash c_kindOf c_winds c_now) (some (.int res)) (wd_X9_hutTells c_latest c_asked c_upper c_lower c_n c_readAt c_readMany c_readFood c_isHead c_backMany c_deedMany c_whole c_wellSum c_strongSum c_hash c_kindOf c_winds c_now) := by
  refine gg_ofG [some (.ref 0), some (.int a0), some (.int a1)] (plainFor_of_name (by decide)) (Nat.le_of_ble_eq_true rfl) rfl ?_
  unfold f_X9_hutTells at h
  refine gg_iload_n dX9_hutTells_0 rfl ?_
  by_cases hs0 : a1 = (0 : Int32)
  · replace h := gg_th h hs0
    refine gg_swIn 40 dX9_hutTells_1 (by rw [hs0]; decide) (by rw [hs0]; decide) (off := (39)) (by rw [hs0]; decide) (by decide) ?_
    refine gg_aload_n dX9_hutTells_40 rfl ?_
    refine gg_get 0 fl_X9_33 dX9_hutTells_41 rfl rfl ?_
    refine gg_iload_n dX9_hutTells_44 rfl ?_
    obtain ⟨hb45, h⟩ := gg_ck h
    refine gg_iald 1 dX9_hutTells_45 rfl hb45 ?_
    cases h
    exact gg_iret dX9_hutTells_46 rfl
  replace h := gg_el h hs0
  by_cases hs1 : a1 = (1 : Int32)
  · replace h := gg_th h hs1
    refine gg_swIn 47 dX9_hutTells_1 (by rw [hs1]; decide) (by rw [hs1]; decide) (off := (46)) (by rw [hs1]; decide) (by decide) ?_
    refine gg_aload_n dX9_hutTells_47 rfl ?_
    refine gg_get 0 fl_X9_39 dX9_hutTells_48 rfl rfl ?_
    refine gg_iconst (2 : Int32) dX9_hutTells_51 (by decide) ?_
    refine gg_iload_n dX9_hutTells_52 rfl ?_
    refine gg_iadd dX9_hutTells_53 ?_
    obtain ⟨hb54, h⟩ := gg_ck h
    refine gg_iald 3 dX9_hutTells_54 rfl hb54 ?_
    cases h
    exact gg_iret dX9_hutTells_55 rfl
  replace h := gg_el h hs1
  by_cases hs2 : a1 = (2 : Int32)
  · replace h := gg_th h hs2
    refine gg_swIn 56 dX9_hutTells_1 (by rw [hs2]; decide) (by rw [hs2]; decide) (off := (55)) (by rw [hs2]; decide) (by decide) ?_
    refine gg_aload_n dX9_hutTells_56 rfl ?_
    refine gg_get 0 fl_X9_39 dX9_hutTells_57 rfl rfl ?_
    refine gg_bipush (8 : Int32) dX9_hutTells_60 (by decide) ?_
    refine gg_iload_n dX9_hutTells_62 rfl ?_
    refine gg_iadd dX9_hutTells_63 ?_
    obtain ⟨hb64, h⟩ := gg_ck h
    refine gg_iald 3 dX9_hutTells_64 rfl hb64 ?_
    cases h
    exact gg_iret dX9_hutTells_65 rfl
  replace h := gg_el h hs2
  by_cases hs3 : a1 = (3 : Int32)
  · replace h := gg_th h hs3
    refine gg_swIn 66 dX9_hutTells_1 (by rw [hs3]; decide) (by rw [hs3]; decide) (off := (65)) (by rw [hs3]; decide) (by decide) ?_
    refine gg_aload_n dX9_hutTells_66 rfl ?_
    refine gg_get 0 fl_X9_39 dX9_hutTells_67 rfl rfl ?_
    refine gg_bipush (14 : Int32) dX9_hutTells_70 (by decide) ?_
    refine gg_iload_n dX9_hutTells_72 rfl ?_
    refine gg_iadd dX9_hutTells_73 ?_
    obtain ⟨hb74, h⟩ := gg_ck h
    refine gg_iald 3 dX9_hutTells_74 rfl hb74 ?_
    cases h
    exact gg_iret dX9_hutTells_75 rfl
  replace h := gg_el h hs3
  by_cases hs4 : a1 = (4 : Int32)
  · replace h := gg_th h hs4
    refine gg_swIn 76 dX9_hutTells_1 (by rw [hs4]; decide) (by rw [hs4]; decide) (off := (75)) (by rw [hs4]; decide) (by decide) ?_
    refine gg_aload_n dX9_hutTells_76 rfl ?_
    refine gg_get 0 fl_X9_39 dX9_hutTells_77 rfl rfl ?_
    refine gg_bipush (20 : Int32) dX9_hutTells_80 (by decide) ?_
    refine gg_iload_n dX9_hutTells_82 rfl ?_
    refine gg_iadd dX9_hutTells_83 ?_
    obtain ⟨hb84, h⟩ := gg_ck h
    refine gg_iald 3 dX9_hutTells_84 rfl hb84 ?_
    cases h
    exact gg_iret dX9_hutTells_85 rfl
  replace h := gg_el h hs4
  by_cases hs5 : a1 = (5 : Int32)
  · replace h := gg_th h hs5
    refine gg_swIn 86 dX9_hutTells_1 (by rw [hs5]; decide) (by rw [hs5]; decide) (off := (85)) (by rw [hs5]; decide) (by decide) ?_
    refine gg_aload_n dX9_hutTells_86 rfl ?_
    refine gg_get 0 fl_X9_33 dX9_hutTells_87 rfl rfl ?_
    refine gg_iload_n dX9_hutTells_90 rfl ?_
    obtain ⟨hb91, h⟩ := gg_ck h
    refine gg_iald 1 dX9_hutTells_91 rfl hb91 ?_
    refine gg_aload_n dX9_hutTells_92 rfl ?_
    refine gg_aload_n dX9_hutTells_93 rfl ?_
    refine gg_get 0 fl_X9_39 dX9_hutTells_94 rfl rfl ?_
    obtain ⟨v1, hv1, h⟩ := gg_bd h
    refine gg_callV (gg_sg [0, 9]) [0, 2, 3] (wd_X9_hutTells c_latest c_asked c_upper c_lower c_n c_readAt c_readMany c_readFood c_isHead c_backMany c_deedMany c_whole c_wellSum c_strongSum c_hash c_kindOf c_winds c_now) 0 (C_X9_windOf_a26 c_latest c_asked c_upper c_lower c_n c_readAt c_readMany c_readFood c_isHead c_backMany c_deedMany c_whole c_wellSum c_strongSum c_hash c_winds c_now hv1) nV_X9_windOf_a26 ml_X9_174 rfl rfl rfl rfl rfl rfl rfl rfl rfl rfl [1] 4 rfl rfl rfl rfl rfl ⟨Nat.le_of_ble_eq_true rfl, Nat.le_of_ble_eq_true rfl⟩ (Nat.le_of_ble_eq_true rfl) dX9_hutTells_97 [.int v1, .int (c_kindOf a0.toNatClampNeg)] rfl ?_
    obtain ⟨v2, hv2, h⟩ := gg_bd h
    refine gg_callS (gg_sg []) [] (wd_X9_hutTells c_latest c_asked c_upper c_lower c_n c_readAt c_readMany c_readFood c_isHead c_backMany c_deedMany c_whole c_wellSum c_strongSum c_hash c_kindOf c_winds c_now) (C_X9_tiredBy (c_kindOf a0.toNatClampNeg) v1 hv2) nS_X9_tiredBy ml_X9_181 rfl rfl rfl rfl rfl rfl rfl [0, 1, 2, 3] 4 rfl rfl rfl rfl rfl ⟨Nat.le_of_ble_eq_true rfl, Nat.le_of_ble_eq_true rfl⟩ (Nat.le_of_ble_eq_true rfl) dX9_hutTells_100 [.int v2] rfl ?_
    cases h
    exact gg_iret dX9_hutTells_103 rfl
  replace h := gg_el h hs5
  refine gg_swOut 104 dX9_hutTells_1 ?_ (by decide) ?_
  · have q0 := gg_ne32 hs0 (by decide : ((0 : Int32)).toInt = 0); have q1 := gg_ne32 hs1 (by decide : ((1 : Int32)).toInt = 1); have q2 := gg_ne32 hs2 (by decide : ((2 : Int32)).toInt = 2); have q3 := gg_ne32 hs3 (by decide : ((3 : Int32)).toInt = 3); have q4 := gg_ne32 hs4 (by decide : ((4 : Int32)).toInt = 4); have q5 := gg_ne32 hs5 (by decide : ((5 : Int32)).toInt = 5); omega
  refine gg_aload_n dX9_hutTells_104 rfl ?_
  refine gg_get 0 fl_X9_33 dX9_hutTells_105 rfl rfl ?_
  refine gg_iload_n dX9_hutTells_108 rfl ?_
  obtain ⟨hb109, h⟩ := gg_ck h
  refine gg_iald 1 dX9_hutTells_109 rfl hb109 ?_
  obtain ⟨v3, hv3, h⟩ := gg_bd h
  refine gg_callS (gg_sg []) [] (wd_X9_hutTells c_latest c_asked c_upper c_lower c_n c_readAt c_readMany c_readFood c_isHead c_backMany c_deedMany c_whole c_wellSum c_strongSum c_hash c_kindOf c_winds c_now) (C_X9_lateBy (c_kindOf a0.toNatClampNeg) hv3) nS_X9_lateBy ml_X9_171 rfl rfl rfl rfl rfl rfl rfl [0, 1, 2, 3] 4 rfl rfl rfl rfl rfl ⟨Nat.le_of_ble_eq_true rfl, Nat.le_of_ble_eq_true rfl⟩ (Nat.le_of_ble_eq_true rfl) dX9_hutTells_110 [.int v3] rfl ?_
  cases h
  exact gg_iret dX9_hutTells_113 rfl
def wd_X9_hut (c_latest : Int32) (c_asked : Int32) (c_upper : Int64) (c_lower : Int64) (c_n : Int32) (c_readAt : Int32) (c_readMany : Int32) (c_readFood : Int32) (c_isHead : Int32) (c_backMany : Int32) (c_deedMany : Int32) (c_whole : Int64) (c_wellSum : Int64) (c_strongSum : Int64) (c_hash : Int64) (c_kindOf : Nat → Int32) (c_winds : Nat → Int32) (c_now : Nat → Int32) : va_W := [(0, .inr (8, [.int c_latest, .ref 1, .int c_asked, .long c_upper, .long c_lower, .ref 2, .ref 3, .ref 4, .ref 5, .ref 6, .int c_n, .ref 7, .ref 8, .ref 9, .ref 10, .int c_readAt, .int c_readMany, .int c_readFood, .int c_isHead, .ref 11, .ref 12, .ref 13, .int c_backMany, .int c_deedMany, .ref 14, .ref 15, .ref 16, .ref 17, .ref 18, .ref 19, .ref 20, .ref 21, .ref 22, .ref 23, .ref 24, .long c_whole, .long c_wellSum, .long c_strongSum, .long c_hash])), (7, .inl (0, 6, .inl c_kindOf)), (8, .inl (0, 4, .inl c_winds)), (9, .inl (0, 26, .inl c_now))]
def MD_X9_hut : gg_M := (yX9_hut, cX9_hut, 3, some .int, 2, 43)
theorem nV_X9_hut : gg_nV MD_X9_hut 2 := ⟨⟨gg_mem (by decide +kernel) rfl, gg_mem cw_X9_hut rfl, by decide, by decide, by decide +kernel⟩, gg_mem (by decide +kernel) rfl, gg_mem (by decide +kernel) rfl⟩
def f_X9_hut (a0 : Int32) (a1 : Int32) (c_asked : Int32) (c_n : Int32) (c_kindOf : Nat → Int32) (c_winds : Nat → Int32) (c_now : Nat → Int32) : Option (Int32 × (Int32)) := (f_X9_isHut a0 c_n).bind (fun v1 => gg_lt (fun (s0_33 : Int32) (c_asked_33 : Int32) => (some (s0_33, c_asked_33))) (fun k33 => gg_lt ((k33 (-1 : Int32) c_asked)) (fun k32 => (if v1 = (0 : Int32) then k32 else (f_X9_in a1 (0 : Int32) (6 : Int32)).bind (fun v2 => (if v2 = (0 : Int32) then k32 else (f_X9_hutTells a0 a1 c_kindOf c_winds c_now).bind (fun v3 => gg_b2 (f_X9_tells v3 (1 : Int32) c_asked) (fun v4_0 v4_1 => (k33 v4_0 v4_1)))))))))
set_option maxRecDepth 20000 in
set_option maxHeartbeats 8000000 in
theorem C_X9_hut (a0 : Int32) (a1 : Int32) (c_latest : Int32) (c_asked : Int32) (c_upper : Int64) (c_lower : Int64) (c_n : Int32) (c_readAt : Int32) (c_readMany : Int32) (c_readFood : Int32) (c_isHead : Int32) (c_backMany : Int32) (c_deedMany : Int32) (c_whole : Int64) (c_wellSum : Int64) (c_strongSum : Int64) (c_hash : Int64) (c_kindOf : Nat → Int32) (c_winds : Nat → Int32) (c_now : Nat → Int32) {r0 : Int32} {r1 : (Int32)} (h : f_X9_hut a0 a1 c_asked c_n c_kindOf c_winds c_now = some (r0, r1)) : gg_C MD_X9_hut [.ref 0, .int a0, .int a1] (wd_X9_hut c_latest c_asked c_upper c_lower c_n c_readAt c_readMany c_readFood c_isHead c_backMany c_deedMany c_whole c_wellSum c_strongSum c_hash c_kindOf c_winds c_now) (some (.int r0)) (wd_X9_hut c_latest r1 c_upper c_lower c_n c_readAt c_readMany c_readFood c_isHead c_backMany c_deedMany c_whole c_wellSum c_strongSum c_hash c_kindOf c_winds c_now) := by
  refine gg_ofG [some (.ref 0), some (.int a0), some (.int a1)] (plainFor_of_name (by decide)) (Nat.le_of_ble_eq_true rfl) rfl ?_
  unfold f_X9_hut at h
  refine gg_aload_n dX9_hut_0 rfl ?_
  refine gg_iload_n dX9_hut_1 rfl ?_
  obtain ⟨v1, hv1, h⟩ := gg_bd h
  refine gg_callV (gg_sg [0]) [0] (wd_X9_hut c_latest c_asked c_upper c_lower c_n c_readAt c_readMany c_readFood c_isHead c_backMany c_deedMany c_whole c_wellSum c_strongSum c_hash c_kindOf c_winds c_now) 0 (C_X9_isHut a0 c_latest c_asked c_upper c_lower c_n c_readAt c_readMany c_readFood c_isHead c_backMany c_deedMany c_whole c_wellSum c_strongSum c_hash hv1) nV_X9_isHut ml_X9_198 rfl rfl rfl rfl rfl rfl rfl rfl rfl rfl [1, 2, 3] 4 rfl rfl rfl rfl rfl ⟨Nat.le_of_ble_eq_true rfl, Nat.le_of_ble_eq_true rfl⟩ (Nat.le_of_ble_eq_true rfl) dX9_hut_2 [.int v1] rfl ?_
  obtain ⟨k33, hke33, h⟩ := gg_lte h
  have hk33 : ∀ (s0_33 : Int32) (c_asked_33 : Int32), k33 s0_33 c_asked_33 = some (r0, r1) → gg_G MD_X9_hut 33 [none, none, none] [.int s0_33] (wd_X9_hut c_latest c_asked_33 c_upper c_lower c_n c_readAt c_readMany c_readFood c_isHead c_backMany c_deedMany c_whole c_wellSum c_strongSum c_hash c_kindOf c_winds c_now) (some (.int r0)) (wd_X9_hut c_latest r1 c_upper c_lower c_n c_readAt c_readMany c_readFood c_isHead c_backMany c_deedMany c_whole c_wellSum c_strongSum c_hash c_kindOf c_winds c_now) := by
    intro s0_33 c_asked_33 h
    subst hke33
    cases h
    exact gg_iret dX9_hut_33 rfl
  clear hke33
  obtain ⟨k32, hke32, h⟩ := gg_lte h
  have hk32 : k32 = some (r0, r1) → gg_G MD_X9_hut 32 [none, none, none] [] (wd_X9_hut c_latest c_asked c_upper c_lower c_n c_readAt c_readMany c_readFood c_isHead c_backMany c_deedMany c_whole c_wellSum c_strongSum c_hash c_kindOf c_winds c_now) (some (.int r0)) (wd_X9_hut c_latest r1 c_upper c_lower c_n c_readAt c_readMany c_readFood c_isHead c_backMany c_deedMany c_whole c_wellSum c_strongSum c_hash c_kindOf c_winds c_now) := by
    intro  h
    subst hke32
    refine gg_iconst (-1 : Int32) dX9_hut_32 (by decide) ?_
    exact hk33 (-1 : Int32) c_asked h
  clear hke32
  refine gg_if_eq 32 dX9_hut_5 (by decide) (fun hc => ?_) (fun hc => ?_)
  · replace h := gg_th h hc
    refine gg_fg [false, false, false] [none, none, none] rfl ?_
    exact hk32 h
  · replace h := gg_el h hc
    refine gg_iload_n dX9_hut_8 rfl ?_
    refine gg_iconst (0 : Int32) dX9_hut_9 (by decide) ?_
    refine gg_bipush (6 : Int32) dX9_hut_10 (by decide) ?_
    obtain ⟨v2, hv2, h⟩ := gg_bd h
    refine gg_callS (gg_sg []) [] (wd_X9_hut c_latest c_asked c_upper c_lower c_n c_readAt c_readMany c_readFood c_isHead c_backMany c_deedMany c_whole c_wellSum c_strongSum c_hash c_kindOf c_winds c_now) (C_X9_in a1 (0 : Int32) (6 : Int32) hv2) nS_X9_in ml_X9_92 rfl rfl rfl rfl rfl rfl rfl [0, 1, 2, 3] 4 rfl rfl rfl rfl rfl ⟨Nat.le_of_ble_eq_true rfl, Nat.le_of_ble_eq_true rfl⟩ (Nat.le_of_ble_eq_true rfl) dX9_hut_12 [.int v2] rfl ?_
    refine gg_if_eq 32 dX9_hut_15 (by decide) (fun hc => ?_) (fun hc => ?_)
    · replace h := gg_th h hc
      refine gg_fg [false, false, false] [none, none, none] rfl ?_
      exact hk32 h
    · replace h := gg_el h hc
      refine gg_aload_n dX9_hut_18 rfl ?_
      refine gg_aload_n dX9_hut_19 rfl ?_
      refine gg_iload_n dX9_hut_20 rfl ?_
      refine gg_iload_n dX9_hut_21 rfl ?_
      obtain ⟨v3, hv3, h⟩ := gg_bd h
      refine gg_callV (gg_sg [0]) [0, 1, 2, 3] (wd_X9_hut c_latest c_asked c_upper c_lower c_n c_readAt c_readMany c_readFood c_isHead c_backMany c_deedMany c_whole c_wellSum c_strongSum c_hash c_kindOf c_winds c_now) 0 (C_X9_hutTells a0 a1 c_latest c_asked c_upper c_lower c_n c_readAt c_readMany c_readFood c_isHead c_backMany c_deedMany c_whole c_wellSum c_strongSum c_hash c_kindOf c_winds c_now hv3) nV_X9_hutTells ml_X9_201 rfl rfl rfl rfl rfl rfl rfl rfl rfl rfl [] 4 rfl rfl rfl rfl rfl ⟨Nat.le_of_ble_eq_true rfl, Nat.le_of_ble_eq_true rfl⟩ (Nat.le_of_ble_eq_true rfl) dX9_hut_22 [.int v3, .ref 0] rfl ?_
      refine gg_iconst (1 : Int32) dX9_hut_25 (by decide) ?_
      obtain ⟨v4_0, v4_1, hv4, h⟩ := gg_bd2 h
      refine gg_callV (gg_sg [0]) [0] (wd_X9_hut c_latest v4_1 c_upper c_lower c_n c_readAt c_readMany c_readFood c_isHead c_backMany c_deedMany c_whole c_wellSum c_strongSum c_hash c_kindOf c_winds c_now) 0 (C_X9_tells v3 (1 : Int32) c_latest c_asked c_upper c_lower c_n c_readAt c_readMany c_readFood c_isHead c_backMany c_deedMany c_whole c_wellSum c_strongSum c_hash hv4) nV_X9_tells ml_X9_114 rfl rfl rfl rfl rfl rfl rfl rfl rfl rfl [1, 2, 3] 4 rfl rfl rfl rfl rfl ⟨Nat.le_of_ble_eq_true rfl, Nat.le_of_ble_eq_true rfl⟩ (Nat.le_of_ble_eq_true rfl) dX9_hut_26 [.int v4_0] rfl ?_
      refine gg_goto 33 dX9_hut_29 (by decide) ?_
      refine gg_fg [false, false, false] [none, none, none] rfl ?_
      exact hk33 v4_0 v4_1 h
def wd_X9_atBrick (c_latest : Int32) (c_asked : Int32) (c_upper : Int64) (c_lower : Int64) (c_n : Int32) (c_readAt : Int32) (c_readMany : Int32) (c_readFood : Int32) (c_isHead : Int32) (c_backMany : Int32) (c_deedMany : Int32) (c_whole : Int64) (c_wellSum : Int64) (c_strongSum : Int64) (c_hash : Int64) (c_now : Nat → Int32) : va_W := [(0, .inr (8, [.int c_latest, .ref 1, .int c_asked, .long c_upper, .long c_lower, .ref 2, .ref 3, .ref 4, .ref 5, .ref 6, .int c_n, .ref 7, .ref 8, .ref 9, .ref 10, .int c_readAt, .int c_readMany, .int c_readFood, .int c_isHead, .ref 11, .ref 12, .ref 13, .int c_backMany, .int c_deedMany, .ref 14, .ref 15, .ref 16, .ref 17, .ref 18, .ref 19, .ref 20, .ref 21, .ref 22, .ref 23, .ref 24, .long c_whole, .long c_wellSum, .long c_strongSum, .long c_hash])), (9, .inl (0, 26, .inl c_now))]
def MD_X9_atBrick : gg_M := (yX9_atBrick, cX9_atBrick, 4, some .int, 0, 0)
theorem nV_X9_atBrick : gg_nV MD_X9_atBrick 1 := ⟨⟨gg_mem (by decide +kernel) rfl, gg_mem cw_X9_atBrick rfl, by decide, by decide, by decide +kernel⟩, gg_mem (by decide +kernel) rfl, gg_mem (by decide +kernel) rfl⟩
def lp_X9_atBrick_5 {β : Type} (y1 : Int32) (c_n : Int32) (c_now : Nat → Int32) (k38 : (Int32) → Option β) : Nat → (Int32) → (Int32) → Option β
  | 0, _, _ => none
  | n + 1, x2_5, x3_5 => (if c_n ≤ x3_5 then (k38 x2_5) else gg_chk (gg_in ((20 : Int32) + x3_5) 26) (gg_lt (fun (s0_31 : Int32) => (lp_X9_atBrick_5 y1 c_n c_now k38 n s0_31 (x3_5 + (1 : Int32)))) (fun k31 => (if (c_now ((20 : Int32) + x3_5).toNatClampNeg) = y1 then (k31 x3_5) else (k31 x2_5)))))
def f_X9_atBrick (a0 : Int32) (c_n : Int32) (c_now : Nat → Int32) : Option (Int32) := (lp_X9_atBrick_5 a0 c_n c_now (fun (x2_38 : Int32) => (some x2_38)) gg_fuel (10 : Int32) (0 : Int32))
set_option maxRecDepth 20000 in
set_option maxHeartbeats 4000000 in
theorem lq_X9_atBrick_5 {β : Type} {res : β} {rr : Option Value} {ww : va_W} (y1 : Int32) (c_latest : Int32) (c_asked : Int32) (c_upper : Int64) (c_lower : Int64) (c_n : Int32) (c_readAt : Int32) (c_readMany : Int32) (c_readFood : Int32) (c_isHead : Int32) (c_backMany : Int32) (c_deedMany : Int32) (c_whole : Int64) (c_wellSum : Int64) (c_strongSum : Int64) (c_hash : Int64) (c_now : Nat → Int32) (k38 : (Int32) → Option β) (hk38 : ∀ (x2_38 : Int32), k38 x2_38 = some res → gg_G MD_X9_atBrick 38 [none, none, some (.int x2_38), none] [] (wd_X9_atBrick c_latest c_asked c_upper c_lower c_n c_readAt c_readMany c_readFood c_isHead c_backMany c_deedMany c_whole c_wellSum c_strongSum c_hash c_now) rr ww) : ∀ (n : Nat) (x2_5 : Int32) (x3_5 : Int32), lp_X9_atBrick_5 y1 c_n c_now k38 n x2_5 x3_5 = some res → gg_G MD_X9_atBrick 5 [some (.ref 0), some (.int y1), some (.int x2_5), some (.int x3_5)] [] (wd_X9_atBrick c_latest c_asked c_upper c_lower c_n c_readAt c_readMany c_readFood c_isHead c_backMany c_deedMany c_whole c_wellSum c_strongSum c_hash c_now) rr ww := by
  intro n
  induction n with
  | zero =>
    intro x2_5 x3_5 h
    exact nomatch (show (none : Option β) = some res from h)
  | succ n ih =>
    intro x2_5 x3_5 h
    rw [lp_X9_atBrick_5] at h
    refine gg_iload_n dX9_atBrick_5 rfl ?_
    refine gg_aload_n dX9_atBrick_6 rfl ?_
    refine gg_get 0 fl_X9_154 dX9_atBrick_7 rfl rfl ?_
    refine gg_icmp_ge 38 dX9_atBrick_10 (by decide) (fun hc => ?_) (fun hc => ?_)
    · replace h := gg_th h hc
      refine gg_fg [false, false, true, false] [none, none, some (.int x2_5), none] rfl ?_
      exact hk38 x2_5 h
    · replace h := gg_el h hc
      refine gg_aload_n dX9_atBrick_13 rfl ?_
      refine gg_get 0 fl_X9_39 dX9_atBrick_14 rfl rfl ?_
      refine gg_bipush (20 : Int32) dX9_atBrick_17 (by decide) ?_
      refine gg_iload_n dX9_atBrick_19 rfl ?_
      refine gg_iadd dX9_atBrick_20 ?_
      obtain ⟨hb21, h⟩ := gg_ck h
      refine gg_iald 1 dX9_atBrick_21 rfl hb21 ?_
      refine gg_iload_n dX9_atBrick_22 rfl ?_
      obtain ⟨k31, hke31, h⟩ := gg_lte h
      have hk31 : ∀ (s0_31 : Int32), k31 s0_31 = some res → gg_G MD_X9_atBrick 31 [some (.ref 0), some (.int y1), none, some (.int x3_5)] [.int s0_31] (wd_X9_atBrick c_latest c_asked c_upper c_lower c_n c_readAt c_readMany c_readFood c_isHead c_backMany c_deedMany c_whole c_wellSum c_strongSum c_hash c_now) rr ww := by
        intro s0_31 h
        subst hke31
        refine gg_istore_n [some (.ref 0), some (.int y1), some (.int s0_31), some (.int x3_5)] dX9_atBrick_31 rfl (Nat.le_of_ble_eq_true rfl) rfl ?_
        refine gg_iinc (x3_5 + (1 : Int32)) [some (.ref 0), some (.int y1), some (.int s0_31), some (.int (x3_5 + (1 : Int32)))] dX9_atBrick_32 rfl rfl rfl (Nat.le_of_ble_eq_true rfl) rfl ?_
        refine gg_goto 5 dX9_atBrick_35 (by decide) ?_
        exact ih s0_31 (x3_5 + (1 : Int32)) h
      clear hke31
      refine gg_icmp_ne 30 dX9_atBrick_23 (by decide) (fun hc => ?_) (fun hc => ?_)
      · replace h := gg_el h hc
        refine gg_iload_n dX9_atBrick_30 rfl ?_
        refine gg_fg [true, true, false, true] [some (.ref 0), some (.int y1), none, some (.int x3_5)] rfl ?_
        exact hk31 x2_5 h
      · replace h := gg_th h hc
        refine gg_iload_n dX9_atBrick_26 rfl ?_
        refine gg_goto 31 dX9_atBrick_27 (by decide) ?_
        refine gg_fg [true, true, false, true] [some (.ref 0), some (.int y1), none, some (.int x3_5)] rfl ?_
        exact hk31 x3_5 h
set_option maxRecDepth 20000 in
set_option maxHeartbeats 8000000 in
theorem C_X9_atBrick (a0 : Int32) (c_latest : Int32) (c_asked : Int32) (c_upper : Int64) (c_lower : Int64) (c_n : Int32) (c_readAt : Int32) (c_readMany : Int32) (c_readFood : Int32) (c_isHead : Int32) (c_backMany : Int32) (c_deedMany : Int32) (c_whole : Int64) (c_wellSum : Int64) (c_strongSum : Int64) (c_hash : Int64) (c_now : Nat → Int32) {res : Int32} (h : f_X9_atBrick a0 c_n c_now = some res) : gg_C MD_X9_atBrick [.ref 0, .int a0] (wd_X9_atBrick c_latest c_asked c_upper c_lower c_n c_readAt c_readMany c_readFood c_isHead c_backMany c_deedMany c_whole c_wellSum c_strongSum c_hash c_now) (some (.int res)) (wd_X9_atBrick c_latest c_asked c_upper c_lower c_n c_readAt c_readMany c_readFood c_isHead c_backMany c_deedMany c_whole c_wellSum c_strongSum c_hash c_now) := by
  refine gg_ofG [some (.ref 0), some (.int a0), none, none] (plainFor_of_name (by decide)) (Nat.le_of_ble_eq_true rfl) rfl ?_
  unfold f_X9_atBrick at h
  refine gg_bipush (10 : Int32) dX9_atBrick_0 (by decide) ?_
  refine gg_istore_n [some (.ref 0), some (.int a0), some (.int (10 : Int32)), none] dX9_atBrick_2 rfl (Nat.le_of_ble_eq_true rfl) rfl ?_
  refine gg_iconst (0 : Int32) dX9_atBrick_3 (by decide) ?_
  refine gg_istore_n [some (.ref 0), some (.int a0), some (.int (10 : Int32)), some (.int (0 : Int32))] dX9_atBrick_4 rfl (Nat.le_of_ble_eq_true rfl) rfl ?_
  refine lq_X9_atBrick_5 a0 c_latest c_asked c_upper c_lower c_n c_readAt c_readMany c_readFood c_isHead c_backMany c_deedMany c_whole c_wellSum c_strongSum c_hash c_now _ ?_ gg_fuel (10 : Int32) (0 : Int32) h
  intro x2_38 h
  refine gg_iload_n dX9_atBrick_38 rfl ?_
  cases h
  exact gg_iret dX9_atBrick_39 rfl
def wd_X9_lessLate (c_latest : Int32) (c_asked : Int32) (c_upper : Int64) (c_lower : Int64) (c_n : Int32) (c_readAt : Int32) (c_readMany : Int32) (c_readFood : Int32) (c_isHead : Int32) (c_backMany : Int32) (c_deedMany : Int32) (c_whole : Int64) (c_wellSum : Int64) (c_strongSum : Int64) (c_hash : Int64) (c_kindOf : Nat → Int32) : va_W := [(0, .inr (8, [.int c_latest, .ref 1, .int c_asked, .long c_upper, .long c_lower, .ref 2, .ref 3, .ref 4, .ref 5, .ref 6, .int c_n, .ref 7, .ref 8, .ref 9, .ref 10, .int c_readAt, .int c_readMany, .int c_readFood, .int c_isHead, .ref 11, .ref 12, .ref 13, .int c_backMany, .int c_deedMany, .ref 14, .ref 15, .ref 16, .ref 17, .ref 18, .ref 19, .ref 20, .ref 21, .ref 22, .ref 23, .ref 24, .long c_whole, .long c_wellSum, .long c_strongSum, .long c_hash])), (7, .inl (0, 6, .inl c_kindOf))]
def MD_X9_lessLate : gg_M := (yX9_lessLate, cX9_lessLate, 4, some .int, 1, 20)
theorem nV_X9_lessLate : gg_nV MD_X9_lessLate 1 := ⟨⟨gg_mem (by decide +kernel) rfl, gg_mem cw_X9_lessLate rfl, by decide, by decide, by decide +kernel⟩, gg_mem (by decide +kernel) rfl, gg_mem (by decide +kernel) rfl⟩
def lp_X9_lessLate_4 {β : Type} (y1 : Int32) (c_n : Int32) (c_kindOf : Nat → Int32) (k39 : (Int32) → Option β) : Nat → (Int32) → (Int32) → Option β
  | 0, _, _ => none
  | n + 1, x2_4, x3_4 => (if c_n ≤ x3_4 then (k39 x2_4) else gg_chk (gg_in x3_4 6) ((f_X9_lateBy (c_kindOf x3_4.toNatClampNeg)).bind (fun v1 => gg_lt (fun (s1_31 : Int32) => (lp_X9_lessLate_4 y1 c_n c_kindOf k39 n (x2_4 + s1_31) (x3_4 + (1 : Int32)))) (fun k31 => (if y1 ≤ v1 then (k31 (0 : Int32)) else (k31 (1 : Int32)))))))
def f_X9_lessLate (a0 : Int32) (c_n : Int32) (c_kindOf : Nat → Int32) : Option (Int32) := (lp_X9_lessLate_4 a0 c_n c_kindOf (fun (x2_39 : Int32) => (some x2_39)) gg_fuel (0 : Int32) (0 : Int32))
set_option maxRecDepth 20000 in
set_option maxHeartbeats 4000000 in
theorem lq_X9_lessLate_4 {β : Type} {res : β} {rr : Option Value} {ww : va_W} (y1 : Int32) (c_latest : Int32) (c_asked : Int32) (c_upper : Int64) (c_lower : Int64) (c_n : Int32) (c_readAt : Int32) (c_readMany : Int32) (c_readFood : Int32) (c_isHead : Int32) (c_backMany : Int32) (c_deedMany : Int32) (c_whole : Int64) (c_wellSum : Int64) (c_strongSum : Int64) (c_hash : Int64) (c_kindOf : Nat → Int32) (k39 : (Int32) → Option β) (hk39 : ∀ (x2_39 : Int32), k39 x2_39 = some res → gg_G MD_X9_lessLate 39 [none, none, some (.int x2_39), none] [] (wd_X9_lessLate c_latest c_asked c_upper c_lower c_n c_readAt c_readMany c_readFood c_isHead c_backMany c_deedMany c_whole c_wellSum c_strongSum c_hash c_kindOf) rr ww) : ∀ (n : Nat) (x2_4 : Int32) (x3_4 : Int32), lp_X9_lessLate_4 y1 c_n c_kindOf k39 n x2_4 x3_4 = some res → gg_G MD_X9_lessLate 4 [some (.ref 0), some (.int y1), some (.int x2_4), some (.int x3_4)] [] (wd_X9_lessLate c_latest c_asked c_upper c_lower c_n c_readAt c_readMany c_readFood c_isHead c_backMany c_deedMany c_whole c_wellSum c_strongSum c_hash c_kindOf) rr ww := by
  intro n
  induction n with
  | zero =>
    intro x2_4 x3_4 h
    exact nomatch (show (none : Option β) = some res from h)
  | succ n ih =>
    intro x2_4 x3_4 h
    rw [lp_X9_lessLate_4] at h
    refine gg_iload_n dX9_lessLate_4 rfl ?_
    refine gg_aload_n dX9_lessLate_5 rfl ?_
    refine gg_get 0 fl_X9_154 dX9_lessLate_6 rfl rfl ?_
    refine gg_icmp_ge 39 dX9_lessLate_9 (by decide) (fun hc => ?_) (fun hc => ?_)
    · replace h := gg_th h hc
      refine gg_fg [false, false, true, false] [none, none, some (.int x2_4), none] rfl ?_
      exact hk39 x2_4 h
    · replace h := gg_el h hc
      refine gg_iload_n dX9_lessLate_12 rfl ?_
      refine gg_aload_n dX9_lessLate_13 rfl ?_
      refine gg_get 0 fl_X9_33 dX9_lessLate_14 rfl rfl ?_
      refine gg_iload_n dX9_lessLate_17 rfl ?_
      obtain ⟨hb18, h⟩ := gg_ck h
      refine gg_iald 1 dX9_lessLate_18 rfl hb18 ?_
      obtain ⟨v1, hv1, h⟩ := gg_bd h
      refine gg_callS (gg_sg []) [] (wd_X9_lessLate c_latest c_asked c_upper c_lower c_n c_readAt c_readMany c_readFood c_isHead c_backMany c_deedMany c_whole c_wellSum c_strongSum c_hash c_kindOf) (C_X9_lateBy (c_kindOf x3_4.toNatClampNeg) hv1) nS_X9_lateBy ml_X9_171 rfl rfl rfl rfl rfl rfl rfl [0, 1] 2 rfl rfl rfl rfl rfl ⟨Nat.le_of_ble_eq_true rfl, Nat.le_of_ble_eq_true rfl⟩ (Nat.le_of_ble_eq_true rfl) dX9_lessLate_19 [.int v1, .int x2_4] rfl ?_
      refine gg_iload_n dX9_lessLate_22 rfl ?_
      obtain ⟨k31, hke31, h⟩ := gg_lte h
      have hk31 : ∀ (s1_31 : Int32), k31 s1_31 = some res → gg_G MD_X9_lessLate 31 [some (.ref 0), some (.int y1), none, some (.int x3_4)] [.int s1_31, .int x2_4] (wd_X9_lessLate c_latest c_asked c_upper c_lower c_n c_readAt c_readMany c_readFood c_isHead c_backMany c_deedMany c_whole c_wellSum c_strongSum c_hash c_kindOf) rr ww := by
        intro s1_31 h
        subst hke31
        refine gg_iadd dX9_lessLate_31 ?_
        refine gg_istore_n [some (.ref 0), some (.int y1), some (.int (x2_4 + s1_31)), some (.int x3_4)] dX9_lessLate_32 rfl (Nat.le_of_ble_eq_true rfl) rfl ?_
        refine gg_iinc (x3_4 + (1 : Int32)) [some (.ref 0), some (.int y1), some (.int (x2_4 + s1_31)), some (.int (x3_4 + (1 : Int32)))] dX9_lessLate_33 rfl rfl rfl (Nat.le_of_ble_eq_true rfl) rfl ?_
        refine gg_goto 4 dX9_lessLate_36 (by decide) ?_
        exact ih (x2_4 + s1_31) (x3_4 + (1 : Int32)) h
      clear hke31
      refine gg_icmp_ge 30 dX9_lessLate_23 (by decide) (fun hc => ?_) (fun hc => ?_)
      · replace h := gg_th h hc
        refine gg_iconst (0 : Int32) dX9_lessLate_30 (by decide) ?_
        refine gg_fg [true, true, false, true] [some (.ref 0), some (.int y1), none, some (.int x3_4)] rfl ?_
        exact hk31 (0 : Int32) h
      · replace h := gg_el h hc
        refine gg_iconst (1 : Int32) dX9_lessLate_26 (by decide) ?_
        refine gg_goto 31 dX9_lessLate_27 (by decide) ?_
        refine gg_fg [true, true, false, true] [some (.ref 0), some (.int y1), none, some (.int x3_4)] rfl ?_
        exact hk31 (1 : Int32) h
set_option maxRecDepth 20000 in
set_option maxHeartbeats 8000000 in
theorem C_X9_lessLate (a0 : Int32) (c_latest : Int32) (c_asked : Int32) (c_upper : Int64) (c_lower : Int64) (c_n : Int32) (c_readAt : Int32) (c_readMany : Int32) (c_readFood : Int32) (c_isHead : Int32) (c_backMany : Int32) (c_deedMany : Int32) (c_whole : Int64) (c_wellSum : Int64) (c_strongSum : Int64) (c_hash : Int64) (c_kindOf : Nat → Int32) {res : Int32} (h : f_X9_lessLate a0 c_n c_kindOf = some res) : gg_C MD_X9_lessLate [.ref 0, .int a0] (wd_X9_lessLate c_latest c_asked c_upper c_lower c_n c_readAt c_readMany c_readFood c_isHead c_backMany c_deedMany c_whole c_wellSum c_strongSum c_hash c_kindOf) (some (.int res)) (wd_X9_lessLate c_latest c_asked c_upper c_lower c_n c_readAt c_readMany c_readFood c_isHead c_backMany c_deedMany c_whole c_wellSum c_strongSum c_hash c_kindOf) := by
  refine gg_ofG [some (.ref 0), some (.int a0), none, none] (plainFor_of_name (by decide)) (Nat.le_of_ble_eq_true rfl) rfl ?_
  unfold f_X9_lessLate at h
  refine gg_iconst (0 : Int32) dX9_lessLate_0 (by decide) ?_
  refine gg_istore_n [some (.ref 0), some (.int a0), some (.int (0 : Int32)), none] dX9_lessLate_1 rfl (Nat.le_of_ble_eq_true rfl) rfl ?_
  refine gg_iconst (0 : Int32) dX9_lessLate_2 (by decide) ?_
  refine gg_istore_n [some (.ref 0), some (.int a0), some (.int (0 : Int32)), some (.int (0 : Int32))] dX9_lessLate_3 rfl (Nat.le_of_ble_eq_true rfl) rfl ?_
  refine lq_X9_lessLate_4 a0 c_latest c_asked c_upper c_lower c_n c_readAt c_readMany c_readFood c_isHead c_backMany c_deedMany c_whole c_wellSum c_strongSum c_hash c_kindOf _ ?_ gg_fuel (0 : Int32) (0 : Int32) h
  intro x2_39 h
  refine gg_iload_n dX9_lessLate_39 rfl ?_
  cases h
  exact gg_iret dX9_lessLate_40 rfl
def wd_X9_wanted_a26 (c_latest : Int32) (c_asked : Int32) (c_upper : Int64) (c_lower : Int64) (c_n : Int32) (c_readAt : Int32) (c_readMany : Int32) (c_readFood : Int32) (c_isHead : Int32) (c_backMany : Int32) (c_deedMany : Int32) (c_whole : Int64) (c_wellSum : Int64) (c_strongSum : Int64) (c_hash : Int64) (c_kindOf : Nat → Int32) (c_p1_a : Nat → Int32) : va_W := [(0, .inr (8, [.int c_latest, .ref 1, .int c_asked, .long c_upper, .long c_lower, .ref 2, .ref 3, .ref 4, .ref 5, .ref 6, .int c_n, .ref 7, .ref 8, .ref 9, .ref 10, .int c_readAt, .int c_readMany, .int c_readFood, .int c_isHead, .ref 11, .ref 12, .ref 13, .int c_backMany, .int c_deedMany, .ref 14, .ref 15, .ref 16, .ref 17, .ref 18, .ref 19, .ref 20, .ref 21, .ref 22, .ref 23, .ref 24, .long c_whole, .long c_wellSum, .long c_strongSum, .long c_hash])), (7, .inl (0, 6, .inl c_kindOf)), (100, .inl (0, 26, .inl c_p1_a))]
def MD_X9_wanted_a26 : gg_M := (yX9_wanted, cX9_wanted, 3, some .int, 0, 0)
theorem nV_X9_wanted_a26 : gg_nV MD_X9_wanted_a26 2 := ⟨⟨gg_mem (by decide +kernel) rfl, gg_mem cw_X9_wanted rfl, by decide, by decide, by decide +kernel⟩, gg_mem (by decide +kernel) rfl, gg_mem (by decide +kernel) rfl⟩
def f_X9_wanted_a26 (a0 : Int32) (c_kindOf : Nat → Int32) (c_p1_a : Nat → Int32) : Option (Int32) := gg_chk (gg_in a0 6) (gg_lt (fun (s0_28 : Int32) => (some s0_28)) (fun k28 => (if (c_kindOf a0.toNatClampNeg) = (4 : Int32) then gg_chk (gg_in ((2 : Int32) + a0) 26) ((k28 (((c_p1_a ((2 : Int32) + a0).toNatClampNeg) + (1 : Int32)) - ((c_p1_a ((2 : Int32) + a0).toNatClampNeg) + (1 : Int32)) / (10 : Int32) * (10 : Int32)))) else gg_chk (gg_in ((2 : Int32) + a0) 26) ((k28 (c_p1_a ((2 : Int32) + a0).toNatClampNeg))))))
set_option maxRecDepth 20000 in
set_option maxHeartbeats 8000000 in
theorem C_X9_wanted_a26 (a0 : Int32) (c_latest : Int32) (c_asked : Int32) (c_upper : Int64) (c_lower : Int64) (c_n : Int32) (c_readAt : Int32) (c_readMany : Int32) (c_readFood : Int32) (c_isHead : Int32) (c_backMany : Int32) (c_deedMany : Int32) (c_whole : Int64) (c_wellSum : Int64) (c_strongSum : Int64) (c_hash : Int64) (c_kindOf : Nat → Int32) (c_p1_a : Nat → Int32) {res : Int32} (h : f_X9_wanted_a26 a0 c_kindOf c_p1_a = some res) : gg_C MD_X9_wanted_a26 [.ref 0, .ref 100, .int a0] (wd_X9_wanted_a26 c_latest c_asked c_upper c_lower c_n c_readAt c_readMany c_readFood c_isHead c_backMany c_deedMany c_whole c_wellSum c_strongSum c_hash c_kindOf c_p1_a) (some (.int res)) (wd_X9_wanted_a26 c_latest c_asked c_upper c_lower c_n c_readAt c_readMany c_readFood c_isHead c_backMany c_deedMany c_whole c_wellSum c_strongSum c_hash c_kindOf c_p1_a) := by
  refine gg_ofG [some (.ref 0), some (.ref 100), some (.int a0)] (plainFor_of_name (by decide)) (Nat.le_of_ble_eq_true rfl) rfl ?_
  unfold f_X9_wanted_a26 at h
  refine gg_aload_n dX9_wanted_0 rfl ?_
  refine gg_get 0 fl_X9_33 dX9_wanted_1 rfl rfl ?_
  refine gg_iload_n dX9_wanted_4 rfl ?_
  obtain ⟨hb5, h⟩ := gg_ck h
  refine gg_iald 1 dX9_wanted_5 rfl hb5 ?_
  refine gg_iconst (4 : Int32) dX9_wanted_6 (by decide) ?_
  obtain ⟨k28, hke28, h⟩ := gg_lte h
  have hk28 : ∀ (s0_28 : Int32), k28 s0_28 = some res → gg_G MD_X9_wanted_a26 28 [none, none, none] [.int s0_28] (wd_X9_wanted_a26 c_latest c_asked c_upper c_lower c_n c_readAt c_readMany c_readFood c_isHead c_backMany c_deedMany c_whole c_wellSum c_strongSum c_hash c_kindOf c_p1_a) (some (.int res)) (wd_X9_wanted_a26 c_latest c_asked c_upper c_lower c_n c_readAt c_readMany c_readFood c_isHead c_backMany c_deedMany c_whole c_wellSum c_strongSum c_hash c_kindOf c_p1_a) := by
    intro s0_28 h
    subst hke28
    cases h
    exact gg_iret dX9_wanted_28 rfl
  clear hke28
  refine gg_icmp_ne 23 dX9_wanted_7 (by decide) (fun hc => ?_) (fun hc => ?_)
  · replace h := gg_el h hc
    refine gg_aload_n dX9_wanted_23 rfl ?_
    refine gg_iconst (2 : Int32) dX9_wanted_24 (by decide) ?_
    refine gg_iload_n dX9_wanted_25 rfl ?_
    refine gg_iadd dX9_wanted_26 ?_
    obtain ⟨hb27, h⟩ := gg_ck h
    refine gg_iald 2 dX9_wanted_27 rfl hb27 ?_
    refine gg_fg [false, false, false] [none, none, none] rfl ?_
    exact hk28 (c_p1_a ((2 : Int32) + a0).toNatClampNeg) h
  · replace h := gg_th h hc
    refine gg_aload_n dX9_wanted_10 rfl ?_
    refine gg_iconst (2 : Int32) dX9_wanted_11 (by decide) ?_
    refine gg_iload_n dX9_wanted_12 rfl ?_
    refine gg_iadd dX9_wanted_13 ?_
    obtain ⟨hb14, h⟩ := gg_ck h
    refine gg_iald 2 dX9_wanted_14 rfl hb14 ?_
    refine gg_iconst (1 : Int32) dX9_wanted_15 (by decide) ?_
    refine gg_iadd dX9_wanted_16 ?_
    refine gg_bipush (10 : Int32) dX9_wanted_17 (by decide) ?_
    refine gg_irem dX9_wanted_19 (by decide) ?_
    refine gg_goto 28 dX9_wanted_20 (by decide) ?_
    refine gg_fg [false, false, false] [none, none, none] rfl ?_
    exact hk28 (((c_p1_a ((2 : Int32) + a0).toNatClampNeg) + (1 : Int32)) - ((c_p1_a ((2 : Int32) + a0).toNatClampNeg) + (1 : Int32)) / (10 : Int32) * (10 : Int32)) h
def wd_X9_mark (c_latest : Int32) (c_asked : Int32) (c_upper : Int64) (c_lower : Int64) (c_n : Int32) (c_readAt : Int32) (c_readMany : Int32) (c_readFood : Int32) (c_isHead : Int32) (c_backMany : Int32) (c_deedMany : Int32) (c_whole : Int64) (c_wellSum : Int64) (c_strongSum : Int64) (c_hash : Int64) (c_came : Nat → Int32) (c_kindOf : Nat → Int32) (c_winds : Nat → Int32) (c_now : Nat → Int32) : va_W := [(0, .inr (8, [.int c_latest, .ref 1, .int c_asked, .long c_upper, .long c_lower, .ref 2, .ref 3, .ref 4, .ref 5, .ref 6, .int c_n, .ref 7, .ref 8, .ref 9, .ref 10, .int c_readAt, .int c_readMany, .int c_readFood, .int c_isHead, .ref 11, .ref 12, .ref 13, .int c_backMany, .int c_deedMany, .ref 14, .ref 15, .ref 16, .ref 17, .ref 18, .ref 19, .ref 20, .ref 21, .ref 22, .ref 23, .ref 24, .long c_whole, .long c_wellSum, .long c_strongSum, .long c_hash])), (1, .inl (0, 6, .inl c_came)), (7, .inl (0, 6, .inl c_kindOf)), (8, .inl (0, 4, .inl c_winds)), (9, .inl (0, 26, .inl c_now))]
def MD_X9_mark : gg_M := (yX9_mark, cX9_mark, 5, some .int, 2, 43)
theorem nV_X9_mark : gg_nV MD_X9_mark 2 := ⟨⟨gg_mem (by decide +kernel) rfl, gg_mem cw_X9_mark rfl, by decide, by decide, by decide +kernel⟩, gg_mem (by decide +kernel) rfl, gg_mem (by decide +kernel) rfl⟩
def f_X9_mark (a0 : Int32) (a1 : Int32) (c_latest : Int32) (c_n : Int32) (c_came : Nat → Int32) (c_kindOf : Nat → Int32) (c_winds : Nat → Int32) (c_now : Nat → Int32) : Option (Int32 × (Int32) × (Nat → Int32)) := (f_X9_isHut a0 c_n).bind (fun v1 => gg_lt ((some ((-1 : Int32), c_latest, c_came))) (fun k17 => (if v1 = (0 : Int32) then k17 else (f_X9_in a1 (1 : Int32) (5 : Int32)).bind (fun v2 => (if v2 = (0 : Int32) then k17 else gg_chk (gg_in a0 6) (gg_lt ((f_X9_windOf_a26 c_winds c_now).bind (fun v3 => ((if a1 = (1 : Int32) then (f_X9_tiredBy (c_kindOf a0.toNatClampNeg) v3).bind (fun v4 => (some ((v4 - v3), c_latest, c_came))) else (if a1 = (2 : Int32) then (f_X9_stays (c_kindOf a0.toNatClampNeg) v3).bind (fun v5 => gg_lt (fun (s0_124 : Int32) => (some (s0_124, c_latest, c_came))) (fun k124 => (if v5 = (0 : Int32) then (k124 (0 : Int32)) else (k124 (1 : Int32))))) else (if a1 = (3 : Int32) then (f_X9_tiredBy (c_kindOf a0.toNatClampNeg) v3).bind (fun v6 => (some (((v3 - v6) + (10 : Int32)), c_latest, c_came))) else (if a1 = (4 : Int32) then (f_X9_wanted_a26 a0 c_kindOf c_now).bind (fun v7 => (f_X9_atBrick v7 c_n c_now).bind (fun v8 => (some (v8, c_latest, c_came)))) else (f_X9_lateBy (c_kindOf a0.toNatClampNeg)).bind (fun v9 => (f_X9_lessLate v9 c_n c_kindOf).bind (fun v10 => (some (v10, c_latest, c_came))))))))))) (fun k57 => (if (c_kindOf a0.toNatClampNeg) = a1 then k57 else gg_lt (gg_lt (gg_b3 (f_X9_meets (3 : Int32) c_latest c_came) (fun v11_0 v11_1 v11_2 => (some (v11_0, v11_1, v11_2)))) (fun k51 => (if a1 = (3 : Int32) then (if (c_kindOf a0.toNatClampNeg) = (5 : Int32) then k57 else k51) else k51))) (fun k41 => (if a1 = (1 : Int32) then (if (c_kindOf a0.toNatClampNeg) = (4 : Int32) then k57 else k41) else k41))))))))))
set_option maxRecDepth 20000 in
set_option maxHeartbeats 8000000 in
theorem C_X9_mark (a0 : Int32) (a1 : Int32) (c_latest : Int32) (c_asked : Int32) (c_upper : Int64) (c_lower : Int64) (c_n : Int32) (c_readAt : Int32) (c_readMany : Int32) (c_readFood : Int32) (c_isHead : Int32) (c_backMany : Int32) (c_deedMany : Int32) (c_whole : Int64) (c_wellSum : Int64) (c_strongSum : Int64) (c_hash : Int64) (c_came : Nat → Int32) (c_kindOf : Nat → Int32) (c_winds : Nat → Int32) (c_now : Nat → Int32) {r0 : Int32} {r1 : (Int32)} {r2 : (Nat → Int32)} (h : f_X9_mark a0 a1 c_latest c_n c_came c_kindOf c_winds c_now = some (r0, r1, r2)) : gg_C MD_X9_mark [.ref 0, .int a0, .int a1] (wd_X9_mark c_latest c_asked c_upper c_lower c_n c_readAt c_readMany c_readFood c_isHead c_backMany c_deedMany c_whole c_wellSum c_strongSum c_hash c_came c_kindOf c_winds c_now) (some (.int r0)) (wd_X9_mark r1 c_asked c_upper c_lower c_n c_readAt c_readMany c_readFood c_isHead c_backMany c_deedMany c_whole c_wellSum c_strongSum c_hash r2 c_kindOf c_winds c_now) := by
  refine gg_ofG [some (.ref 0), some (.int a0), some (.int a1), none, none] (plainFor_of_name (by decide)) (Nat.le_of_ble_eq_true rfl) rfl ?_
  unfold f_X9_mark at h
  refine gg_aload_n dX9_mark_0 rfl ?_
  refine gg_iload_n dX9_mark_1 rfl ?_
  obtain ⟨v1, hv1, h⟩ := gg_bd h
  refine gg_callV (gg_sg [0]) [0] (wd_X9_mark c_latest c_asked c_upper c_lower c_n c_readAt c_readMany c_readFood c_isHead c_backMany c_deedMany c_whole c_wellSum c_strongSum c_hash c_came c_kindOf c_winds c_now) 0 (C_X9_isHut a0 c_latest c_asked c_upper c_lower c_n c_readAt c_readMany c_readFood c_isHead c_backMany c_deedMany c_whole c_wellSum c_strongSum c_hash hv1) nV_X9_isHut ml_X9_198 rfl rfl rfl rfl rfl rfl rfl rfl rfl rfl [1, 2, 3, 4] 5 rfl rfl rfl rfl rfl ⟨Nat.le_of_ble_eq_true rfl, Nat.le_of_ble_eq_true rfl⟩ (Nat.le_of_ble_eq_true rfl) dX9_mark_2 [.int v1] rfl ?_
  obtain ⟨k17, hke17, h⟩ := gg_lte h
  have hk17 : k17 = some (r0, r1, r2) → gg_G MD_X9_mark 17 [none, none, none, none, none] [] (wd_X9_mark c_latest c_asked c_upper c_lower c_n c_readAt c_readMany c_readFood c_isHead c_backMany c_deedMany c_whole c_wellSum c_strongSum c_hash c_came c_kindOf c_winds c_now) (some (.int r0)) (wd_X9_mark r1 c_asked c_upper c_lower c_n c_readAt c_readMany c_readFood c_isHead c_backMany c_deedMany c_whole c_wellSum c_strongSum c_hash r2 c_kindOf c_winds c_now) := by
    intro  h
    subst hke17
    refine gg_iconst (-1 : Int32) dX9_mark_17 (by decide) ?_
    cases h
    exact gg_iret dX9_mark_18 rfl
  clear hke17
  refine gg_if_eq 17 dX9_mark_5 (by decide) (fun hc => ?_) (fun hc => ?_)
  · replace h := gg_th h hc
    refine gg_fg [false, false, false, false, false] [none, none, none, none, none] rfl ?_
    exact hk17 h
  · replace h := gg_el h hc
    refine gg_iload_n dX9_mark_8 rfl ?_
    refine gg_iconst (1 : Int32) dX9_mark_9 (by decide) ?_
    refine gg_iconst (5 : Int32) dX9_mark_10 (by decide) ?_
    obtain ⟨v2, hv2, h⟩ := gg_bd h
    refine gg_callS (gg_sg []) [] (wd_X9_mark c_latest c_asked c_upper c_lower c_n c_readAt c_readMany c_readFood c_isHead c_backMany c_deedMany c_whole c_wellSum c_strongSum c_hash c_came c_kindOf c_winds c_now) (C_X9_in a1 (1 : Int32) (5 : Int32) hv2) nS_X9_in ml_X9_92 rfl rfl rfl rfl rfl rfl rfl [0, 1, 2, 3, 4] 5 rfl rfl rfl rfl rfl ⟨Nat.le_of_ble_eq_true rfl, Nat.le_of_ble_eq_true rfl⟩ (Nat.le_of_ble_eq_true rfl) dX9_mark_11 [.int v2] rfl ?_
    refine gg_if_ne 19 dX9_mark_14 (by decide) (fun hc => ?_) (fun hc => ?_)
    · replace h := gg_el h hc
      refine gg_aload_n dX9_mark_19 rfl ?_
      refine gg_get 0 fl_X9_33 dX9_mark_20 rfl rfl ?_
      refine gg_iload_n dX9_mark_23 rfl ?_
      obtain ⟨hb24, h⟩ := gg_ck h
      refine gg_iald 2 dX9_mark_24 rfl hb24 ?_
      refine gg_istore_n [some (.ref 0), some (.int a0), some (.int a1), some (.int (c_kindOf a0.toNatClampNeg)), none] dX9_mark_25 rfl (Nat.le_of_ble_eq_true rfl) rfl ?_
      refine gg_iload_n dX9_mark_26 rfl ?_
      refine gg_iload_n dX9_mark_27 rfl ?_
      obtain ⟨k57, hke57, h⟩ := gg_lte h
      have hk57 : k57 = some (r0, r1, r2) → gg_G MD_X9_mark 57 [some (.ref 0), some (.int a0), some (.int a1), some (.int (c_kindOf a0.toNatClampNeg)), none] [] (wd_X9_mark c_latest c_asked c_upper c_lower c_n c_readAt c_readMany c_readFood c_isHead c_backMany c_deedMany c_whole c_wellSum c_strongSum c_hash c_came c_kindOf c_winds c_now) (some (.int r0)) (wd_X9_mark r1 c_asked c_upper c_lower c_n c_readAt c_readMany c_readFood c_isHead c_backMany c_deedMany c_whole c_wellSum c_strongSum c_hash r2 c_kindOf c_winds c_now) := by
        intro  h
        subst hke57
        refine gg_aload_n dX9_mark_57 rfl ?_
        refine gg_aload_n dX9_mark_58 rfl ?_
        refine gg_get 0 fl_X9_39 dX9_mark_59 rfl rfl ?_
        obtain ⟨v3, hv3, h⟩ := gg_bd h
        refine gg_callV (gg_sg [0, 9]) [0, 3, 4] (wd_X9_mark c_latest c_asked c_upper c_lower c_n c_readAt c_readMany c_readFood c_isHead c_backMany c_deedMany c_whole c_wellSum c_strongSum c_hash c_came c_kindOf c_winds c_now) 0 (C_X9_windOf_a26 c_latest c_asked c_upper c_lower c_n c_readAt c_readMany c_readFood c_isHead c_backMany c_deedMany c_whole c_wellSum c_strongSum c_hash c_winds c_now hv3) nV_X9_windOf_a26 ml_X9_174 rfl rfl rfl rfl rfl rfl rfl rfl rfl rfl [1, 2] 5 rfl rfl rfl rfl rfl ⟨Nat.le_of_ble_eq_true rfl, Nat.le_of_ble_eq_true rfl⟩ (Nat.le_of_ble_eq_true rfl) dX9_mark_62 [.int v3] rfl ?_
        refine gg_istore [some (.ref 0), some (.int a0), some (.int a1), some (.int (c_kindOf a0.toNatClampNeg)), some (.int v3)] dX9_mark_65 rfl (Nat.le_of_ble_eq_true rfl) rfl ?_
        refine gg_iload_n dX9_mark_67 rfl ?_
        by_cases hs0 : a1 = (1 : Int32)
        · replace h := gg_th h hs0
          refine gg_swIn 100 dX9_mark_68 (by rw [hs0]; decide) (by rw [hs0]; decide) (off := (32)) (by rw [hs0]; decide) (by decide) ?_
          refine gg_iload_n dX9_mark_100 rfl ?_
          refine gg_iload dX9_mark_101 rfl ?_
          obtain ⟨v4, hv4, h⟩ := gg_bd h
          refine gg_callS (gg_sg []) [] (wd_X9_mark c_latest c_asked c_upper c_lower c_n c_readAt c_readMany c_readFood c_isHead c_backMany c_deedMany c_whole c_wellSum c_strongSum c_hash c_came c_kindOf c_winds c_now) (C_X9_tiredBy (c_kindOf a0.toNatClampNeg) v3 hv4) nS_X9_tiredBy ml_X9_181 rfl rfl rfl rfl rfl rfl rfl [0, 1, 2, 3, 4] 5 rfl rfl rfl rfl rfl ⟨Nat.le_of_ble_eq_true rfl, Nat.le_of_ble_eq_true rfl⟩ (Nat.le_of_ble_eq_true rfl) dX9_mark_103 [.int v4] rfl ?_
          refine gg_iload dX9_mark_106 rfl ?_
          refine gg_isub dX9_mark_108 ?_
          cases h
          exact gg_iret dX9_mark_109 rfl
        replace h := gg_el h hs0
        by_cases hs1 : a1 = (2 : Int32)
        · replace h := gg_th h hs1
          refine gg_swIn 110 dX9_mark_68 (by rw [hs1]; decide) (by rw [hs1]; decide) (off := (42)) (by rw [hs1]; decide) (by decide) ?_
          refine gg_iload_n dX9_mark_110 rfl ?_
          refine gg_iload dX9_mark_111 rfl ?_
          obtain ⟨v5, hv5, h⟩ := gg_bd h
          refine gg_callS (gg_sg []) [] (wd_X9_mark c_latest c_asked c_upper c_lower c_n c_readAt c_readMany c_readFood c_isHead c_backMany c_deedMany c_whole c_wellSum c_strongSum c_hash c_came c_kindOf c_winds c_now) (C_X9_stays (c_kindOf a0.toNatClampNeg) v3 hv5) nS_X9_stays ml_X9_178 rfl rfl rfl rfl rfl rfl rfl [0, 1, 2, 3, 4] 5 rfl rfl rfl rfl rfl ⟨Nat.le_of_ble_eq_true rfl, Nat.le_of_ble_eq_true rfl⟩ (Nat.le_of_ble_eq_true rfl) dX9_mark_113 [.int v5] rfl ?_
          obtain ⟨k124, hke124, h⟩ := gg_lte h
          have hk124 : ∀ (s0_124 : Int32), k124 s0_124 = some (r0, r1, r2) → gg_G MD_X9_mark 124 [none, none, none, none, none] [.int s0_124] (wd_X9_mark c_latest c_asked c_upper c_lower c_n c_readAt c_readMany c_readFood c_isHead c_backMany c_deedMany c_whole c_wellSum c_strongSum c_hash c_came c_kindOf c_winds c_now) (some (.int r0)) (wd_X9_mark r1 c_asked c_upper c_lower c_n c_readAt c_readMany c_readFood c_isHead c_backMany c_deedMany c_whole c_wellSum c_strongSum c_hash r2 c_kindOf c_winds c_now) := by
            intro s0_124 h
            subst hke124
            cases h
            exact gg_iret dX9_mark_124 rfl
          clear hke124
          refine gg_if_eq 123 dX9_mark_116 (by decide) (fun hc => ?_) (fun hc => ?_)
          · replace h := gg_th h hc
            refine gg_iconst (0 : Int32) dX9_mark_123 (by decide) ?_
            refine gg_fg [false, false, false, false, false] [none, none, none, none, none] rfl ?_
            exact hk124 (0 : Int32) h
          · replace h := gg_el h hc
            refine gg_iconst (1 : Int32) dX9_mark_119 (by decide) ?_
            refine gg_goto 124 dX9_mark_120 (by decide) ?_
            refine gg_fg [false, false, false, false, false] [none, none, none, none, none] rfl ?_
            exact hk124 (1 : Int32) h
        replace h := gg_el h hs1
        by_cases hs2 : a1 = (3 : Int32)
        · replace h := gg_th h hs2
          refine gg_swIn 125 dX9_mark_68 (by rw [hs2]; decide) (by rw [hs2]; decide) (off := (57)) (by rw [hs2]; decide) (by decide) ?_
          refine gg_iload dX9_mark_125 rfl ?_
          refine gg_iload_n dX9_mark_127 rfl ?_
          refine gg_iload dX9_mark_128 rfl ?_
          obtain ⟨v6, hv6, h⟩ := gg_bd h
          refine gg_callS (gg_sg []) [] (wd_X9_mark c_latest c_asked c_upper c_lower c_n c_readAt c_readMany c_readFood c_isHead c_backMany c_deedMany c_whole c_wellSum c_strongSum c_hash c_came c_kindOf c_winds c_now) (C_X9_tiredBy (c_kindOf a0.toNatClampNeg) v3 hv6) nS_X9_tiredBy ml_X9_181 rfl rfl rfl rfl rfl rfl rfl [0, 1, 2, 3, 4] 5 rfl rfl rfl rfl rfl ⟨Nat.le_of_ble_eq_true rfl, Nat.le_of_ble_eq_true rfl⟩ (Nat.le_of_ble_eq_true rfl) dX9_mark_130 [.int v6, .int v3] rfl ?_
          refine gg_isub dX9_mark_133 ?_
          refine gg_bipush (10 : Int32) dX9_mark_134 (by decide) ?_
          refine gg_iadd dX9_mark_136 ?_
          cases h
          exact gg_iret dX9_mark_137 rfl
        replace h := gg_el h hs2
        by_cases hs3 : a1 = (4 : Int32)
        · replace h := gg_th h hs3
          refine gg_swIn 138 dX9_mark_68 (by rw [hs3]; decide) (by rw [hs3]; decide) (off := (70)) (by rw [hs3]; decide) (by decide) ?_
          refine gg_aload_n dX9_mark_138 rfl ?_
          refine gg_aload_n dX9_mark_139 rfl ?_
          refine gg_aload_n dX9_mark_140 rfl ?_
          refine gg_get 0 fl_X9_39 dX9_mark_141 rfl rfl ?_
          refine gg_iload_n dX9_mark_144 rfl ?_
          obtain ⟨v7, hv7, h⟩ := gg_bd h
          refine gg_callV (gg_sg [0, 9]) [0, 2, 4] (wd_X9_mark c_latest c_asked c_upper c_lower c_n c_readAt c_readMany c_readFood c_isHead c_backMany c_deedMany c_whole c_wellSum c_strongSum c_hash c_came c_kindOf c_winds c_now) 0 (C_X9_wanted_a26 a0 c_latest c_asked c_upper c_lower c_n c_readAt c_readMany c_readFood c_isHead c_backMany c_deedMany c_whole c_wellSum c_strongSum c_hash c_kindOf c_now hv7) nV_X9_wanted_a26 ml_X9_191 rfl rfl rfl rfl rfl rfl rfl rfl rfl rfl [1, 3] 5 rfl rfl rfl rfl rfl ⟨Nat.le_of_ble_eq_true rfl, Nat.le_of_ble_eq_true rfl⟩ (Nat.le_of_ble_eq_true rfl) dX9_mark_145 [.int v7, .ref 0] rfl ?_
          obtain ⟨v8, hv8, h⟩ := gg_bd h
          refine gg_callV (gg_sg [0]) [0, 4] (wd_X9_mark c_latest c_asked c_upper c_lower c_n c_readAt c_readMany c_readFood c_isHead c_backMany c_deedMany c_whole c_wellSum c_strongSum c_hash c_came c_kindOf c_winds c_now) 0 (C_X9_atBrick v7 c_latest c_asked c_upper c_lower c_n c_readAt c_readMany c_readFood c_isHead c_backMany c_deedMany c_whole c_wellSum c_strongSum c_hash c_now hv8) nV_X9_atBrick ml_X9_204 rfl rfl rfl rfl rfl rfl rfl rfl rfl rfl [1, 2, 3] 5 rfl rfl rfl rfl rfl ⟨Nat.le_of_ble_eq_true rfl, Nat.le_of_ble_eq_true rfl⟩ (Nat.le_of_ble_eq_true rfl) dX9_mark_148 [.int v8] rfl ?_
          cases h
          exact gg_iret dX9_mark_151 rfl
        replace h := gg_el h hs3
        refine gg_swOut 152 dX9_mark_68 ?_ (by decide) ?_
        · have q0 := gg_ne32 hs0 (by decide : ((1 : Int32)).toInt = 1); have q1 := gg_ne32 hs1 (by decide : ((2 : Int32)).toInt = 2); have q2 := gg_ne32 hs2 (by decide : ((3 : Int32)).toInt = 3); have q3 := gg_ne32 hs3 (by decide : ((4 : Int32)).toInt = 4); omega
        refine gg_aload_n dX9_mark_152 rfl ?_
        refine gg_iload_n dX9_mark_153 rfl ?_
        obtain ⟨v9, hv9, h⟩ := gg_bd h
        refine gg_callS (gg_sg []) [] (wd_X9_mark c_latest c_asked c_upper c_lower c_n c_readAt c_readMany c_readFood c_isHead c_backMany c_deedMany c_whole c_wellSum c_strongSum c_hash c_came c_kindOf c_winds c_now) (C_X9_lateBy (c_kindOf a0.toNatClampNeg) hv9) nS_X9_lateBy ml_X9_171 rfl rfl rfl rfl rfl rfl rfl [0, 1, 2, 3, 4] 5 rfl rfl rfl rfl rfl ⟨Nat.le_of_ble_eq_true rfl, Nat.le_of_ble_eq_true rfl⟩ (Nat.le_of_ble_eq_true rfl) dX9_mark_154 [.int v9, .ref 0] rfl ?_
        obtain ⟨v10, hv10, h⟩ := gg_bd h
        refine gg_callV (gg_sg [0]) [0, 2] (wd_X9_mark c_latest c_asked c_upper c_lower c_n c_readAt c_readMany c_readFood c_isHead c_backMany c_deedMany c_whole c_wellSum c_strongSum c_hash c_came c_kindOf c_winds c_now) 0 (C_X9_lessLate v9 c_latest c_asked c_upper c_lower c_n c_readAt c_readMany c_readFood c_isHead c_backMany c_deedMany c_whole c_wellSum c_strongSum c_hash c_kindOf hv10) nV_X9_lessLate ml_X9_207 rfl rfl rfl rfl rfl rfl rfl rfl rfl rfl [1, 3, 4] 5 rfl rfl rfl rfl rfl ⟨Nat.le_of_ble_eq_true rfl, Nat.le_of_ble_eq_true rfl⟩ (Nat.le_of_ble_eq_true rfl) dX9_mark_157 [.int v10] rfl ?_
        cases h
        exact gg_iret dX9_mark_160 rfl
      clear hke57
      refine gg_icmp_eq 57 dX9_mark_28 (by decide) (fun hc => ?_) (fun hc => ?_)
      · replace h := gg_th h hc
        exact hk57 h
      · replace h := gg_el h hc
        refine gg_iload_n dX9_mark_31 rfl ?_
        refine gg_iconst (1 : Int32) dX9_mark_32 (by decide) ?_
        obtain ⟨k41, hke41, h⟩ := gg_lte h
        have hk41 : k41 = some (r0, r1, r2) → gg_G MD_X9_mark 41 [some (.ref 0), some (.int a0), some (.int a1), some (.int (c_kindOf a0.toNatClampNeg)), none] [] (wd_X9_mark c_latest c_asked c_upper c_lower c_n c_readAt c_readMany c_readFood c_isHead c_backMany c_deedMany c_whole c_wellSum c_strongSum c_hash c_came c_kindOf c_winds c_now) (some (.int r0)) (wd_X9_mark r1 c_asked c_upper c_lower c_n c_readAt c_readMany c_readFood c_isHead c_backMany c_deedMany c_whole c_wellSum c_strongSum c_hash r2 c_kindOf c_winds c_now) := by
          intro  h
          subst hke41
          refine gg_iload_n dX9_mark_41 rfl ?_
          refine gg_iconst (3 : Int32) dX9_mark_42 (by decide) ?_
          obtain ⟨k51, hke51, h⟩ := gg_lte h
          have hk51 : k51 = some (r0, r1, r2) → gg_G MD_X9_mark 51 [some (.ref 0), none, none, none, none] [] (wd_X9_mark c_latest c_asked c_upper c_lower c_n c_readAt c_readMany c_readFood c_isHead c_backMany c_deedMany c_whole c_wellSum c_strongSum c_hash c_came c_kindOf c_winds c_now) (some (.int r0)) (wd_X9_mark r1 c_asked c_upper c_lower c_n c_readAt c_readMany c_readFood c_isHead c_backMany c_deedMany c_whole c_wellSum c_strongSum c_hash r2 c_kindOf c_winds c_now) := by
            intro  h
            subst hke51
            refine gg_aload_n dX9_mark_51 rfl ?_
            refine gg_iconst (3 : Int32) dX9_mark_52 (by decide) ?_
            obtain ⟨v11_0, v11_1, v11_2, hv11, h⟩ := gg_bd3 h
            refine gg_callV (gg_sg [0]) [0, 1] (wd_X9_mark v11_1 c_asked c_upper c_lower c_n c_readAt c_readMany c_readFood c_isHead c_backMany c_deedMany c_whole c_wellSum c_strongSum c_hash v11_2 c_kindOf c_winds c_now) 0 (C_X9_meets (3 : Int32) c_latest c_asked c_upper c_lower c_n c_readAt c_readMany c_readFood c_isHead c_backMany c_deedMany c_whole c_wellSum c_strongSum c_hash c_came hv11) nV_X9_meets ml_X9_106 rfl rfl rfl rfl rfl rfl rfl rfl rfl rfl [2, 3, 4] 5 rfl rfl rfl rfl rfl ⟨Nat.le_of_ble_eq_true rfl, Nat.le_of_ble_eq_true rfl⟩ (Nat.le_of_ble_eq_true rfl) dX9_mark_53 [.int v11_0] rfl ?_
            cases h
            exact gg_iret dX9_mark_56 rfl
          clear hke51
          refine gg_icmp_ne 51 dX9_mark_43 (by decide) (fun hc => ?_) (fun hc => ?_)
          · replace h := gg_el h hc
            refine gg_fg [true, false, false, false, false] [some (.ref 0), none, none, none, none] rfl ?_
            exact hk51 h
          · replace h := gg_th h hc
            refine gg_iload_n dX9_mark_46 rfl ?_
            refine gg_iconst (5 : Int32) dX9_mark_47 (by decide) ?_
            refine gg_icmp_eq 57 dX9_mark_48 (by decide) (fun hc => ?_) (fun hc => ?_)
            · replace h := gg_th h hc
              exact hk57 h
            · replace h := gg_el h hc
              refine gg_fg [true, false, false, false, false] [some (.ref 0), none, none, none, none] rfl ?_
              exact hk51 h
        clear hke41
        refine gg_icmp_ne 41 dX9_mark_33 (by decide) (fun hc => ?_) (fun hc => ?_)
        · replace h := gg_el h hc
          exact hk41 h
        · replace h := gg_th h hc
          refine gg_iload_n dX9_mark_36 rfl ?_
          refine gg_iconst (4 : Int32) dX9_mark_37 (by decide) ?_
          refine gg_icmp_eq 57 dX9_mark_38 (by decide) (fun hc => ?_) (fun hc => ?_)
          · replace h := gg_th h hc
            exact hk57 h
          · replace h := gg_el h hc
            exact hk41 h
    · replace h := gg_th h hc
      refine gg_fg [false, false, false, false, false] [none, none, none, none, none] rfl ?_
      exact hk17 h
def wd_X9_tires (c_latest : Int32) (c_asked : Int32) (c_upper : Int64) (c_lower : Int64) (c_n : Int32) (c_readAt : Int32) (c_readMany : Int32) (c_readFood : Int32) (c_isHead : Int32) (c_backMany : Int32) (c_deedMany : Int32) (c_whole : Int64) (c_wellSum : Int64) (c_strongSum : Int64) (c_hash : Int64) (c_kindOf : Nat → Int32) : va_W := [(0, .inr (8, [.int c_latest, .ref 1, .int c_asked, .long c_upper, .long c_lower, .ref 2, .ref 3, .ref 4, .ref 5, .ref 6, .int c_n, .ref 7, .ref 8, .ref 9, .ref 10, .int c_readAt, .int c_readMany, .int c_readFood, .int c_isHead, .ref 11, .ref 12, .ref 13, .int c_backMany, .int c_deedMany, .ref 14, .ref 15, .ref 16, .ref 17, .ref 18, .ref 19, .ref 20, .ref 21, .ref 22, .ref 23, .ref 24, .long c_whole, .long c_wellSum, .long c_strongSum, .long c_hash])), (7, .inl (0, 6, .inl c_kindOf))]
def MD_X9_tires : gg_M := (yX9_tires, cX9_tires, 3, some .int, 2, 43)
theorem nV_X9_tires : gg_nV MD_X9_tires 2 := ⟨⟨gg_mem (by decide +kernel) rfl, gg_mem cw_X9_tires rfl, by decide, by decide, by decide +kernel⟩, gg_mem (by decide +kernel) rfl, gg_mem (by decide +kernel) rfl⟩
def f_X9_tires (a0 : Int32) (a1 : Int32) (c_n : Int32) (c_kindOf : Nat → Int32) : Option (Int32) := (f_X9_isHut a0 c_n).bind (fun v1 => gg_lt (fun (s0_52 : Int32) => (some s0_52)) (fun k52 => gg_lt ((k52 (-1 : Int32))) (fun k51 => (if v1 = (0 : Int32) then k51 else (f_X9_in a1 (0 : Int32) (9 : Int32)).bind (fun v2 => (if v2 = (0 : Int32) then k51 else gg_chk (gg_in a0 6) ((f_X9_tiredBy (c_kindOf a0.toNatClampNeg) a1).bind (fun v3 => gg_chk (gg_in a0 6) ((f_X9_stays (c_kindOf a0.toNatClampNeg) a1).bind (fun v4 => gg_lt (fun (s1_47 : Int32) => (k52 (v3 + s1_47))) (fun k47 => (if v4 = (0 : Int32) then (k47 (0 : Int32)) else (k47 (10 : Int32))))))))))))))
set_option maxRecDepth 20000 in
set_option maxHeartbeats 8000000 in
theorem C_X9_tires (a0 : Int32) (a1 : Int32) (c_latest : Int32) (c_asked : Int32) (c_upper : Int64) (c_lower : Int64) (c_n : Int32) (c_readAt : Int32) (c_readMany : Int32) (c_readFood : Int32) (c_isHead : Int32) (c_backMany : Int32) (c_deedMany : Int32) (c_whole : Int64) (c_wellSum : Int64) (c_strongSum : Int64) (c_hash : Int64) (c_kindOf : Nat → Int32) {res : Int32} (h : f_X9_tires a0 a1 c_n c_kindOf = some res) : gg_C MD_X9_tires [.ref 0, .int a0, .int a1] (wd_X9_tires c_latest c_asked c_upper c_lower c_n c_readAt c_readMany c_readFood c_isHead c_backMany c_deedMany c_whole c_wellSum c_strongSum c_hash c_kindOf) (some (.int res)) (wd_X9_tires c_latest c_asked c_upper c_lower c_n c_readAt c_readMany c_readFood c_isHead c_backMany c_deedMany c_whole c_wellSum c_strongSum c_hash c_kindOf) := by
  refine gg_ofG [some (.ref 0), some (.int a0), some (.int a1)] (plainFor_of_name (by decide)) (Nat.le_of_ble_eq_true rfl) rfl ?_
  unfold f_X9_tires at h
  refine gg_aload_n dX9_tires_0 rfl ?_
  refine gg_iload_n dX9_tires_1 rfl ?_
  obtain ⟨v1, hv1, h⟩ := gg_bd h
  refine gg_callV (gg_sg [0]) [0] (wd_X9_tires c_latest c_asked c_upper c_lower c_n c_readAt c_readMany c_readFood c_isHead c_backMany c_deedMany c_whole c_wellSum c_strongSum c_hash c_kindOf) 0 (C_X9_isHut a0 c_latest c_asked c_upper c_lower c_n c_readAt c_readMany c_readFood c_isHead c_backMany c_deedMany c_whole c_wellSum c_strongSum c_hash hv1) nV_X9_isHut ml_X9_198 rfl rfl rfl rfl rfl rfl rfl rfl rfl rfl [1] 2 rfl rfl rfl rfl rfl ⟨Nat.le_of_ble_eq_true rfl, Nat.le_of_ble_eq_true rfl⟩ (Nat.le_of_ble_eq_true rfl) dX9_tires_2 [.int v1] rfl ?_
  obtain ⟨k52, hke52, h⟩ := gg_lte h
  have hk52 : ∀ (s0_52 : Int32), k52 s0_52 = some res → gg_G MD_X9_tires 52 [none, none, none] [.int s0_52] (wd_X9_tires c_latest c_asked c_upper c_lower c_n c_readAt c_readMany c_readFood c_isHead c_backMany c_deedMany c_whole c_wellSum c_strongSum c_hash c_kindOf) (some (.int res)) (wd_X9_tires c_latest c_asked c_upper c_lower c_n c_readAt c_readMany c_readFood c_isHead c_backMany c_deedMany c_whole c_wellSum c_strongSum c_hash c_kindOf) := by
    intro s0_52 h
    subst hke52
    cases h
    exact gg_iret dX9_tires_52 rfl
  clear hke52
  obtain ⟨k51, hke51, h⟩ := gg_lte h
  have hk51 : k51 = some res → gg_G MD_X9_tires 51 [none, none, none] [] (wd_X9_tires c_latest c_asked c_upper c_lower c_n c_readAt c_readMany c_readFood c_isHead c_backMany c_deedMany c_whole c_wellSum c_strongSum c_hash c_kindOf) (some (.int res)) (wd_X9_tires c_latest c_asked c_upper c_lower c_n c_readAt c_readMany c_readFood c_isHead c_backMany c_deedMany c_whole c_wellSum c_strongSum c_hash c_kindOf) := by
    intro  h
    subst hke51
    refine gg_iconst (-1 : Int32) dX9_tires_51 (by decide) ?_
    exact hk52 (-1 : Int32) h
  clear hke51
  refine gg_if_eq 51 dX9_tires_5 (by decide) (fun hc => ?_) (fun hc => ?_)
  · replace h := gg_th h hc
    refine gg_fg [false, false, false] [none, none, none] rfl ?_
    exact hk51 h
  · replace h := gg_el h hc
    refine gg_iload_n dX9_tires_8 rfl ?_
    refine gg_iconst (0 : Int32) dX9_tires_9 (by decide) ?_
    refine gg_bipush (9 : Int32) dX9_tires_10 (by decide) ?_
    obtain ⟨v2, hv2, h⟩ := gg_bd h
    refine gg_callS (gg_sg []) [] (wd_X9_tires c_latest c_asked c_upper c_lower c_n c_readAt c_readMany c_readFood c_isHead c_backMany c_deedMany c_whole c_wellSum c_strongSum c_hash c_kindOf) (C_X9_in a1 (0 : Int32) (9 : Int32) hv2) nS_X9_in ml_X9_92 rfl rfl rfl rfl rfl rfl rfl [0, 1] 2 rfl rfl rfl rfl rfl ⟨Nat.le_of_ble_eq_true rfl, Nat.le_of_ble_eq_true rfl⟩ (Nat.le_of_ble_eq_true rfl) dX9_tires_12 [.int v2] rfl ?_
    refine gg_if_eq 51 dX9_tires_15 (by decide) (fun hc => ?_) (fun hc => ?_)
    · replace h := gg_th h hc
      refine gg_fg [false, false, false] [none, none, none] rfl ?_
      exact hk51 h
    · replace h := gg_el h hc
      refine gg_aload_n dX9_tires_18 rfl ?_
      refine gg_get 0 fl_X9_33 dX9_tires_19 rfl rfl ?_
      refine gg_iload_n dX9_tires_22 rfl ?_
      obtain ⟨hb23, h⟩ := gg_ck h
      refine gg_iald 1 dX9_tires_23 rfl hb23 ?_
      refine gg_iload_n dX9_tires_24 rfl ?_
      obtain ⟨v3, hv3, h⟩ := gg_bd h
      refine gg_callS (gg_sg []) [] (wd_X9_tires c_latest c_asked c_upper c_lower c_n c_readAt c_readMany c_readFood c_isHead c_backMany c_deedMany c_whole c_wellSum c_strongSum c_hash c_kindOf) (C_X9_tiredBy (c_kindOf a0.toNatClampNeg) a1 hv3) nS_X9_tiredBy ml_X9_181 rfl rfl rfl rfl rfl rfl rfl [0, 1] 2 rfl rfl rfl rfl rfl ⟨Nat.le_of_ble_eq_true rfl, Nat.le_of_ble_eq_true rfl⟩ (Nat.le_of_ble_eq_true rfl) dX9_tires_25 [.int v3] rfl ?_
      refine gg_aload_n dX9_tires_28 rfl ?_
      refine gg_get 0 fl_X9_33 dX9_tires_29 rfl rfl ?_
      refine gg_iload_n dX9_tires_32 rfl ?_
      obtain ⟨hb33, h⟩ := gg_ck h
      refine gg_iald 1 dX9_tires_33 rfl hb33 ?_
      refine gg_iload_n dX9_tires_34 rfl ?_
      obtain ⟨v4, hv4, h⟩ := gg_bd h
      refine gg_callS (gg_sg []) [] (wd_X9_tires c_latest c_asked c_upper c_lower c_n c_readAt c_readMany c_readFood c_isHead c_backMany c_deedMany c_whole c_wellSum c_strongSum c_hash c_kindOf) (C_X9_stays (c_kindOf a0.toNatClampNeg) a1 hv4) nS_X9_stays ml_X9_178 rfl rfl rfl rfl rfl rfl rfl [0, 1] 2 rfl rfl rfl rfl rfl ⟨Nat.le_of_ble_eq_true rfl, Nat.le_of_ble_eq_true rfl⟩ (Nat.le_of_ble_eq_true rfl) dX9_tires_35 [.int v4, .int v3] rfl ?_
      obtain ⟨k47, hke47, h⟩ := gg_lte h
      have hk47 : ∀ (s1_47 : Int32), k47 s1_47 = some res → gg_G MD_X9_tires 47 [none, none, none] [.int s1_47, .int v3] (wd_X9_tires c_latest c_asked c_upper c_lower c_n c_readAt c_readMany c_readFood c_isHead c_backMany c_deedMany c_whole c_wellSum c_strongSum c_hash c_kindOf) (some (.int res)) (wd_X9_tires c_latest c_asked c_upper c_lower c_n c_readAt c_readMany c_readFood c_isHead c_backMany c_deedMany c_whole c_wellSum c_strongSum c_hash c_kindOf) := by
        intro s1_47 h
        subst hke47
        refine gg_iadd dX9_tires_47 ?_
        refine gg_goto 52 dX9_tires_48 (by decide) ?_
        exact hk52 (v3 + s1_47) h
      clear hke47
      refine gg_if_eq 46 dX9_tires_38 (by decide) (fun hc => ?_) (fun hc => ?_)
      · replace h := gg_th h hc
        refine gg_iconst (0 : Int32) dX9_tires_46 (by decide) ?_
        refine gg_fg [false, false, false] [none, none, none] rfl ?_
        exact hk47 (0 : Int32) h
      · replace h := gg_el h hc
        refine gg_bipush (10 : Int32) dX9_tires_41 (by decide) ?_
        refine gg_goto 47 dX9_tires_43 (by decide) ?_
        refine gg_fg [false, false, false] [none, none, none] rfl ?_
        exact hk47 (10 : Int32) h
def wd_X9_remember (c_latest : Int32) (c_asked : Int32) (c_upper : Int64) (c_lower : Int64) (c_n : Int32) (c_readAt : Int32) (c_readMany : Int32) (c_readFood : Int32) (c_isHead : Int32) (c_backMany : Int32) (c_deedMany : Int32) (c_whole : Int64) (c_wellSum : Int64) (c_strongSum : Int64) (c_hash : Int64) (c_now : Nat → Int32) (c_log : Nat → Int32) : va_W := [(0, .inr (8, [.int c_latest, .ref 1, .int c_asked, .long c_upper, .long c_lower, .ref 2, .ref 3, .ref 4, .ref 5, .ref 6, .int c_n, .ref 7, .ref 8, .ref 9, .ref 10, .int c_readAt, .int c_readMany, .int c_readFood, .int c_isHead, .ref 11, .ref 12, .ref 13, .int c_backMany, .int c_deedMany, .ref 14, .ref 15, .ref 16, .ref 17, .ref 18, .ref 19, .ref 20, .ref 21, .ref 22, .ref 23, .ref 24, .long c_whole, .long c_wellSum, .long c_strongSum, .long c_hash])), (9, .inl (0, 26, .inl c_now)), (14, .inl (0, 1040, .inl c_log))]
def MD_X9_remember : gg_M := (yX9_remember, cX9_remember, 2, none, 0, 0)
theorem nV_X9_remember : gg_nV MD_X9_remember 0 := ⟨⟨gg_mem (by decide +kernel) rfl, gg_mem cw_X9_remember rfl, by decide, by decide, by decide +kernel⟩, gg_mem (by decide +kernel) rfl, gg_mem (by decide +kernel) rfl⟩
def lp_X9_remember_2 {β : Type} (c_deedMany : Int32) (c_now : Nat → Int32) (k34 : (Nat → Int32) → Option β) : Nat → (Int32) → (Nat → Int32) → Option β
  | 0, _, _ => none
  | n + 1, x1_2, c_log_2 => (if (26 : Int32) ≤ x1_2 then (k34 c_log_2) else gg_chk (gg_in x1_2 26) (gg_chk (gg_in (((26 : Int32) * c_deedMany) + x1_2) 1040) ((lp_X9_remember_2 c_deedMany c_now k34 n (x1_2 + (1 : Int32)) (upd c_log_2 (((26 : Int32) * c_deedMany) + x1_2).toNatClampNeg (c_now x1_2.toNatClampNeg))))))
def f_X9_remember  (c_deedMany : Int32) (c_now : Nat → Int32) (c_log : Nat → Int32) : Option ((Int32) × (Nat → Int32)) := (lp_X9_remember_2 c_deedMany c_now (fun (c_log_34 : Nat → Int32) => (some ((c_deedMany + (1 : Int32)), c_log_34))) gg_fuel (0 : Int32) c_log)
set_option maxRecDepth 20000 in
set_option maxHeartbeats 4000000 in
theorem lq_X9_remember_2 {β : Type} {res : β} {rr : Option Value} {ww : va_W} (c_latest : Int32) (c_asked : Int32) (c_upper : Int64) (c_lower : Int64) (c_n : Int32) (c_readAt : Int32) (c_readMany : Int32) (c_readFood : Int32) (c_isHead : Int32) (c_backMany : Int32) (c_deedMany : Int32) (c_whole : Int64) (c_wellSum : Int64) (c_strongSum : Int64) (c_hash : Int64) (c_now : Nat → Int32) (k34 : (Nat → Int32) → Option β) (hk34 : ∀ (c_log_34 : Nat → Int32), k34 c_log_34 = some res → gg_G MD_X9_remember 34 [some (.ref 0), none] [] (wd_X9_remember c_latest c_asked c_upper c_lower c_n c_readAt c_readMany c_readFood c_isHead c_backMany c_deedMany c_whole c_wellSum c_strongSum c_hash c_now c_log_34) rr ww) : ∀ (n : Nat) (x1_2 : Int32) (c_log_2 : Nat → Int32), lp_X9_remember_2 c_deedMany c_now k34 n x1_2 c_log_2 = some res → gg_G MD_X9_remember 2 [some (.ref 0), some (.int x1_2)] [] (wd_X9_remember c_latest c_asked c_upper c_lower c_n c_readAt c_readMany c_readFood c_isHead c_backMany c_deedMany c_whole c_wellSum c_strongSum c_hash c_now c_log_2) rr ww := by
  intro n
  induction n with
  | zero =>
    intro x1_2 c_log_2 h
    exact nomatch (show (none : Option β) = some res from h)
  | succ n ih =>
    intro x1_2 c_log_2 h
    rw [lp_X9_remember_2] at h
    refine gg_iload_n dX9_remember_2 rfl ?_
    refine gg_bipush (26 : Int32) dX9_remember_3 (by decide) ?_
    refine gg_icmp_ge 34 dX9_remember_5 (by decide) (fun hc => ?_) (fun hc => ?_)
    · replace h := gg_th h hc
      refine gg_fg [true, false] [some (.ref 0), none] rfl ?_
      exact hk34 c_log_2 h
    · replace h := gg_el h hc
      refine gg_aload_n dX9_remember_8 rfl ?_
      refine gg_get 0 fl_X9_54 dX9_remember_9 rfl rfl ?_
      refine gg_bipush (26 : Int32) dX9_remember_12 (by decide) ?_
      refine gg_aload_n dX9_remember_14 rfl ?_
      refine gg_get 0 fl_X9_157 dX9_remember_15 rfl rfl ?_
      refine gg_imul dX9_remember_18 ?_
      refine gg_iload_n dX9_remember_19 rfl ?_
      refine gg_iadd dX9_remember_20 ?_
      refine gg_aload_n dX9_remember_21 rfl ?_
      refine gg_get 0 fl_X9_39 dX9_remember_22 rfl rfl ?_
      refine gg_iload_n dX9_remember_25 rfl ?_
      obtain ⟨hb26, h⟩ := gg_ck h
      refine gg_iald 1 dX9_remember_26 rfl hb26 ?_
      obtain ⟨hb27, h⟩ := gg_ck h
      refine gg_iast 2 (wd_X9_remember c_latest c_asked c_upper c_lower c_n c_readAt c_readMany c_readFood c_isHead c_backMany c_deedMany c_whole c_wellSum c_strongSum c_hash c_now (upd c_log_2 (((26 : Int32) * c_deedMany) + x1_2).toNatClampNeg (c_now x1_2.toNatClampNeg))) dX9_remember_27 rfl hb27 rfl ?_
      refine gg_iinc (x1_2 + (1 : Int32)) [some (.ref 0), some (.int (x1_2 + (1 : Int32)))] dX9_remember_28 rfl rfl rfl (Nat.le_of_ble_eq_true rfl) rfl ?_
      refine gg_goto 2 dX9_remember_31 (by decide) ?_
      exact ih (x1_2 + (1 : Int32)) (upd c_log_2 (((26 : Int32) * c_deedMany) + x1_2).toNatClampNeg (c_now x1_2.toNatClampNeg)) h
set_option maxRecDepth 20000 in
set_option maxHeartbeats 8000000 in
theorem C_X9_remember  (c_latest : Int32) (c_asked : Int32) (c_upper : Int64) (c_lower : Int64) (c_n : Int32) (c_readAt : Int32) (c_readMany : Int32) (c_readFood : Int32) (c_isHead : Int32) (c_backMany : Int32) (c_deedMany : Int32) (c_whole : Int64) (c_wellSum : Int64) (c_strongSum : Int64) (c_hash : Int64) (c_now : Nat → Int32) (c_log : Nat → Int32) {r0 : (Int32)} {r1 : (Nat → Int32)} (h : f_X9_remember c_deedMany c_now c_log = some (r0, r1)) : gg_C MD_X9_remember [.ref 0] (wd_X9_remember c_latest c_asked c_upper c_lower c_n c_readAt c_readMany c_readFood c_isHead c_backMany c_deedMany c_whole c_wellSum c_strongSum c_hash c_now c_log) (none) (wd_X9_remember c_latest c_asked c_upper c_lower c_n c_readAt c_readMany c_readFood c_isHead c_backMany r0 c_whole c_wellSum c_strongSum c_hash c_now r1) := by
  refine gg_ofG [some (.ref 0), none] (plainFor_of_name (by decide)) (Nat.le_of_ble_eq_true rfl) rfl ?_
  unfold f_X9_remember at h
  refine gg_iconst (0 : Int32) dX9_remember_0 (by decide) ?_
  refine gg_istore_n [some (.ref 0), some (.int (0 : Int32))] dX9_remember_1 rfl (Nat.le_of_ble_eq_true rfl) rfl ?_
  refine lq_X9_remember_2 c_latest c_asked c_upper c_lower c_n c_readAt c_readMany c_readFood c_isHead c_backMany c_deedMany c_whole c_wellSum c_strongSum c_hash c_now _ ?_ gg_fuel (0 : Int32) c_log h
  intro c_log_34 h
  refine gg_aload_n dX9_remember_34 rfl ?_
  refine gg_dup dX9_remember_35 rfl ?_
  refine gg_get 0 fl_X9_157 dX9_remember_36 rfl rfl ?_
  refine gg_iconst (1 : Int32) dX9_remember_39 (by decide) ?_
  refine gg_iadd dX9_remember_40 ?_
  refine gg_putf 0 (wd_X9_remember c_latest c_asked c_upper c_lower c_n c_readAt c_readMany c_readFood c_isHead c_backMany (c_deedMany + (1 : Int32)) c_whole c_wellSum c_strongSum c_hash c_now c_log_34) fl_X9_157 dX9_remember_41 rfl (Nat.le_of_ble_eq_true rfl) (fun _ => ⟨rfl, rfl⟩) rfl ?_
  cases h
  exact gg_vret dX9_remember_44 rfl
def wd_X9_need (c_latest : Int32) (c_asked : Int32) (c_upper : Int64) (c_lower : Int64) (c_n : Int32) (c_readAt : Int32) (c_readMany : Int32) (c_readFood : Int32) (c_isHead : Int32) (c_backMany : Int32) (c_deedMany : Int32) (c_whole : Int64) (c_wellSum : Int64) (c_strongSum : Int64) (c_hash : Int64) : va_W := [(0, .inr (8, [.int c_latest, .ref 1, .int c_asked, .long c_upper, .long c_lower, .ref 2, .ref 3, .ref 4, .ref 5, .ref 6, .int c_n, .ref 7, .ref 8, .ref 9, .ref 10, .int c_readAt, .int c_readMany, .int c_readFood, .int c_isHead, .ref 11, .ref 12, .ref 13, .int c_backMany, .int c_deedMany, .ref 14, .ref 15, .ref 16, .ref 17, .ref 18, .ref 19, .ref 20, .ref 21, .ref 22, .ref 23, .ref 24, .long c_whole, .long c_wellSum, .long c_strongSum, .long c_hash]))]
def MD_X9_need : gg_M := (yX9_need, cX9_need, 2, some .int, 0, 0)
theorem nV_X9_need : gg_nV MD_X9_need 1 := ⟨⟨gg_mem (by decide +kernel) rfl, gg_mem cw_X9_need rfl, by decide, by decide, by decide +kernel⟩, gg_mem (by decide +kernel) rfl, gg_mem (by decide +kernel) rfl⟩
def f_X9_need (a0 : Int32) (c_n : Int32) : Option (Int32) := gg_lt (fun (s0_21 : Int32) => (some s0_21)) (fun k21 => (if a0 = (0 : Int32) then (k21 (-1 : Int32)) else (if c_n = (0 : Int32) then (k21 (-4 : Int32)) else (k21 (0 : Int32)))))
set_option maxRecDepth 20000 in
set_option maxHeartbeats 8000000 in
theorem C_X9_need (a0 : Int32) (c_latest : Int32) (c_asked : Int32) (c_upper : Int64) (c_lower : Int64) (c_n : Int32) (c_readAt : Int32) (c_readMany : Int32) (c_readFood : Int32) (c_isHead : Int32) (c_backMany : Int32) (c_deedMany : Int32) (c_whole : Int64) (c_wellSum : Int64) (c_strongSum : Int64) (c_hash : Int64) {res : Int32} (h : f_X9_need a0 c_n = some res) : gg_C MD_X9_need [.ref 0, .int a0] (wd_X9_need c_latest c_asked c_upper c_lower c_n c_readAt c_readMany c_readFood c_isHead c_backMany c_deedMany c_whole c_wellSum c_strongSum c_hash) (some (.int res)) (wd_X9_need c_latest c_asked c_upper c_lower c_n c_readAt c_readMany c_readFood c_isHead c_backMany c_deedMany c_whole c_wellSum c_strongSum c_hash) := by
  refine gg_ofG [some (.ref 0), some (.int a0)] (plainFor_of_name (by decide)) (Nat.le_of_ble_eq_true rfl) rfl ?_
  unfold f_X9_need at h
  refine gg_iload_n dX9_need_0 rfl ?_
  obtain ⟨k21, hke21, h⟩ := gg_lte h
  have hk21 : ∀ (s0_21 : Int32), k21 s0_21 = some res → gg_G MD_X9_need 21 [none, none] [.int s0_21] (wd_X9_need c_latest c_asked c_upper c_lower c_n c_readAt c_readMany c_readFood c_isHead c_backMany c_deedMany c_whole c_wellSum c_strongSum c_hash) (some (.int res)) (wd_X9_need c_latest c_asked c_upper c_lower c_n c_readAt c_readMany c_readFood c_isHead c_backMany c_deedMany c_whole c_wellSum c_strongSum c_hash) := by
    intro s0_21 h
    subst hke21
    cases h
    exact gg_iret dX9_need_21 rfl
  clear hke21
  refine gg_if_ne 8 dX9_need_1 (by decide) (fun hc => ?_) (fun hc => ?_)
  · replace h := gg_el h hc
    refine gg_aload_n dX9_need_8 rfl ?_
    refine gg_get 0 fl_X9_154 dX9_need_9 rfl rfl ?_
    refine gg_if_ne 20 dX9_need_12 (by decide) (fun hc => ?_) (fun hc => ?_)
    · replace h := gg_el h hc
      refine gg_iconst (0 : Int32) dX9_need_20 (by decide) ?_
      refine gg_fg [false, false] [none, none] rfl ?_
      exact hk21 (0 : Int32) h
    · replace h := gg_th h hc
      refine gg_bipush (-4 : Int32) dX9_need_15 (by decide) ?_
      refine gg_goto 21 dX9_need_17 (by decide) ?_
      refine gg_fg [false, false] [none, none] rfl ?_
      exact hk21 (-4 : Int32) h
  · replace h := gg_th h hc
    refine gg_iconst (-1 : Int32) dX9_need_4 (by decide) ?_
    refine gg_goto 21 dX9_need_5 (by decide) ?_
    refine gg_fg [false, false] [none, none] rfl ?_
    exact hk21 (-1 : Int32) h
def wd_X9_isThere_a26 (c_a : Nat → Int32) : va_W := [(0, .inl (0, 26, .inl c_a))]
def MD_X9_isThere_a26 : gg_M := (yX9_isThere, cX9_isThere, 2, some .boolean, 0, 0)
theorem nS_X9_isThere_a26 : gg_nS MD_X9_isThere_a26 2 := ⟨⟨gg_mem (by decide +kernel) rfl, gg_mem cw_X9_isThere rfl, by decide, by decide, by decide +kernel⟩, gg_mem (by decide +kernel) rfl⟩
def f_X9_isThere_a26 (a0 : Int32) (c_a : Nat → Int32) : Option (Int32) := gg_chk (gg_in ((20 : Int32) + a0) 26) (gg_lt (fun (s0_16 : Int32) => gg_chk (gg_isb s0_16) (some s0_16)) (fun k16 => (if (c_a ((20 : Int32) + a0).toNatClampNeg) = (-9 : Int32) then (k16 (0 : Int32)) else (k16 (1 : Int32)))))
set_option maxRecDepth 20000 in
set_option maxHeartbeats 8000000 in
theorem C_X9_isThere_a26 (a0 : Int32) (c_a : Nat → Int32) {res : Int32} (h : f_X9_isThere_a26 a0 c_a = some res) : gg_C MD_X9_isThere_a26 [.ref 0, .int a0] (wd_X9_isThere_a26 c_a) (some (.int res)) (wd_X9_isThere_a26 c_a) := by
  refine gg_ofG [some (.ref 0), some (.int a0)] (plainFor_of_name (by decide)) (Nat.le_of_ble_eq_true rfl) rfl ?_
  unfold f_X9_isThere_a26 at h
  refine gg_aload_n dX9_isThere_0 rfl ?_
  refine gg_bipush (20 : Int32) dX9_isThere_1 (by decide) ?_
  refine gg_iload_n dX9_isThere_3 rfl ?_
  refine gg_iadd dX9_isThere_4 ?_
  obtain ⟨hb5, h⟩ := gg_ck h
  refine gg_iald 0 dX9_isThere_5 rfl hb5 ?_
  refine gg_bipush (-9 : Int32) dX9_isThere_6 (by decide) ?_
  obtain ⟨k16, hke16, h⟩ := gg_lte h
  have hk16 : ∀ (s0_16 : Int32), k16 s0_16 = some res → gg_G MD_X9_isThere_a26 16 [none, none] [.int s0_16] (wd_X9_isThere_a26 c_a) (some (.int res)) (wd_X9_isThere_a26 c_a) := by
    intro s0_16 h
    subst hke16
    obtain ⟨hz, h⟩ := gg_ck h
    cases h
    exact gg_zret dX9_isThere_16 rfl hz
  clear hke16
  refine gg_icmp_eq 15 dX9_isThere_8 (by decide) (fun hc => ?_) (fun hc => ?_)
  · replace h := gg_th h hc
    refine gg_iconst (0 : Int32) dX9_isThere_15 (by decide) ?_
    refine gg_fg [false, false] [none, none] rfl ?_
    exact hk16 (0 : Int32) h
  · replace h := gg_el h hc
    refine gg_iconst (1 : Int32) dX9_isThere_11 (by decide) ?_
    refine gg_goto 16 dX9_isThere_12 (by decide) ?_
    refine gg_fg [false, false] [none, none] rfl ?_
    exact hk16 (1 : Int32) h
def wd_X9_isSooner_a26 (c_latest : Int32) (c_asked : Int32) (c_upper : Int64) (c_lower : Int64) (c_n : Int32) (c_readAt : Int32) (c_readMany : Int32) (c_readFood : Int32) (c_isHead : Int32) (c_backMany : Int32) (c_deedMany : Int32) (c_whole : Int64) (c_wellSum : Int64) (c_strongSum : Int64) (c_hash : Int64) (c_kindOf : Nat → Int32) (c_p1_a : Nat → Int32) : va_W := [(0, .inr (8, [.int c_latest, .ref 1, .int c_asked, .long c_upper, .long c_lower, .ref 2, .ref 3, .ref 4, .ref 5, .ref 6, .int c_n, .ref 7, .ref 8, .ref 9, .ref 10, .int c_readAt, .int c_readMany, .int c_readFood, .int c_isHead, .ref 11, .ref 12, .ref 13, .int c_backMany, .int c_deedMany, .ref 14, .ref 15, .ref 16, .ref 17, .ref 18, .ref 19, .ref 20, .ref 21, .ref 22, .ref 23, .ref 24, .long c_whole, .long c_wellSum, .long c_strongSum, .long c_hash])), (7, .inl (0, 6, .inl c_kindOf)), (100, .inl (0, 26, .inl c_p1_a))]
def MD_X9_isSooner_a26 : gg_M := (yX9_isSooner, cX9_isSooner, 6, some .boolean, 1, 20)
theorem nV_X9_isSooner_a26 : gg_nV MD_X9_isSooner_a26 3 := ⟨⟨gg_mem (by decide +kernel) rfl, gg_mem cw_X9_isSooner rfl, by decide, by decide, by decide +kernel⟩, gg_mem (by decide +kernel) rfl, gg_mem (by decide +kernel) rfl⟩
def f_X9_isSooner_a26 (a0 : Int32) (a1 : Int32) (c_kindOf : Nat → Int32) (c_p1_a : Nat → Int32) : Option (Int32) := gg_chk (gg_in a1 6) ((f_X9_lateBy (c_kindOf a1.toNatClampNeg)).bind (fun v1 => gg_chk (gg_in a0 6) ((f_X9_lateBy (c_kindOf a0.toNatClampNeg)).bind (fun v2 => gg_chk (gg_in ((8 : Int32) + a0) 26) (gg_chk (gg_in ((8 : Int32) + a1) 26) (gg_lt (fun (s0_66 : Int32) => gg_chk (gg_isb s0_66) (some s0_66)) (fun k66 => gg_lt ((k66 (1 : Int32))) (fun k61 => (if (0 : Int32) < (v1 - v2) then k61 else gg_lt ((k66 (0 : Int32))) (fun k65 => (if (v1 - v2) = (0 : Int32) then (if (0 : Int32) < ((c_p1_a ((8 : Int32) + a0).toNatClampNeg) - (c_p1_a ((8 : Int32) + a1).toNatClampNeg)) then k61 else (if ((c_p1_a ((8 : Int32) + a0).toNatClampNeg) - (c_p1_a ((8 : Int32) + a1).toNatClampNeg)) = (0 : Int32) then (if a1 ≤ a0 then k65 else k61) else k65)) else k65)))))))))))
set_option maxRecDepth 20000 in
set_option maxHeartbeats 8000000 in
theorem C_X9_isSooner_a26 (a0 : Int32) (a1 : Int32) (c_latest : Int32) (c_asked : Int32) (c_upper : Int64) (c_lower : Int64) (c_n : Int32) (c_readAt : Int32) (c_readMany : Int32) (c_readFood : Int32) (c_isHead : Int32) (c_backMany : Int32) (c_deedMany : Int32) (c_whole : Int64) (c_wellSum : Int64) (c_strongSum : Int64) (c_hash : Int64) (c_kindOf : Nat → Int32) (c_p1_a : Nat → Int32) {res : Int32} (h : f_X9_isSooner_a26 a0 a1 c_kindOf c_p1_a = some res) : gg_C MD_X9_isSooner_a26 [.ref 0, .ref 100, .int a0, .int a1] (wd_X9_isSooner_a26 c_latest c_asked c_upper c_lower c_n c_readAt c_readMany c_readFood c_isHead c_backMany c_deedMany c_whole c_wellSum c_strongSum c_hash c_kindOf c_p1_a) (some (.int res)) (wd_X9_isSooner_a26 c_latest c_asked c_upper c_lower c_n c_readAt c_readMany c_readFood c_isHead c_backMany c_deedMany c_whole c_wellSum c_strongSum c_hash c_kindOf c_p1_a) := by
  refine gg_ofG [some (.ref 0), some (.ref 100), some (.int a0), some (.int a1), none, none] (plainFor_of_name (by decide)) (Nat.le_of_ble_eq_true rfl) rfl ?_
  unfold f_X9_isSooner_a26 at h
  refine gg_aload_n dX9_isSooner_0 rfl ?_
  refine gg_get 0 fl_X9_33 dX9_isSooner_1 rfl rfl ?_
  refine gg_iload_n dX9_isSooner_4 rfl ?_
  obtain ⟨hb5, h⟩ := gg_ck h
  refine gg_iald 1 dX9_isSooner_5 rfl hb5 ?_
  obtain ⟨v1, hv1, h⟩ := gg_bd h
  refine gg_callS (gg_sg []) [] (wd_X9_isSooner_a26 c_latest c_asked c_upper c_lower c_n c_readAt c_readMany c_readFood c_isHead c_backMany c_deedMany c_whole c_wellSum c_strongSum c_hash c_kindOf c_p1_a) (C_X9_lateBy (c_kindOf a1.toNatClampNeg) hv1) nS_X9_lateBy ml_X9_171 rfl rfl rfl rfl rfl rfl rfl [0, 1, 2] 3 rfl rfl rfl rfl rfl ⟨Nat.le_of_ble_eq_true rfl, Nat.le_of_ble_eq_true rfl⟩ (Nat.le_of_ble_eq_true rfl) dX9_isSooner_6 [.int v1] rfl ?_
  refine gg_aload_n dX9_isSooner_9 rfl ?_
  refine gg_get 0 fl_X9_33 dX9_isSooner_10 rfl rfl ?_
  refine gg_iload_n dX9_isSooner_13 rfl ?_
  obtain ⟨hb14, h⟩ := gg_ck h
  refine gg_iald 1 dX9_isSooner_14 rfl hb14 ?_
  obtain ⟨v2, hv2, h⟩ := gg_bd h
  refine gg_callS (gg_sg []) [] (wd_X9_isSooner_a26 c_latest c_asked c_upper c_lower c_n c_readAt c_readMany c_readFood c_isHead c_backMany c_deedMany c_whole c_wellSum c_strongSum c_hash c_kindOf c_p1_a) (C_X9_lateBy (c_kindOf a0.toNatClampNeg) hv2) nS_X9_lateBy ml_X9_171 rfl rfl rfl rfl rfl rfl rfl [0, 1, 2] 3 rfl rfl rfl rfl rfl ⟨Nat.le_of_ble_eq_true rfl, Nat.le_of_ble_eq_true rfl⟩ (Nat.le_of_ble_eq_true rfl) dX9_isSooner_15 [.int v2, .int v1] rfl ?_
  refine gg_isub dX9_isSooner_18 ?_
  refine gg_istore [some (.ref 0), some (.ref 100), some (.int a0), some (.int a1), some (.int (v1 - v2)), none] dX9_isSooner_19 rfl (Nat.le_of_ble_eq_true rfl) rfl ?_
  refine gg_aload_n dX9_isSooner_21 rfl ?_
  refine gg_bipush (8 : Int32) dX9_isSooner_22 (by decide) ?_
  refine gg_iload_n dX9_isSooner_24 rfl ?_
  refine gg_iadd dX9_isSooner_25 ?_
  obtain ⟨hb26, h⟩ := gg_ck h
  refine gg_iald 2 dX9_isSooner_26 rfl hb26 ?_
  refine gg_aload_n dX9_isSooner_27 rfl ?_
  refine gg_bipush (8 : Int32) dX9_isSooner_28 (by decide) ?_
  refine gg_iload_n dX9_isSooner_30 rfl ?_
  refine gg_iadd dX9_isSooner_31 ?_
  obtain ⟨hb32, h⟩ := gg_ck h
  refine gg_iald 2 dX9_isSooner_32 rfl hb32 ?_
  refine gg_isub dX9_isSooner_33 ?_
  refine gg_istore [some (.ref 0), some (.ref 100), some (.int a0), some (.int a1), some (.int (v1 - v2)), some (.int ((c_p1_a ((8 : Int32) + a0).toNatClampNeg) - (c_p1_a ((8 : Int32) + a1).toNatClampNeg)))] dX9_isSooner_34 rfl (Nat.le_of_ble_eq_true rfl) rfl ?_
  refine gg_iload dX9_isSooner_36 rfl ?_
  obtain ⟨k66, hke66, h⟩ := gg_lte h
  have hk66 : ∀ (s0_66 : Int32), k66 s0_66 = some res → gg_G MD_X9_isSooner_a26 66 [none, none, none, none, none, none] [.int s0_66] (wd_X9_isSooner_a26 c_latest c_asked c_upper c_lower c_n c_readAt c_readMany c_readFood c_isHead c_backMany c_deedMany c_whole c_wellSum c_strongSum c_hash c_kindOf c_p1_a) (some (.int res)) (wd_X9_isSooner_a26 c_latest c_asked c_upper c_lower c_n c_readAt c_readMany c_readFood c_isHead c_backMany c_deedMany c_whole c_wellSum c_strongSum c_hash c_kindOf c_p1_a) := by
    intro s0_66 h
    subst hke66
    obtain ⟨hz, h⟩ := gg_ck h
    cases h
    exact gg_zret dX9_isSooner_66 rfl hz
  clear hke66
  obtain ⟨k61, hke61, h⟩ := gg_lte h
  have hk61 : k61 = some res → gg_G MD_X9_isSooner_a26 61 [none, none, none, none, none, none] [] (wd_X9_isSooner_a26 c_latest c_asked c_upper c_lower c_n c_readAt c_readMany c_readFood c_isHead c_backMany c_deedMany c_whole c_wellSum c_strongSum c_hash c_kindOf c_p1_a) (some (.int res)) (wd_X9_isSooner_a26 c_latest c_asked c_upper c_lower c_n c_readAt c_readMany c_readFood c_isHead c_backMany c_deedMany c_whole c_wellSum c_strongSum c_hash c_kindOf c_p1_a) := by
    intro  h
    subst hke61
    refine gg_iconst (1 : Int32) dX9_isSooner_61 (by decide) ?_
    refine gg_goto 66 dX9_isSooner_62 (by decide) ?_
    exact hk66 (1 : Int32) h
  clear hke61
  refine gg_if_gt 61 dX9_isSooner_38 (by decide) (fun hc => ?_) (fun hc => ?_)
  · replace h := gg_th h hc
    refine gg_fg [false, false, false, false, false, false] [none, none, none, none, none, none] rfl ?_
    exact hk61 h
  · replace h := gg_el h hc
    refine gg_iload dX9_isSooner_41 rfl ?_
    obtain ⟨k65, hke65, h⟩ := gg_lte h
    have hk65 : k65 = some res → gg_G MD_X9_isSooner_a26 65 [none, none, none, none, none, none] [] (wd_X9_isSooner_a26 c_latest c_asked c_upper c_lower c_n c_readAt c_readMany c_readFood c_isHead c_backMany c_deedMany c_whole c_wellSum c_strongSum c_hash c_kindOf c_p1_a) (some (.int res)) (wd_X9_isSooner_a26 c_latest c_asked c_upper c_lower c_n c_readAt c_readMany c_readFood c_isHead c_backMany c_deedMany c_whole c_wellSum c_strongSum c_hash c_kindOf c_p1_a) := by
      intro  h
      subst hke65
      refine gg_iconst (0 : Int32) dX9_isSooner_65 (by decide) ?_
      exact hk66 (0 : Int32) h
    clear hke65
    refine gg_if_ne 65 dX9_isSooner_43 (by decide) (fun hc => ?_) (fun hc => ?_)
    · replace h := gg_el h hc
      refine gg_fg [false, false, false, false, false, false] [none, none, none, none, none, none] rfl ?_
      exact hk65 h
    · replace h := gg_th h hc
      refine gg_iload dX9_isSooner_46 rfl ?_
      refine gg_if_gt 61 dX9_isSooner_48 (by decide) (fun hc => ?_) (fun hc => ?_)
      · replace h := gg_th h hc
        refine gg_fg [false, false, false, false, false, false] [none, none, none, none, none, none] rfl ?_
        exact hk61 h
      · replace h := gg_el h hc
        refine gg_iload dX9_isSooner_51 rfl ?_
        refine gg_if_ne 65 dX9_isSooner_53 (by decide) (fun hc => ?_) (fun hc => ?_)
        · replace h := gg_el h hc
          refine gg_fg [false, false, false, false, false, false] [none, none, none, none, none, none] rfl ?_
          exact hk65 h
        · replace h := gg_th h hc
          refine gg_iload_n dX9_isSooner_56 rfl ?_
          refine gg_iload_n dX9_isSooner_57 rfl ?_
          refine gg_icmp_ge 65 dX9_isSooner_58 (by decide) (fun hc => ?_) (fun hc => ?_)
          · replace h := gg_th h hc
            refine gg_fg [false, false, false, false, false, false] [none, none, none, none, none, none] rfl ?_
            exact hk65 h
          · replace h := gg_el h hc
            refine gg_fg [false, false, false, false, false, false] [none, none, none, none, none, none] rfl ?_
            exact hk61 h
def wd_X9_passes_a26 (c_latest : Int32) (c_asked : Int32) (c_upper : Int64) (c_lower : Int64) (c_n : Int32) (c_readAt : Int32) (c_readMany : Int32) (c_readFood : Int32) (c_isHead : Int32) (c_backMany : Int32) (c_deedMany : Int32) (c_whole : Int64) (c_wellSum : Int64) (c_strongSum : Int64) (c_hash : Int64) (c_kindOf : Nat → Int32) (c_winds : Nat → Int32) (c_back : Nat → Int32) (c_p1_a : Nat → Int32) : va_W := [(0, .inr (8, [.int c_latest, .ref 1, .int c_asked, .long c_upper, .long c_lower, .ref 2, .ref 3, .ref 4, .ref 5, .ref 6, .int c_n, .ref 7, .ref 8, .ref 9, .ref 10, .int c_readAt, .int c_readMany, .int c_readFood, .int c_isHead, .ref 11, .ref 12, .ref 13, .int c_backMany, .int c_deedMany, .ref 14, .ref 15, .ref 16, .ref 17, .ref 18, .ref 19, .ref 20, .ref 21, .ref 22, .ref 23, .ref 24, .long c_whole, .long c_wellSum, .long c_strongSum, .long c_hash])), (7, .inl (0, 6, .inl c_kindOf)), (8, .inl (0, 4, .inl c_winds)), (13, .inl (0, 6, .inl c_back)), (100, .inl (0, 26, .inl c_p1_a))]
def MD_X9_passes_a26 : gg_M := (yX9_passes, cX9_passes, 8, none, 2, 45)
theorem nV_X9_passes_a26 : gg_nV MD_X9_passes_a26 1 := ⟨⟨gg_mem (by decide +kernel) rfl, gg_mem cw_X9_passes rfl, by decide, by decide, by decide +kernel⟩, gg_mem (by decide +kernel) rfl, gg_mem (by decide +kernel) rfl⟩
def lp_X9_passes_a26_14 {β : Type} (y2 : Int32) (c_n : Int32) (c_kindOf : Nat → Int32) (k204 : (Int32) → (Int32) → (Nat → Int32) → Option β) : Nat → (Int32) → (Int32) → (Int32) → (Nat → Int32) → Option β
  | 0, _, _, _, _ => none
  | n + 1, x3_14, x4_14, x5_14, c_p1_a_14 => (if c_n ≤ x5_14 then (k204 x3_14 x4_14 c_p1_a_14) else (f_X9_isThere_a26 x5_14 c_p1_a_14).bind (fun v2 => gg_lt (fun (x3_198 : Int32) (x4_198 : Int32) (c_p1_a_198 : Nat → Int32) => (lp_X9_passes_a26_14 y2 c_n c_kindOf k204 n x3_198 x4_198 (x5_14 + (1 : Int32)) c_p1_a_198)) (fun k198 => gg_lt ((f_X9_isThere_a26 x5_14 c_p1_a_14).bind (fun v3 => (if v3 = (0 : Int32) then (k198 x3_14 x4_14 c_p1_a_14) else gg_chk (gg_in x5_14 6) ((f_X9_tiredBy (c_kindOf x5_14.toNatClampNeg) y2).bind (fun v4 => gg_chk (gg_in ((8 : Int32) + x5_14) 26) (gg_lt (fun (s0_148 : Int32) => gg_chk (gg_in ((8 : Int32) + x5_14) 26) (gg_lt (fun (s3_169 : Int32) => gg_chk (gg_in ((8 : Int32) + x5_14) 26) (gg_chk (gg_in ((20 : Int32) + x5_14) 26) (gg_lt (fun (s1_195 : Int32) => (k198 x3_14 (x4_14 ||| s1_195) (upd (upd c_p1_a_14 ((8 : Int32) + x5_14).toNatClampNeg ((c_p1_a_14 ((8 : Int32) + x5_14).toNatClampNeg) - s3_169)) ((20 : Int32) + x5_14).toNatClampNeg (-9 : Int32)))) (fun k195 => (if s0_148 = (0 : Int32) then (k195 ((1 : Int32) <<< (x5_14 &&& 31))) else (k195 (0 : Int32))))))) (fun k169 => (if s0_148 = (0 : Int32) then (k169 v4) else (k169 (0 : Int32)))))) (fun k148 => (if v4 ≤ (c_p1_a_14 ((8 : Int32) + x5_14).toNatClampNeg) then (k148 (0 : Int32)) else (k148 (1 : Int32)))))))))) (fun k109 => (if v2 = (0 : Int32) then k109 else gg_chk (gg_in x5_14 6) ((f_X9_stays (c_kindOf x5_14.toNatClampNeg) y2).bind (fun v5 => (if v5 = (0 : Int32) then k109 else gg_chk (gg_in ((8 : Int32) + x5_14) 26) (gg_chk (gg_in (1 : Int32) 26) (gg_lt (fun (s3_75 : Int32) => gg_chk (gg_in ((8 : Int32) + x5_14) 26) (gg_chk (gg_in (1 : Int32) 26) (gg_chk (gg_in (1 : Int32) 26) (gg_lt (fun (s3_92 : Int32) => gg_chk (gg_in (1 : Int32) 26) (gg_chk (gg_in ((20 : Int32) + x5_14) 26) ((k198 (x3_14 ||| ((1 : Int32) <<< (((upd (upd c_p1_a_14 ((8 : Int32) + x5_14).toNatClampNeg ((c_p1_a_14 ((8 : Int32) + x5_14).toNatClampNeg) - s3_75)) (1 : Int32).toNatClampNeg (((upd c_p1_a_14 ((8 : Int32) + x5_14).toNatClampNeg ((c_p1_a_14 ((8 : Int32) + x5_14).toNatClampNeg) - s3_75)) (1 : Int32).toNatClampNeg) - s3_92)) ((20 : Int32) + x5_14).toNatClampNeg) &&& 31))) x4_14 (upd (upd c_p1_a_14 ((8 : Int32) + x5_14).toNatClampNeg ((c_p1_a_14 ((8 : Int32) + x5_14).toNatClampNeg) - s3_75)) (1 : Int32).toNatClampNeg (((upd c_p1_a_14 ((8 : Int32) + x5_14).toNatClampNeg ((c_p1_a_14 ((8 : Int32) + x5_14).toNatClampNeg) - s3_75)) (1 : Int32).toNatClampNeg) - s3_92)))))) (fun k92 => (if ((upd c_p1_a_14 ((8 : Int32) + x5_14).toNatClampNeg ((c_p1_a_14 ((8 : Int32) + x5_14).toNatClampNeg) - s3_75)) (1 : Int32).toNatClampNeg) ≤ (0 : Int32) then (k92 (0 : Int32)) else (k92 (1 : Int32)))))))) (fun k75 => gg_lt ((k75 (0 : Int32))) (fun k74 => (if (c_p1_a_14 (1 : Int32).toNatClampNeg) = (0 : Int32) then gg_chk (gg_in ((8 : Int32) + x5_14) 26) ((if (c_p1_a_14 ((8 : Int32) + x5_14).toNatClampNeg) ≤ (0 : Int32) then k74 else (k75 (1 : Int32)))) else k74)))))))))))))
def lp_X9_passes_a26_221 {β : Type} (y4 : Int32) (c_n : Int32) (c_kindOf : Nat → Int32) (c_p1_a : Nat → Int32) (k274 : (Int32) → Option β) : Nat → (Int32) → (Int32) → Option β
  | 0, _, _ => none
  | n + 1, x5_221, x6_221 => (if c_n ≤ x6_221 then (k274 x5_221) else (f_X9_has y4 x6_221).bind (fun v6 => gg_lt (fun (s0_266 : Int32) => (lp_X9_passes_a26_221 y4 c_n c_kindOf c_p1_a k274 n s0_266 (x6_221 + (1 : Int32)))) (fun k266 => gg_lt ((k266 x5_221)) (fun k264 => (if v6 = (0 : Int32) then k264 else gg_lt ((k266 x6_221)) (fun k259 => (if x5_221 = (-9 : Int32) then k259 else (f_X9_isSooner_a26 x6_221 x5_221 c_kindOf c_p1_a).bind (fun v7 => (if v7 = (0 : Int32) then k264 else k259)))))))))
def lp_X9_passes_a26_209 {β : Type} (c_n : Int32) (c_kindOf : Nat → Int32) (k365 : (Int32) → (Nat → Int32) → (Nat → Int32) → Option β) : Nat → (Int32) → (Int32) → (Int32) → (Nat → Int32) → (Nat → Int32) → Option β
  | 0, _, _, _, _, _ => none
  | n + 1, x3_209, x4_209, c_backMany_209, c_back_209, c_p1_a_209 => (if x4_209 = (0 : Int32) then (k365 c_backMany_209 c_back_209 c_p1_a_209) else (lp_X9_passes_a26_221 x4_209 c_n c_kindOf c_p1_a_209 (fun (x5_274 : Int32) => (f_X9_wanted_a26 x5_274 c_kindOf c_p1_a_209).bind (fun v8 => (f_X9_landing v8 x3_209).bind (fun v9 => gg_chk (gg_in ((20 : Int32) + x5_274) 26) (gg_chk (gg_in ((14 : Int32) + x5_274) 26) (gg_chk (gg_in ((14 : Int32) + x5_274) 26) (gg_lt (fun (s3_321 : Int32) => gg_chk (gg_in ((14 : Int32) + x5_274) 26) (gg_chk (gg_in c_backMany_209 6) ((lp_X9_passes_a26_209 c_n c_kindOf k365 n (x3_209 ||| ((1 : Int32) <<< (v9 &&& 31))) (x4_209 &&& (((1 : Int32) <<< (x5_274 &&& 31)) ^^^ (-1 : Int32))) (c_backMany_209 + (1 : Int32)) (upd c_back_209 c_backMany_209.toNatClampNeg x5_274) (upd (upd c_p1_a_209 ((20 : Int32) + x5_274).toNatClampNeg v9) ((14 : Int32) + x5_274).toNatClampNeg (((upd c_p1_a_209 ((20 : Int32) + x5_274).toNatClampNeg v9) ((14 : Int32) + x5_274).toNatClampNeg) + s3_321)))))) (fun k321 => (if (9 : Int32) ≤ ((upd c_p1_a_209 ((20 : Int32) + x5_274).toNatClampNeg v9) ((14 : Int32) + x5_274).toNatClampNeg) then (k321 (0 : Int32)) else (k321 (1 : Int32)))))))))) gg_fuel (-9 : Int32) (0 : Int32)))
def f_X9_passes_a26  (c_n : Int32) (c_backMany : Int32) (c_kindOf : Nat → Int32) (c_winds : Nat → Int32) (c_back : Nat → Int32) (c_p1_a : Nat → Int32) : Option ((Int32) × (Nat → Int32) × (Nat → Int32)) := (f_X9_windOf_a26 c_winds c_p1_a).bind (fun v1 => (lp_X9_passes_a26_14 v1 c_n c_kindOf (fun (x3_204 : Int32) (x4_204 : Int32) (c_p1_a_204 : Nat → Int32) => (lp_X9_passes_a26_209 c_n c_kindOf (fun (c_backMany_365 : Int32) (c_back_365 : Nat → Int32) (c_p1_a_365 : Nat → Int32) => gg_chk (gg_in (0 : Int32) 26) (gg_chk (gg_in (0 : Int32) 26) ((some (c_backMany_365, c_back_365, (upd c_p1_a_365 (0 : Int32).toNatClampNeg ((c_p1_a_365 (0 : Int32).toNatClampNeg) + (1 : Int32)))))))) gg_fuel x3_204 x4_204 (0 : Int32) c_back c_p1_a_204)) gg_fuel (0 : Int32) (0 : Int32) (0 : Int32) c_p1_a))
set_option maxRecDepth 20000 in
set_option maxHeartbeats 4000000 in
theorem lq_X9_passes_a26_14 {β : Type} {res : β} {rr : Option Value} {ww : va_W} (y2 : Int32) (c_latest : Int32) (c_asked : Int32) (c_upper : Int64) (c_lower : Int64) (c_n : Int32) (c_readAt : Int32) (c_readMany : Int32) (c_readFood : Int32) (c_isHead : Int32) (c_backMany : Int32) (c_deedMany : Int32) (c_whole : Int64) (c_wellSum : Int64) (c_strongSum : Int64) (c_hash : Int64) (c_kindOf : Nat → Int32) (c_winds : Nat → Int32) (c_back : Nat → Int32) (k204 : (Int32) → (Int32) → (Nat → Int32) → Option β) (hk204 : ∀ (x3_204 : Int32) (x4_204 : Int32) (c_p1_a_204 : Nat → Int32), k204 x3_204 x4_204 c_p1_a_204 = some res → gg_G MD_X9_passes_a26 204 [some (.ref 0), some (.ref 100), none, some (.int x3_204), some (.int x4_204), none, none, none] [] (wd_X9_passes_a26 c_latest c_asked c_upper c_lower c_n c_readAt c_readMany c_readFood c_isHead c_backMany c_deedMany c_whole c_wellSum c_strongSum c_hash c_kindOf c_winds c_back c_p1_a_204) rr ww) : ∀ (n : Nat) (x3_14 : Int32) (x4_14 : Int32) (x5_14 : Int32) (c_p1_a_14 : Nat → Int32), lp_X9_passes_a26_14 y2 c_n c_kindOf k204 n x3_14 x4_14 x5_14 c_p1_a_14 = some res → gg_G MD_X9_passes_a26 14 [some (.ref 0), some (.ref 100), some (.int y2), some (.int x3_14), some (.int x4_14), some (.int x5_14), none, none] [] (wd_X9_passes_a26 c_latest c_asked c_upper c_lower c_n c_readAt c_readMany c_readFood c_isHead c_backMany c_deedMany c_whole c_wellSum c_strongSum c_hash c_kindOf c_winds c_back c_p1_a_14) rr ww := by
  intro n
  induction n with
  | zero =>
    intro x3_14 x4_14 x5_14 c_p1_a_14 h
    exact nomatch (show (none : Option β) = some res from h)
  | succ n ih =>
    intro x3_14 x4_14 x5_14 c_p1_a_14 h
    rw [lp_X9_passes_a26_14] at h
    refine gg_iload dX9_passes_14 rfl ?_
    refine gg_aload_n dX9_passes_16 rfl ?_
    refine gg_get 0 fl_X9_154 dX9_passes_17 rfl rfl ?_
    refine gg_icmp_ge 204 dX9_passes_20 (by decide) (fun hc => ?_) (fun hc => ?_)
    · replace h := gg_th h hc
      refine gg_fg [true, true, false, true, true, false, false, false] [some (.ref 0), some (.ref 100), none, some (.int x3_14), some (.int x4_14), none, none, none] rfl ?_
      exact hk204 x3_14 x4_14 c_p1_a_14 h
    · replace h := gg_el h hc
      refine gg_aload_n dX9_passes_23 rfl ?_
      refine gg_iload dX9_passes_24 rfl ?_
      obtain ⟨v2, hv2, h⟩ := gg_bd h
      refine gg_callS (gg_sg [100]) [4] (wd_X9_passes_a26 c_latest c_asked c_upper c_lower c_n c_readAt c_readMany c_readFood c_isHead c_backMany c_deedMany c_whole c_wellSum c_strongSum c_hash c_kindOf c_winds c_back c_p1_a_14) (C_X9_isThere_a26 x5_14 c_p1_a_14 hv2) nS_X9_isThere_a26 ml_X9_160 rfl rfl rfl rfl rfl rfl rfl [0, 1, 2, 3] 5 rfl rfl rfl rfl rfl ⟨Nat.le_of_ble_eq_true rfl, Nat.le_of_ble_eq_true rfl⟩ (Nat.le_of_ble_eq_true rfl) dX9_passes_26 [.int v2] rfl ?_
      obtain ⟨k198, hke198, h⟩ := gg_lte h
      have hk198 : ∀ (x3_198 : Int32) (x4_198 : Int32) (c_p1_a_198 : Nat → Int32), k198 x3_198 x4_198 c_p1_a_198 = some res → gg_G MD_X9_passes_a26 198 [some (.ref 0), some (.ref 100), some (.int y2), some (.int x3_198), some (.int x4_198), some (.int x5_14), none, none] [] (wd_X9_passes_a26 c_latest c_asked c_upper c_lower c_n c_readAt c_readMany c_readFood c_isHead c_backMany c_deedMany c_whole c_wellSum c_strongSum c_hash c_kindOf c_winds c_back c_p1_a_198) rr ww := by
        intro x3_198 x4_198 c_p1_a_198 h
        subst hke198
        refine gg_iinc (x5_14 + (1 : Int32)) [some (.ref 0), some (.ref 100), some (.int y2), some (.int x3_198), some (.int x4_198), some (.int (x5_14 + (1 : Int32))), none, none] dX9_passes_198 rfl rfl rfl (Nat.le_of_ble_eq_true rfl) rfl ?_
        refine gg_goto 14 dX9_passes_201 (by decide) ?_
        exact ih x3_198 x4_198 (x5_14 + (1 : Int32)) c_p1_a_198 h
      clear hke198
      obtain ⟨k109, hke109, h⟩ := gg_lte h
      have hk109 : k109 = some res → gg_G MD_X9_passes_a26 109 [some (.ref 0), some (.ref 100), some (.int y2), some (.int x3_14), some (.int x4_14), some (.int x5_14), none, none] [] (wd_X9_passes_a26 c_latest c_asked c_upper c_lower c_n c_readAt c_readMany c_readFood c_isHead c_backMany c_deedMany c_whole c_wellSum c_strongSum c_hash c_kindOf c_winds c_back c_p1_a_14) rr ww := by
        intro  h
        subst hke109
        refine gg_aload_n dX9_passes_109 rfl ?_
        refine gg_iload dX9_passes_110 rfl ?_
        obtain ⟨v3, hv3, h⟩ := gg_bd h
        refine gg_callS (gg_sg [100]) [4] (wd_X9_passes_a26 c_latest c_asked c_upper c_lower c_n c_readAt c_readMany c_readFood c_isHead c_backMany c_deedMany c_whole c_wellSum c_strongSum c_hash c_kindOf c_winds c_back c_p1_a_14) (C_X9_isThere_a26 x5_14 c_p1_a_14 hv3) nS_X9_isThere_a26 ml_X9_160 rfl rfl rfl rfl rfl rfl rfl [0, 1, 2, 3] 5 rfl rfl rfl rfl rfl ⟨Nat.le_of_ble_eq_true rfl, Nat.le_of_ble_eq_true rfl⟩ (Nat.le_of_ble_eq_true rfl) dX9_passes_112 [.int v3] rfl ?_
        refine gg_if_eq 198 dX9_passes_115 (by decide) (fun hc => ?_) (fun hc => ?_)
        · replace h := gg_th h hc
          exact hk198 x3_14 x4_14 c_p1_a_14 h
        · replace h := gg_el h hc
          refine gg_aload_n dX9_passes_118 rfl ?_
          refine gg_get 0 fl_X9_33 dX9_passes_119 rfl rfl ?_
          refine gg_iload dX9_passes_122 rfl ?_
          obtain ⟨hb124, h⟩ := gg_ck h
          refine gg_iald 1 dX9_passes_124 rfl hb124 ?_
          refine gg_iload_n dX9_passes_125 rfl ?_
          obtain ⟨v4, hv4, h⟩ := gg_bd h
          refine gg_callS (gg_sg []) [] (wd_X9_passes_a26 c_latest c_asked c_upper c_lower c_n c_readAt c_readMany c_readFood c_isHead c_backMany c_deedMany c_whole c_wellSum c_strongSum c_hash c_kindOf c_winds c_back c_p1_a_14) (C_X9_tiredBy (c_kindOf x5_14.toNatClampNeg) y2 hv4) nS_X9_tiredBy ml_X9_181 rfl rfl rfl rfl rfl rfl rfl [0, 1, 2, 3, 4] 5 rfl rfl rfl rfl rfl ⟨Nat.le_of_ble_eq_true rfl, Nat.le_of_ble_eq_true rfl⟩ (Nat.le_of_ble_eq_true rfl) dX9_passes_126 [.int v4] rfl ?_
          refine gg_istore [some (.ref 0), some (.ref 100), some (.int y2), some (.int x3_14), some (.int x4_14), some (.int x5_14), some (.int v4), none] dX9_passes_129 rfl (Nat.le_of_ble_eq_true rfl) rfl ?_
          refine gg_iload dX9_passes_131 rfl ?_
          refine gg_aload_n dX9_passes_133 rfl ?_
          refine gg_bipush (8 : Int32) dX9_passes_134 (by decide) ?_
          refine gg_iload dX9_passes_136 rfl ?_
          refine gg_iadd dX9_passes_138 ?_
          obtain ⟨hb139, h⟩ := gg_ck h
          refine gg_iald 4 dX9_passes_139 rfl hb139 ?_
          obtain ⟨k148, hke148, h⟩ := gg_lte h
          have hk148 : ∀ (s0_148 : Int32), k148 s0_148 = some res → gg_G MD_X9_passes_a26 148 [some (.ref 0), some (.ref 100), some (.int y2), some (.int x3_14), some (.int x4_14), some (.int x5_14), some (.int v4), none] [.int s0_148] (wd_X9_passes_a26 c_latest c_asked c_upper c_lower c_n c_readAt c_readMany c_readFood c_isHead c_backMany c_deedMany c_whole c_wellSum c_strongSum c_hash c_kindOf c_winds c_back c_p1_a_14) rr ww := by
            intro s0_148 h
            subst hke148
            refine gg_istore [some (.ref 0), some (.ref 100), some (.int y2), some (.int x3_14), some (.int x4_14), some (.int x5_14), some (.int v4), some (.int s0_148)] dX9_passes_148 rfl (Nat.le_of_ble_eq_true rfl) rfl ?_
            refine gg_aload_n dX9_passes_150 rfl ?_
            refine gg_bipush (8 : Int32) dX9_passes_151 (by decide) ?_
            refine gg_iload dX9_passes_153 rfl ?_
            refine gg_iadd dX9_passes_155 ?_
            refine gg_dup2 dX9_passes_156 rfl rfl ?_
            obtain ⟨hb157, h⟩ := gg_ck h
            refine gg_iald 4 dX9_passes_157 rfl hb157 ?_
            refine gg_iload dX9_passes_158 rfl ?_
            obtain ⟨k169, hke169, h⟩ := gg_lte h
            have hk169 : ∀ (s3_169 : Int32), k169 s3_169 = some res → gg_G MD_X9_passes_a26 169 [some (.ref 0), some (.ref 100), some (.int y2), some (.int x3_14), some (.int x4_14), some (.int x5_14), none, some (.int s0_148)] [.int s3_169, .int (c_p1_a_14 ((8 : Int32) + x5_14).toNatClampNeg), .int ((8 : Int32) + x5_14), .ref 100] (wd_X9_passes_a26 c_latest c_asked c_upper c_lower c_n c_readAt c_readMany c_readFood c_isHead c_backMany c_deedMany c_whole c_wellSum c_strongSum c_hash c_kindOf c_winds c_back c_p1_a_14) rr ww := by
              intro s3_169 h
              subst hke169
              refine gg_isub dX9_passes_169 ?_
              obtain ⟨hb170, h⟩ := gg_ck h
              refine gg_iast 4 (wd_X9_passes_a26 c_latest c_asked c_upper c_lower c_n c_readAt c_readMany c_readFood c_isHead c_backMany c_deedMany c_whole c_wellSum c_strongSum c_hash c_kindOf c_winds c_back (upd c_p1_a_14 ((8 : Int32) + x5_14).toNatClampNeg ((c_p1_a_14 ((8 : Int32) + x5_14).toNatClampNeg) - s3_169))) dX9_passes_170 rfl hb170 rfl ?_
              refine gg_aload_n dX9_passes_171 rfl ?_
              refine gg_bipush (20 : Int32) dX9_passes_172 (by decide) ?_
              refine gg_iload dX9_passes_174 rfl ?_
              refine gg_iadd dX9_passes_176 ?_
              refine gg_bipush (-9 : Int32) dX9_passes_177 (by decide) ?_
              obtain ⟨hb179, h⟩ := gg_ck h
              refine gg_iast 4 (wd_X9_passes_a26 c_latest c_asked c_upper c_lower c_n c_readAt c_readMany c_readFood c_isHead c_backMany c_deedMany c_whole c_wellSum c_strongSum c_hash c_kindOf c_winds c_back (upd (upd c_p1_a_14 ((8 : Int32) + x5_14).toNatClampNeg ((c_p1_a_14 ((8 : Int32) + x5_14).toNatClampNeg) - s3_169)) ((20 : Int32) + x5_14).toNatClampNeg (-9 : Int32))) dX9_passes_179 rfl hb179 rfl ?_
              refine gg_iload dX9_passes_180 rfl ?_
              refine gg_iload dX9_passes_182 rfl ?_
              obtain ⟨k195, hke195, h⟩ := gg_lte h
              have hk195 : ∀ (s1_195 : Int32), k195 s1_195 = some res → gg_G MD_X9_passes_a26 195 [some (.ref 0), some (.ref 100), some (.int y2), some (.int x3_14), none, some (.int x5_14), none, none] [.int s1_195, .int x4_14] (wd_X9_passes_a26 c_latest c_asked c_upper c_lower c_n c_readAt c_readMany c_readFood c_isHead c_backMany c_deedMany c_whole c_wellSum c_strongSum c_hash c_kindOf c_winds c_back (upd (upd c_p1_a_14 ((8 : Int32) + x5_14).toNatClampNeg ((c_p1_a_14 ((8 : Int32) + x5_14).toNatClampNeg) - s3_169)) ((20 : Int32) + x5_14).toNatClampNeg (-9 : Int32))) rr ww := by
                intro s1_195 h
                subst hke195
                refine gg_ior dX9_passes_195 ?_
                refine gg_istore [some (.ref 0), some (.ref 100), some (.int y2), some (.int x3_14), some (.int (x4_14 ||| s1_195)), some (.int x5_14), none, none] dX9_passes_196 rfl (Nat.le_of_ble_eq_true rfl) rfl ?_
                exact hk198 x3_14 (x4_14 ||| s1_195) (upd (upd c_p1_a_14 ((8 : Int32) + x5_14).toNatClampNeg ((c_p1_a_14 ((8 : Int32) + x5_14).toNatClampNeg) - s3_169)) ((20 : Int32) + x5_14).toNatClampNeg (-9 : Int32)) h
              clear hke195
              refine gg_if_eq 191 dX9_passes_184 (by decide) (fun hc => ?_) (fun hc => ?_)
              · replace h := gg_th h hc
                refine gg_iconst (1 : Int32) dX9_passes_191 (by decide) ?_
                refine gg_iload dX9_passes_192 rfl ?_
                refine gg_ishl dX9_passes_194 ?_
                refine gg_fg [true, true, true, true, false, true, false, false] [some (.ref 0), some (.ref 100), some (.int y2), some (.int x3_14), none, some (.int x5_14), none, none] rfl ?_
                exact hk195 ((1 : Int32) <<< (x5_14 &&& 31)) h
              · replace h := gg_el h hc
                refine gg_iconst (0 : Int32) dX9_passes_187 (by decide) ?_
                refine gg_goto 195 dX9_passes_188 (by decide) ?_
                refine gg_fg [true, true, true, true, false, true, false, false] [some (.ref 0), some (.ref 100), some (.int y2), some (.int x3_14), none, some (.int x5_14), none, none] rfl ?_
                exact hk195 (0 : Int32) h
            clear hke169
            refine gg_if_eq 167 dX9_passes_160 (by decide) (fun hc => ?_) (fun hc => ?_)
            · replace h := gg_th h hc
              refine gg_iload dX9_passes_167 rfl ?_
              refine gg_fg [true, true, true, true, true, true, false, true] [some (.ref 0), some (.ref 100), some (.int y2), some (.int x3_14), some (.int x4_14), some (.int x5_14), none, some (.int s0_148)] rfl ?_
              exact hk169 v4 h
            · replace h := gg_el h hc
              refine gg_iconst (0 : Int32) dX9_passes_163 (by decide) ?_
              refine gg_goto 169 dX9_passes_164 (by decide) ?_
              refine gg_fg [true, true, true, true, true, true, false, true] [some (.ref 0), some (.ref 100), some (.int y2), some (.int x3_14), some (.int x4_14), some (.int x5_14), none, some (.int s0_148)] rfl ?_
              exact hk169 (0 : Int32) h
          clear hke148
          refine gg_icmp_le 147 dX9_passes_140 (by decide) (fun hc => ?_) (fun hc => ?_)
          · replace h := gg_th h hc
            refine gg_iconst (0 : Int32) dX9_passes_147 (by decide) ?_
            exact hk148 (0 : Int32) h
          · replace h := gg_el h hc
            refine gg_iconst (1 : Int32) dX9_passes_143 (by decide) ?_
            refine gg_goto 148 dX9_passes_144 (by decide) ?_
            exact hk148 (1 : Int32) h
      clear hke109
      refine gg_if_eq 109 dX9_passes_29 (by decide) (fun hc => ?_) (fun hc => ?_)
      · replace h := gg_th h hc
        exact hk109 h
      · replace h := gg_el h hc
        refine gg_aload_n dX9_passes_32 rfl ?_
        refine gg_get 0 fl_X9_33 dX9_passes_33 rfl rfl ?_
        refine gg_iload dX9_passes_36 rfl ?_
        obtain ⟨hb38, h⟩ := gg_ck h
        refine gg_iald 1 dX9_passes_38 rfl hb38 ?_
        refine gg_iload_n dX9_passes_39 rfl ?_
        obtain ⟨v5, hv5, h⟩ := gg_bd h
        refine gg_callS (gg_sg []) [] (wd_X9_passes_a26 c_latest c_asked c_upper c_lower c_n c_readAt c_readMany c_readFood c_isHead c_backMany c_deedMany c_whole c_wellSum c_strongSum c_hash c_kindOf c_winds c_back c_p1_a_14) (C_X9_stays (c_kindOf x5_14.toNatClampNeg) y2 hv5) nS_X9_stays ml_X9_178 rfl rfl rfl rfl rfl rfl rfl [0, 1, 2, 3, 4] 5 rfl rfl rfl rfl rfl ⟨Nat.le_of_ble_eq_true rfl, Nat.le_of_ble_eq_true rfl⟩ (Nat.le_of_ble_eq_true rfl) dX9_passes_40 [.int v5] rfl ?_
        refine gg_if_eq 109 dX9_passes_43 (by decide) (fun hc => ?_) (fun hc => ?_)
        · replace h := gg_th h hc
          exact hk109 h
        · replace h := gg_el h hc
          refine gg_aload_n dX9_passes_46 rfl ?_
          refine gg_bipush (8 : Int32) dX9_passes_47 (by decide) ?_
          refine gg_iload dX9_passes_49 rfl ?_
          refine gg_iadd dX9_passes_51 ?_
          refine gg_dup2 dX9_passes_52 rfl rfl ?_
          obtain ⟨hb53, h⟩ := gg_ck h
          refine gg_iald 4 dX9_passes_53 rfl hb53 ?_
          refine gg_aload_n dX9_passes_54 rfl ?_
          refine gg_iconst (1 : Int32) dX9_passes_55 (by decide) ?_
          obtain ⟨hb56, h⟩ := gg_ck h
          refine gg_iald 4 dX9_passes_56 rfl hb56 ?_
          obtain ⟨k75, hke75, h⟩ := gg_lte h
          have hk75 : ∀ (s3_75 : Int32), k75 s3_75 = some res → gg_G MD_X9_passes_a26 75 [some (.ref 0), some (.ref 100), some (.int y2), some (.int x3_14), some (.int x4_14), some (.int x5_14), none, none] [.int s3_75, .int (c_p1_a_14 ((8 : Int32) + x5_14).toNatClampNeg), .int ((8 : Int32) + x5_14), .ref 100] (wd_X9_passes_a26 c_latest c_asked c_upper c_lower c_n c_readAt c_readMany c_readFood c_isHead c_backMany c_deedMany c_whole c_wellSum c_strongSum c_hash c_kindOf c_winds c_back c_p1_a_14) rr ww := by
            intro s3_75 h
            subst hke75
            refine gg_isub dX9_passes_75 ?_
            obtain ⟨hb76, h⟩ := gg_ck h
            refine gg_iast 4 (wd_X9_passes_a26 c_latest c_asked c_upper c_lower c_n c_readAt c_readMany c_readFood c_isHead c_backMany c_deedMany c_whole c_wellSum c_strongSum c_hash c_kindOf c_winds c_back (upd c_p1_a_14 ((8 : Int32) + x5_14).toNatClampNeg ((c_p1_a_14 ((8 : Int32) + x5_14).toNatClampNeg) - s3_75))) dX9_passes_76 rfl hb76 rfl ?_
            refine gg_aload_n dX9_passes_77 rfl ?_
            refine gg_iconst (1 : Int32) dX9_passes_78 (by decide) ?_
            refine gg_dup2 dX9_passes_79 rfl rfl ?_
            obtain ⟨hb80, h⟩ := gg_ck h
            refine gg_iald 4 dX9_passes_80 rfl hb80 ?_
            refine gg_aload_n dX9_passes_81 rfl ?_
            refine gg_iconst (1 : Int32) dX9_passes_82 (by decide) ?_
            obtain ⟨hb83, h⟩ := gg_ck h
            refine gg_iald 4 dX9_passes_83 rfl hb83 ?_
            obtain ⟨k92, hke92, h⟩ := gg_lte h
            have hk92 : ∀ (s3_92 : Int32), k92 s3_92 = some res → gg_G MD_X9_passes_a26 92 [some (.ref 0), some (.ref 100), some (.int y2), some (.int x3_14), some (.int x4_14), some (.int x5_14), none, none] [.int s3_92, .int ((upd c_p1_a_14 ((8 : Int32) + x5_14).toNatClampNeg ((c_p1_a_14 ((8 : Int32) + x5_14).toNatClampNeg) - s3_75)) (1 : Int32).toNatClampNeg), .int (1 : Int32), .ref 100] (wd_X9_passes_a26 c_latest c_asked c_upper c_lower c_n c_readAt c_readMany c_readFood c_isHead c_backMany c_deedMany c_whole c_wellSum c_strongSum c_hash c_kindOf c_winds c_back (upd c_p1_a_14 ((8 : Int32) + x5_14).toNatClampNeg ((c_p1_a_14 ((8 : Int32) + x5_14).toNatClampNeg) - s3_75))) rr ww := by
              intro s3_92 h
              subst hke92
              refine gg_isub dX9_passes_92 ?_
              obtain ⟨hb93, h⟩ := gg_ck h
              refine gg_iast 4 (wd_X9_passes_a26 c_latest c_asked c_upper c_lower c_n c_readAt c_readMany c_readFood c_isHead c_backMany c_deedMany c_whole c_wellSum c_strongSum c_hash c_kindOf c_winds c_back (upd (upd c_p1_a_14 ((8 : Int32) + x5_14).toNatClampNeg ((c_p1_a_14 ((8 : Int32) + x5_14).toNatClampNeg) - s3_75)) (1 : Int32).toNatClampNeg (((upd c_p1_a_14 ((8 : Int32) + x5_14).toNatClampNeg ((c_p1_a_14 ((8 : Int32) + x5_14).toNatClampNeg) - s3_75)) (1 : Int32).toNatClampNeg) - s3_92))) dX9_passes_93 rfl hb93 rfl ?_
              refine gg_iload_n dX9_passes_94 rfl ?_
              refine gg_iconst (1 : Int32) dX9_passes_95 (by decide) ?_
              refine gg_aload_n dX9_passes_96 rfl ?_
              refine gg_bipush (20 : Int32) dX9_passes_97 (by decide) ?_
              refine gg_iload dX9_passes_99 rfl ?_
              refine gg_iadd dX9_passes_101 ?_
              obtain ⟨hb102, h⟩ := gg_ck h
              refine gg_iald 4 dX9_passes_102 rfl hb102 ?_
              refine gg_ishl dX9_passes_103 ?_
              refine gg_ior dX9_passes_104 ?_
              refine gg_istore_n [some (.ref 0), some (.ref 100), some (.int y2), some (.int (x3_14 ||| ((1 : Int32) <<< (((upd (upd c_p1_a_14 ((8 : Int32) + x5_14).toNatClampNeg ((c_p1_a_14 ((8 : Int32) + x5_14).toNatClampNeg) - s3_75)) (1 : Int32).toNatClampNeg (((upd c_p1_a_14 ((8 : Int32) + x5_14).toNatClampNeg ((c_p1_a_14 ((8 : Int32) + x5_14).toNatClampNeg) - s3_75)) (1 : Int32).toNatClampNeg) - s3_92)) ((20 : Int32) + x5_14).toNatClampNeg) &&& 31)))), some (.int x4_14), some (.int x5_14), none, none] dX9_passes_105 rfl (Nat.le_of_ble_eq_true rfl) rfl ?_
              refine gg_goto 198 dX9_passes_106 (by decide) ?_
              exact hk198 (x3_14 ||| ((1 : Int32) <<< (((upd (upd c_p1_a_14 ((8 : Int32) + x5_14).toNatClampNeg ((c_p1_a_14 ((8 : Int32) + x5_14).toNatClampNeg) - s3_75)) (1 : Int32).toNatClampNeg (((upd c_p1_a_14 ((8 : Int32) + x5_14).toNatClampNeg ((c_p1_a_14 ((8 : Int32) + x5_14).toNatClampNeg) - s3_75)) (1 : Int32).toNatClampNeg) - s3_92)) ((20 : Int32) + x5_14).toNatClampNeg) &&& 31))) x4_14 (upd (upd c_p1_a_14 ((8 : Int32) + x5_14).toNatClampNeg ((c_p1_a_14 ((8 : Int32) + x5_14).toNatClampNeg) - s3_75)) (1 : Int32).toNatClampNeg (((upd c_p1_a_14 ((8 : Int32) + x5_14).toNatClampNeg ((c_p1_a_14 ((8 : Int32) + x5_14).toNatClampNeg) - s3_75)) (1 : Int32).toNatClampNeg) - s3_92)) h
            clear hke92
            refine gg_if_le 91 dX9_passes_84 (by decide) (fun hc => ?_) (fun hc => ?_)
            · replace h := gg_th h hc
              refine gg_iconst (0 : Int32) dX9_passes_91 (by decide) ?_
              exact hk92 (0 : Int32) h
            · replace h := gg_el h hc
              refine gg_iconst (1 : Int32) dX9_passes_87 (by decide) ?_
              refine gg_goto 92 dX9_passes_88 (by decide) ?_
              exact hk92 (1 : Int32) h
          clear hke75
          obtain ⟨k74, hke74, h⟩ := gg_lte h
          have hk74 : k74 = some res → gg_G MD_X9_passes_a26 74 [some (.ref 0), some (.ref 100), some (.int y2), some (.int x3_14), some (.int x4_14), some (.int x5_14), none, none] [.int (c_p1_a_14 ((8 : Int32) + x5_14).toNatClampNeg), .int ((8 : Int32) + x5_14), .ref 100] (wd_X9_passes_a26 c_latest c_asked c_upper c_lower c_n c_readAt c_readMany c_readFood c_isHead c_backMany c_deedMany c_whole c_wellSum c_strongSum c_hash c_kindOf c_winds c_back c_p1_a_14) rr ww := by
            intro  h
            subst hke74
            refine gg_iconst (0 : Int32) dX9_passes_74 (by decide) ?_
            exact hk75 (0 : Int32) h
          clear hke74
          refine gg_if_ne 74 dX9_passes_57 (by decide) (fun hc => ?_) (fun hc => ?_)
          · replace h := gg_el h hc
            exact hk74 h
          · replace h := gg_th h hc
            refine gg_aload_n dX9_passes_60 rfl ?_
            refine gg_bipush (8 : Int32) dX9_passes_61 (by decide) ?_
            refine gg_iload dX9_passes_63 rfl ?_
            refine gg_iadd dX9_passes_65 ?_
            obtain ⟨hb66, h⟩ := gg_ck h
            refine gg_iald 4 dX9_passes_66 rfl hb66 ?_
            refine gg_if_le 74 dX9_passes_67 (by decide) (fun hc => ?_) (fun hc => ?_)
            · replace h := gg_th h hc
              exact hk74 h
            · replace h := gg_el h hc
              refine gg_iconst (1 : Int32) dX9_passes_70 (by decide) ?_
              refine gg_goto 75 dX9_passes_71 (by decide) ?_
              exact hk75 (1 : Int32) h
set_option maxRecDepth 20000 in
set_option maxHeartbeats 4000000 in
theorem lq_X9_passes_a26_221 {β : Type} {res : β} {rr : Option Value} {ww : va_W} (y3 : Int32) (y4 : Int32) (c_latest : Int32) (c_asked : Int32) (c_upper : Int64) (c_lower : Int64) (c_n : Int32) (c_readAt : Int32) (c_readMany : Int32) (c_readFood : Int32) (c_isHead : Int32) (c_backMany : Int32) (c_deedMany : Int32) (c_whole : Int64) (c_wellSum : Int64) (c_strongSum : Int64) (c_hash : Int64) (c_kindOf : Nat → Int32) (c_winds : Nat → Int32) (c_back : Nat → Int32) (c_p1_a : Nat → Int32) (k274 : (Int32) → Option β) (hk274 : ∀ (x5_274 : Int32), k274 x5_274 = some res → gg_G MD_X9_passes_a26 274 [some (.ref 0), some (.ref 100), none, some (.int y3), some (.int y4), some (.int x5_274), none, none] [] (wd_X9_passes_a26 c_latest c_asked c_upper c_lower c_n c_readAt c_readMany c_readFood c_isHead c_backMany c_deedMany c_whole c_wellSum c_strongSum c_hash c_kindOf c_winds c_back c_p1_a) rr ww) : ∀ (n : Nat) (x5_221 : Int32) (x6_221 : Int32), lp_X9_passes_a26_221 y4 c_n c_kindOf c_p1_a k274 n x5_221 x6_221 = some res → gg_G MD_X9_passes_a26 221 [some (.ref 0), some (.ref 100), none, some (.int y3), some (.int y4), some (.int x5_221), some (.int x6_221), none] [] (wd_X9_passes_a26 c_latest c_asked c_upper c_lower c_n c_readAt c_readMany c_readFood c_isHead c_backMany c_deedMany c_whole c_wellSum c_strongSum c_hash c_kindOf c_winds c_back c_p1_a) rr ww := by
  intro n
  induction n with
  | zero =>
    intro x5_221 x6_221 h
    exact nomatch (show (none : Option β) = some res from h)
  | succ n ih =>
    intro x5_221 x6_221 h
    rw [lp_X9_passes_a26_221] at h
    refine gg_iload dX9_passes_221 rfl ?_
    refine gg_aload_n dX9_passes_223 rfl ?_
    refine gg_get 0 fl_X9_154 dX9_passes_224 rfl rfl ?_
    refine gg_icmp_ge 274 dX9_passes_227 (by decide) (fun hc => ?_) (fun hc => ?_)
    · replace h := gg_th h hc
      refine gg_fg [true, true, false, true, true, true, false, false] [some (.ref 0), some (.ref 100), none, some (.int y3), some (.int y4), some (.int x5_221), none, none] rfl ?_
      exact hk274 x5_221 h
    · replace h := gg_el h hc
      refine gg_iload dX9_passes_230 rfl ?_
      refine gg_iload dX9_passes_232 rfl ?_
      obtain ⟨v6, hv6, h⟩ := gg_bd h
      refine gg_callS (gg_sg []) [] (wd_X9_passes_a26 c_latest c_asked c_upper c_lower c_n c_readAt c_readMany c_readFood c_isHead c_backMany c_deedMany c_whole c_wellSum c_strongSum c_hash c_kindOf c_winds c_back c_p1_a) (C_X9_has y4 x6_221 hv6) nS_X9_has ml_X9_167 rfl rfl rfl rfl rfl rfl rfl [0, 1, 2, 3, 4] 5 rfl rfl rfl rfl rfl ⟨Nat.le_of_ble_eq_true rfl, Nat.le_of_ble_eq_true rfl⟩ (Nat.le_of_ble_eq_true rfl) dX9_passes_234 [.int v6] rfl ?_
      obtain ⟨k266, hke266, h⟩ := gg_lte h
      have hk266 : ∀ (s0_266 : Int32), k266 s0_266 = some res → gg_G MD_X9_passes_a26 266 [some (.ref 0), some (.ref 100), none, some (.int y3), some (.int y4), none, some (.int x6_221), none] [.int s0_266] (wd_X9_passes_a26 c_latest c_asked c_upper c_lower c_n c_readAt c_readMany c_readFood c_isHead c_backMany c_deedMany c_whole c_wellSum c_strongSum c_hash c_kindOf c_winds c_back c_p1_a) rr ww := by
        intro s0_266 h
        subst hke266
        refine gg_istore [some (.ref 0), some (.ref 100), none, some (.int y3), some (.int y4), some (.int s0_266), some (.int x6_221), none] dX9_passes_266 rfl (Nat.le_of_ble_eq_true rfl) rfl ?_
        refine gg_iinc (x6_221 + (1 : Int32)) [some (.ref 0), some (.ref 100), none, some (.int y3), some (.int y4), some (.int s0_266), some (.int (x6_221 + (1 : Int32))), none] dX9_passes_268 rfl rfl rfl (Nat.le_of_ble_eq_true rfl) rfl ?_
        refine gg_goto 221 dX9_passes_271 (by decide) ?_
        exact ih s0_266 (x6_221 + (1 : Int32)) h
      clear hke266
      obtain ⟨k264, hke264, h⟩ := gg_lte h
      have hk264 : k264 = some res → gg_G MD_X9_passes_a26 264 [some (.ref 0), some (.ref 100), none, some (.int y3), some (.int y4), some (.int x5_221), some (.int x6_221), none] [] (wd_X9_passes_a26 c_latest c_asked c_upper c_lower c_n c_readAt c_readMany c_readFood c_isHead c_backMany c_deedMany c_whole c_wellSum c_strongSum c_hash c_kindOf c_winds c_back c_p1_a) rr ww := by
        intro  h
        subst hke264
        refine gg_iload dX9_passes_264 rfl ?_
        refine gg_fg [true, true, false, true, true, false, true, false] [some (.ref 0), some (.ref 100), none, some (.int y3), some (.int y4), none, some (.int x6_221), none] rfl ?_
        exact hk266 x5_221 h
      clear hke264
      refine gg_if_eq 264 dX9_passes_237 (by decide) (fun hc => ?_) (fun hc => ?_)
      · replace h := gg_th h hc
        exact hk264 h
      · replace h := gg_el h hc
        refine gg_iload dX9_passes_240 rfl ?_
        refine gg_bipush (-9 : Int32) dX9_passes_242 (by decide) ?_
        obtain ⟨k259, hke259, h⟩ := gg_lte h
        have hk259 : k259 = some res → gg_G MD_X9_passes_a26 259 [some (.ref 0), some (.ref 100), none, some (.int y3), some (.int y4), none, some (.int x6_221), none] [] (wd_X9_passes_a26 c_latest c_asked c_upper c_lower c_n c_readAt c_readMany c_readFood c_isHead c_backMany c_deedMany c_whole c_wellSum c_strongSum c_hash c_kindOf c_winds c_back c_p1_a) rr ww := by
          intro  h
          subst hke259
          refine gg_iload dX9_passes_259 rfl ?_
          refine gg_goto 266 dX9_passes_261 (by decide) ?_
          exact hk266 x6_221 h
        clear hke259
        refine gg_icmp_eq 259 dX9_passes_244 (by decide) (fun hc => ?_) (fun hc => ?_)
        · replace h := gg_th h hc
          refine gg_fg [true, true, false, true, true, false, true, false] [some (.ref 0), some (.ref 100), none, some (.int y3), some (.int y4), none, some (.int x6_221), none] rfl ?_
          exact hk259 h
        · replace h := gg_el h hc
          refine gg_aload_n dX9_passes_247 rfl ?_
          refine gg_aload_n dX9_passes_248 rfl ?_
          refine gg_iload dX9_passes_249 rfl ?_
          refine gg_iload dX9_passes_251 rfl ?_
          obtain ⟨v7, hv7, h⟩ := gg_bd h
          refine gg_callV (gg_sg [0, 100]) [0, 1, 4] (wd_X9_passes_a26 c_latest c_asked c_upper c_lower c_n c_readAt c_readMany c_readFood c_isHead c_backMany c_deedMany c_whole c_wellSum c_strongSum c_hash c_kindOf c_winds c_back c_p1_a) 0 (C_X9_isSooner_a26 x6_221 x5_221 c_latest c_asked c_upper c_lower c_n c_readAt c_readMany c_readFood c_isHead c_backMany c_deedMany c_whole c_wellSum c_strongSum c_hash c_kindOf c_p1_a hv7) nV_X9_isSooner_a26 ml_X9_187 rfl rfl rfl rfl rfl rfl rfl rfl rfl rfl [2, 3] 5 rfl rfl rfl rfl rfl ⟨Nat.le_of_ble_eq_true rfl, Nat.le_of_ble_eq_true rfl⟩ (Nat.le_of_ble_eq_true rfl) dX9_passes_253 [.int v7] rfl ?_
          refine gg_if_eq 264 dX9_passes_256 (by decide) (fun hc => ?_) (fun hc => ?_)
          · replace h := gg_th h hc
            exact hk264 h
          · replace h := gg_el h hc
            refine gg_fg [true, true, false, true, true, false, true, false] [some (.ref 0), some (.ref 100), none, some (.int y3), some (.int y4), none, some (.int x6_221), none] rfl ?_
            exact hk259 h
set_option maxRecDepth 20000 in
set_option maxHeartbeats 4000000 in
theorem lq_X9_passes_a26_209 {β : Type} {res : β} {rr : Option Value} {ww : va_W} (c_latest : Int32) (c_asked : Int32) (c_upper : Int64) (c_lower : Int64) (c_n : Int32) (c_readAt : Int32) (c_readMany : Int32) (c_readFood : Int32) (c_isHead : Int32) (c_deedMany : Int32) (c_whole : Int64) (c_wellSum : Int64) (c_strongSum : Int64) (c_hash : Int64) (c_kindOf : Nat → Int32) (c_winds : Nat → Int32) (k365 : (Int32) → (Nat → Int32) → (Nat → Int32) → Option β) (hk365 : ∀ (c_backMany_365 : Int32) (c_back_365 : Nat → Int32) (c_p1_a_365 : Nat → Int32), k365 c_backMany_365 c_back_365 c_p1_a_365 = some res → gg_G MD_X9_passes_a26 365 [none, some (.ref 100), none, none, none, none, none, none] [] (wd_X9_passes_a26 c_latest c_asked c_upper c_lower c_n c_readAt c_readMany c_readFood c_isHead c_backMany_365 c_deedMany c_whole c_wellSum c_strongSum c_hash c_kindOf c_winds c_back_365 c_p1_a_365) rr ww) : ∀ (n : Nat) (x3_209 : Int32) (x4_209 : Int32) (c_backMany_209 : Int32) (c_back_209 : Nat → Int32) (c_p1_a_209 : Nat → Int32), lp_X9_passes_a26_209 c_n c_kindOf k365 n x3_209 x4_209 c_backMany_209 c_back_209 c_p1_a_209 = some res → gg_G MD_X9_passes_a26 209 [some (.ref 0), some (.ref 100), none, some (.int x3_209), some (.int x4_209), none, none, none] [] (wd_X9_passes_a26 c_latest c_asked c_upper c_lower c_n c_readAt c_readMany c_readFood c_isHead c_backMany_209 c_deedMany c_whole c_wellSum c_strongSum c_hash c_kindOf c_winds c_back_209 c_p1_a_209) rr ww := by
  intro n
  induction n with
  | zero =>
    intro x3_209 x4_209 c_backMany_209 c_back_209 c_p1_a_209 h
    exact nomatch (show (none : Option β) = some res from h)
  | succ n ih =>
    intro x3_209 x4_209 c_backMany_209 c_back_209 c_p1_a_209 h
    rw [lp_X9_passes_a26_209] at h
    refine gg_iload dX9_passes_209 rfl ?_
    refine gg_if_eq 365 dX9_passes_211 (by decide) (fun hc => ?_) (fun hc => ?_)
    · replace h := gg_th h hc
      refine gg_fg [false, true, false, false, false, false, false, false] [none, some (.ref 100), none, none, none, none, none, none] rfl ?_
      exact hk365 c_backMany_209 c_back_209 c_p1_a_209 h
    · replace h := gg_el h hc
      refine gg_bipush (-9 : Int32) dX9_passes_214 (by decide) ?_
      refine gg_istore [some (.ref 0), some (.ref 100), none, some (.int x3_209), some (.int x4_209), some (.int (-9 : Int32)), none, none] dX9_passes_216 rfl (Nat.le_of_ble_eq_true rfl) rfl ?_
      refine gg_iconst (0 : Int32) dX9_passes_218 (by decide) ?_
      refine gg_istore [some (.ref 0), some (.ref 100), none, some (.int x3_209), some (.int x4_209), some (.int (-9 : Int32)), some (.int (0 : Int32)), none] dX9_passes_219 rfl (Nat.le_of_ble_eq_true rfl) rfl ?_
      refine lq_X9_passes_a26_221 x3_209 x4_209 c_latest c_asked c_upper c_lower c_n c_readAt c_readMany c_readFood c_isHead c_backMany_209 c_deedMany c_whole c_wellSum c_strongSum c_hash c_kindOf c_winds c_back_209 c_p1_a_209 _ ?_ gg_fuel (-9 : Int32) (0 : Int32) h
      intro x5_274 h
      refine gg_aload_n dX9_passes_274 rfl ?_
      refine gg_aload_n dX9_passes_275 rfl ?_
      refine gg_iload dX9_passes_276 rfl ?_
      obtain ⟨v8, hv8, h⟩ := gg_bd h
      refine gg_callV (gg_sg [0, 100]) [0, 1, 4] (wd_X9_passes_a26 c_latest c_asked c_upper c_lower c_n c_readAt c_readMany c_readFood c_isHead c_backMany_209 c_deedMany c_whole c_wellSum c_strongSum c_hash c_kindOf c_winds c_back_209 c_p1_a_209) 0 (C_X9_wanted_a26 x5_274 c_latest c_asked c_upper c_lower c_n c_readAt c_readMany c_readFood c_isHead c_backMany_209 c_deedMany c_whole c_wellSum c_strongSum c_hash c_kindOf c_p1_a_209 hv8) nV_X9_wanted_a26 ml_X9_191 rfl rfl rfl rfl rfl rfl rfl rfl rfl rfl [2, 3] 5 rfl rfl rfl rfl rfl ⟨Nat.le_of_ble_eq_true rfl, Nat.le_of_ble_eq_true rfl⟩ (Nat.le_of_ble_eq_true rfl) dX9_passes_278 [.int v8] rfl ?_
      refine gg_iload_n dX9_passes_281 rfl ?_
      obtain ⟨v9, hv9, h⟩ := gg_bd h
      refine gg_callS (gg_sg []) [] (wd_X9_passes_a26 c_latest c_asked c_upper c_lower c_n c_readAt c_readMany c_readFood c_isHead c_backMany_209 c_deedMany c_whole c_wellSum c_strongSum c_hash c_kindOf c_winds c_back_209 c_p1_a_209) (C_X9_landing v8 x3_209 hv9) nS_X9_landing ml_X9_195 rfl rfl rfl rfl rfl rfl rfl [0, 1, 2, 3, 4] 5 rfl rfl rfl rfl rfl ⟨Nat.le_of_ble_eq_true rfl, Nat.le_of_ble_eq_true rfl⟩ (Nat.le_of_ble_eq_true rfl) dX9_passes_282 [.int v9] rfl ?_
      refine gg_istore [some (.ref 0), some (.ref 100), none, some (.int x3_209), some (.int x4_209), some (.int x5_274), some (.int v9), none] dX9_passes_285 rfl (Nat.le_of_ble_eq_true rfl) rfl ?_
      refine gg_aload_n dX9_passes_287 rfl ?_
      refine gg_bipush (20 : Int32) dX9_passes_288 (by decide) ?_
      refine gg_iload dX9_passes_290 rfl ?_
      refine gg_iadd dX9_passes_292 ?_
      refine gg_iload dX9_passes_293 rfl ?_
      obtain ⟨hb295, h⟩ := gg_ck h
      refine gg_iast 4 (wd_X9_passes_a26 c_latest c_asked c_upper c_lower c_n c_readAt c_readMany c_readFood c_isHead c_backMany_209 c_deedMany c_whole c_wellSum c_strongSum c_hash c_kindOf c_winds c_back_209 (upd c_p1_a_209 ((20 : Int32) + x5_274).toNatClampNeg v9)) dX9_passes_295 rfl hb295 rfl ?_
      refine gg_aload_n dX9_passes_296 rfl ?_
      refine gg_bipush (14 : Int32) dX9_passes_297 (by decide) ?_
      refine gg_iload dX9_passes_299 rfl ?_
      refine gg_iadd dX9_passes_301 ?_
      refine gg_dup2 dX9_passes_302 rfl rfl ?_
      obtain ⟨hb303, h⟩ := gg_ck h
      refine gg_iald 4 dX9_passes_303 rfl hb303 ?_
      refine gg_aload_n dX9_passes_304 rfl ?_
      refine gg_bipush (14 : Int32) dX9_passes_305 (by decide) ?_
      refine gg_iload dX9_passes_307 rfl ?_
      refine gg_iadd dX9_passes_309 ?_
      obtain ⟨hb310, h⟩ := gg_ck h
      refine gg_iald 4 dX9_passes_310 rfl hb310 ?_
      refine gg_bipush (9 : Int32) dX9_passes_311 (by decide) ?_
      obtain ⟨k321, hke321, h⟩ := gg_lte h
      have hk321 : ∀ (s3_321 : Int32), k321 s3_321 = some res → gg_G MD_X9_passes_a26 321 [some (.ref 0), some (.ref 100), none, some (.int x3_209), some (.int x4_209), some (.int x5_274), some (.int v9), none] [.int s3_321, .int ((upd c_p1_a_209 ((20 : Int32) + x5_274).toNatClampNeg v9) ((14 : Int32) + x5_274).toNatClampNeg), .int ((14 : Int32) + x5_274), .ref 100] (wd_X9_passes_a26 c_latest c_asked c_upper c_lower c_n c_readAt c_readMany c_readFood c_isHead c_backMany_209 c_deedMany c_whole c_wellSum c_strongSum c_hash c_kindOf c_winds c_back_209 (upd c_p1_a_209 ((20 : Int32) + x5_274).toNatClampNeg v9)) rr ww := by
        intro s3_321 h
        subst hke321
        refine gg_iadd dX9_passes_321 ?_
        obtain ⟨hb322, h⟩ := gg_ck h
        refine gg_iast 4 (wd_X9_passes_a26 c_latest c_asked c_upper c_lower c_n c_readAt c_readMany c_readFood c_isHead c_backMany_209 c_deedMany c_whole c_wellSum c_strongSum c_hash c_kindOf c_winds c_back_209 (upd (upd c_p1_a_209 ((20 : Int32) + x5_274).toNatClampNeg v9) ((14 : Int32) + x5_274).toNatClampNeg (((upd c_p1_a_209 ((20 : Int32) + x5_274).toNatClampNeg v9) ((14 : Int32) + x5_274).toNatClampNeg) + s3_321))) dX9_passes_322 rfl hb322 rfl ?_
        refine gg_iload_n dX9_passes_323 rfl ?_
        refine gg_iconst (1 : Int32) dX9_passes_324 (by decide) ?_
        refine gg_iload dX9_passes_325 rfl ?_
        refine gg_ishl dX9_passes_327 ?_
        refine gg_ior dX9_passes_328 ?_
        refine gg_istore_n [some (.ref 0), some (.ref 100), none, some (.int (x3_209 ||| ((1 : Int32) <<< (v9 &&& 31)))), some (.int x4_209), some (.int x5_274), some (.int v9), none] dX9_passes_329 rfl (Nat.le_of_ble_eq_true rfl) rfl ?_
        refine gg_iload dX9_passes_330 rfl ?_
        refine gg_iconst (1 : Int32) dX9_passes_332 (by decide) ?_
        refine gg_iload dX9_passes_333 rfl ?_
        refine gg_ishl dX9_passes_335 ?_
        refine gg_iconst (-1 : Int32) dX9_passes_336 (by decide) ?_
        refine gg_ixor dX9_passes_337 ?_
        refine gg_iand dX9_passes_338 ?_
        refine gg_istore [some (.ref 0), some (.ref 100), none, some (.int (x3_209 ||| ((1 : Int32) <<< (v9 &&& 31)))), some (.int (x4_209 &&& (((1 : Int32) <<< (x5_274 &&& 31)) ^^^ (-1 : Int32)))), some (.int x5_274), some (.int v9), none] dX9_passes_339 rfl (Nat.le_of_ble_eq_true rfl) rfl ?_
        refine gg_aload_n dX9_passes_341 rfl ?_
        refine gg_get 0 fl_X9_51 dX9_passes_342 rfl rfl ?_
        refine gg_aload_n dX9_passes_345 rfl ?_
        refine gg_get 0 fl_X9_184 dX9_passes_346 rfl rfl ?_
        refine gg_iload dX9_passes_349 rfl ?_
        obtain ⟨hb351, h⟩ := gg_ck h
        refine gg_iast 3 (wd_X9_passes_a26 c_latest c_asked c_upper c_lower c_n c_readAt c_readMany c_readFood c_isHead c_backMany_209 c_deedMany c_whole c_wellSum c_strongSum c_hash c_kindOf c_winds (upd c_back_209 c_backMany_209.toNatClampNeg x5_274) (upd (upd c_p1_a_209 ((20 : Int32) + x5_274).toNatClampNeg v9) ((14 : Int32) + x5_274).toNatClampNeg (((upd c_p1_a_209 ((20 : Int32) + x5_274).toNatClampNeg v9) ((14 : Int32) + x5_274).toNatClampNeg) + s3_321))) dX9_passes_351 rfl hb351 rfl ?_
        refine gg_aload_n dX9_passes_352 rfl ?_
        refine gg_dup dX9_passes_353 rfl ?_
        refine gg_get 0 fl_X9_184 dX9_passes_354 rfl rfl ?_
        refine gg_iconst (1 : Int32) dX9_passes_357 (by decide) ?_
        refine gg_iadd dX9_passes_358 ?_
        refine gg_putf 0 (wd_X9_passes_a26 c_latest c_asked c_upper c_lower c_n c_readAt c_readMany c_readFood c_isHead (c_backMany_209 + (1 : Int32)) c_deedMany c_whole c_wellSum c_strongSum c_hash c_kindOf c_winds (upd c_back_209 c_backMany_209.toNatClampNeg x5_274) (upd (upd c_p1_a_209 ((20 : Int32) + x5_274).toNatClampNeg v9) ((14 : Int32) + x5_274).toNatClampNeg (((upd c_p1_a_209 ((20 : Int32) + x5_274).toNatClampNeg v9) ((14 : Int32) + x5_274).toNatClampNeg) + s3_321))) fl_X9_184 dX9_passes_359 rfl (Nat.le_of_ble_eq_true rfl) (fun _ => ⟨rfl, rfl⟩) rfl ?_
        refine gg_goto 209 dX9_passes_362 (by decide) ?_
        refine gg_fg [true, true, false, true, true, false, false, false] [some (.ref 0), some (.ref 100), none, some (.int (x3_209 ||| ((1 : Int32) <<< (v9 &&& 31)))), some (.int (x4_209 &&& (((1 : Int32) <<< (x5_274 &&& 31)) ^^^ (-1 : Int32)))), none, none, none] rfl ?_
        exact ih (x3_209 ||| ((1 : Int32) <<< (v9 &&& 31))) (x4_209 &&& (((1 : Int32) <<< (x5_274 &&& 31)) ^^^ (-1 : Int32))) (c_backMany_209 + (1 : Int32)) (upd c_back_209 c_backMany_209.toNatClampNeg x5_274) (upd (upd c_p1_a_209 ((20 : Int32) + x5_274).toNatClampNeg v9) ((14 : Int32) + x5_274).toNatClampNeg (((upd c_p1_a_209 ((20 : Int32) + x5_274).toNatClampNeg v9) ((14 : Int32) + x5_274).toNatClampNeg) + s3_321)) h
      clear hke321
      refine gg_icmp_ge 320 dX9_passes_313 (by decide) (fun hc => ?_) (fun hc => ?_)
      · replace h := gg_th h hc
        refine gg_iconst (0 : Int32) dX9_passes_320 (by decide) ?_
        exact hk321 (0 : Int32) h
      · replace h := gg_el h hc
        refine gg_iconst (1 : Int32) dX9_passes_316 (by decide) ?_
        refine gg_goto 321 dX9_passes_317 (by decide) ?_
        exact hk321 (1 : Int32) h
set_option maxRecDepth 20000 in
set_option maxHeartbeats 8000000 in
theorem C_X9_passes_a26  (c_latest : Int32) (c_asked : Int32) (c_upper : Int64) (c_lower : Int64) (c_n : Int32) (c_readAt : Int32) (c_readMany : Int32) (c_readFood : Int32) (c_isHead : Int32) (c_backMany : Int32) (c_deedMany : Int32) (c_whole : Int64) (c_wellSum : Int64) (c_strongSum : Int64) (c_hash : Int64) (c_kindOf : Nat → Int32) (c_winds : Nat → Int32) (c_back : Nat → Int32) (c_p1_a : Nat → Int32) {r0 : (Int32)} {r1 : (Nat → Int32)} {r2 : (Nat → Int32)} (h : f_X9_passes_a26 c_n c_backMany c_kindOf c_winds c_back c_p1_a = some (r0, r1, r2)) : gg_C MD_X9_passes_a26 [.ref 0, .ref 100] (wd_X9_passes_a26 c_latest c_asked c_upper c_lower c_n c_readAt c_readMany c_readFood c_isHead c_backMany c_deedMany c_whole c_wellSum c_strongSum c_hash c_kindOf c_winds c_back c_p1_a) (none) (wd_X9_passes_a26 c_latest c_asked c_upper c_lower c_n c_readAt c_readMany c_readFood c_isHead r0 c_deedMany c_whole c_wellSum c_strongSum c_hash c_kindOf c_winds r1 r2) := by
  refine gg_ofG [some (.ref 0), some (.ref 100), none, none, none, none, none, none] (plainFor_of_name (by decide)) (Nat.le_of_ble_eq_true rfl) rfl ?_
  unfold f_X9_passes_a26 at h
  refine gg_aload_n dX9_passes_0 rfl ?_
  refine gg_aload_n dX9_passes_1 rfl ?_
  obtain ⟨v1, hv1, h⟩ := gg_bd h
  refine gg_callV (gg_sg [0, 100]) [0, 2, 4] (wd_X9_passes_a26 c_latest c_asked c_upper c_lower c_n c_readAt c_readMany c_readFood c_isHead c_backMany c_deedMany c_whole c_wellSum c_strongSum c_hash c_kindOf c_winds c_back c_p1_a) 0 (C_X9_windOf_a26 c_latest c_asked c_upper c_lower c_n c_readAt c_readMany c_readFood c_isHead c_backMany c_deedMany c_whole c_wellSum c_strongSum c_hash c_winds c_p1_a hv1) nV_X9_windOf_a26 ml_X9_174 rfl rfl rfl rfl rfl rfl rfl rfl rfl rfl [1, 3] 5 rfl rfl rfl rfl rfl ⟨Nat.le_of_ble_eq_true rfl, Nat.le_of_ble_eq_true rfl⟩ (Nat.le_of_ble_eq_true rfl) dX9_passes_2 [.int v1] rfl ?_
  refine gg_istore_n [some (.ref 0), some (.ref 100), some (.int v1), none, none, none, none, none] dX9_passes_5 rfl (Nat.le_of_ble_eq_true rfl) rfl ?_
  refine gg_iconst (0 : Int32) dX9_passes_6 (by decide) ?_
  refine gg_istore_n [some (.ref 0), some (.ref 100), some (.int v1), some (.int (0 : Int32)), none, none, none, none] dX9_passes_7 rfl (Nat.le_of_ble_eq_true rfl) rfl ?_
  refine gg_iconst (0 : Int32) dX9_passes_8 (by decide) ?_
  refine gg_istore [some (.ref 0), some (.ref 100), some (.int v1), some (.int (0 : Int32)), some (.int (0 : Int32)), none, none, none] dX9_passes_9 rfl (Nat.le_of_ble_eq_true rfl) rfl ?_
  refine gg_iconst (0 : Int32) dX9_passes_11 (by decide) ?_
  refine gg_istore [some (.ref 0), some (.ref 100), some (.int v1), some (.int (0 : Int32)), some (.int (0 : Int32)), some (.int (0 : Int32)), none, none] dX9_passes_12 rfl (Nat.le_of_ble_eq_true rfl) rfl ?_
  refine lq_X9_passes_a26_14 v1 c_latest c_asked c_upper c_lower c_n c_readAt c_readMany c_readFood c_isHead c_backMany c_deedMany c_whole c_wellSum c_strongSum c_hash c_kindOf c_winds c_back _ ?_ gg_fuel (0 : Int32) (0 : Int32) (0 : Int32) c_p1_a h
  intro x3_204 x4_204 c_p1_a_204 h
  refine gg_aload_n dX9_passes_204 rfl ?_
  refine gg_iconst (0 : Int32) dX9_passes_205 (by decide) ?_
  refine gg_putf 0 (wd_X9_passes_a26 c_latest c_asked c_upper c_lower c_n c_readAt c_readMany c_readFood c_isHead (0 : Int32) c_deedMany c_whole c_wellSum c_strongSum c_hash c_kindOf c_winds c_back c_p1_a_204) fl_X9_184 dX9_passes_206 rfl (Nat.le_of_ble_eq_true rfl) (fun _ => ⟨rfl, rfl⟩) rfl ?_
  refine lq_X9_passes_a26_209 c_latest c_asked c_upper c_lower c_n c_readAt c_readMany c_readFood c_isHead c_deedMany c_whole c_wellSum c_strongSum c_hash c_kindOf c_winds _ ?_ gg_fuel x3_204 x4_204 (0 : Int32) c_back c_p1_a_204 h
  intro c_backMany_365 c_back_365 c_p1_a_365 h
  refine gg_aload_n dX9_passes_365 rfl ?_
  refine gg_iconst (0 : Int32) dX9_passes_366 (by decide) ?_
  refine gg_dup2 dX9_passes_367 rfl rfl ?_
  obtain ⟨hb368, h⟩ := gg_ck h
  refine gg_iald 4 dX9_passes_368 rfl hb368 ?_
  refine gg_iconst (1 : Int32) dX9_passes_369 (by decide) ?_
  refine gg_iadd dX9_passes_370 ?_
  obtain ⟨hb371, h⟩ := gg_ck h
  refine gg_iast 4 (wd_X9_passes_a26 c_latest c_asked c_upper c_lower c_n c_readAt c_readMany c_readFood c_isHead c_backMany_365 c_deedMany c_whole c_wellSum c_strongSum c_hash c_kindOf c_winds c_back_365 (upd c_p1_a_365 (0 : Int32).toNatClampNeg ((c_p1_a_365 (0 : Int32).toNatClampNeg) + (1 : Int32)))) dX9_passes_371 rfl hb371 rfl ?_
  cases h
  exact gg_vret dX9_passes_372 rfl
