def wd_X8_tires (c_latestFinding : Int32) (c_told : Int32) (c_above : Int64) (c_below : Int64) (c_now_huts : Int32) (c_now_food : Int32) (c_now_due : Int32) (c_now_backs : Int32) (c_now_kind : Nat → Int32) : va_W := [(0, .inr (7, [.ref 1, .ref 10, .ref 17, .ref 19, .ref 27, .ref 35, .ref 43, .ref 45, .ref 52, .ref 56, .ref 60, .ref 67, .int c_latestFinding, .int c_told, .long c_above, .long c_below])), (27, .inr (2, [.int c_now_huts, .int c_now_food, .int c_now_due, .ref 28, .ref 29, .ref 30, .ref 31, .ref 32, .ref 33, .ref 34, .int c_now_backs])), (29, .inl (0, 6, .inl c_now_kind))]
def MD_X8_tires : gg_M := (yX8_tires, cX8_tires, 4, some .int, 2, 42)
theorem nV_X8_tires : gg_nV MD_X8_tires 2 := ⟨⟨gg_mem (by decide +kernel) rfl, gg_mem cw_X8_tires rfl, by decide, by decide, by decide +kernel⟩, gg_mem (by decide +kernel) rfl, gg_mem (by decide +kernel) rfl⟩
def f_X8_tires (a0 : Int32) (a1 : Int32) (c_now_huts : Int32) (c_now_kind : Nat → Int32) : Option (Int32) := (f_X2_knows a0 c_now_huts).bind (fun v1 => gg_lt ((some (-1 : Int32))) (fun k21 => (if v1 = (0 : Int32) then k21 else (f_X8_within a1 (0 : Int32) (9 : Int32)).bind (fun v2 => (if v2 = (0 : Int32) then k21 else gg_chk (gg_in a0 6) ((f_X3_tiredBy (c_now_kind a0.toNatClampNeg) a1).bind (fun v3 => (f_X3_stays (c_now_kind a0.toNatClampNeg) a1).bind (fun v4 => gg_lt (fun (s1_52 : Int32) => (some (v3 + s1_52))) (fun k52 => (if v4 = (0 : Int32) then (k52 (0 : Int32)) else (k52 (10 : Int32))))))))))))
set_option maxRecDepth 20000 in
set_option maxHeartbeats 8000000 in
theorem C_X8_tires (a0 : Int32) (a1 : Int32) (c_latestFinding : Int32) (c_told : Int32) (c_above : Int64) (c_below : Int64) (c_now_huts : Int32) (c_now_food : Int32) (c_now_due : Int32) (c_now_backs : Int32) (c_now_kind : Nat → Int32) {res : Int32} (h : f_X8_tires a0 a1 c_now_huts c_now_kind = some res) : gg_C MD_X8_tires [.ref 0, .int a0, .int a1] (wd_X8_tires c_latestFinding c_told c_above c_below c_now_huts c_now_food c_now_due c_now_backs c_now_kind) (some (.int res)) (wd_X8_tires c_latestFinding c_told c_above c_below c_now_huts c_now_food c_now_due c_now_backs c_now_kind) := by
  refine gg_ofG [some (.ref 0), some (.int a0), some (.int a1), none] (plainFor_of_name (by decide)) (Nat.le_of_ble_eq_true rfl) rfl ?_
  unfold f_X8_tires at h
  refine gg_aload_n dX8_tires_0 rfl ?_
  refine gg_get 0 fl_X8_35 dX8_tires_1 rfl rfl ?_
  refine gg_iload_n dX8_tires_4 rfl ?_
  obtain ⟨v1, hv1, h⟩ := gg_bd h
  refine gg_callV (gg_sg [27]) [1] (wd_X8_tires c_latestFinding c_told c_above c_below c_now_huts c_now_food c_now_due c_now_backs c_now_kind) 0 (C_X2_knows a0 c_now_huts c_now_food c_now_due c_now_backs hv1) nV_X2_knows ml_X8_154 rfl rfl rfl rfl rfl rfl rfl rfl rfl rfl [0, 2] 3 rfl rfl rfl rfl rfl ⟨Nat.le_of_ble_eq_true rfl, Nat.le_of_ble_eq_true rfl⟩ (Nat.le_of_ble_eq_true rfl) dX8_tires_5 [.int v1] rfl ?_
  obtain ⟨k21, hke21, h⟩ := gg_lte h
  have hk21 : k21 = some res → gg_G MD_X8_tires 21 [none, none, none, none] [] (wd_X8_tires c_latestFinding c_told c_above c_below c_now_huts c_now_food c_now_due c_now_backs c_now_kind) (some (.int res)) (wd_X8_tires c_latestFinding c_told c_above c_below c_now_huts c_now_food c_now_due c_now_backs c_now_kind) := by
    intro  h
    subst hke21
    refine gg_iconst (-1 : Int32) dX8_tires_21 (by decide) ?_
    cases h
    exact gg_iret dX8_tires_22 rfl
  clear hke21
  refine gg_if_eq 21 dX8_tires_8 (by decide) (fun hc => ?_) (fun hc => ?_)
  · replace h := gg_th h hc
    refine gg_fg [false, false, false, false] [none, none, none, none] rfl ?_
    exact hk21 h
  · replace h := gg_el h hc
    refine gg_iload_n dX8_tires_11 rfl ?_
    refine gg_iconst (0 : Int32) dX8_tires_12 (by decide) ?_
    refine gg_bipush (9 : Int32) dX8_tires_13 (by decide) ?_
    obtain ⟨v2, hv2, h⟩ := gg_bd h
    refine gg_callS (gg_sg []) [] (wd_X8_tires c_latestFinding c_told c_above c_below c_now_huts c_now_food c_now_due c_now_backs c_now_kind) (C_X8_within a1 (0 : Int32) (9 : Int32) hv2) nS_X8_within ml_X8_155 rfl rfl rfl rfl rfl rfl rfl [0, 1, 2] 3 rfl rfl rfl rfl rfl ⟨Nat.le_of_ble_eq_true rfl, Nat.le_of_ble_eq_true rfl⟩ (Nat.le_of_ble_eq_true rfl) dX8_tires_15 [.int v2] rfl ?_
    refine gg_if_ne 23 dX8_tires_18 (by decide) (fun hc => ?_) (fun hc => ?_)
    · replace h := gg_el h hc
      refine gg_aload_n dX8_tires_23 rfl ?_
      refine gg_get 0 fl_X8_35 dX8_tires_24 rfl rfl ?_
      refine gg_get 1 fl_X8_163 dX8_tires_27 rfl rfl ?_
      refine gg_iload_n dX8_tires_30 rfl ?_
      obtain ⟨hb31, h⟩ := gg_ck h
      refine gg_iald 2 dX8_tires_31 rfl hb31 ?_
      refine gg_istore_n [some (.ref 0), some (.int a0), some (.int a1), some (.int (c_now_kind a0.toNatClampNeg))] dX8_tires_32 rfl (Nat.le_of_ble_eq_true rfl) rfl ?_
      refine gg_iload_n dX8_tires_33 rfl ?_
      refine gg_iload_n dX8_tires_34 rfl ?_
      obtain ⟨v3, hv3, h⟩ := gg_bd h
      refine gg_callS (gg_sg []) [] (wd_X8_tires c_latestFinding c_told c_above c_below c_now_huts c_now_food c_now_due c_now_backs c_now_kind) (C_X3_tiredBy (c_now_kind a0.toNatClampNeg) a1 hv3) nS_X3_tiredBy ml_X8_174 rfl rfl rfl rfl rfl rfl rfl [0, 1, 2] 3 rfl rfl rfl rfl rfl ⟨Nat.le_of_ble_eq_true rfl, Nat.le_of_ble_eq_true rfl⟩ (Nat.le_of_ble_eq_true rfl) dX8_tires_35 [.int v3] rfl ?_
      refine gg_iload_n dX8_tires_38 rfl ?_
      refine gg_iload_n dX8_tires_39 rfl ?_
      obtain ⟨v4, hv4, h⟩ := gg_bd h
      refine gg_callS (gg_sg []) [] (wd_X8_tires c_latestFinding c_told c_above c_below c_now_huts c_now_food c_now_due c_now_backs c_now_kind) (C_X3_stays (c_now_kind a0.toNatClampNeg) a1 hv4) nS_X3_stays ml_X8_177 rfl rfl rfl rfl rfl rfl rfl [0, 1, 2] 3 rfl rfl rfl rfl rfl ⟨Nat.le_of_ble_eq_true rfl, Nat.le_of_ble_eq_true rfl⟩ (Nat.le_of_ble_eq_true rfl) dX8_tires_40 [.int v4, .int v3] rfl ?_
      obtain ⟨k52, hke52, h⟩ := gg_lte h
      have hk52 : ∀ (s1_52 : Int32), k52 s1_52 = some res → gg_G MD_X8_tires 52 [none, none, none, none] [.int s1_52, .int v3] (wd_X8_tires c_latestFinding c_told c_above c_below c_now_huts c_now_food c_now_due c_now_backs c_now_kind) (some (.int res)) (wd_X8_tires c_latestFinding c_told c_above c_below c_now_huts c_now_food c_now_due c_now_backs c_now_kind) := by
        intro s1_52 h
        subst hke52
        refine gg_iadd dX8_tires_52 ?_
        cases h
        exact gg_iret dX8_tires_53 rfl
      clear hke52
      refine gg_if_eq 51 dX8_tires_43 (by decide) (fun hc => ?_) (fun hc => ?_)
      · replace h := gg_th h hc
        refine gg_iconst (0 : Int32) dX8_tires_51 (by decide) ?_
        refine gg_fg [false, false, false, false] [none, none, none, none] rfl ?_
        exact hk52 (0 : Int32) h
      · replace h := gg_el h hc
        refine gg_bipush (10 : Int32) dX8_tires_46 (by decide) ?_
        refine gg_goto 52 dX8_tires_48 (by decide) ?_
        refine gg_fg [false, false, false, false] [none, none, none, none] rfl ?_
        exact hk52 (10 : Int32) h
    · replace h := gg_th h hc
      refine gg_fg [false, false, false, false] [none, none, none, none] rfl ?_
      exact hk21 h
def wd_X4_lacks (c_size : Int32) (c_codes : Nat → Int32) : va_W := [(0, .inr (3, [.int c_size, .ref 1])), (1, .inl (0, 40, .inl c_codes))]
def MD_X4_lacks : gg_M := (yX4_lacks, cX4_lacks, 2, some .boolean, 0, 0)
theorem nV_X4_lacks : gg_nV MD_X4_lacks 1 := ⟨⟨gg_mem (by decide +kernel) rfl, gg_mem cw_X4_lacks rfl, by decide, by decide, by decide +kernel⟩, gg_mem (by decide +kernel) rfl, gg_mem (by decide +kernel) rfl⟩
def f_X4_lacks (a0 : Int32) (c_size : Int32) : Option (Int32) := gg_lt (fun (s0_19 : Int32) => gg_chk (gg_isb s0_19) (some s0_19)) (fun k19 => (if (c_size + a0) ≤ (40 : Int32) then (k19 (0 : Int32)) else (k19 (1 : Int32))))
set_option maxRecDepth 20000 in
set_option maxHeartbeats 8000000 in
theorem C_X4_lacks (a0 : Int32) (c_size : Int32) (c_codes : Nat → Int32) {res : Int32} (h : f_X4_lacks a0 c_size = some res) : gg_C MD_X4_lacks [.ref 0, .int a0] (wd_X4_lacks c_size c_codes) (some (.int res)) (wd_X4_lacks c_size c_codes) := by
  refine gg_ofG [some (.ref 0), some (.int a0)] (plainFor_of_name (by decide)) (Nat.le_of_ble_eq_true rfl) rfl ?_
  unfold f_X4_lacks at h
  refine gg_aload_n dX4_lacks_0 rfl ?_
  refine gg_get 0 fl_X4_15 dX4_lacks_1 rfl rfl ?_
  refine gg_iload_n dX4_lacks_4 rfl ?_
  refine gg_iadd dX4_lacks_5 ?_
  refine gg_aload_n dX4_lacks_6 rfl ?_
  refine gg_get 0 fl_X4_9 dX4_lacks_7 rfl rfl ?_
  refine gg_alen (40 : Int32) 1 dX4_lacks_10 rfl (by decide) rfl ?_
  obtain ⟨k19, hke19, h⟩ := gg_lte h
  have hk19 : ∀ (s0_19 : Int32), k19 s0_19 = some res → gg_G MD_X4_lacks 19 [none, none] [.int s0_19] (wd_X4_lacks c_size c_codes) (some (.int res)) (wd_X4_lacks c_size c_codes) := by
    intro s0_19 h
    subst hke19
    obtain ⟨hz, h⟩ := gg_ck h
    cases h
    exact gg_zret dX4_lacks_19 rfl hz
  clear hke19
  refine gg_icmp_le 18 dX4_lacks_11 (by decide) (fun hc => ?_) (fun hc => ?_)
  · replace h := gg_th h hc
    refine gg_iconst (0 : Int32) dX4_lacks_18 (by decide) ?_
    refine gg_fg [false, false] [none, none] rfl ?_
    exact hk19 (0 : Int32) h
  · replace h := gg_el h hc
    refine gg_iconst (1 : Int32) dX4_lacks_14 (by decide) ?_
    refine gg_goto 19 dX4_lacks_15 (by decide) ?_
    refine gg_fg [false, false] [none, none] rfl ?_
    exact hk19 (1 : Int32) h
def wd_X4_code  : va_W := []
def MD_X4_code : gg_M := (yX4_code, cX4_code, 3, some .int, 0, 0)
theorem nS_X4_code : gg_nS MD_X4_code 3 := ⟨⟨gg_mem (by decide +kernel) rfl, gg_mem cw_X4_code rfl, by decide, by decide, by decide +kernel⟩, gg_mem (by decide +kernel) rfl⟩
def f_X4_code (a0 : Int32) (a1 : Int32) (a2 : Int32)  : Option (Int32) := (some (((a0 * (100 : Int32)) + (a1 * (10 : Int32))) + a2))
set_option maxRecDepth 20000 in
set_option maxHeartbeats 8000000 in
theorem C_X4_code (a0 : Int32) (a1 : Int32) (a2 : Int32)  {res : Int32} (h : f_X4_code a0 a1 a2 = some res) : gg_C MD_X4_code [.int a0, .int a1, .int a2] (wd_X4_code) (some (.int res)) (wd_X4_code) := by
  refine gg_ofG [some (.int a0), some (.int a1), some (.int a2)] (plainFor_of_name (by decide)) (Nat.le_of_ble_eq_true rfl) rfl ?_
  unfold f_X4_code at h
  refine gg_iload_n dX4_code_0 rfl ?_
  refine gg_bipush (100 : Int32) dX4_code_1 (by decide) ?_
  refine gg_imul dX4_code_3 ?_
  refine gg_iload_n dX4_code_4 rfl ?_
  refine gg_bipush (10 : Int32) dX4_code_5 (by decide) ?_
  refine gg_imul dX4_code_7 ?_
  refine gg_iadd dX4_code_8 ?_
  refine gg_iload_n dX4_code_9 rfl ?_
  refine gg_iadd dX4_code_10 ?_
  cases h
  exact gg_iret dX4_code_11 rfl
def wd_X4_add (c_size : Int32) (c_codes : Nat → Int32) : va_W := [(0, .inr (3, [.int c_size, .ref 1])), (1, .inl (0, 40, .inl c_codes))]
def MD_X4_add : gg_M := (yX4_add, cX4_add, 2, none, 0, 0)
theorem nV_X4_add : gg_nV MD_X4_add 1 := ⟨⟨gg_mem (by decide +kernel) rfl, gg_mem cw_X4_add rfl, by decide, by decide, by decide +kernel⟩, gg_mem (by decide +kernel) rfl, gg_mem (by decide +kernel) rfl⟩
def f_X4_add (a0 : Int32) (c_size : Int32) (c_codes : Nat → Int32) : Option ((Int32) × (Nat → Int32)) := gg_lt (fun (c_size_40 : Int32) (c_codes_40 : Nat → Int32) => (some (c_size_40, c_codes_40))) (fun k40 => (if c_size < (0 : Int32) then (k40 c_size c_codes) else (if (40 : Int32) ≤ c_size then (k40 c_size c_codes) else gg_chk (gg_in c_size 40) ((k40 (c_size + (1 : Int32)) (upd c_codes c_size.toNatClampNeg a0))))))
set_option maxRecDepth 20000 in
set_option maxHeartbeats 8000000 in
theorem C_X4_add (a0 : Int32) (c_size : Int32) (c_codes : Nat → Int32) {r0 : (Int32)} {r1 : (Nat → Int32)} (h : f_X4_add a0 c_size c_codes = some (r0, r1)) : gg_C MD_X4_add [.ref 0, .int a0] (wd_X4_add c_size c_codes) (none) (wd_X4_add r0 r1) := by
  refine gg_ofG [some (.ref 0), some (.int a0)] (plainFor_of_name (by decide)) (Nat.le_of_ble_eq_true rfl) rfl ?_
  unfold f_X4_add at h
  refine gg_iconst (0 : Int32) dX4_add_0 (by decide) ?_
  refine gg_aload_n dX4_add_1 rfl ?_
  refine gg_get 0 fl_X4_15 dX4_add_2 rfl rfl ?_
  obtain ⟨k40, hke40, h⟩ := gg_lte h
  have hk40 : ∀ (c_size_40 : Int32) (c_codes_40 : Nat → Int32), k40 c_size_40 c_codes_40 = some (r0, r1) → gg_G MD_X4_add 40 [none, none] [] (wd_X4_add c_size_40 c_codes_40) (none) (wd_X4_add r0 r1) := by
    intro c_size_40 c_codes_40 h
    subst hke40
    cases h
    exact gg_vret dX4_add_40 rfl
  clear hke40
  refine gg_icmp_gt 40 dX4_add_5 (by decide) (fun hc => ?_) (fun hc => ?_)
  · replace h := gg_th h hc
    refine gg_fg [false, false] [none, none] rfl ?_
    exact hk40 c_size c_codes h
  · replace h := gg_el h hc
    refine gg_aload_n dX4_add_8 rfl ?_
    refine gg_get 0 fl_X4_15 dX4_add_9 rfl rfl ?_
    refine gg_aload_n dX4_add_12 rfl ?_
    refine gg_get 0 fl_X4_9 dX4_add_13 rfl rfl ?_
    refine gg_alen (40 : Int32) 1 dX4_add_16 rfl (by decide) rfl ?_
    refine gg_icmp_ge 40 dX4_add_17 (by decide) (fun hc => ?_) (fun hc => ?_)
    · replace h := gg_th h hc
      refine gg_fg [false, false] [none, none] rfl ?_
      exact hk40 c_size c_codes h
    · replace h := gg_el h hc
      refine gg_aload_n dX4_add_20 rfl ?_
      refine gg_get 0 fl_X4_9 dX4_add_21 rfl rfl ?_
      refine gg_aload_n dX4_add_24 rfl ?_
      refine gg_get 0 fl_X4_15 dX4_add_25 rfl rfl ?_
      refine gg_iload_n dX4_add_28 rfl ?_
      obtain ⟨hb29, h⟩ := gg_ck h
      refine gg_iast 1 (wd_X4_add c_size (upd c_codes c_size.toNatClampNeg a0)) dX4_add_29 rfl hb29 rfl ?_
      refine gg_aload_n dX4_add_30 rfl ?_
      refine gg_dup dX4_add_31 rfl ?_
      refine gg_get 0 fl_X4_15 dX4_add_32 rfl rfl ?_
      refine gg_iconst (1 : Int32) dX4_add_35 (by decide) ?_
      refine gg_iadd dX4_add_36 ?_
      refine gg_putf 0 (wd_X4_add (c_size + (1 : Int32)) (upd c_codes c_size.toNatClampNeg a0)) fl_X4_15 dX4_add_37 rfl (Nat.le_of_ble_eq_true rfl) (fun _ => ⟨rfl, rfl⟩) rfl ?_
      refine gg_fg [false, false] [none, none] rfl ?_
      exact hk40 (c_size + (1 : Int32)) (upd c_codes c_size.toNatClampNeg a0) h
def wd_X2_lose (c_huts : Int32) (c_food : Int32) (c_due : Int32) (c_backs : Int32) (c_brick : Nat → Int32) : va_W := [(0, .inr (2, [.int c_huts, .int c_food, .int c_due, .ref 1, .ref 2, .ref 3, .ref 4, .ref 5, .ref 6, .ref 7, .int c_backs])), (6, .inl (0, 6, .inl c_brick))]
def MD_X2_lose : gg_M := (yX2_lose, cX2_lose, 2, none, 1, 21)
theorem nV_X2_lose : gg_nV MD_X2_lose 1 := ⟨⟨gg_mem (by decide +kernel) rfl, gg_mem cw_X2_lose rfl, by decide, by decide, by decide +kernel⟩, gg_mem (by decide +kernel) rfl, gg_mem (by decide +kernel) rfl⟩
def f_X2_lose (a0 : Int32) (c_huts : Int32) (c_brick : Nat → Int32) : Option ((Nat → Int32)) := (f_X2_knows a0 c_huts).bind (fun v1 => gg_lt (fun (c_brick_16 : Nat → Int32) => (some c_brick_16)) (fun k16 => (if v1 = (0 : Int32) then (k16 c_brick) else gg_chk (gg_in a0 6) ((k16 (upd c_brick a0.toNatClampNeg (-9 : Int32)))))))
set_option maxRecDepth 20000 in
set_option maxHeartbeats 8000000 in
theorem C_X2_lose (a0 : Int32) (c_huts : Int32) (c_food : Int32) (c_due : Int32) (c_backs : Int32) (c_brick : Nat → Int32) {res : (Nat → Int32)} (h : f_X2_lose a0 c_huts c_brick = some res) : gg_C MD_X2_lose [.ref 0, .int a0] (wd_X2_lose c_huts c_food c_due c_backs c_brick) (none) (wd_X2_lose c_huts c_food c_due c_backs res) := by
  refine gg_ofG [some (.ref 0), some (.int a0)] (plainFor_of_name (by decide)) (Nat.le_of_ble_eq_true rfl) rfl ?_
  unfold f_X2_lose at h
  refine gg_aload_n dX2_lose_0 rfl ?_
  refine gg_iload_n dX2_lose_1 rfl ?_
  obtain ⟨v1, hv1, h⟩ := gg_bd h
  refine gg_callV (gg_sg [0]) [0] (wd_X2_lose c_huts c_food c_due c_backs c_brick) 0 (C_X2_knows a0 c_huts c_food c_due c_backs hv1) nV_X2_knows ml_X2_46 rfl rfl rfl rfl rfl rfl rfl rfl rfl rfl [1] 2 rfl rfl rfl rfl rfl ⟨Nat.le_of_ble_eq_true rfl, Nat.le_of_ble_eq_true rfl⟩ (Nat.le_of_ble_eq_true rfl) dX2_lose_2 [.int v1] rfl ?_
  obtain ⟨k16, hke16, h⟩ := gg_lte h
  have hk16 : ∀ (c_brick_16 : Nat → Int32), k16 c_brick_16 = some res → gg_G MD_X2_lose 16 [none, none] [] (wd_X2_lose c_huts c_food c_due c_backs c_brick_16) (none) (wd_X2_lose c_huts c_food c_due c_backs res) := by
    intro c_brick_16 h
    subst hke16
    cases h
    exact gg_vret dX2_lose_16 rfl
  clear hke16
  refine gg_if_eq 16 dX2_lose_5 (by decide) (fun hc => ?_) (fun hc => ?_)
  · replace h := gg_th h hc
    refine gg_fg [false, false] [none, none] rfl ?_
    exact hk16 c_brick h
  · replace h := gg_el h hc
    refine gg_aload_n dX2_lose_8 rfl ?_
    refine gg_get 0 fl_X2_37 dX2_lose_9 rfl rfl ?_
    refine gg_iload_n dX2_lose_12 rfl ?_
    refine gg_bipush (-9 : Int32) dX2_lose_13 (by decide) ?_
    obtain ⟨hb15, h⟩ := gg_ck h
    refine gg_iast 1 (wd_X2_lose c_huts c_food c_due c_backs (upd c_brick a0.toNatClampNeg (-9 : Int32))) dX2_lose_15 rfl hb15 rfl ?_
    refine gg_fg [false, false] [none, none] rfl ?_
    exact hk16 (upd c_brick a0.toNatClampNeg (-9 : Int32)) h
def wd_X2_changeHomes (c_huts : Int32) (c_food : Int32) (c_due : Int32) (c_backs : Int32) (c_home : Nat → Int32) : va_W := [(0, .inr (2, [.int c_huts, .int c_food, .int c_due, .ref 1, .ref 2, .ref 3, .ref 4, .ref 5, .ref 6, .ref 7, .int c_backs])), (3, .inl (0, 6, .inl c_home))]
def MD_X2_changeHomes : gg_M := (yX2_changeHomes, cX2_changeHomes, 4, none, 1, 21)
theorem nV_X2_changeHomes : gg_nV MD_X2_changeHomes 2 := ⟨⟨gg_mem (by decide +kernel) rfl, gg_mem cw_X2_changeHomes rfl, by decide, by decide, by decide +kernel⟩, gg_mem (by decide +kernel) rfl, gg_mem (by decide +kernel) rfl⟩
def f_X2_changeHomes (a0 : Int32) (a1 : Int32) (c_huts : Int32) (c_home : Nat → Int32) : Option ((Nat → Int32)) := (f_X2_knows a0 c_huts).bind (fun v1 => gg_lt (fun (c_home_42 : Nat → Int32) => (some c_home_42)) (fun k42 => (if v1 = (0 : Int32) then (k42 c_home) else (f_X2_knows a1 c_huts).bind (fun v2 => (if v2 = (0 : Int32) then (k42 c_home) else gg_chk (gg_in a0 6) (gg_chk (gg_in a1 6) (gg_chk (gg_in a0 6) (gg_chk (gg_in a1 6) ((k42 (upd (upd c_home a0.toNatClampNeg (c_home a1.toNatClampNeg)) a1.toNatClampNeg (c_home a0.toNatClampNeg))))))))))))
set_option maxRecDepth 20000 in
set_option maxHeartbeats 8000000 in
theorem C_X2_changeHomes (a0 : Int32) (a1 : Int32) (c_huts : Int32) (c_food : Int32) (c_due : Int32) (c_backs : Int32) (c_home : Nat → Int32) {res : (Nat → Int32)} (h : f_X2_changeHomes a0 a1 c_huts c_home = some res) : gg_C MD_X2_changeHomes [.ref 0, .int a0, .int a1] (wd_X2_changeHomes c_huts c_food c_due c_backs c_home) (none) (wd_X2_changeHomes c_huts c_food c_due c_backs res) := by
  refine gg_ofG [some (.ref 0), some (.int a0), some (.int a1), none] (plainFor_of_name (by decide)) (Nat.le_of_ble_eq_true rfl) rfl ?_
  unfold f_X2_changeHomes at h
  refine gg_aload_n dX2_changeHomes_0 rfl ?_
  refine gg_iload_n dX2_changeHomes_1 rfl ?_
  obtain ⟨v1, hv1, h⟩ := gg_bd h
  refine gg_callV (gg_sg [0]) [0] (wd_X2_changeHomes c_huts c_food c_due c_backs c_home) 0 (C_X2_knows a0 c_huts c_food c_due c_backs hv1) nV_X2_knows ml_X2_46 rfl rfl rfl rfl rfl rfl rfl rfl rfl rfl [1] 2 rfl rfl rfl rfl rfl ⟨Nat.le_of_ble_eq_true rfl, Nat.le_of_ble_eq_true rfl⟩ (Nat.le_of_ble_eq_true rfl) dX2_changeHomes_2 [.int v1] rfl ?_
  obtain ⟨k42, hke42, h⟩ := gg_lte h
  have hk42 : ∀ (c_home_42 : Nat → Int32), k42 c_home_42 = some res → gg_G MD_X2_changeHomes 42 [none, none, none, none] [] (wd_X2_changeHomes c_huts c_food c_due c_backs c_home_42) (none) (wd_X2_changeHomes c_huts c_food c_due c_backs res) := by
    intro c_home_42 h
    subst hke42
    cases h
    exact gg_vret dX2_changeHomes_42 rfl
  clear hke42
  refine gg_if_eq 42 dX2_changeHomes_5 (by decide) (fun hc => ?_) (fun hc => ?_)
  · replace h := gg_th h hc
    refine gg_fg [false, false, false, false] [none, none, none, none] rfl ?_
    exact hk42 c_home h
  · replace h := gg_el h hc
    refine gg_aload_n dX2_changeHomes_8 rfl ?_
    refine gg_iload_n dX2_changeHomes_9 rfl ?_
    obtain ⟨v2, hv2, h⟩ := gg_bd h
    refine gg_callV (gg_sg [0]) [0] (wd_X2_changeHomes c_huts c_food c_due c_backs c_home) 0 (C_X2_knows a1 c_huts c_food c_due c_backs hv2) nV_X2_knows ml_X2_46 rfl rfl rfl rfl rfl rfl rfl rfl rfl rfl [1] 2 rfl rfl rfl rfl rfl ⟨Nat.le_of_ble_eq_true rfl, Nat.le_of_ble_eq_true rfl⟩ (Nat.le_of_ble_eq_true rfl) dX2_changeHomes_10 [.int v2] rfl ?_
    refine gg_if_eq 42 dX2_changeHomes_13 (by decide) (fun hc => ?_) (fun hc => ?_)
    · replace h := gg_th h hc
      refine gg_fg [false, false, false, false] [none, none, none, none] rfl ?_
      exact hk42 c_home h
    · replace h := gg_el h hc
      refine gg_aload_n dX2_changeHomes_16 rfl ?_
      refine gg_get 0 fl_X2_28 dX2_changeHomes_17 rfl rfl ?_
      refine gg_iload_n dX2_changeHomes_20 rfl ?_
      obtain ⟨hb21, h⟩ := gg_ck h
      refine gg_iald 1 dX2_changeHomes_21 rfl hb21 ?_
      refine gg_istore_n [some (.ref 0), some (.int a0), some (.int a1), some (.int (c_home a0.toNatClampNeg))] dX2_changeHomes_22 rfl (Nat.le_of_ble_eq_true rfl) rfl ?_
      refine gg_aload_n dX2_changeHomes_23 rfl ?_
      refine gg_get 0 fl_X2_28 dX2_changeHomes_24 rfl rfl ?_
      refine gg_iload_n dX2_changeHomes_27 rfl ?_
      refine gg_aload_n dX2_changeHomes_28 rfl ?_
      refine gg_get 0 fl_X2_28 dX2_changeHomes_29 rfl rfl ?_
      refine gg_iload_n dX2_changeHomes_32 rfl ?_
      obtain ⟨hb33, h⟩ := gg_ck h
      refine gg_iald 1 dX2_changeHomes_33 rfl hb33 ?_
      obtain ⟨hb34, h⟩ := gg_ck h
      refine gg_iast 1 (wd_X2_changeHomes c_huts c_food c_due c_backs (upd c_home a0.toNatClampNeg (c_home a1.toNatClampNeg))) dX2_changeHomes_34 rfl hb34 rfl ?_
      refine gg_aload_n dX2_changeHomes_35 rfl ?_
      refine gg_get 0 fl_X2_28 dX2_changeHomes_36 rfl rfl ?_
      refine gg_iload_n dX2_changeHomes_39 rfl ?_
      refine gg_iload_n dX2_changeHomes_40 rfl ?_
      obtain ⟨hb41, h⟩ := gg_ck h
      refine gg_iast 1 (wd_X2_changeHomes c_huts c_food c_due c_backs (upd (upd c_home a0.toNatClampNeg (c_home a1.toNatClampNeg)) a1.toNatClampNeg (c_home a0.toNatClampNeg))) dX2_changeHomes_41 rfl hb41 rfl ?_
      refine gg_fg [false, false, false, false] [none, none, none, none] rfl ?_
      exact hk42 (upd (upd c_home a0.toNatClampNeg (c_home a1.toNatClampNeg)) a1.toNatClampNeg (c_home a0.toNatClampNeg)) h
def wd_X2_isThere (c_huts : Int32) (c_food : Int32) (c_due : Int32) (c_backs : Int32) (c_brick : Nat → Int32) : va_W := [(0, .inr (2, [.int c_huts, .int c_food, .int c_due, .ref 1, .ref 2, .ref 3, .ref 4, .ref 5, .ref 6, .ref 7, .int c_backs])), (6, .inl (0, 6, .inl c_brick))]
def MD_X2_isThere : gg_M := (yX2_isThere, cX2_isThere, 2, some .boolean, 1, 21)
theorem nV_X2_isThere : gg_nV MD_X2_isThere 1 := ⟨⟨gg_mem (by decide +kernel) rfl, gg_mem cw_X2_isThere rfl, by decide, by decide, by decide +kernel⟩, gg_mem (by decide +kernel) rfl, gg_mem (by decide +kernel) rfl⟩
def f_X2_isThere (a0 : Int32) (c_huts : Int32) (c_brick : Nat → Int32) : Option (Int32) := (f_X2_knows a0 c_huts).bind (fun v1 => gg_lt (fun (s0_24 : Int32) => gg_chk (gg_isb s0_24) (some s0_24)) (fun k24 => gg_lt ((k24 (0 : Int32))) (fun k23 => (if v1 = (0 : Int32) then k23 else gg_chk (gg_in a0 6) ((if (c_brick a0.toNatClampNeg) = (-9 : Int32) then k23 else (k24 (1 : Int32))))))))
set_option maxRecDepth 20000 in
set_option maxHeartbeats 8000000 in
theorem C_X2_isThere (a0 : Int32) (c_huts : Int32) (c_food : Int32) (c_due : Int32) (c_backs : Int32) (c_brick : Nat → Int32) {res : Int32} (h : f_X2_isThere a0 c_huts c_brick = some res) : gg_C MD_X2_isThere [.ref 0, .int a0] (wd_X2_isThere c_huts c_food c_due c_backs c_brick) (some (.int res)) (wd_X2_isThere c_huts c_food c_due c_backs c_brick) := by
  refine gg_ofG [some (.ref 0), some (.int a0)] (plainFor_of_name (by decide)) (Nat.le_of_ble_eq_true rfl) rfl ?_
  unfold f_X2_isThere at h
  refine gg_aload_n dX2_isThere_0 rfl ?_
  refine gg_iload_n dX2_isThere_1 rfl ?_
  obtain ⟨v1, hv1, h⟩ := gg_bd h
  refine gg_callV (gg_sg [0]) [0] (wd_X2_isThere c_huts c_food c_due c_backs c_brick) 0 (C_X2_knows a0 c_huts c_food c_due c_backs hv1) nV_X2_knows ml_X2_46 rfl rfl rfl rfl rfl rfl rfl rfl rfl rfl [1] 2 rfl rfl rfl rfl rfl ⟨Nat.le_of_ble_eq_true rfl, Nat.le_of_ble_eq_true rfl⟩ (Nat.le_of_ble_eq_true rfl) dX2_isThere_2 [.int v1] rfl ?_
  obtain ⟨k24, hke24, h⟩ := gg_lte h
  have hk24 : ∀ (s0_24 : Int32), k24 s0_24 = some res → gg_G MD_X2_isThere 24 [none, none] [.int s0_24] (wd_X2_isThere c_huts c_food c_due c_backs c_brick) (some (.int res)) (wd_X2_isThere c_huts c_food c_due c_backs c_brick) := by
    intro s0_24 h
    subst hke24
    obtain ⟨hz, h⟩ := gg_ck h
    cases h
    exact gg_zret dX2_isThere_24 rfl hz
  clear hke24
  obtain ⟨k23, hke23, h⟩ := gg_lte h
  have hk23 : k23 = some res → gg_G MD_X2_isThere 23 [none, none] [] (wd_X2_isThere c_huts c_food c_due c_backs c_brick) (some (.int res)) (wd_X2_isThere c_huts c_food c_due c_backs c_brick) := by
    intro  h
    subst hke23
    refine gg_iconst (0 : Int32) dX2_isThere_23 (by decide) ?_
    exact hk24 (0 : Int32) h
  clear hke23
  refine gg_if_eq 23 dX2_isThere_5 (by decide) (fun hc => ?_) (fun hc => ?_)
  · replace h := gg_th h hc
    refine gg_fg [false, false] [none, none] rfl ?_
    exact hk23 h
  · replace h := gg_el h hc
    refine gg_aload_n dX2_isThere_8 rfl ?_
    refine gg_get 0 fl_X2_37 dX2_isThere_9 rfl rfl ?_
    refine gg_iload_n dX2_isThere_12 rfl ?_
    obtain ⟨hb13, h⟩ := gg_ck h
    refine gg_iald 1 dX2_isThere_13 rfl hb13 ?_
    refine gg_bipush (-9 : Int32) dX2_isThere_14 (by decide) ?_
    refine gg_icmp_eq 23 dX2_isThere_16 (by decide) (fun hc => ?_) (fun hc => ?_)
    · replace h := gg_th h hc
      refine gg_fg [false, false] [none, none] rfl ?_
      exact hk23 h
    · replace h := gg_el h hc
      refine gg_iconst (1 : Int32) dX2_isThere_19 (by decide) ?_
      refine gg_goto 24 dX2_isThere_20 (by decide) ?_
      refine gg_fg [false, false] [none, none] rfl ?_
      exact hk24 (1 : Int32) h
def wd_X2_canBeFed (c_huts : Int32) (c_food : Int32) (c_due : Int32) (c_backs : Int32) (c_brick : Nat → Int32) : va_W := [(0, .inr (2, [.int c_huts, .int c_food, .int c_due, .ref 1, .ref 2, .ref 3, .ref 4, .ref 5, .ref 6, .ref 7, .int c_backs])), (6, .inl (0, 6, .inl c_brick))]
def MD_X2_canBeFed : gg_M := (yX2_canBeFed, cX2_canBeFed, 2, some .boolean, 2, 42)
theorem nV_X2_canBeFed : gg_nV MD_X2_canBeFed 1 := ⟨⟨gg_mem (by decide +kernel) rfl, gg_mem cw_X2_canBeFed rfl, by decide, by decide, by decide +kernel⟩, gg_mem (by decide +kernel) rfl, gg_mem (by decide +kernel) rfl⟩
def f_X2_canBeFed (a0 : Int32) (c_huts : Int32) (c_food : Int32) (c_brick : Nat → Int32) : Option (Int32) := (f_X2_isThere a0 c_huts c_brick).bind (fun v1 => gg_lt (fun (s0_20 : Int32) => gg_chk (gg_isb s0_20) (some s0_20)) (fun k20 => gg_lt ((k20 (0 : Int32))) (fun k19 => (if v1 = (0 : Int32) then k19 else (if c_food ≤ (0 : Int32) then k19 else (k20 (1 : Int32)))))))
set_option maxRecDepth 20000 in
set_option maxHeartbeats 8000000 in
theorem C_X2_canBeFed (a0 : Int32) (c_huts : Int32) (c_food : Int32) (c_due : Int32) (c_backs : Int32) (c_brick : Nat → Int32) {res : Int32} (h : f_X2_canBeFed a0 c_huts c_food c_brick = some res) : gg_C MD_X2_canBeFed [.ref 0, .int a0] (wd_X2_canBeFed c_huts c_food c_due c_backs c_brick) (some (.int res)) (wd_X2_canBeFed c_huts c_food c_due c_backs c_brick) := by
  refine gg_ofG [some (.ref 0), some (.int a0)] (plainFor_of_name (by decide)) (Nat.le_of_ble_eq_true rfl) rfl ?_
  unfold f_X2_canBeFed at h
  refine gg_aload_n dX2_canBeFed_0 rfl ?_
  refine gg_iload_n dX2_canBeFed_1 rfl ?_
  obtain ⟨v1, hv1, h⟩ := gg_bd h
  refine gg_callV (gg_sg [0]) [0, 1] (wd_X2_canBeFed c_huts c_food c_due c_backs c_brick) 0 (C_X2_isThere a0 c_huts c_food c_due c_backs c_brick hv1) nV_X2_isThere ml_X2_50 rfl rfl rfl rfl rfl rfl rfl rfl rfl rfl [] 2 rfl rfl rfl rfl rfl ⟨Nat.le_of_ble_eq_true rfl, Nat.le_of_ble_eq_true rfl⟩ (Nat.le_of_ble_eq_true rfl) dX2_canBeFed_2 [.int v1] rfl ?_
  obtain ⟨k20, hke20, h⟩ := gg_lte h
  have hk20 : ∀ (s0_20 : Int32), k20 s0_20 = some res → gg_G MD_X2_canBeFed 20 [none, none] [.int s0_20] (wd_X2_canBeFed c_huts c_food c_due c_backs c_brick) (some (.int res)) (wd_X2_canBeFed c_huts c_food c_due c_backs c_brick) := by
    intro s0_20 h
    subst hke20
    obtain ⟨hz, h⟩ := gg_ck h
    cases h
    exact gg_zret dX2_canBeFed_20 rfl hz
  clear hke20
  obtain ⟨k19, hke19, h⟩ := gg_lte h
  have hk19 : k19 = some res → gg_G MD_X2_canBeFed 19 [none, none] [] (wd_X2_canBeFed c_huts c_food c_due c_backs c_brick) (some (.int res)) (wd_X2_canBeFed c_huts c_food c_due c_backs c_brick) := by
    intro  h
    subst hke19
    refine gg_iconst (0 : Int32) dX2_canBeFed_19 (by decide) ?_
    exact hk20 (0 : Int32) h
  clear hke19
  refine gg_if_eq 19 dX2_canBeFed_5 (by decide) (fun hc => ?_) (fun hc => ?_)
  · replace h := gg_th h hc
    refine gg_fg [false, false] [none, none] rfl ?_
    exact hk19 h
  · replace h := gg_el h hc
    refine gg_aload_n dX2_canBeFed_8 rfl ?_
    refine gg_get 0 fl_X2_15 dX2_canBeFed_9 rfl rfl ?_
    refine gg_if_le 19 dX2_canBeFed_12 (by decide) (fun hc => ?_) (fun hc => ?_)
    · replace h := gg_th h hc
      refine gg_fg [false, false] [none, none] rfl ?_
      exact hk19 h
    · replace h := gg_el h hc
      refine gg_iconst (1 : Int32) dX2_canBeFed_15 (by decide) ?_
      refine gg_goto 20 dX2_canBeFed_16 (by decide) ?_
      refine gg_fg [false, false] [none, none] rfl ?_
      exact hk20 (1 : Int32) h
def wd_X2_beFed (c_huts : Int32) (c_food : Int32) (c_due : Int32) (c_backs : Int32) (c_strength : Nat → Int32) (c_brick : Nat → Int32) : va_W := [(0, .inr (2, [.int c_huts, .int c_food, .int c_due, .ref 1, .ref 2, .ref 3, .ref 4, .ref 5, .ref 6, .ref 7, .int c_backs])), (4, .inl (0, 6, .inl c_strength)), (6, .inl (0, 6, .inl c_brick))]
def MD_X2_beFed : gg_M := (yX2_beFed, cX2_beFed, 2, none, 3, 63)
theorem nV_X2_beFed : gg_nV MD_X2_beFed 1 := ⟨⟨gg_mem (by decide +kernel) rfl, gg_mem cw_X2_beFed rfl, by decide, by decide, by decide +kernel⟩, gg_mem (by decide +kernel) rfl, gg_mem (by decide +kernel) rfl⟩
def f_X2_beFed (a0 : Int32) (c_huts : Int32) (c_food : Int32) (c_strength : Nat → Int32) (c_brick : Nat → Int32) : Option ((Int32) × (Nat → Int32)) := (f_X2_canBeFed a0 c_huts c_food c_brick).bind (fun v1 => gg_lt (fun (c_food_37 : Int32) (c_strength_37 : Nat → Int32) => (some (c_food_37, c_strength_37))) (fun k37 => (if v1 = (0 : Int32) then (k37 c_food c_strength) else gg_chk (gg_in a0 6) ((f_J9_min_7cf53 ((c_strength a0.toNatClampNeg) + (2 : Int32)) (9 : Int32)).bind (fun v2 => gg_chk (gg_in a0 6) ((k37 (c_food - (1 : Int32)) (upd c_strength a0.toNatClampNeg v2))))))))
set_option maxRecDepth 20000 in
set_option maxHeartbeats 8000000 in
theorem C_X2_beFed (a0 : Int32) (c_huts : Int32) (c_food : Int32) (c_due : Int32) (c_backs : Int32) (c_strength : Nat → Int32) (c_brick : Nat → Int32) {r0 : (Int32)} {r1 : (Nat → Int32)} (h : f_X2_beFed a0 c_huts c_food c_strength c_brick = some (r0, r1)) : gg_C MD_X2_beFed [.ref 0, .int a0] (wd_X2_beFed c_huts c_food c_due c_backs c_strength c_brick) (none) (wd_X2_beFed c_huts r0 c_due c_backs r1 c_brick) := by
  refine gg_ofG [some (.ref 0), some (.int a0)] (plainFor_of_name (by decide)) (Nat.le_of_ble_eq_true rfl) rfl ?_
  unfold f_X2_beFed at h
  refine gg_aload_n dX2_beFed_0 rfl ?_
  refine gg_iload_n dX2_beFed_1 rfl ?_
  obtain ⟨v1, hv1, h⟩ := gg_bd h
  refine gg_callV (gg_sg [0]) [0, 2] (wd_X2_beFed c_huts c_food c_due c_backs c_strength c_brick) 0 (C_X2_canBeFed a0 c_huts c_food c_due c_backs c_brick hv1) nV_X2_canBeFed ml_X2_93 rfl rfl rfl rfl rfl rfl rfl rfl rfl rfl [1] 3 rfl rfl rfl rfl rfl ⟨Nat.le_of_ble_eq_true rfl, Nat.le_of_ble_eq_true rfl⟩ (Nat.le_of_ble_eq_true rfl) dX2_beFed_2 [.int v1] rfl ?_
  obtain ⟨k37, hke37, h⟩ := gg_lte h
  have hk37 : ∀ (c_food_37 : Int32) (c_strength_37 : Nat → Int32), k37 c_food_37 c_strength_37 = some (r0, r1) → gg_G MD_X2_beFed 37 [none, none] [] (wd_X2_beFed c_huts c_food_37 c_due c_backs c_strength_37 c_brick) (none) (wd_X2_beFed c_huts r0 c_due c_backs r1 c_brick) := by
    intro c_food_37 c_strength_37 h
    subst hke37
    cases h
    exact gg_vret dX2_beFed_37 rfl
  clear hke37
  refine gg_if_eq 37 dX2_beFed_5 (by decide) (fun hc => ?_) (fun hc => ?_)
  · replace h := gg_th h hc
    refine gg_fg [false, false] [none, none] rfl ?_
    exact hk37 c_food c_strength h
  · replace h := gg_el h hc
    refine gg_aload_n dX2_beFed_8 rfl ?_
    refine gg_dup dX2_beFed_9 rfl ?_
    refine gg_get 0 fl_X2_15 dX2_beFed_10 rfl rfl ?_
    refine gg_iconst (1 : Int32) dX2_beFed_13 (by decide) ?_
    refine gg_isub dX2_beFed_14 ?_
    refine gg_putf 0 (wd_X2_beFed c_huts (c_food - (1 : Int32)) c_due c_backs c_strength c_brick) fl_X2_15 dX2_beFed_15 rfl (Nat.le_of_ble_eq_true rfl) (fun _ => ⟨rfl, rfl⟩) rfl ?_
    refine gg_aload_n dX2_beFed_18 rfl ?_
    refine gg_get 0 fl_X2_31 dX2_beFed_19 rfl rfl ?_
    refine gg_iload_n dX2_beFed_22 rfl ?_
    refine gg_aload_n dX2_beFed_23 rfl ?_
    refine gg_get 0 fl_X2_31 dX2_beFed_24 rfl rfl ?_
    refine gg_iload_n dX2_beFed_27 rfl ?_
    obtain ⟨hb28, h⟩ := gg_ck h
    refine gg_iald 1 dX2_beFed_28 rfl hb28 ?_
    refine gg_iconst (2 : Int32) dX2_beFed_29 (by decide) ?_
    refine gg_iadd dX2_beFed_30 ?_
    refine gg_bipush (9 : Int32) dX2_beFed_31 (by decide) ?_
    obtain ⟨v2, hv2, h⟩ := gg_bd h
    refine gg_callS (gg_sg []) [] (wd_X2_beFed c_huts (c_food - (1 : Int32)) c_due c_backs c_strength c_brick) (C_J9_min_7cf53 ((c_strength a0.toNatClampNeg) + (2 : Int32)) (9 : Int32) hv2) nS_J9_min_7cf53 ml_X2_96 rfl rfl rfl rfl rfl rfl rfl [0, 1, 2] 3 rfl rfl rfl rfl rfl ⟨Nat.le_of_ble_eq_true rfl, Nat.le_of_ble_eq_true rfl⟩ (Nat.le_of_ble_eq_true rfl) dX2_beFed_33 [.int v2, .int a0, .ref 4] rfl ?_
    obtain ⟨hb36, h⟩ := gg_ck h
    refine gg_iast 1 (wd_X2_beFed c_huts (c_food - (1 : Int32)) c_due c_backs (upd c_strength a0.toNatClampNeg v2) c_brick) dX2_beFed_36 rfl hb36 rfl ?_
    refine gg_fg [false, false] [none, none] rfl ?_
    exact hk37 (c_food - (1 : Int32)) (upd c_strength a0.toNatClampNeg v2) h
def wd_J9_max_7cf53  : va_W := []
def MD_J9_max_7cf53 : gg_M := (yJ9_max_7cf53, cJ9_max_7cf53, 2, some .int, 0, 0)
theorem nS_J9_max_7cf53 : gg_nS MD_J9_max_7cf53 2 := ⟨⟨gg_mem (by decide +kernel) rfl, gg_mem cw_J9_max_7cf53 rfl, by decide, by decide, by decide +kernel⟩, gg_mem (by decide +kernel) rfl⟩
def f_J9_max_7cf53 (a0 : Int32) (a1 : Int32)  : Option (Int32) := gg_lt (fun (s0_10 : Int32) => (some s0_10)) (fun k10 => (if a0 < a1 then (k10 a1) else (k10 a0)))
set_option maxRecDepth 20000 in
set_option maxHeartbeats 8000000 in
theorem C_J9_max_7cf53 (a0 : Int32) (a1 : Int32)  {res : Int32} (h : f_J9_max_7cf53 a0 a1 = some res) : gg_C MD_J9_max_7cf53 [.int a0, .int a1] (wd_J9_max_7cf53) (some (.int res)) (wd_J9_max_7cf53) := by
  refine gg_ofG [some (.int a0), some (.int a1)] (by decide +kernel) (Nat.le_of_ble_eq_true rfl) rfl ?_
  unfold f_J9_max_7cf53 at h
  refine gg_iload_n dJ9_max_7cf53_0 rfl ?_
  refine gg_iload_n dJ9_max_7cf53_1 rfl ?_
  obtain ⟨k10, hke10, h⟩ := gg_lte h
  have hk10 : ∀ (s0_10 : Int32), k10 s0_10 = some res → gg_G MD_J9_max_7cf53 10 [none, none] [.int s0_10] (wd_J9_max_7cf53) (some (.int res)) (wd_J9_max_7cf53) := by
    intro s0_10 h
    subst hke10
    cases h
    exact gg_iret dJ9_max_7cf53_10 rfl
  clear hke10
  refine gg_icmp_lt 9 dJ9_max_7cf53_2 (by decide) (fun hc => ?_) (fun hc => ?_)
  · replace h := gg_th h hc
    refine gg_iload_n dJ9_max_7cf53_9 rfl ?_
    refine gg_fg [false, false] [none, none] rfl ?_
    exact hk10 a1 h
  · replace h := gg_el h hc
    refine gg_iload_n dJ9_max_7cf53_5 rfl ?_
    refine gg_goto 10 dJ9_max_7cf53_6 (by decide) ?_
    refine gg_fg [false, false] [none, none] rfl ?_
    exact hk10 a0 h
def wd_X2_stay (c_huts : Int32) (c_food : Int32) (c_due : Int32) (c_backs : Int32) (c_strength : Nat → Int32) : va_W := [(0, .inr (2, [.int c_huts, .int c_food, .int c_due, .ref 1, .ref 2, .ref 3, .ref 4, .ref 5, .ref 6, .ref 7, .int c_backs])), (4, .inl (0, 6, .inl c_strength))]
def MD_X2_stay : gg_M := (yX2_stay, cX2_stay, 2, none, 1, 21)
theorem nV_X2_stay : gg_nV MD_X2_stay 1 := ⟨⟨gg_mem (by decide +kernel) rfl, gg_mem cw_X2_stay rfl, by decide, by decide, by decide +kernel⟩, gg_mem (by decide +kernel) rfl, gg_mem (by decide +kernel) rfl⟩
def f_X2_stay (a0 : Int32) (c_food : Int32) (c_strength : Nat → Int32) : Option ((Int32) × (Nat → Int32)) := gg_lt (fun (c_food_38 : Int32) (c_strength_38 : Nat → Int32) => (some (c_food_38, c_strength_38))) (fun k38 => (if c_food ≤ (0 : Int32) then gg_chk (gg_in a0 6) ((f_J9_max_7cf53 ((c_strength a0.toNatClampNeg) - (1 : Int32)) (0 : Int32)).bind (fun v1 => gg_chk (gg_in a0 6) ((k38 c_food (upd c_strength a0.toNatClampNeg v1))))) else (k38 (c_food - (1 : Int32)) c_strength)))
set_option maxRecDepth 20000 in
set_option maxHeartbeats 8000000 in
theorem C_X2_stay (a0 : Int32) (c_huts : Int32) (c_food : Int32) (c_due : Int32) (c_backs : Int32) (c_strength : Nat → Int32) {r0 : (Int32)} {r1 : (Nat → Int32)} (h : f_X2_stay a0 c_food c_strength = some (r0, r1)) : gg_C MD_X2_stay [.ref 0, .int a0] (wd_X2_stay c_huts c_food c_due c_backs c_strength) (none) (wd_X2_stay c_huts r0 c_due c_backs r1) := by
  refine gg_ofG [some (.ref 0), some (.int a0)] (plainFor_of_name (by decide)) (Nat.le_of_ble_eq_true rfl) rfl ?_
  unfold f_X2_stay at h
  refine gg_aload_n dX2_stay_0 rfl ?_
  refine gg_get 0 fl_X2_15 dX2_stay_1 rfl rfl ?_
  obtain ⟨k38, hke38, h⟩ := gg_lte h
  have hk38 : ∀ (c_food_38 : Int32) (c_strength_38 : Nat → Int32), k38 c_food_38 c_strength_38 = some (r0, r1) → gg_G MD_X2_stay 38 [none, none] [] (wd_X2_stay c_huts c_food_38 c_due c_backs c_strength_38) (none) (wd_X2_stay c_huts r0 c_due c_backs r1) := by
    intro c_food_38 c_strength_38 h
    subst hke38
    cases h
    exact gg_vret dX2_stay_38 rfl
  clear hke38
  refine gg_if_le 20 dX2_stay_4 (by decide) (fun hc => ?_) (fun hc => ?_)
  · replace h := gg_th h hc
    refine gg_aload_n dX2_stay_20 rfl ?_
    refine gg_get 0 fl_X2_31 dX2_stay_21 rfl rfl ?_
    refine gg_iload_n dX2_stay_24 rfl ?_
    refine gg_aload_n dX2_stay_25 rfl ?_
    refine gg_get 0 fl_X2_31 dX2_stay_26 rfl rfl ?_
    refine gg_iload_n dX2_stay_29 rfl ?_
    obtain ⟨hb30, h⟩ := gg_ck h
    refine gg_iald 1 dX2_stay_30 rfl hb30 ?_
    refine gg_iconst (1 : Int32) dX2_stay_31 (by decide) ?_
    refine gg_isub dX2_stay_32 ?_
    refine gg_iconst (0 : Int32) dX2_stay_33 (by decide) ?_
    obtain ⟨v1, hv1, h⟩ := gg_bd h
    refine gg_callS (gg_sg []) [] (wd_X2_stay c_huts c_food c_due c_backs c_strength) (C_J9_max_7cf53 ((c_strength a0.toNatClampNeg) - (1 : Int32)) (0 : Int32) hv1) nS_J9_max_7cf53 ml_X2_116 rfl rfl rfl rfl rfl rfl rfl [0, 1] 2 rfl rfl rfl rfl rfl ⟨Nat.le_of_ble_eq_true rfl, Nat.le_of_ble_eq_true rfl⟩ (Nat.le_of_ble_eq_true rfl) dX2_stay_34 [.int v1, .int a0, .ref 4] rfl ?_
    obtain ⟨hb37, h⟩ := gg_ck h
    refine gg_iast 1 (wd_X2_stay c_huts c_food c_due c_backs (upd c_strength a0.toNatClampNeg v1)) dX2_stay_37 rfl hb37 rfl ?_
    refine gg_fg [false, false] [none, none] rfl ?_
    exact hk38 c_food (upd c_strength a0.toNatClampNeg v1) h
  · replace h := gg_el h hc
    refine gg_aload_n dX2_stay_7 rfl ?_
    refine gg_dup dX2_stay_8 rfl ?_
    refine gg_get 0 fl_X2_15 dX2_stay_9 rfl rfl ?_
    refine gg_iconst (1 : Int32) dX2_stay_12 (by decide) ?_
    refine gg_isub dX2_stay_13 ?_
    refine gg_putf 0 (wd_X2_stay c_huts (c_food - (1 : Int32)) c_due c_backs c_strength) fl_X2_15 dX2_stay_14 rfl (Nat.le_of_ble_eq_true rfl) (fun _ => ⟨rfl, rfl⟩) rfl ?_
    refine gg_goto 38 dX2_stay_17 (by decide) ?_
    refine gg_fg [false, false] [none, none] rfl ?_
    exact hk38 (c_food - (1 : Int32)) c_strength h
def wd_X2_isAheadOf (c_huts : Int32) (c_food : Int32) (c_due : Int32) (c_backs : Int32) (c_kind : Nat → Int32) (c_strength : Nat → Int32) : va_W := [(0, .inr (2, [.int c_huts, .int c_food, .int c_due, .ref 1, .ref 2, .ref 3, .ref 4, .ref 5, .ref 6, .ref 7, .int c_backs])), (2, .inl (0, 6, .inl c_kind)), (4, .inl (0, 6, .inl c_strength))]
def MD_X2_isAheadOf : gg_M := (yX2_isAheadOf, cX2_isAheadOf, 5, some .boolean, 1, 20)
theorem nV_X2_isAheadOf : gg_nV MD_X2_isAheadOf 2 := ⟨⟨gg_mem (by decide +kernel) rfl, gg_mem cw_X2_isAheadOf rfl, by decide, by decide, by decide +kernel⟩, gg_mem (by decide +kernel) rfl, gg_mem (by decide +kernel) rfl⟩
def f_X2_isAheadOf (a0 : Int32) (a1 : Int32) (c_kind : Nat → Int32) (c_strength : Nat → Int32) : Option (Int32) := gg_chk (gg_in a0 6) ((f_X3_lateBy (c_kind a0.toNatClampNeg)).bind (fun v1 => gg_chk (gg_in a1 6) ((f_X3_lateBy (c_kind a1.toNatClampNeg)).bind (fun v2 => gg_lt (fun (s0_61 : Int32) => gg_chk (gg_isb s0_61) (some s0_61)) (fun k61 => (if v1 = v2 then gg_chk (gg_in a0 6) (gg_chk (gg_in a1 6) ((if (c_strength a0.toNatClampNeg) ≤ (c_strength a1.toNatClampNeg) then (k61 (0 : Int32)) else (k61 (1 : Int32))))) else (if v2 ≤ v1 then (k61 (0 : Int32)) else (k61 (1 : Int32)))))))))
set_option maxRecDepth 20000 in
set_option maxHeartbeats 8000000 in
theorem C_X2_isAheadOf (a0 : Int32) (a1 : Int32) (c_huts : Int32) (c_food : Int32) (c_due : Int32) (c_backs : Int32) (c_kind : Nat → Int32) (c_strength : Nat → Int32) {res : Int32} (h : f_X2_isAheadOf a0 a1 c_kind c_strength = some res) : gg_C MD_X2_isAheadOf [.ref 0, .int a0, .int a1] (wd_X2_isAheadOf c_huts c_food c_due c_backs c_kind c_strength) (some (.int res)) (wd_X2_isAheadOf c_huts c_food c_due c_backs c_kind c_strength) := by
  refine gg_ofG [some (.ref 0), some (.int a0), some (.int a1), none, none] (plainFor_of_name (by decide)) (Nat.le_of_ble_eq_true rfl) rfl ?_
  unfold f_X2_isAheadOf at h
  refine gg_aload_n dX2_isAheadOf_0 rfl ?_
  refine gg_get 0 fl_X2_25 dX2_isAheadOf_1 rfl rfl ?_
  refine gg_iload_n dX2_isAheadOf_4 rfl ?_
  obtain ⟨hb5, h⟩ := gg_ck h
  refine gg_iald 1 dX2_isAheadOf_5 rfl hb5 ?_
  obtain ⟨v1, hv1, h⟩ := gg_bd h
  refine gg_callS (gg_sg []) [] (wd_X2_isAheadOf c_huts c_food c_due c_backs c_kind c_strength) (C_X3_lateBy (c_kind a0.toNatClampNeg) hv1) nS_X3_lateBy ml_X2_71 rfl rfl rfl rfl rfl rfl rfl [0, 1, 2] 3 rfl rfl rfl rfl rfl ⟨Nat.le_of_ble_eq_true rfl, Nat.le_of_ble_eq_true rfl⟩ (Nat.le_of_ble_eq_true rfl) dX2_isAheadOf_6 [.int v1] rfl ?_
  refine gg_istore_n [some (.ref 0), some (.int a0), some (.int a1), some (.int v1), none] dX2_isAheadOf_9 rfl (Nat.le_of_ble_eq_true rfl) rfl ?_
  refine gg_aload_n dX2_isAheadOf_10 rfl ?_
  refine gg_get 0 fl_X2_25 dX2_isAheadOf_11 rfl rfl ?_
  refine gg_iload_n dX2_isAheadOf_14 rfl ?_
  obtain ⟨hb15, h⟩ := gg_ck h
  refine gg_iald 1 dX2_isAheadOf_15 rfl hb15 ?_
  obtain ⟨v2, hv2, h⟩ := gg_bd h
  refine gg_callS (gg_sg []) [] (wd_X2_isAheadOf c_huts c_food c_due c_backs c_kind c_strength) (C_X3_lateBy (c_kind a1.toNatClampNeg) hv2) nS_X3_lateBy ml_X2_71 rfl rfl rfl rfl rfl rfl rfl [0, 1, 2] 3 rfl rfl rfl rfl rfl ⟨Nat.le_of_ble_eq_true rfl, Nat.le_of_ble_eq_true rfl⟩ (Nat.le_of_ble_eq_true rfl) dX2_isAheadOf_16 [.int v2] rfl ?_
  refine gg_istore [some (.ref 0), some (.int a0), some (.int a1), some (.int v1), some (.int v2)] dX2_isAheadOf_19 rfl (Nat.le_of_ble_eq_true rfl) rfl ?_
  refine gg_iload_n dX2_isAheadOf_21 rfl ?_
  refine gg_iload dX2_isAheadOf_22 rfl ?_
  obtain ⟨k61, hke61, h⟩ := gg_lte h
  have hk61 : ∀ (s0_61 : Int32), k61 s0_61 = some res → gg_G MD_X2_isAheadOf 61 [none, none, none, none, none] [.int s0_61] (wd_X2_isAheadOf c_huts c_food c_due c_backs c_kind c_strength) (some (.int res)) (wd_X2_isAheadOf c_huts c_food c_due c_backs c_kind c_strength) := by
    intro s0_61 h
    subst hke61
    obtain ⟨hz, h⟩ := gg_ck h
    cases h
    exact gg_zret dX2_isAheadOf_61 rfl hz
  clear hke61
  refine gg_icmp_eq 41 dX2_isAheadOf_24 (by decide) (fun hc => ?_) (fun hc => ?_)
  · replace h := gg_th h hc
    refine gg_aload_n dX2_isAheadOf_41 rfl ?_
    refine gg_get 0 fl_X2_31 dX2_isAheadOf_42 rfl rfl ?_
    refine gg_iload_n dX2_isAheadOf_45 rfl ?_
    obtain ⟨hb46, h⟩ := gg_ck h
    refine gg_iald 2 dX2_isAheadOf_46 rfl hb46 ?_
    refine gg_aload_n dX2_isAheadOf_47 rfl ?_
    refine gg_get 0 fl_X2_31 dX2_isAheadOf_48 rfl rfl ?_
    refine gg_iload_n dX2_isAheadOf_51 rfl ?_
    obtain ⟨hb52, h⟩ := gg_ck h
    refine gg_iald 2 dX2_isAheadOf_52 rfl hb52 ?_
    refine gg_icmp_le 60 dX2_isAheadOf_53 (by decide) (fun hc => ?_) (fun hc => ?_)
    · replace h := gg_th h hc
      refine gg_iconst (0 : Int32) dX2_isAheadOf_60 (by decide) ?_
      refine gg_fg [false, false, false, false, false] [none, none, none, none, none] rfl ?_
      exact hk61 (0 : Int32) h
    · replace h := gg_el h hc
      refine gg_iconst (1 : Int32) dX2_isAheadOf_56 (by decide) ?_
      refine gg_goto 61 dX2_isAheadOf_57 (by decide) ?_
      refine gg_fg [false, false, false, false, false] [none, none, none, none, none] rfl ?_
      exact hk61 (1 : Int32) h
  · replace h := gg_el h hc
    refine gg_iload_n dX2_isAheadOf_27 rfl ?_
    refine gg_iload dX2_isAheadOf_28 rfl ?_
    refine gg_icmp_ge 37 dX2_isAheadOf_30 (by decide) (fun hc => ?_) (fun hc => ?_)
    · replace h := gg_th h hc
      refine gg_iconst (0 : Int32) dX2_isAheadOf_37 (by decide) ?_
      refine gg_goto 61 dX2_isAheadOf_38 (by decide) ?_
      refine gg_fg [false, false, false, false, false] [none, none, none, none, none] rfl ?_
      exact hk61 (0 : Int32) h
    · replace h := gg_el h hc
      refine gg_iconst (1 : Int32) dX2_isAheadOf_33 (by decide) ?_
      refine gg_goto 61 dX2_isAheadOf_34 (by decide) ?_
      refine gg_fg [false, false, false, false, false] [none, none, none, none, none] rfl ?_
      exact hk61 (1 : Int32) h
def wd_X2_go (c_huts : Int32) (c_food : Int32) (c_due : Int32) (c_backs : Int32) (c_kind : Nat → Int32) (c_strength : Nat → Int32) (c_brick : Nat → Int32) (c_back : Nat → Int32) : va_W := [(0, .inr (2, [.int c_huts, .int c_food, .int c_due, .ref 1, .ref 2, .ref 3, .ref 4, .ref 5, .ref 6, .ref 7, .int c_backs])), (2, .inl (0, 6, .inl c_kind)), (4, .inl (0, 6, .inl c_strength)), (6, .inl (0, 6, .inl c_brick)), (7, .inl (0, 6, .inl c_back))]
def MD_X2_go : gg_M := (yX2_go, cX2_go, 5, none, 2, 44)
theorem nV_X2_go : gg_nV MD_X2_go 2 := ⟨⟨gg_mem (by decide +kernel) rfl, gg_mem cw_X2_go rfl, by decide, by decide, by decide +kernel⟩, gg_mem (by decide +kernel) rfl, gg_mem (by decide +kernel) rfl⟩
def lp_X2_go_50 {β : Type} (y1 : Int32) (c_kind : Nat → Int32) (c_strength : Nat → Int32) (k94 : (Int32) → (Nat → Int32) → Option β) : Nat → (Int32) → (Nat → Int32) → Option β
  | 0, _, _ => none
  | n + 1, x4_50, c_back_50 => (if x4_50 ≤ (0 : Int32) then (k94 x4_50 c_back_50) else gg_chk (gg_in (x4_50 - (1 : Int32)) 6) ((f_X2_isAheadOf y1 (c_back_50 (x4_50 - (1 : Int32)).toNatClampNeg) c_kind c_strength).bind (fun v3 => (if v3 = (0 : Int32) then (k94 x4_50 c_back_50) else gg_chk (gg_in (x4_50 - (1 : Int32)) 6) (gg_chk (gg_in x4_50 6) ((lp_X2_go_50 y1 c_kind c_strength k94 n (x4_50 + (-1 : Int32)) (upd c_back_50 x4_50.toNatClampNeg (c_back_50 (x4_50 - (1 : Int32)).toNatClampNeg)))))))))
def f_X2_go (a0 : Int32) (a1 : Int32) (c_backs : Int32) (c_kind : Nat → Int32) (c_strength : Nat → Int32) (c_brick : Nat → Int32) (c_back : Nat → Int32) : Option ((Int32) × (Nat → Int32) × (Nat → Int32) × (Nat → Int32)) := gg_chk (gg_in a0 6) ((f_X3_tiredBy (c_kind a0.toNatClampNeg) a1).bind (fun v1 => gg_chk (gg_in a0 6) (gg_chk (gg_in a0 6) ((if v1 ≤ (c_strength a0.toNatClampNeg) then gg_chk (gg_in a0 6) (gg_chk (gg_in a0 6) ((f_J9_min_7cf53 c_backs (5 : Int32)).bind (fun v2 => (lp_X2_go_50 a0 c_kind (upd c_strength a0.toNatClampNeg ((c_strength a0.toNatClampNeg) - v1)) (fun (x4_94 : Int32) (c_back_94 : Nat → Int32) => gg_chk (gg_in x4_94 6) ((some ((c_backs + (1 : Int32)), (upd c_strength a0.toNatClampNeg ((c_strength a0.toNatClampNeg) - v1)), (upd c_brick a0.toNatClampNeg (-9 : Int32)), (upd c_back_94 x4_94.toNatClampNeg a0))))) gg_fuel v2 c_back)))) else (some (c_backs, c_strength, (upd c_brick a0.toNatClampNeg (-9 : Int32)), c_back)))))))
set_option maxRecDepth 20000 in
set_option maxHeartbeats 4000000 in
theorem lq_X2_go_50 {β : Type} {res : β} {rr : Option Value} {ww : va_W} (y1 : Int32) (c_huts : Int32) (c_food : Int32) (c_due : Int32) (c_backs : Int32) (c_kind : Nat → Int32) (c_strength : Nat → Int32) (c_brick : Nat → Int32) (k94 : (Int32) → (Nat → Int32) → Option β) (hk94 : ∀ (x4_94 : Int32) (c_back_94 : Nat → Int32), k94 x4_94 c_back_94 = some res → gg_G MD_X2_go 94 [some (.ref 0), some (.int y1), none, none, some (.int x4_94)] [] (wd_X2_go c_huts c_food c_due c_backs c_kind c_strength c_brick c_back_94) rr ww) : ∀ (n : Nat) (x4_50 : Int32) (c_back_50 : Nat → Int32), lp_X2_go_50 y1 c_kind c_strength k94 n x4_50 c_back_50 = some res → gg_G MD_X2_go 50 [some (.ref 0), some (.int y1), none, none, some (.int x4_50)] [] (wd_X2_go c_huts c_food c_due c_backs c_kind c_strength c_brick c_back_50) rr ww := by
  intro n
  induction n with
  | zero =>
    intro x4_50 c_back_50 h
    exact nomatch (show (none : Option β) = some res from h)
  | succ n ih =>
    intro x4_50 c_back_50 h
    rw [lp_X2_go_50] at h
    refine gg_iload dX2_go_50 rfl ?_
    refine gg_if_le 94 dX2_go_52 (by decide) (fun hc => ?_) (fun hc => ?_)
    · replace h := gg_th h hc
      exact hk94 x4_50 c_back_50 h
    · replace h := gg_el h hc
      refine gg_aload_n dX2_go_55 rfl ?_
      refine gg_iload_n dX2_go_56 rfl ?_
      refine gg_aload_n dX2_go_57 rfl ?_
      refine gg_get 0 fl_X2_40 dX2_go_58 rfl rfl ?_
      refine gg_iload dX2_go_61 rfl ?_
      refine gg_iconst (1 : Int32) dX2_go_63 (by decide) ?_
      refine gg_isub dX2_go_64 ?_
      obtain ⟨hb65, h⟩ := gg_ck h
      refine gg_iald 4 dX2_go_65 rfl hb65 ?_
      obtain ⟨v3, hv3, h⟩ := gg_bd h
      refine gg_callV (gg_sg [0]) [0, 1, 2] (wd_X2_go c_huts c_food c_due c_backs c_kind c_strength c_brick c_back_50) 0 (C_X2_isAheadOf y1 (c_back_50 (x4_50 - (1 : Int32)).toNatClampNeg) c_huts c_food c_due c_backs c_kind c_strength hv3) nV_X2_isAheadOf ml_X2_119 rfl rfl rfl rfl rfl rfl rfl rfl rfl rfl [3, 4] 5 rfl rfl rfl rfl rfl ⟨Nat.le_of_ble_eq_true rfl, Nat.le_of_ble_eq_true rfl⟩ (Nat.le_of_ble_eq_true rfl) dX2_go_66 [.int v3] rfl ?_
      refine gg_if_eq 94 dX2_go_69 (by decide) (fun hc => ?_) (fun hc => ?_)
      · replace h := gg_th h hc
        exact hk94 x4_50 c_back_50 h
      · replace h := gg_el h hc
        refine gg_aload_n dX2_go_72 rfl ?_
        refine gg_get 0 fl_X2_40 dX2_go_73 rfl rfl ?_
        refine gg_iload dX2_go_76 rfl ?_
        refine gg_aload_n dX2_go_78 rfl ?_
        refine gg_get 0 fl_X2_40 dX2_go_79 rfl rfl ?_
        refine gg_iload dX2_go_82 rfl ?_
        refine gg_iconst (1 : Int32) dX2_go_84 (by decide) ?_
        refine gg_isub dX2_go_85 ?_
        obtain ⟨hb86, h⟩ := gg_ck h
        refine gg_iald 4 dX2_go_86 rfl hb86 ?_
        obtain ⟨hb87, h⟩ := gg_ck h
        refine gg_iast 4 (wd_X2_go c_huts c_food c_due c_backs c_kind c_strength c_brick (upd c_back_50 x4_50.toNatClampNeg (c_back_50 (x4_50 - (1 : Int32)).toNatClampNeg))) dX2_go_87 rfl hb87 rfl ?_
        refine gg_iinc (x4_50 + (-1 : Int32)) [some (.ref 0), some (.int y1), none, none, some (.int (x4_50 + (-1 : Int32)))] dX2_go_88 rfl rfl rfl (Nat.le_of_ble_eq_true rfl) rfl ?_
        refine gg_goto 50 dX2_go_91 (by decide) ?_
        exact ih (x4_50 + (-1 : Int32)) (upd c_back_50 x4_50.toNatClampNeg (c_back_50 (x4_50 - (1 : Int32)).toNatClampNeg)) h
set_option maxRecDepth 20000 in
set_option maxHeartbeats 8000000 in
theorem C_X2_go (a0 : Int32) (a1 : Int32) (c_huts : Int32) (c_food : Int32) (c_due : Int32) (c_backs : Int32) (c_kind : Nat → Int32) (c_strength : Nat → Int32) (c_brick : Nat → Int32) (c_back : Nat → Int32) {r0 : (Int32)} {r1 : (Nat → Int32)} {r2 : (Nat → Int32)} {r3 : (Nat → Int32)} (h : f_X2_go a0 a1 c_backs c_kind c_strength c_brick c_back = some (r0, r1, r2, r3)) : gg_C MD_X2_go [.ref 0, .int a0, .int a1] (wd_X2_go c_huts c_food c_due c_backs c_kind c_strength c_brick c_back) (none) (wd_X2_go c_huts c_food c_due r0 c_kind r1 r2 r3) := by
  refine gg_ofG [some (.ref 0), some (.int a0), some (.int a1), none, none] (plainFor_of_name (by decide)) (Nat.le_of_ble_eq_true rfl) rfl ?_
  unfold f_X2_go at h
  refine gg_aload_n dX2_go_0 rfl ?_
  refine gg_get 0 fl_X2_25 dX2_go_1 rfl rfl ?_
  refine gg_iload_n dX2_go_4 rfl ?_
  obtain ⟨hb5, h⟩ := gg_ck h
  refine gg_iald 1 dX2_go_5 rfl hb5 ?_
  refine gg_iload_n dX2_go_6 rfl ?_
  obtain ⟨v1, hv1, h⟩ := gg_bd h
  refine gg_callS (gg_sg []) [] (wd_X2_go c_huts c_food c_due c_backs c_kind c_strength c_brick c_back) (C_X3_tiredBy (c_kind a0.toNatClampNeg) a1 hv1) nS_X3_tiredBy ml_X2_68 rfl rfl rfl rfl rfl rfl rfl [0, 1, 2, 3, 4] 5 rfl rfl rfl rfl rfl ⟨Nat.le_of_ble_eq_true rfl, Nat.le_of_ble_eq_true rfl⟩ (Nat.le_of_ble_eq_true rfl) dX2_go_7 [.int v1] rfl ?_
  refine gg_istore_n [some (.ref 0), some (.int a0), some (.int a1), some (.int v1), none] dX2_go_10 rfl (Nat.le_of_ble_eq_true rfl) rfl ?_
  refine gg_aload_n dX2_go_11 rfl ?_
  refine gg_get 0 fl_X2_37 dX2_go_12 rfl rfl ?_
  refine gg_iload_n dX2_go_15 rfl ?_
  refine gg_bipush (-9 : Int32) dX2_go_16 (by decide) ?_
  obtain ⟨hb18, h⟩ := gg_ck h
  refine gg_iast 3 (wd_X2_go c_huts c_food c_due c_backs c_kind c_strength (upd c_brick a0.toNatClampNeg (-9 : Int32)) c_back) dX2_go_18 rfl hb18 rfl ?_
  refine gg_iload_n dX2_go_19 rfl ?_
  refine gg_aload_n dX2_go_20 rfl ?_
  refine gg_get 0 fl_X2_31 dX2_go_21 rfl rfl ?_
  refine gg_iload_n dX2_go_24 rfl ?_
  obtain ⟨hb25, h⟩ := gg_ck h
  refine gg_iald 2 dX2_go_25 rfl hb25 ?_
  refine gg_icmp_le 30 dX2_go_26 (by decide) (fun hc => ?_) (fun hc => ?_)
  · replace h := gg_th h hc
    refine gg_aload_n dX2_go_30 rfl ?_
    refine gg_get 0 fl_X2_31 dX2_go_31 rfl rfl ?_
    refine gg_iload_n dX2_go_34 rfl ?_
    refine gg_dup2 dX2_go_35 rfl rfl ?_
    obtain ⟨hb36, h⟩ := gg_ck h
    refine gg_iald 2 dX2_go_36 rfl hb36 ?_
    refine gg_iload_n dX2_go_37 rfl ?_
    refine gg_isub dX2_go_38 ?_
    obtain ⟨hb39, h⟩ := gg_ck h
    refine gg_iast 2 (wd_X2_go c_huts c_food c_due c_backs c_kind (upd c_strength a0.toNatClampNeg ((c_strength a0.toNatClampNeg) - v1)) (upd c_brick a0.toNatClampNeg (-9 : Int32)) c_back) dX2_go_39 rfl hb39 rfl ?_
    refine gg_aload_n dX2_go_40 rfl ?_
    refine gg_get 0 fl_X2_43 dX2_go_41 rfl rfl ?_
    refine gg_iconst (5 : Int32) dX2_go_44 (by decide) ?_
    obtain ⟨v2, hv2, h⟩ := gg_bd h
    refine gg_callS (gg_sg []) [] (wd_X2_go c_huts c_food c_due c_backs c_kind (upd c_strength a0.toNatClampNeg ((c_strength a0.toNatClampNeg) - v1)) (upd c_brick a0.toNatClampNeg (-9 : Int32)) c_back) (C_J9_min_7cf53 c_backs (5 : Int32) hv2) nS_J9_min_7cf53 ml_X2_96 rfl rfl rfl rfl rfl rfl rfl [0, 1, 2, 3, 4] 5 rfl rfl rfl rfl rfl ⟨Nat.le_of_ble_eq_true rfl, Nat.le_of_ble_eq_true rfl⟩ (Nat.le_of_ble_eq_true rfl) dX2_go_45 [.int v2] rfl ?_
    refine gg_istore [some (.ref 0), some (.int a0), some (.int a1), some (.int v1), some (.int v2)] dX2_go_48 rfl (Nat.le_of_ble_eq_true rfl) rfl ?_
    refine gg_fg [true, true, false, false, true] [some (.ref 0), some (.int a0), none, none, some (.int v2)] rfl ?_
    refine lq_X2_go_50 a0 c_huts c_food c_due c_backs c_kind (upd c_strength a0.toNatClampNeg ((c_strength a0.toNatClampNeg) - v1)) (upd c_brick a0.toNatClampNeg (-9 : Int32)) _ ?_ gg_fuel v2 c_back h
    intro x4_94 c_back_94 h
    refine gg_aload_n dX2_go_94 rfl ?_
    refine gg_get 0 fl_X2_40 dX2_go_95 rfl rfl ?_
    refine gg_iload dX2_go_98 rfl ?_
    refine gg_iload_n dX2_go_100 rfl ?_
    obtain ⟨hb101, h⟩ := gg_ck h
    refine gg_iast 4 (wd_X2_go c_huts c_food c_due c_backs c_kind (upd c_strength a0.toNatClampNeg ((c_strength a0.toNatClampNeg) - v1)) (upd c_brick a0.toNatClampNeg (-9 : Int32)) (upd c_back_94 x4_94.toNatClampNeg a0)) dX2_go_101 rfl hb101 rfl ?_
    refine gg_aload_n dX2_go_102 rfl ?_
    refine gg_dup dX2_go_103 rfl ?_
    refine gg_get 0 fl_X2_43 dX2_go_104 rfl rfl ?_
    refine gg_iconst (1 : Int32) dX2_go_107 (by decide) ?_
    refine gg_iadd dX2_go_108 ?_
    refine gg_putf 0 (wd_X2_go c_huts c_food c_due (c_backs + (1 : Int32)) c_kind (upd c_strength a0.toNatClampNeg ((c_strength a0.toNatClampNeg) - v1)) (upd c_brick a0.toNatClampNeg (-9 : Int32)) (upd c_back_94 x4_94.toNatClampNeg a0)) fl_X2_43 dX2_go_109 rfl (Nat.le_of_ble_eq_true rfl) (fun _ => ⟨rfl, rfl⟩) rfl ?_
    cases h
    exact gg_vret dX2_go_112 rfl
  · replace h := gg_el h hc
    cases h
    exact gg_vret dX2_go_29 rfl
def wd_X2_freeBits (c_huts : Int32) (c_food : Int32) (c_due : Int32) (c_backs : Int32) (c_brick : Nat → Int32) : va_W := [(0, .inr (2, [.int c_huts, .int c_food, .int c_due, .ref 1, .ref 2, .ref 3, .ref 4, .ref 5, .ref 6, .ref 7, .int c_backs])), (6, .inl (0, 6, .inl c_brick))]
def MD_X2_freeBits : gg_M := (yX2_freeBits, cX2_freeBits, 3, some .int, 0, 0)
theorem nV_X2_freeBits : gg_nV MD_X2_freeBits 0 := ⟨⟨gg_mem (by decide +kernel) rfl, gg_mem cw_X2_freeBits rfl, by decide, by decide, by decide +kernel⟩, gg_mem (by decide +kernel) rfl, gg_mem (by decide +kernel) rfl⟩
def lp_X2_freeBits_6 {β : Type} (c_huts : Int32) (c_brick : Nat → Int32) (k44 : (Int32) → Option β) : Nat → (Int32) → (Int32) → Option β
  | 0, _, _ => none
  | n + 1, x1_6, x2_6 => (if c_huts ≤ x2_6 then (k44 x1_6) else gg_chk (gg_in x2_6 6) (gg_lt (fun (x1_38 : Int32) => (lp_X2_freeBits_6 c_huts c_brick k44 n x1_38 (x2_6 + (1 : Int32)))) (fun k38 => (if (c_brick x2_6.toNatClampNeg) = (-9 : Int32) then (k38 x1_6) else gg_chk (gg_in x2_6 6) ((k38 (x1_6 &&& (((1 : Int32) <<< ((c_brick x2_6.toNatClampNeg) &&& 31)) ^^^ (-1 : Int32)))))))))
def f_X2_freeBits  (c_huts : Int32) (c_brick : Nat → Int32) : Option (Int32) := (lp_X2_freeBits_6 c_huts c_brick (fun (x1_44 : Int32) => (some x1_44)) gg_fuel (1023 : Int32) (0 : Int32))
set_option maxRecDepth 20000 in
set_option maxHeartbeats 4000000 in
theorem lq_X2_freeBits_6 {β : Type} {res : β} {rr : Option Value} {ww : va_W} (c_huts : Int32) (c_food : Int32) (c_due : Int32) (c_backs : Int32) (c_brick : Nat → Int32) (k44 : (Int32) → Option β) (hk44 : ∀ (x1_44 : Int32), k44 x1_44 = some res → gg_G MD_X2_freeBits 44 [none, some (.int x1_44), none] [] (wd_X2_freeBits c_huts c_food c_due c_backs c_brick) rr ww) : ∀ (n : Nat) (x1_6 : Int32) (x2_6 : Int32), lp_X2_freeBits_6 c_huts c_brick k44 n x1_6 x2_6 = some res → gg_G MD_X2_freeBits 6 [some (.ref 0), some (.int x1_6), some (.int x2_6)] [] (wd_X2_freeBits c_huts c_food c_due c_backs c_brick) rr ww := by
  intro n
  induction n with
  | zero =>
    intro x1_6 x2_6 h
    exact nomatch (show (none : Option β) = some res from h)
  | succ n ih =>
    intro x1_6 x2_6 h
    rw [lp_X2_freeBits_6] at h
    refine gg_iload_n dX2_freeBits_6 rfl ?_
    refine gg_aload_n dX2_freeBits_7 rfl ?_
    refine gg_get 0 fl_X2_9 dX2_freeBits_8 rfl rfl ?_
    refine gg_icmp_ge 44 dX2_freeBits_11 (by decide) (fun hc => ?_) (fun hc => ?_)
    · replace h := gg_th h hc
      refine gg_fg [false, true, false] [none, some (.int x1_6), none] rfl ?_
      exact hk44 x1_6 h
    · replace h := gg_el h hc
      refine gg_aload_n dX2_freeBits_14 rfl ?_
      refine gg_get 0 fl_X2_37 dX2_freeBits_15 rfl rfl ?_
      refine gg_iload_n dX2_freeBits_18 rfl ?_
      obtain ⟨hb19, h⟩ := gg_ck h
      refine gg_iald 1 dX2_freeBits_19 rfl hb19 ?_
      refine gg_bipush (-9 : Int32) dX2_freeBits_20 (by decide) ?_
      obtain ⟨k38, hke38, h⟩ := gg_lte h
      have hk38 : ∀ (x1_38 : Int32), k38 x1_38 = some res → gg_G MD_X2_freeBits 38 [some (.ref 0), some (.int x1_38), some (.int x2_6)] [] (wd_X2_freeBits c_huts c_food c_due c_backs c_brick) rr ww := by
        intro x1_38 h
        subst hke38
        refine gg_iinc (x2_6 + (1 : Int32)) [some (.ref 0), some (.int x1_38), some (.int (x2_6 + (1 : Int32)))] dX2_freeBits_38 rfl rfl rfl (Nat.le_of_ble_eq_true rfl) rfl ?_
        refine gg_goto 6 dX2_freeBits_41 (by decide) ?_
        exact ih x1_38 (x2_6 + (1 : Int32)) h
      clear hke38
      refine gg_icmp_eq 38 dX2_freeBits_22 (by decide) (fun hc => ?_) (fun hc => ?_)
      · replace h := gg_th h hc
        exact hk38 x1_6 h
      · replace h := gg_el h hc
        refine gg_iload_n dX2_freeBits_25 rfl ?_
        refine gg_iconst (1 : Int32) dX2_freeBits_26 (by decide) ?_
        refine gg_aload_n dX2_freeBits_27 rfl ?_
        refine gg_get 0 fl_X2_37 dX2_freeBits_28 rfl rfl ?_
        refine gg_iload_n dX2_freeBits_31 rfl ?_
        obtain ⟨hb32, h⟩ := gg_ck h
        refine gg_iald 1 dX2_freeBits_32 rfl hb32 ?_
        refine gg_ishl dX2_freeBits_33 ?_
        refine gg_iconst (-1 : Int32) dX2_freeBits_34 (by decide) ?_
        refine gg_ixor dX2_freeBits_35 ?_
        refine gg_iand dX2_freeBits_36 ?_
        refine gg_istore_n [some (.ref 0), some (.int (x1_6 &&& (((1 : Int32) <<< ((c_brick x2_6.toNatClampNeg) &&& 31)) ^^^ (-1 : Int32)))), some (.int x2_6)] dX2_freeBits_37 rfl (Nat.le_of_ble_eq_true rfl) rfl ?_
        exact hk38 (x1_6 &&& (((1 : Int32) <<< ((c_brick x2_6.toNatClampNeg) &&& 31)) ^^^ (-1 : Int32))) h
set_option maxRecDepth 20000 in
set_option maxHeartbeats 8000000 in
theorem C_X2_freeBits  (c_huts : Int32) (c_food : Int32) (c_due : Int32) (c_backs : Int32) (c_brick : Nat → Int32) {res : Int32} (h : f_X2_freeBits c_huts c_brick = some res) : gg_C MD_X2_freeBits [.ref 0] (wd_X2_freeBits c_huts c_food c_due c_backs c_brick) (some (.int res)) (wd_X2_freeBits c_huts c_food c_due c_backs c_brick) := by
  refine gg_ofG [some (.ref 0), none, none] (plainFor_of_name (by decide)) (Nat.le_of_ble_eq_true rfl) rfl ?_
  unfold f_X2_freeBits at h
  refine gg_sipush (1023 : Int32) dX2_freeBits_0 (by decide) ?_
  refine gg_istore_n [some (.ref 0), some (.int (1023 : Int32)), none] dX2_freeBits_3 rfl (Nat.le_of_ble_eq_true rfl) rfl ?_
  refine gg_iconst (0 : Int32) dX2_freeBits_4 (by decide) ?_
  refine gg_istore_n [some (.ref 0), some (.int (1023 : Int32)), some (.int (0 : Int32))] dX2_freeBits_5 rfl (Nat.le_of_ble_eq_true rfl) rfl ?_
  refine lq_X2_freeBits_6 c_huts c_food c_due c_backs c_brick _ ?_ gg_fuel (1023 : Int32) (0 : Int32) h
  intro x1_44 h
  refine gg_iload_n dX2_freeBits_44 rfl ?_
  cases h
  exact gg_iret dX2_freeBits_45 rfl
def wd_X2_nearestFree (c_huts : Int32) (c_food : Int32) (c_due : Int32) (c_backs : Int32) (c_brick : Nat → Int32) : va_W := [(0, .inr (2, [.int c_huts, .int c_food, .int c_due, .ref 1, .ref 2, .ref 3, .ref 4, .ref 5, .ref 6, .ref 7, .int c_backs])), (6, .inl (0, 6, .inl c_brick))]
def MD_X2_nearestFree : gg_M := (yX2_nearestFree, cX2_nearestFree, 4, some .int, 1, 22)
theorem nV_X2_nearestFree : gg_nV MD_X2_nearestFree 1 := ⟨⟨gg_mem (by decide +kernel) rfl, gg_mem cw_X2_nearestFree rfl, by decide, by decide, by decide +kernel⟩, gg_mem (by decide +kernel) rfl, gg_mem (by decide +kernel) rfl⟩
def lp_X2_nearestFree_7 {β : Type} (y1 : Int32) (y2 : Int32) (k30 : (Int32) → Option β) (k53 : (Int32) → Option β) (k63 : Option β) : Nat → (Int32) → Option β
  | 0, _ => none
  | n + 1, x3_7 => (if (10 : Int32) ≤ x3_7 then k63 else gg_lt (gg_lt ((lp_X2_nearestFree_7 y1 y2 k30 k53 k63 n (x3_7 + (1 : Int32)))) (fun k57 => (if (10 : Int32) ≤ (y1 + x3_7) then k57 else (if ((y2 >>> ((y1 + x3_7) &&& 31)) &&& (1 : Int32)) = (1 : Int32) then (k53 x3_7) else k57)))) (fun k34 => (if (y1 - x3_7) < (0 : Int32) then k34 else (if ((y2 >>> ((y1 - x3_7) &&& 31)) &&& (1 : Int32)) = (1 : Int32) then (k30 x3_7) else k34))))
def f_X2_nearestFree (a0 : Int32) (c_huts : Int32) (c_brick : Nat → Int32) : Option (Int32) := (f_X2_freeBits c_huts c_brick).bind (fun v1 => (lp_X2_nearestFree_7 a0 v1 (fun (x3_30 : Int32) => (some (a0 - x3_30))) (fun (x3_53 : Int32) => (some (a0 + x3_53))) ((some (-9 : Int32))) gg_fuel (0 : Int32)))
set_option maxRecDepth 20000 in
set_option maxHeartbeats 4000000 in
theorem lq_X2_nearestFree_7 {β : Type} {res : β} {rr : Option Value} {ww : va_W} (y1 : Int32) (y2 : Int32) (c_huts : Int32) (c_food : Int32) (c_due : Int32) (c_backs : Int32) (c_brick : Nat → Int32) (k30 : (Int32) → Option β) (k53 : (Int32) → Option β) (k63 : Option β) (hk30 : ∀ (x3_30 : Int32), k30 x3_30 = some res → gg_G MD_X2_nearestFree 30 [none, some (.int y1), none, some (.int x3_30)] [] (wd_X2_nearestFree c_huts c_food c_due c_backs c_brick) rr ww) (hk53 : ∀ (x3_53 : Int32), k53 x3_53 = some res → gg_G MD_X2_nearestFree 53 [none, some (.int y1), none, some (.int x3_53)] [] (wd_X2_nearestFree c_huts c_food c_due c_backs c_brick) rr ww) (hk63 : k63 = some res → gg_G MD_X2_nearestFree 63 [none, none, none, none] [] (wd_X2_nearestFree c_huts c_food c_due c_backs c_brick) rr ww) : ∀ (n : Nat) (x3_7 : Int32), lp_X2_nearestFree_7 y1 y2 k30 k53 k63 n x3_7 = some res → gg_G MD_X2_nearestFree 7 [none, some (.int y1), some (.int y2), some (.int x3_7)] [] (wd_X2_nearestFree c_huts c_food c_due c_backs c_brick) rr ww := by
  intro n
  induction n with
  | zero =>
    intro x3_7 h
    exact nomatch (show (none : Option β) = some res from h)
  | succ n ih =>
    intro x3_7 h
    rw [lp_X2_nearestFree_7] at h
    refine gg_iload_n dX2_nearestFree_7 rfl ?_
    refine gg_bipush (10 : Int32) dX2_nearestFree_8 (by decide) ?_
    refine gg_icmp_ge 63 dX2_nearestFree_10 (by decide) (fun hc => ?_) (fun hc => ?_)
    · replace h := gg_th h hc
      refine gg_fg [false, false, false, false] [none, none, none, none] rfl ?_
      exact hk63 h
    · replace h := gg_el h hc
      refine gg_iload_n dX2_nearestFree_13 rfl ?_
      refine gg_iload_n dX2_nearestFree_14 rfl ?_
      refine gg_isub dX2_nearestFree_15 ?_
      obtain ⟨k34, hke34, h⟩ := gg_lte h
      have hk34 : k34 = some res → gg_G MD_X2_nearestFree 34 [none, some (.int y1), some (.int y2), some (.int x3_7)] [] (wd_X2_nearestFree c_huts c_food c_due c_backs c_brick) rr ww := by
        intro  h
        subst hke34
        refine gg_iload_n dX2_nearestFree_34 rfl ?_
        refine gg_iload_n dX2_nearestFree_35 rfl ?_
        refine gg_iadd dX2_nearestFree_36 ?_
        refine gg_bipush (10 : Int32) dX2_nearestFree_37 (by decide) ?_
        obtain ⟨k57, hke57, h⟩ := gg_lte h
        have hk57 : k57 = some res → gg_G MD_X2_nearestFree 57 [none, some (.int y1), some (.int y2), some (.int x3_7)] [] (wd_X2_nearestFree c_huts c_food c_due c_backs c_brick) rr ww := by
          intro  h
          subst hke57
          refine gg_iinc (x3_7 + (1 : Int32)) [none, some (.int y1), some (.int y2), some (.int (x3_7 + (1 : Int32)))] dX2_nearestFree_57 rfl rfl rfl (Nat.le_of_ble_eq_true rfl) rfl ?_
          refine gg_goto 7 dX2_nearestFree_60 (by decide) ?_
          exact ih (x3_7 + (1 : Int32)) h
        clear hke57
        refine gg_icmp_ge 57 dX2_nearestFree_39 (by decide) (fun hc => ?_) (fun hc => ?_)
        · replace h := gg_th h hc
          exact hk57 h
        · replace h := gg_el h hc
          refine gg_iload_n dX2_nearestFree_42 rfl ?_
          refine gg_iload_n dX2_nearestFree_43 rfl ?_
          refine gg_iload_n dX2_nearestFree_44 rfl ?_
          refine gg_iadd dX2_nearestFree_45 ?_
          refine gg_ishr dX2_nearestFree_46 ?_
          refine gg_iconst (1 : Int32) dX2_nearestFree_47 (by decide) ?_
          refine gg_iand dX2_nearestFree_48 ?_
          refine gg_iconst (1 : Int32) dX2_nearestFree_49 (by decide) ?_
          refine gg_icmp_ne 57 dX2_nearestFree_50 (by decide) (fun hc => ?_) (fun hc => ?_)
          · replace h := gg_el h hc
            exact hk57 h
          · replace h := gg_th h hc
            refine gg_fg [false, true, false, true] [none, some (.int y1), none, some (.int x3_7)] rfl ?_
            exact hk53 x3_7 h
      clear hke34
      refine gg_if_lt 34 dX2_nearestFree_16 (by decide) (fun hc => ?_) (fun hc => ?_)
      · replace h := gg_th h hc
        exact hk34 h
      · replace h := gg_el h hc
        refine gg_iload_n dX2_nearestFree_19 rfl ?_
        refine gg_iload_n dX2_nearestFree_20 rfl ?_
        refine gg_iload_n dX2_nearestFree_21 rfl ?_
        refine gg_isub dX2_nearestFree_22 ?_
        refine gg_ishr dX2_nearestFree_23 ?_
        refine gg_iconst (1 : Int32) dX2_nearestFree_24 (by decide) ?_
        refine gg_iand dX2_nearestFree_25 ?_
        refine gg_iconst (1 : Int32) dX2_nearestFree_26 (by decide) ?_
        refine gg_icmp_ne 34 dX2_nearestFree_27 (by decide) (fun hc => ?_) (fun hc => ?_)
        · replace h := gg_el h hc
          exact hk34 h
        · replace h := gg_th h hc
          refine gg_fg [false, true, false, true] [none, some (.int y1), none, some (.int x3_7)] rfl ?_
          exact hk30 x3_7 h
set_option maxRecDepth 20000 in
set_option maxHeartbeats 8000000 in
theorem C_X2_nearestFree (a0 : Int32) (c_huts : Int32) (c_food : Int32) (c_due : Int32) (c_backs : Int32) (c_brick : Nat → Int32) {res : Int32} (h : f_X2_nearestFree a0 c_huts c_brick = some res) : gg_C MD_X2_nearestFree [.ref 0, .int a0] (wd_X2_nearestFree c_huts c_food c_due c_backs c_brick) (some (.int res)) (wd_X2_nearestFree c_huts c_food c_due c_backs c_brick) := by
  refine gg_ofG [some (.ref 0), some (.int a0), none, none] (plainFor_of_name (by decide)) (Nat.le_of_ble_eq_true rfl) rfl ?_
  unfold f_X2_nearestFree at h
  refine gg_aload_n dX2_nearestFree_0 rfl ?_
  obtain ⟨v1, hv1, h⟩ := gg_bd h
  refine gg_callV (gg_sg [0]) [0, 1] (wd_X2_nearestFree c_huts c_food c_due c_backs c_brick) 0 (C_X2_freeBits c_huts c_food c_due c_backs c_brick hv1) nV_X2_freeBits ml_X2_125 rfl rfl rfl rfl rfl rfl rfl rfl rfl rfl [] 2 rfl rfl rfl rfl rfl ⟨Nat.le_of_ble_eq_true rfl, Nat.le_of_ble_eq_true rfl⟩ (Nat.le_of_ble_eq_true rfl) dX2_nearestFree_1 [.int v1] rfl ?_
  refine gg_istore_n [some (.ref 0), some (.int a0), some (.int v1), none] dX2_nearestFree_4 rfl (Nat.le_of_ble_eq_true rfl) rfl ?_
  refine gg_iconst (0 : Int32) dX2_nearestFree_5 (by decide) ?_
  refine gg_istore_n [some (.ref 0), some (.int a0), some (.int v1), some (.int (0 : Int32))] dX2_nearestFree_6 rfl (Nat.le_of_ble_eq_true rfl) rfl ?_
  refine gg_fg [false, true, true, true] [none, some (.int a0), some (.int v1), some (.int (0 : Int32))] rfl ?_
  refine lq_X2_nearestFree_7 a0 v1 c_huts c_food c_due c_backs c_brick _ _ _ ?_ ?_ ?_ gg_fuel (0 : Int32) h
  · intro x3_30 h
    refine gg_iload_n dX2_nearestFree_30 rfl ?_
    refine gg_iload_n dX2_nearestFree_31 rfl ?_
    refine gg_isub dX2_nearestFree_32 ?_
    cases h
    exact gg_iret dX2_nearestFree_33 rfl
  · intro x3_53 h
    refine gg_iload_n dX2_nearestFree_53 rfl ?_
    refine gg_iload_n dX2_nearestFree_54 rfl ?_
    refine gg_iadd dX2_nearestFree_55 ?_
    cases h
    exact gg_iret dX2_nearestFree_56 rfl
  · intro  h
    refine gg_bipush (-9 : Int32) dX2_nearestFree_63 (by decide) ?_
    cases h
    exact gg_iret dX2_nearestFree_65 rfl
def wd_X2_land (c_huts : Int32) (c_food : Int32) (c_due : Int32) (c_backs : Int32) (c_kind : Nat → Int32) (c_home : Nat → Int32) (c_brown : Nat → Int32) (c_brick : Nat → Int32) : va_W := [(0, .inr (2, [.int c_huts, .int c_food, .int c_due, .ref 1, .ref 2, .ref 3, .ref 4, .ref 5, .ref 6, .ref 7, .int c_backs])), (2, .inl (0, 6, .inl c_kind)), (3, .inl (0, 6, .inl c_home)), (5, .inl (0, 6, .inl c_brown)), (6, .inl (0, 6, .inl c_brick))]
def MD_X2_land : gg_M := (yX2_land, cX2_land, 2, none, 2, 45)
theorem nV_X2_land : gg_nV MD_X2_land 1 := ⟨⟨gg_mem (by decide +kernel) rfl, gg_mem cw_X2_land rfl, by decide, by decide, by decide +kernel⟩, gg_mem (by decide +kernel) rfl, gg_mem (by decide +kernel) rfl⟩
def f_X2_land (a0 : Int32) (c_huts : Int32) (c_kind : Nat → Int32) (c_home : Nat → Int32) (c_brown : Nat → Int32) (c_brick : Nat → Int32) : Option ((Nat → Int32) × (Nat → Int32)) := (f_X2_wanted a0 c_kind c_home).bind (fun v1 => (f_X2_nearestFree v1 c_huts c_brick).bind (fun v2 => gg_chk (gg_in a0 6) (gg_chk (gg_in a0 6) ((f_J9_min_7cf53 ((c_brown a0.toNatClampNeg) + (1 : Int32)) (9 : Int32)).bind (fun v3 => gg_chk (gg_in a0 6) ((some ((upd c_brown a0.toNatClampNeg v3), (upd c_brick a0.toNatClampNeg v2)))))))))
set_option maxRecDepth 20000 in
set_option maxHeartbeats 8000000 in
theorem C_X2_land (a0 : Int32) (c_huts : Int32) (c_food : Int32) (c_due : Int32) (c_backs : Int32) (c_kind : Nat → Int32) (c_home : Nat → Int32) (c_brown : Nat → Int32) (c_brick : Nat → Int32) {r0 : (Nat → Int32)} {r1 : (Nat → Int32)} (h : f_X2_land a0 c_huts c_kind c_home c_brown c_brick = some (r0, r1)) : gg_C MD_X2_land [.ref 0, .int a0] (wd_X2_land c_huts c_food c_due c_backs c_kind c_home c_brown c_brick) (none) (wd_X2_land c_huts c_food c_due c_backs c_kind c_home r0 r1) := by
  refine gg_ofG [some (.ref 0), some (.int a0)] (plainFor_of_name (by decide)) (Nat.le_of_ble_eq_true rfl) rfl ?_
  unfold f_X2_land at h
  refine gg_aload_n dX2_land_0 rfl ?_
  refine gg_get 0 fl_X2_37 dX2_land_1 rfl rfl ?_
  refine gg_iload_n dX2_land_4 rfl ?_
  refine gg_aload_n dX2_land_5 rfl ?_
  refine gg_aload_n dX2_land_6 rfl ?_
  refine gg_iload_n dX2_land_7 rfl ?_
  obtain ⟨v1, hv1, h⟩ := gg_bd h
  refine gg_callV (gg_sg [0]) [0, 1, 2] (wd_X2_land c_huts c_food c_due c_backs c_kind c_home c_brown c_brick) 0 (C_X2_wanted a0 c_huts c_food c_due c_backs c_kind c_home hv1) nV_X2_wanted ml_X2_75 rfl rfl rfl rfl rfl rfl rfl rfl rfl rfl [3, 4] 5 rfl rfl rfl rfl rfl ⟨Nat.le_of_ble_eq_true rfl, Nat.le_of_ble_eq_true rfl⟩ (Nat.le_of_ble_eq_true rfl) dX2_land_8 [.int v1, .ref 0, .int a0, .ref 6] rfl ?_
  obtain ⟨v2, hv2, h⟩ := gg_bd h
  refine gg_callV (gg_sg [0]) [0, 4] (wd_X2_land c_huts c_food c_due c_backs c_kind c_home c_brown c_brick) 0 (C_X2_nearestFree v1 c_huts c_food c_due c_backs c_brick hv2) nV_X2_nearestFree ml_X2_122 rfl rfl rfl rfl rfl rfl rfl rfl rfl rfl [1, 2, 3] 5 rfl rfl rfl rfl rfl ⟨Nat.le_of_ble_eq_true rfl, Nat.le_of_ble_eq_true rfl⟩ (Nat.le_of_ble_eq_true rfl) dX2_land_11 [.int v2, .int a0, .ref 6] rfl ?_
  obtain ⟨hb14, h⟩ := gg_ck h
  refine gg_iast 4 (wd_X2_land c_huts c_food c_due c_backs c_kind c_home c_brown (upd c_brick a0.toNatClampNeg v2)) dX2_land_14 rfl hb14 rfl ?_
  refine gg_aload_n dX2_land_15 rfl ?_
  refine gg_get 0 fl_X2_34 dX2_land_16 rfl rfl ?_
  refine gg_iload_n dX2_land_19 rfl ?_
  refine gg_aload_n dX2_land_20 rfl ?_
  refine gg_get 0 fl_X2_34 dX2_land_21 rfl rfl ?_
  refine gg_iload_n dX2_land_24 rfl ?_
  obtain ⟨hb25, h⟩ := gg_ck h
  refine gg_iald 3 dX2_land_25 rfl hb25 ?_
  refine gg_iconst (1 : Int32) dX2_land_26 (by decide) ?_
  refine gg_iadd dX2_land_27 ?_
  refine gg_bipush (9 : Int32) dX2_land_28 (by decide) ?_
  obtain ⟨v3, hv3, h⟩ := gg_bd h
  refine gg_callS (gg_sg []) [] (wd_X2_land c_huts c_food c_due c_backs c_kind c_home c_brown (upd c_brick a0.toNatClampNeg v2)) (C_J9_min_7cf53 ((c_brown a0.toNatClampNeg) + (1 : Int32)) (9 : Int32) hv3) nS_J9_min_7cf53 ml_X2_96 rfl rfl rfl rfl rfl rfl rfl [0, 1, 2, 3, 4] 5 rfl rfl rfl rfl rfl ⟨Nat.le_of_ble_eq_true rfl, Nat.le_of_ble_eq_true rfl⟩ (Nat.le_of_ble_eq_true rfl) dX2_land_30 [.int v3, .int a0, .ref 5] rfl ?_
  obtain ⟨hb33, h⟩ := gg_ck h
  refine gg_iast 3 (wd_X2_land c_huts c_food c_due c_backs c_kind c_home (upd c_brown a0.toNatClampNeg v3) (upd c_brick a0.toNatClampNeg v2)) dX2_land_33 rfl hb33 rfl ?_
  cases h
  exact gg_vret dX2_land_34 rfl
def wd_X2_passWinter (c_huts : Int32) (c_food : Int32) (c_due : Int32) (c_backs : Int32) (c_winds : Nat → Int32) (c_kind : Nat → Int32) (c_home : Nat → Int32) (c_strength : Nat → Int32) (c_brown : Nat → Int32) (c_brick : Nat → Int32) (c_back : Nat → Int32) : va_W := [(0, .inr (2, [.int c_huts, .int c_food, .int c_due, .ref 1, .ref 2, .ref 3, .ref 4, .ref 5, .ref 6, .ref 7, .int c_backs])), (1, .inl (0, 4, .inl c_winds)), (2, .inl (0, 6, .inl c_kind)), (3, .inl (0, 6, .inl c_home)), (4, .inl (0, 6, .inl c_strength)), (5, .inl (0, 6, .inl c_brown)), (6, .inl (0, 6, .inl c_brick)), (7, .inl (0, 6, .inl c_back))]
def MD_X2_passWinter : gg_M := (yX2_passWinter, cX2_passWinter, 3, none, 3, 68)
theorem nV_X2_passWinter : gg_nV MD_X2_passWinter 0 := ⟨⟨gg_mem (by decide +kernel) rfl, gg_mem cw_X2_passWinter rfl, by decide, by decide, by decide +kernel⟩, gg_mem (by decide +kernel) rfl, gg_mem (by decide +kernel) rfl⟩
def lp_X2_passWinter_12 {β : Type} (y1 : Int32) (c_huts : Int32) (c_kind : Nat → Int32) (k64 : (Int32) → (Int32) → (Nat → Int32) → (Nat → Int32) → (Nat → Int32) → Option β) : Nat → (Int32) → (Int32) → (Int32) → (Nat → Int32) → (Nat → Int32) → (Nat → Int32) → Option β
  | 0, _, _, _, _, _, _ => none
  | n + 1, x2_12, c_food_12, c_backs_12, c_strength_12, c_brick_12, c_back_12 => (if c_huts ≤ x2_12 then (k64 c_food_12 c_backs_12 c_strength_12 c_brick_12 c_back_12) else (f_X2_isThere x2_12 c_huts c_brick_12).bind (fun v2 => gg_lt (fun (c_food_58 : Int32) (c_backs_58 : Int32) (c_strength_58 : Nat → Int32) (c_brick_58 : Nat → Int32) (c_back_58 : Nat → Int32) => (lp_X2_passWinter_12 y1 c_huts c_kind k64 n (x2_12 + (1 : Int32)) c_food_58 c_backs_58 c_strength_58 c_brick_58 c_back_58)) (fun k58 => (if v2 = (0 : Int32) then (k58 c_food_12 c_backs_12 c_strength_12 c_brick_12 c_back_12) else gg_chk (gg_in x2_12 6) ((f_X3_stays (c_kind x2_12.toNatClampNeg) y1).bind (fun v3 => (if v3 = (0 : Int32) then gg_b4 (f_X2_go x2_12 y1 c_backs_12 c_kind c_strength_12 c_brick_12 c_back_12) (fun v4_0 v4_1 v4_2 v4_3 => (k58 c_food_12 v4_0 v4_1 v4_2 v4_3)) else gg_b2 (f_X2_stay x2_12 c_food_12 c_strength_12) (fun v5_0 v5_1 => (k58 v5_0 c_backs_12 v5_1 c_brick_12 c_back_12)))))))))
def lp_X2_passWinter_66 {β : Type} (c_huts : Int32) (c_backs : Int32) (c_kind : Nat → Int32) (c_home : Nat → Int32) (c_back : Nat → Int32) (k90 : (Nat → Int32) → (Nat → Int32) → Option β) : Nat → (Int32) → (Nat → Int32) → (Nat → Int32) → Option β
  | 0, _, _, _ => none
  | n + 1, x2_66, c_brown_66, c_brick_66 => (if c_backs ≤ x2_66 then (k90 c_brown_66 c_brick_66) else gg_chk (gg_in x2_66 6) (gg_b2 (f_X2_land (c_back x2_66.toNatClampNeg) c_huts c_kind c_home c_brown_66 c_brick_66) (fun v6_0 v6_1 => (lp_X2_passWinter_66 c_huts c_backs c_kind c_home c_back k90 n (x2_66 + (1 : Int32)) v6_0 v6_1))))
def f_X2_passWinter  (c_huts : Int32) (c_food : Int32) (c_due : Int32) (c_backs : Int32) (c_winds : Nat → Int32) (c_kind : Nat → Int32) (c_home : Nat → Int32) (c_strength : Nat → Int32) (c_brown : Nat → Int32) (c_brick : Nat → Int32) (c_back : Nat → Int32) : Option ((Int32) × (Int32) × (Int32) × (Nat → Int32) × (Nat → Int32) × (Nat → Int32) × (Nat → Int32)) := (f_X2_windDue c_due c_winds).bind (fun v1 => (lp_X2_passWinter_12 v1 c_huts c_kind (fun (c_food_64 : Int32) (c_backs_64 : Int32) (c_strength_64 : Nat → Int32) (c_brick_64 : Nat → Int32) (c_back_64 : Nat → Int32) => (lp_X2_passWinter_66 c_huts c_backs_64 c_kind c_home c_back_64 (fun (c_brown_90 : Nat → Int32) (c_brick_90 : Nat → Int32) => (some (c_food_64, (c_due + (1 : Int32)), c_backs_64, c_strength_64, c_brown_90, c_brick_90, c_back_64))) gg_fuel (0 : Int32) c_brown c_brick_64)) gg_fuel (0 : Int32) c_food (0 : Int32) c_strength c_brick c_back))
set_option maxRecDepth 20000 in
set_option maxHeartbeats 4000000 in
theorem lq_X2_passWinter_12 {β : Type} {res : β} {rr : Option Value} {ww : va_W} (y1 : Int32) (c_huts : Int32) (c_due : Int32) (c_winds : Nat → Int32) (c_kind : Nat → Int32) (c_home : Nat → Int32) (c_brown : Nat → Int32) (k64 : (Int32) → (Int32) → (Nat → Int32) → (Nat → Int32) → (Nat → Int32) → Option β) (hk64 : ∀ (c_food_64 : Int32) (c_backs_64 : Int32) (c_strength_64 : Nat → Int32) (c_brick_64 : Nat → Int32) (c_back_64 : Nat → Int32), k64 c_food_64 c_backs_64 c_strength_64 c_brick_64 c_back_64 = some res → gg_G MD_X2_passWinter 64 [some (.ref 0), none, none] [] (wd_X2_passWinter c_huts c_food_64 c_due c_backs_64 c_winds c_kind c_home c_strength_64 c_brown c_brick_64 c_back_64) rr ww) : ∀ (n : Nat) (x2_12 : Int32) (c_food_12 : Int32) (c_backs_12 : Int32) (c_strength_12 : Nat → Int32) (c_brick_12 : Nat → Int32) (c_back_12 : Nat → Int32), lp_X2_passWinter_12 y1 c_huts c_kind k64 n x2_12 c_food_12 c_backs_12 c_strength_12 c_brick_12 c_back_12 = some res → gg_G MD_X2_passWinter 12 [some (.ref 0), some (.int y1), some (.int x2_12)] [] (wd_X2_passWinter c_huts c_food_12 c_due c_backs_12 c_winds c_kind c_home c_strength_12 c_brown c_brick_12 c_back_12) rr ww := by
  intro n
  induction n with
  | zero =>
    intro x2_12 c_food_12 c_backs_12 c_strength_12 c_brick_12 c_back_12 h
    exact nomatch (show (none : Option β) = some res from h)
  | succ n ih =>
    intro x2_12 c_food_12 c_backs_12 c_strength_12 c_brick_12 c_back_12 h
    rw [lp_X2_passWinter_12] at h
    refine gg_iload_n dX2_passWinter_12 rfl ?_
    refine gg_aload_n dX2_passWinter_13 rfl ?_
    refine gg_get 0 fl_X2_9 dX2_passWinter_14 rfl rfl ?_
    refine gg_icmp_ge 64 dX2_passWinter_17 (by decide) (fun hc => ?_) (fun hc => ?_)
    · replace h := gg_th h hc
      refine gg_fg [true, false, false] [some (.ref 0), none, none] rfl ?_
      exact hk64 c_food_12 c_backs_12 c_strength_12 c_brick_12 c_back_12 h
    · replace h := gg_el h hc
      refine gg_aload_n dX2_passWinter_20 rfl ?_
      refine gg_iload_n dX2_passWinter_21 rfl ?_
      obtain ⟨v2, hv2, h⟩ := gg_bd h
      refine gg_callV (gg_sg [0]) [0, 6] (wd_X2_passWinter c_huts c_food_12 c_due c_backs_12 c_winds c_kind c_home c_strength_12 c_brown c_brick_12 c_back_12) 0 (C_X2_isThere x2_12 c_huts c_food_12 c_due c_backs_12 c_brick_12 hv2) nV_X2_isThere ml_X2_50 rfl rfl rfl rfl rfl rfl rfl rfl rfl rfl [1, 2, 3, 4, 5, 7] 8 rfl rfl rfl rfl rfl ⟨Nat.le_of_ble_eq_true rfl, Nat.le_of_ble_eq_true rfl⟩ (Nat.le_of_ble_eq_true rfl) dX2_passWinter_22 [.int v2] rfl ?_
      obtain ⟨k58, hke58, h⟩ := gg_lte h
      have hk58 : ∀ (c_food_58 : Int32) (c_backs_58 : Int32) (c_strength_58 : Nat → Int32) (c_brick_58 : Nat → Int32) (c_back_58 : Nat → Int32), k58 c_food_58 c_backs_58 c_strength_58 c_brick_58 c_back_58 = some res → gg_G MD_X2_passWinter 58 [some (.ref 0), some (.int y1), some (.int x2_12)] [] (wd_X2_passWinter c_huts c_food_58 c_due c_backs_58 c_winds c_kind c_home c_strength_58 c_brown c_brick_58 c_back_58) rr ww := by
        intro c_food_58 c_backs_58 c_strength_58 c_brick_58 c_back_58 h
        subst hke58
        refine gg_iinc (x2_12 + (1 : Int32)) [some (.ref 0), some (.int y1), some (.int (x2_12 + (1 : Int32)))] dX2_passWinter_58 rfl rfl rfl (Nat.le_of_ble_eq_true rfl) rfl ?_
        refine gg_goto 12 dX2_passWinter_61 (by decide) ?_
        exact ih (x2_12 + (1 : Int32)) c_food_58 c_backs_58 c_strength_58 c_brick_58 c_back_58 h
      clear hke58
      refine gg_if_ne 31 dX2_passWinter_25 (by decide) (fun hc => ?_) (fun hc => ?_)
      · replace h := gg_el h hc
        refine gg_aload_n dX2_passWinter_31 rfl ?_
        refine gg_get 0 fl_X2_25 dX2_passWinter_32 rfl rfl ?_
        refine gg_iload_n dX2_passWinter_35 rfl ?_
        obtain ⟨hb36, h⟩ := gg_ck h
        refine gg_iald 2 dX2_passWinter_36 rfl hb36 ?_
        refine gg_iload_n dX2_passWinter_37 rfl ?_
        obtain ⟨v3, hv3, h⟩ := gg_bd h
        refine gg_callS (gg_sg []) [] (wd_X2_passWinter c_huts c_food_12 c_due c_backs_12 c_winds c_kind c_home c_strength_12 c_brown c_brick_12 c_back_12) (C_X3_stays (c_kind x2_12.toNatClampNeg) y1 hv3) nS_X3_stays ml_X2_102 rfl rfl rfl rfl rfl rfl rfl [0, 1, 2, 3, 4, 5, 6, 7] 8 rfl rfl rfl rfl rfl ⟨Nat.le_of_ble_eq_true rfl, Nat.le_of_ble_eq_true rfl⟩ (Nat.le_of_ble_eq_true rfl) dX2_passWinter_38 [.int v3] rfl ?_
        refine gg_if_eq 52 dX2_passWinter_41 (by decide) (fun hc => ?_) (fun hc => ?_)
        · replace h := gg_th h hc
          refine gg_aload_n dX2_passWinter_52 rfl ?_
          refine gg_iload_n dX2_passWinter_53 rfl ?_
          refine gg_iload_n dX2_passWinter_54 rfl ?_
          obtain ⟨v4_0, v4_1, v4_2, v4_3, hv4, h⟩ := gg_bd4 h
          refine gg_callV (gg_sg [0]) [0, 2, 4, 6, 7] (wd_X2_passWinter c_huts c_food_12 c_due v4_0 c_winds c_kind c_home v4_1 c_brown v4_2 v4_3) 0 (C_X2_go x2_12 y1 c_huts c_food_12 c_due c_backs_12 c_kind c_strength_12 c_brick_12 c_back_12 hv4) nV_X2_go ml_X2_109 rfl rfl rfl rfl rfl rfl rfl rfl rfl rfl [1, 3, 5] 8 rfl rfl rfl rfl rfl ⟨Nat.le_of_ble_eq_true rfl, Nat.le_of_ble_eq_true rfl⟩ (Nat.le_of_ble_eq_true rfl) dX2_passWinter_55 [] rfl ?_
          exact hk58 c_food_12 v4_0 v4_1 v4_2 v4_3 h
        · replace h := gg_el h hc
          refine gg_aload_n dX2_passWinter_44 rfl ?_
          refine gg_iload_n dX2_passWinter_45 rfl ?_
          obtain ⟨v5_0, v5_1, hv5, h⟩ := gg_bd2 h
          refine gg_callV (gg_sg [0]) [0, 4] (wd_X2_passWinter c_huts v5_0 c_due c_backs_12 c_winds c_kind c_home v5_1 c_brown c_brick_12 c_back_12) 0 (C_X2_stay x2_12 c_huts c_food_12 c_due c_backs_12 c_strength_12 hv5) nV_X2_stay ml_X2_105 rfl rfl rfl rfl rfl rfl rfl rfl rfl rfl [1, 2, 3, 5, 6, 7] 8 rfl rfl rfl rfl rfl ⟨Nat.le_of_ble_eq_true rfl, Nat.le_of_ble_eq_true rfl⟩ (Nat.le_of_ble_eq_true rfl) dX2_passWinter_46 [] rfl ?_
          refine gg_goto 58 dX2_passWinter_49 (by decide) ?_
          exact hk58 v5_0 c_backs_12 v5_1 c_brick_12 c_back_12 h
      · replace h := gg_th h hc
        refine gg_goto 58 dX2_passWinter_28 (by decide) ?_
        exact hk58 c_food_12 c_backs_12 c_strength_12 c_brick_12 c_back_12 h
set_option maxRecDepth 20000 in
set_option maxHeartbeats 4000000 in
theorem lq_X2_passWinter_66 {β : Type} {res : β} {rr : Option Value} {ww : va_W} (c_huts : Int32) (c_food : Int32) (c_due : Int32) (c_backs : Int32) (c_winds : Nat → Int32) (c_kind : Nat → Int32) (c_home : Nat → Int32) (c_strength : Nat → Int32) (c_back : Nat → Int32) (k90 : (Nat → Int32) → (Nat → Int32) → Option β) (hk90 : ∀ (c_brown_90 : Nat → Int32) (c_brick_90 : Nat → Int32), k90 c_brown_90 c_brick_90 = some res → gg_G MD_X2_passWinter 90 [some (.ref 0), none, none] [] (wd_X2_passWinter c_huts c_food c_due c_backs c_winds c_kind c_home c_strength c_brown_90 c_brick_90 c_back) rr ww) : ∀ (n : Nat) (x2_66 : Int32) (c_brown_66 : Nat → Int32) (c_brick_66 : Nat → Int32), lp_X2_passWinter_66 c_huts c_backs c_kind c_home c_back k90 n x2_66 c_brown_66 c_brick_66 = some res → gg_G MD_X2_passWinter 66 [some (.ref 0), none, some (.int x2_66)] [] (wd_X2_passWinter c_huts c_food c_due c_backs c_winds c_kind c_home c_strength c_brown_66 c_brick_66 c_back) rr ww := by
  intro n
  induction n with
  | zero =>
    intro x2_66 c_brown_66 c_brick_66 h
    exact nomatch (show (none : Option β) = some res from h)
  | succ n ih =>
    intro x2_66 c_brown_66 c_brick_66 h
    rw [lp_X2_passWinter_66] at h
    refine gg_iload_n dX2_passWinter_66 rfl ?_
    refine gg_aload_n dX2_passWinter_67 rfl ?_
    refine gg_get 0 fl_X2_43 dX2_passWinter_68 rfl rfl ?_
    refine gg_icmp_ge 90 dX2_passWinter_71 (by decide) (fun hc => ?_) (fun hc => ?_)
    · replace h := gg_th h hc
      refine gg_fg [true, false, false] [some (.ref 0), none, none] rfl ?_
      exact hk90 c_brown_66 c_brick_66 h
    · replace h := gg_el h hc
      refine gg_aload_n dX2_passWinter_74 rfl ?_
      refine gg_aload_n dX2_passWinter_75 rfl ?_
      refine gg_get 0 fl_X2_40 dX2_passWinter_76 rfl rfl ?_
      refine gg_iload_n dX2_passWinter_79 rfl ?_
      obtain ⟨hb80, h⟩ := gg_ck h
      refine gg_iald 7 dX2_passWinter_80 rfl hb80 ?_
      obtain ⟨v6_0, v6_1, hv6, h⟩ := gg_bd2 h
      refine gg_callV (gg_sg [0]) [0, 2, 3, 5, 6] (wd_X2_passWinter c_huts c_food c_due c_backs c_winds c_kind c_home c_strength v6_0 v6_1 c_back) 0 (C_X2_land (c_back x2_66.toNatClampNeg) c_huts c_food c_due c_backs c_kind c_home c_brown_66 c_brick_66 hv6) nV_X2_land ml_X2_113 rfl rfl rfl rfl rfl rfl rfl rfl rfl rfl [1, 4, 7] 8 rfl rfl rfl rfl rfl ⟨Nat.le_of_ble_eq_true rfl, Nat.le_of_ble_eq_true rfl⟩ (Nat.le_of_ble_eq_true rfl) dX2_passWinter_81 [] rfl ?_
      refine gg_iinc (x2_66 + (1 : Int32)) [some (.ref 0), none, some (.int (x2_66 + (1 : Int32)))] dX2_passWinter_84 rfl rfl rfl (Nat.le_of_ble_eq_true rfl) rfl ?_
      refine gg_goto 66 dX2_passWinter_87 (by decide) ?_
      exact ih (x2_66 + (1 : Int32)) v6_0 v6_1 h
set_option maxRecDepth 20000 in
set_option maxHeartbeats 8000000 in
theorem C_X2_passWinter  (c_huts : Int32) (c_food : Int32) (c_due : Int32) (c_backs : Int32) (c_winds : Nat → Int32) (c_kind : Nat → Int32) (c_home : Nat → Int32) (c_strength : Nat → Int32) (c_brown : Nat → Int32) (c_brick : Nat → Int32) (c_back : Nat → Int32) {r0 : (Int32)} {r1 : (Int32)} {r2 : (Int32)} {r3 : (Nat → Int32)} {r4 : (Nat → Int32)} {r5 : (Nat → Int32)} {r6 : (Nat → Int32)} (h : f_X2_passWinter c_huts c_food c_due c_backs c_winds c_kind c_home c_strength c_brown c_brick c_back = some (r0, r1, r2, r3, r4, r5, r6)) : gg_C MD_X2_passWinter [.ref 0] (wd_X2_passWinter c_huts c_food c_due c_backs c_winds c_kind c_home c_strength c_brown c_brick c_back) (none) (wd_X2_passWinter c_huts r0 r1 r2 c_winds c_kind c_home r3 r4 r5 r6) := by
  refine gg_ofG [some (.ref 0), none, none] (plainFor_of_name (by decide)) (Nat.le_of_ble_eq_true rfl) rfl ?_
  unfold f_X2_passWinter at h
  refine gg_aload_n dX2_passWinter_0 rfl ?_
  obtain ⟨v1, hv1, h⟩ := gg_bd h
  refine gg_callV (gg_sg [0]) [0, 1] (wd_X2_passWinter c_huts c_food c_due c_backs c_winds c_kind c_home c_strength c_brown c_brick c_back) 0 (C_X2_windDue c_huts c_food c_due c_backs c_winds hv1) nV_X2_windDue ml_X2_64 rfl rfl rfl rfl rfl rfl rfl rfl rfl rfl [2, 3, 4, 5, 6, 7] 8 rfl rfl rfl rfl rfl ⟨Nat.le_of_ble_eq_true rfl, Nat.le_of_ble_eq_true rfl⟩ (Nat.le_of_ble_eq_true rfl) dX2_passWinter_1 [.int v1] rfl ?_
  refine gg_istore_n [some (.ref 0), some (.int v1), none] dX2_passWinter_4 rfl (Nat.le_of_ble_eq_true rfl) rfl ?_
  refine gg_aload_n dX2_passWinter_5 rfl ?_
  refine gg_iconst (0 : Int32) dX2_passWinter_6 (by decide) ?_
  refine gg_putf 0 (wd_X2_passWinter c_huts c_food c_due (0 : Int32) c_winds c_kind c_home c_strength c_brown c_brick c_back) fl_X2_43 dX2_passWinter_7 rfl (Nat.le_of_ble_eq_true rfl) (fun _ => ⟨rfl, rfl⟩) rfl ?_
  refine gg_iconst (0 : Int32) dX2_passWinter_10 (by decide) ?_
  refine gg_istore_n [some (.ref 0), some (.int v1), some (.int (0 : Int32))] dX2_passWinter_11 rfl (Nat.le_of_ble_eq_true rfl) rfl ?_
  refine lq_X2_passWinter_12 v1 c_huts c_due c_winds c_kind c_home c_brown _ ?_ gg_fuel (0 : Int32) c_food (0 : Int32) c_strength c_brick c_back h
  intro c_food_64 c_backs_64 c_strength_64 c_brick_64 c_back_64 h
  refine gg_iconst (0 : Int32) dX2_passWinter_64 (by decide) ?_
  refine gg_istore_n [some (.ref 0), none, some (.int (0 : Int32))] dX2_passWinter_65 rfl (Nat.le_of_ble_eq_true rfl) rfl ?_
  refine lq_X2_passWinter_66 c_huts c_food_64 c_due c_backs_64 c_winds c_kind c_home c_strength_64 c_back_64 _ ?_ gg_fuel (0 : Int32) c_brown c_brick_64 h
  intro c_brown_90 c_brick_90 h
  refine gg_aload_n dX2_passWinter_90 rfl ?_
  refine gg_dup dX2_passWinter_91 rfl ?_
  refine gg_get 0 fl_X2_18 dX2_passWinter_92 rfl rfl ?_
  refine gg_iconst (1 : Int32) dX2_passWinter_95 (by decide) ?_
  refine gg_iadd dX2_passWinter_96 ?_
  refine gg_putf 0 (wd_X2_passWinter c_huts c_food_64 (c_due + (1 : Int32)) c_backs_64 c_winds c_kind c_home c_strength_64 c_brown_90 c_brick_90 c_back_64) fl_X2_18 dX2_passWinter_97 rfl (Nat.le_of_ble_eq_true rfl) (fun _ => ⟨rfl, rfl⟩) rfl ?_
  cases h
  exact gg_vret dX2_passWinter_100 rfl
def wd_X4_doTo (c_huts : Int32) (c_food : Int32) (c_due : Int32) (c_backs : Int32) (c_winds : Nat → Int32) (c_kind : Nat → Int32) (c_home : Nat → Int32) (c_strength : Nat → Int32) (c_brown : Nat → Int32) (c_brick : Nat → Int32) (c_back : Nat → Int32) : va_W := [(0, .inr (2, [.int c_huts, .int c_food, .int c_due, .ref 1, .ref 2, .ref 3, .ref 4, .ref 5, .ref 6, .ref 7, .int c_backs])), (1, .inl (0, 4, .inl c_winds)), (2, .inl (0, 6, .inl c_kind)), (3, .inl (0, 6, .inl c_home)), (4, .inl (0, 6, .inl c_strength)), (5, .inl (0, 6, .inl c_brown)), (6, .inl (0, 6, .inl c_brick)), (7, .inl (0, 6, .inl c_back))]
def MD_X4_doTo : gg_M := (yX4_doTo, cX4_doTo, 3, none, 4, 90)
theorem nS_X4_doTo : gg_nS MD_X4_doTo 2 := ⟨⟨gg_mem (by decide +kernel) rfl, gg_mem cw_X4_doTo rfl, by decide, by decide, by decide +kernel⟩, gg_mem (by decide +kernel) rfl⟩
def f_X4_doTo (a0 : Int32) (c_huts : Int32) (c_food : Int32) (c_due : Int32) (c_backs : Int32) (c_winds : Nat → Int32) (c_kind : Nat → Int32) (c_home : Nat → Int32) (c_strength : Nat → Int32) (c_brown : Nat → Int32) (c_brick : Nat → Int32) (c_back : Nat → Int32) : Option ((Int32) × (Int32) × (Int32) × (Nat → Int32) × (Nat → Int32) × (Nat → Int32) × (Nat → Int32) × (Nat → Int32)) := gg_lt (fun (c_food_72 : Int32) (c_due_72 : Int32) (c_backs_72 : Int32) (c_home_72 : Nat → Int32) (c_strength_72 : Nat → Int32) (c_brown_72 : Nat → Int32) (c_brick_72 : Nat → Int32) (c_back_72 : Nat → Int32) => (some (c_food_72, c_due_72, c_backs_72, c_home_72, c_strength_72, c_brown_72, c_brick_72, c_back_72))) (fun k72 => ((if (a0 / (100 : Int32)) = (0 : Int32) then gg_b7 (f_X2_passWinter c_huts c_food c_due c_backs c_winds c_kind c_home c_strength c_brown c_brick c_back) (fun v1_0 v1_1 v1_2 v1_3 v1_4 v1_5 v1_6 => (k72 v1_0 v1_1 v1_2 c_home v1_3 v1_4 v1_5 v1_6)) else (if (a0 / (100 : Int32)) = (1 : Int32) then gg_b2 (f_X2_beFed ((a0 / (10 : Int32)) - (a0 / (10 : Int32)) / (10 : Int32) * (10 : Int32)) c_huts c_food c_strength c_brick) (fun v2_0 v2_1 => (k72 v2_0 c_due c_backs c_home v2_1 c_brown c_brick c_back)) else (if (a0 / (100 : Int32)) = (2 : Int32) then (f_X2_changeHomes ((a0 / (10 : Int32)) - (a0 / (10 : Int32)) / (10 : Int32) * (10 : Int32)) (a0 - a0 / (10 : Int32) * (10 : Int32)) c_huts c_home).bind (fun v3 => (k72 c_food c_due c_backs v3 c_strength c_brown c_brick c_back)) else (f_X2_lose ((a0 / (10 : Int32)) - (a0 / (10 : Int32)) / (10 : Int32) * (10 : Int32)) c_huts c_brick).bind (fun v4 => (k72 c_food c_due c_backs c_home c_strength c_brown v4 c_back)))))))
set_option maxRecDepth 20000 in
set_option maxHeartbeats 8000000 in
theorem C_X4_doTo (a0 : Int32) (c_huts : Int32) (c_food : Int32) (c_due : Int32) (c_backs : Int32) (c_winds : Nat → Int32) (c_kind : Nat → Int32) (c_home : Nat → Int32) (c_strength : Nat → Int32) (c_brown : Nat → Int32) (c_brick : Nat → Int32) (c_back : Nat → Int32) {r0 : (Int32)} {r1 : (Int32)} {r2 : (Int32)} {r3 : (Nat → Int32)} {r4 : (Nat → Int32)} {r5 : (Nat → Int32)} {r6 : (Nat → Int32)} {r7 : (Nat → Int32)} (h : f_X4_doTo a0 c_huts c_food c_due c_backs c_winds c_kind c_home c_strength c_brown c_brick c_back = some (r0, r1, r2, r3, r4, r5, r6, r7)) : gg_C MD_X4_doTo [.ref 0, .int a0] (wd_X4_doTo c_huts c_food c_due c_backs c_winds c_kind c_home c_strength c_brown c_brick c_back) (none) (wd_X4_doTo c_huts r0 r1 r2 c_winds c_kind r3 r4 r5 r6 r7) := by
  refine gg_ofG [some (.ref 0), some (.int a0), none] (plainFor_of_name (by decide)) (Nat.le_of_ble_eq_true rfl) rfl ?_
  unfold f_X4_doTo at h
  refine gg_iload_n dX4_doTo_0 rfl ?_
  refine gg_bipush (10 : Int32) dX4_doTo_1 (by decide) ?_
  refine gg_idiv dX4_doTo_3 (by decide) ?_
  refine gg_bipush (10 : Int32) dX4_doTo_4 (by decide) ?_
  refine gg_irem dX4_doTo_6 (by decide) ?_
  refine gg_istore_n [some (.ref 0), some (.int a0), some (.int ((a0 / (10 : Int32)) - (a0 / (10 : Int32)) / (10 : Int32) * (10 : Int32)))] dX4_doTo_7 rfl (Nat.le_of_ble_eq_true rfl) rfl ?_
  refine gg_iload_n dX4_doTo_8 rfl ?_
  refine gg_bipush (100 : Int32) dX4_doTo_9 (by decide) ?_
  refine gg_idiv dX4_doTo_11 (by decide) ?_
  obtain ⟨k72, hke72, h⟩ := gg_lte h
  have hk72 : ∀ (c_food_72 : Int32) (c_due_72 : Int32) (c_backs_72 : Int32) (c_home_72 : Nat → Int32) (c_strength_72 : Nat → Int32) (c_brown_72 : Nat → Int32) (c_brick_72 : Nat → Int32) (c_back_72 : Nat → Int32), k72 c_food_72 c_due_72 c_backs_72 c_home_72 c_strength_72 c_brown_72 c_brick_72 c_back_72 = some (r0, r1, r2, r3, r4, r5, r6, r7) → gg_G MD_X4_doTo 72 [none, none, none] [] (wd_X4_doTo c_huts c_food_72 c_due_72 c_backs_72 c_winds c_kind c_home_72 c_strength_72 c_brown_72 c_brick_72 c_back_72) (none) (wd_X4_doTo c_huts r0 r1 r2 c_winds c_kind r3 r4 r5 r6 r7) := by
    intro c_food_72 c_due_72 c_backs_72 c_home_72 c_strength_72 c_brown_72 c_brick_72 c_back_72 h
    subst hke72
    cases h
    exact gg_vret dX4_doTo_72 rfl
  clear hke72
  by_cases hs0 : (a0 / (100 : Int32)) = (0 : Int32)
  · replace h := gg_th h hs0
    refine gg_swIn 40 dX4_doTo_12 (by rw [hs0]; decide) (by rw [hs0]; decide) (off := (28)) (by rw [hs0]; decide) (by decide) ?_
    refine gg_aload_n dX4_doTo_40 rfl ?_
    obtain ⟨v1_0, v1_1, v1_2, v1_3, v1_4, v1_5, v1_6, hv1, h⟩ := gg_bd7 h
    refine gg_callV (gg_sg [0]) [0, 1, 2, 3, 4, 5, 6, 7] (wd_X4_doTo c_huts v1_0 v1_1 v1_2 c_winds c_kind c_home v1_3 v1_4 v1_5 v1_6) 0 (C_X2_passWinter c_huts c_food c_due c_backs c_winds c_kind c_home c_strength c_brown c_brick c_back hv1) nV_X2_passWinter ml_X4_19 rfl rfl rfl rfl rfl rfl rfl rfl rfl rfl [] 8 rfl rfl rfl rfl rfl ⟨Nat.le_of_ble_eq_true rfl, Nat.le_of_ble_eq_true rfl⟩ (Nat.le_of_ble_eq_true rfl) dX4_doTo_41 [] rfl ?_
    refine gg_goto 72 dX4_doTo_44 (by decide) ?_
    refine gg_fg [false, false, false] [none, none, none] rfl ?_
    exact hk72 v1_0 v1_1 v1_2 c_home v1_3 v1_4 v1_5 v1_6 h
  replace h := gg_el h hs0
  by_cases hs1 : (a0 / (100 : Int32)) = (1 : Int32)
  · replace h := gg_th h hs1
    refine gg_swIn 47 dX4_doTo_12 (by rw [hs1]; decide) (by rw [hs1]; decide) (off := (35)) (by rw [hs1]; decide) (by decide) ?_
    refine gg_aload_n dX4_doTo_47 rfl ?_
    refine gg_iload_n dX4_doTo_48 rfl ?_
    obtain ⟨v2_0, v2_1, hv2, h⟩ := gg_bd2 h
    refine gg_callV (gg_sg [0]) [0, 4, 6] (wd_X4_doTo c_huts v2_0 c_due c_backs c_winds c_kind c_home v2_1 c_brown c_brick c_back) 0 (C_X2_beFed ((a0 / (10 : Int32)) - (a0 / (10 : Int32)) / (10 : Int32) * (10 : Int32)) c_huts c_food c_due c_backs c_strength c_brick hv2) nV_X2_beFed ml_X4_24 rfl rfl rfl rfl rfl rfl rfl rfl rfl rfl [1, 2, 3, 5, 7] 8 rfl rfl rfl rfl rfl ⟨Nat.le_of_ble_eq_true rfl, Nat.le_of_ble_eq_true rfl⟩ (Nat.le_of_ble_eq_true rfl) dX4_doTo_49 [] rfl ?_
    refine gg_goto 72 dX4_doTo_52 (by decide) ?_
    refine gg_fg [false, false, false] [none, none, none] rfl ?_
    exact hk72 v2_0 c_due c_backs c_home v2_1 c_brown c_brick c_back h
  replace h := gg_el h hs1
  by_cases hs2 : (a0 / (100 : Int32)) = (2 : Int32)
  · replace h := gg_th h hs2
    refine gg_swIn 55 dX4_doTo_12 (by rw [hs2]; decide) (by rw [hs2]; decide) (off := (43)) (by rw [hs2]; decide) (by decide) ?_
    refine gg_aload_n dX4_doTo_55 rfl ?_
    refine gg_iload_n dX4_doTo_56 rfl ?_
    refine gg_iload_n dX4_doTo_57 rfl ?_
    refine gg_bipush (10 : Int32) dX4_doTo_58 (by decide) ?_
    refine gg_irem dX4_doTo_60 (by decide) ?_
    obtain ⟨v3, hv3, h⟩ := gg_bd h
    refine gg_callV (gg_sg [0]) [0, 3] (wd_X4_doTo c_huts c_food c_due c_backs c_winds c_kind v3 c_strength c_brown c_brick c_back) 0 (C_X2_changeHomes ((a0 / (10 : Int32)) - (a0 / (10 : Int32)) / (10 : Int32) * (10 : Int32)) (a0 - a0 / (10 : Int32) * (10 : Int32)) c_huts c_food c_due c_backs c_home hv3) nV_X2_changeHomes ml_X4_28 rfl rfl rfl rfl rfl rfl rfl rfl rfl rfl [1, 2, 4, 5, 6, 7] 8 rfl rfl rfl rfl rfl ⟨Nat.le_of_ble_eq_true rfl, Nat.le_of_ble_eq_true rfl⟩ (Nat.le_of_ble_eq_true rfl) dX4_doTo_61 [] rfl ?_
    refine gg_goto 72 dX4_doTo_64 (by decide) ?_
    refine gg_fg [false, false, false] [none, none, none] rfl ?_
    exact hk72 c_food c_due c_backs v3 c_strength c_brown c_brick c_back h
  replace h := gg_el h hs2
  refine gg_swOut 67 dX4_doTo_12 ?_ (by decide) ?_
  · have q0 := gg_ne32 hs0 (by decide : ((0 : Int32)).toInt = 0); have q1 := gg_ne32 hs1 (by decide : ((1 : Int32)).toInt = 1); have q2 := gg_ne32 hs2 (by decide : ((2 : Int32)).toInt = 2); omega
  refine gg_aload_n dX4_doTo_67 rfl ?_
  refine gg_iload_n dX4_doTo_68 rfl ?_
  obtain ⟨v4, hv4, h⟩ := gg_bd h
  refine gg_callV (gg_sg [0]) [0, 6] (wd_X4_doTo c_huts c_food c_due c_backs c_winds c_kind c_home c_strength c_brown v4 c_back) 0 (C_X2_lose ((a0 / (10 : Int32)) - (a0 / (10 : Int32)) / (10 : Int32) * (10 : Int32)) c_huts c_food c_due c_backs c_brick hv4) nV_X2_lose ml_X4_32 rfl rfl rfl rfl rfl rfl rfl rfl rfl rfl [1, 2, 3, 4, 5, 7] 8 rfl rfl rfl rfl rfl ⟨Nat.le_of_ble_eq_true rfl, Nat.le_of_ble_eq_true rfl⟩ (Nat.le_of_ble_eq_true rfl) dX4_doTo_69 [] rfl ?_
  refine gg_fg [false, false, false] [none, none, none] rfl ?_
  exact hk72 c_food c_due c_backs c_home c_strength c_brown v4 c_back h
def wd_X8_act (c_latestFinding : Int32) (c_told : Int32) (c_above : Int64) (c_below : Int64) (c_now_huts : Int32) (c_now_food : Int32) (c_now_due : Int32) (c_now_backs : Int32) (c_now_winds : Nat → Int32) (c_now_kind : Nat → Int32) (c_now_home : Nat → Int32) (c_now_strength : Nat → Int32) (c_now_brown : Nat → Int32) (c_now_brick : Nat → Int32) (c_now_back : Nat → Int32) (c_log_size : Int32) (c_log_codes : Nat → Int32) : va_W := [(0, .inr (7, [.ref 1, .ref 10, .ref 17, .ref 19, .ref 27, .ref 35, .ref 43, .ref 45, .ref 52, .ref 56, .ref 60, .ref 67, .int c_latestFinding, .int c_told, .long c_above, .long c_below])), (27, .inr (2, [.int c_now_huts, .int c_now_food, .int c_now_due, .ref 28, .ref 29, .ref 30, .ref 31, .ref 32, .ref 33, .ref 34, .int c_now_backs])), (28, .inl (0, 4, .inl c_now_winds)), (29, .inl (0, 6, .inl c_now_kind)), (30, .inl (0, 6, .inl c_now_home)), (31, .inl (0, 6, .inl c_now_strength)), (32, .inl (0, 6, .inl c_now_brown)), (33, .inl (0, 6, .inl c_now_brick)), (34, .inl (0, 6, .inl c_now_back)), (43, .inr (3, [.int c_log_size, .ref 44])), (44, .inl (0, 40, .inl c_log_codes))]
def MD_X8_act : gg_M := (yX8_act, cX8_act, 2, none, 5, 112)
theorem nV_X8_act : gg_nV MD_X8_act 1 := ⟨⟨gg_mem (by decide +kernel) rfl, gg_mem cw_X8_act rfl, by decide, by decide, by decide +kernel⟩, gg_mem (by decide +kernel) rfl, gg_mem (by decide +kernel) rfl⟩
def f_X8_act (a0 : Int32) (c_now_huts : Int32) (c_now_food : Int32) (c_now_due : Int32) (c_now_backs : Int32) (c_now_winds : Nat → Int32) (c_now_kind : Nat → Int32) (c_now_home : Nat → Int32) (c_now_strength : Nat → Int32) (c_now_brown : Nat → Int32) (c_now_brick : Nat → Int32) (c_now_back : Nat → Int32) (c_log_size : Int32) (c_log_codes : Nat → Int32) : Option ((Int32) × (Int32) × (Int32) × (Nat → Int32) × (Nat → Int32) × (Nat → Int32) × (Nat → Int32) × (Nat → Int32) × (Int32) × (Nat → Int32)) := gg_b2 (f_X4_add a0 c_log_size c_log_codes) (fun v1_0 v1_1 => gg_b8 (f_X4_doTo a0 c_now_huts c_now_food c_now_due c_now_backs c_now_winds c_now_kind c_now_home c_now_strength c_now_brown c_now_brick c_now_back) (fun v2_0 v2_1 v2_2 v2_3 v2_4 v2_5 v2_6 v2_7 => (some (v2_0, v2_1, v2_2, v2_3, v2_4, v2_5, v2_6, v2_7, v1_0, v1_1))))
set_option maxRecDepth 20000 in
set_option maxHeartbeats 8000000 in
theorem C_X8_act (a0 : Int32) (c_latestFinding : Int32) (c_told : Int32) (c_above : Int64) (c_below : Int64) (c_now_huts : Int32) (c_now_food : Int32) (c_now_due : Int32) (c_now_backs : Int32) (c_now_winds : Nat → Int32) (c_now_kind : Nat → Int32) (c_now_home : Nat → Int32) (c_now_strength : Nat → Int32) (c_now_brown : Nat → Int32) (c_now_brick : Nat → Int32) (c_now_back : Nat → Int32) (c_log_size : Int32) (c_log_codes : Nat → Int32) {r0 : (Int32)} {r1 : (Int32)} {r2 : (Int32)} {r3 : (Nat → Int32)} {r4 : (Nat → Int32)} {r5 : (Nat → Int32)} {r6 : (Nat → Int32)} {r7 : (Nat → Int32)} {r8 : (Int32)} {r9 : (Nat → Int32)} (h : f_X8_act a0 c_now_huts c_now_food c_now_due c_now_backs c_now_winds c_now_kind c_now_home c_now_strength c_now_brown c_now_brick c_now_back c_log_size c_log_codes = some (r0, r1, r2, r3, r4, r5, r6, r7, r8, r9)) : gg_C MD_X8_act [.ref 0, .int a0] (wd_X8_act c_latestFinding c_told c_above c_below c_now_huts c_now_food c_now_due c_now_backs c_now_winds c_now_kind c_now_home c_now_strength c_now_brown c_now_brick c_now_back c_log_size c_log_codes) (none) (wd_X8_act c_latestFinding c_told c_above c_below c_now_huts r0 r1 r2 c_now_winds c_now_kind r3 r4 r5 r6 r7 r8 r9) := by
  refine gg_ofG [some (.ref 0), some (.int a0)] (plainFor_of_name (by decide)) (Nat.le_of_ble_eq_true rfl) rfl ?_
  unfold f_X8_act at h
  refine gg_aload_n dX8_act_0 rfl ?_
  refine gg_get 0 fl_X8_46 dX8_act_1 rfl rfl ?_
  refine gg_iload_n dX8_act_4 rfl ?_
  obtain ⟨v1_0, v1_1, hv1, h⟩ := gg_bd2 h
  refine gg_callV (gg_sg [43]) [9, 10] (wd_X8_act c_latestFinding c_told c_above c_below c_now_huts c_now_food c_now_due c_now_backs c_now_winds c_now_kind c_now_home c_now_strength c_now_brown c_now_brick c_now_back v1_0 v1_1) 0 (C_X4_add a0 c_log_size c_log_codes hv1) nV_X4_add ml_X8_342 rfl rfl rfl rfl rfl rfl rfl rfl rfl rfl [0, 1, 2, 3, 4, 5, 6, 7, 8] 11 rfl rfl rfl rfl rfl ⟨Nat.le_of_ble_eq_true rfl, Nat.le_of_ble_eq_true rfl⟩ (Nat.le_of_ble_eq_true rfl) dX8_act_5 [] rfl ?_
  refine gg_aload_n dX8_act_8 rfl ?_
  refine gg_get 0 fl_X8_35 dX8_act_9 rfl rfl ?_
  refine gg_iload_n dX8_act_12 rfl ?_
  obtain ⟨v2_0, v2_1, v2_2, v2_3, v2_4, v2_5, v2_6, v2_7, hv2, h⟩ := gg_bd8 h
  refine gg_callS (gg_sg [27]) [1, 2, 3, 4, 5, 6, 7, 8] (wd_X8_act c_latestFinding c_told c_above c_below c_now_huts v2_0 v2_1 v2_2 c_now_winds c_now_kind v2_3 v2_4 v2_5 v2_6 v2_7 v1_0 v1_1) (C_X4_doTo a0 c_now_huts c_now_food c_now_due c_now_backs c_now_winds c_now_kind c_now_home c_now_strength c_now_brown c_now_brick c_now_back hv2) nS_X4_doTo ml_X8_345 rfl rfl rfl rfl rfl rfl rfl [0, 9, 10] 11 rfl rfl rfl rfl rfl ⟨Nat.le_of_ble_eq_true rfl, Nat.le_of_ble_eq_true rfl⟩ (Nat.le_of_ble_eq_true rfl) dX8_act_13 [] rfl ?_
  cases h
  exact gg_vret dX8_act_16 rfl
def wd_X2_thereBits (c_huts : Int32) (c_food : Int32) (c_due : Int32) (c_backs : Int32) (c_brick : Nat → Int32) : va_W := [(0, .inr (2, [.int c_huts, .int c_food, .int c_due, .ref 1, .ref 2, .ref 3, .ref 4, .ref 5, .ref 6, .ref 7, .int c_backs])), (6, .inl (0, 6, .inl c_brick))]
def MD_X2_thereBits : gg_M := (yX2_thereBits, cX2_thereBits, 3, some .int, 2, 42)
theorem nV_X2_thereBits : gg_nV MD_X2_thereBits 0 := ⟨⟨gg_mem (by decide +kernel) rfl, gg_mem cw_X2_thereBits rfl, by decide, by decide, by decide +kernel⟩, gg_mem (by decide +kernel) rfl, gg_mem (by decide +kernel) rfl⟩
def lp_X2_thereBits_4 {β : Type} (c_huts : Int32) (c_brick : Nat → Int32) (k32 : (Int32) → Option β) : Nat → (Int32) → (Int32) → Option β
  | 0, _, _ => none
  | n + 1, x1_4, x2_4 => (if c_huts ≤ x2_4 then (k32 x1_4) else (f_X2_isThere x2_4 c_huts c_brick).bind (fun v1 => gg_lt (fun (x1_26 : Int32) => (lp_X2_thereBits_4 c_huts c_brick k32 n x1_26 (x2_4 + (1 : Int32)))) (fun k26 => (if v1 = (0 : Int32) then (k26 x1_4) else (k26 (x1_4 ||| ((1 : Int32) <<< (x2_4 &&& 31))))))))
def f_X2_thereBits  (c_huts : Int32) (c_brick : Nat → Int32) : Option (Int32) := (lp_X2_thereBits_4 c_huts c_brick (fun (x1_32 : Int32) => (some x1_32)) gg_fuel (0 : Int32) (0 : Int32))
set_option maxRecDepth 20000 in
set_option maxHeartbeats 4000000 in
theorem lq_X2_thereBits_4 {β : Type} {res : β} {rr : Option Value} {ww : va_W} (c_huts : Int32) (c_food : Int32) (c_due : Int32) (c_backs : Int32) (c_brick : Nat → Int32) (k32 : (Int32) → Option β) (hk32 : ∀ (x1_32 : Int32), k32 x1_32 = some res → gg_G MD_X2_thereBits 32 [none, some (.int x1_32), none] [] (wd_X2_thereBits c_huts c_food c_due c_backs c_brick) rr ww) : ∀ (n : Nat) (x1_4 : Int32) (x2_4 : Int32), lp_X2_thereBits_4 c_huts c_brick k32 n x1_4 x2_4 = some res → gg_G MD_X2_thereBits 4 [some (.ref 0), some (.int x1_4), some (.int x2_4)] [] (wd_X2_thereBits c_huts c_food c_due c_backs c_brick) rr ww := by
  intro n
  induction n with
  | zero =>
    intro x1_4 x2_4 h
    exact nomatch (show (none : Option β) = some res from h)
  | succ n ih =>
    intro x1_4 x2_4 h
    rw [lp_X2_thereBits_4] at h
    refine gg_iload_n dX2_thereBits_4 rfl ?_
    refine gg_aload_n dX2_thereBits_5 rfl ?_
    refine gg_get 0 fl_X2_9 dX2_thereBits_6 rfl rfl ?_
    refine gg_icmp_ge 32 dX2_thereBits_9 (by decide) (fun hc => ?_) (fun hc => ?_)
    · replace h := gg_th h hc
      refine gg_fg [false, true, false] [none, some (.int x1_4), none] rfl ?_
      exact hk32 x1_4 h
    · replace h := gg_el h hc
      refine gg_aload_n dX2_thereBits_12 rfl ?_
      refine gg_iload_n dX2_thereBits_13 rfl ?_
      obtain ⟨v1, hv1, h⟩ := gg_bd h
      refine gg_callV (gg_sg [0]) [0, 1] (wd_X2_thereBits c_huts c_food c_due c_backs c_brick) 0 (C_X2_isThere x2_4 c_huts c_food c_due c_backs c_brick hv1) nV_X2_isThere ml_X2_50 rfl rfl rfl rfl rfl rfl rfl rfl rfl rfl [] 2 rfl rfl rfl rfl rfl ⟨Nat.le_of_ble_eq_true rfl, Nat.le_of_ble_eq_true rfl⟩ (Nat.le_of_ble_eq_true rfl) dX2_thereBits_14 [.int v1] rfl ?_
      obtain ⟨k26, hke26, h⟩ := gg_lte h
      have hk26 : ∀ (x1_26 : Int32), k26 x1_26 = some res → gg_G MD_X2_thereBits 26 [some (.ref 0), some (.int x1_26), some (.int x2_4)] [] (wd_X2_thereBits c_huts c_food c_due c_backs c_brick) rr ww := by
        intro x1_26 h
        subst hke26
        refine gg_iinc (x2_4 + (1 : Int32)) [some (.ref 0), some (.int x1_26), some (.int (x2_4 + (1 : Int32)))] dX2_thereBits_26 rfl rfl rfl (Nat.le_of_ble_eq_true rfl) rfl ?_
        refine gg_goto 4 dX2_thereBits_29 (by decide) ?_
        exact ih x1_26 (x2_4 + (1 : Int32)) h
      clear hke26
      refine gg_if_eq 26 dX2_thereBits_17 (by decide) (fun hc => ?_) (fun hc => ?_)
      · replace h := gg_th h hc
        exact hk26 x1_4 h
      · replace h := gg_el h hc
        refine gg_iload_n dX2_thereBits_20 rfl ?_
        refine gg_iconst (1 : Int32) dX2_thereBits_21 (by decide) ?_
        refine gg_iload_n dX2_thereBits_22 rfl ?_
        refine gg_ishl dX2_thereBits_23 ?_
        refine gg_ior dX2_thereBits_24 ?_
        refine gg_istore_n [some (.ref 0), some (.int (x1_4 ||| ((1 : Int32) <<< (x2_4 &&& 31)))), some (.int x2_4)] dX2_thereBits_25 rfl (Nat.le_of_ble_eq_true rfl) rfl ?_
        exact hk26 (x1_4 ||| ((1 : Int32) <<< (x2_4 &&& 31))) h
set_option maxRecDepth 20000 in
set_option maxHeartbeats 8000000 in
theorem C_X2_thereBits  (c_huts : Int32) (c_food : Int32) (c_due : Int32) (c_backs : Int32) (c_brick : Nat → Int32) {res : Int32} (h : f_X2_thereBits c_huts c_brick = some res) : gg_C MD_X2_thereBits [.ref 0] (wd_X2_thereBits c_huts c_food c_due c_backs c_brick) (some (.int res)) (wd_X2_thereBits c_huts c_food c_due c_backs c_brick) := by
  refine gg_ofG [some (.ref 0), none, none] (plainFor_of_name (by decide)) (Nat.le_of_ble_eq_true rfl) rfl ?_
  unfold f_X2_thereBits at h
  refine gg_iconst (0 : Int32) dX2_thereBits_0 (by decide) ?_
  refine gg_istore_n [some (.ref 0), some (.int (0 : Int32)), none] dX2_thereBits_1 rfl (Nat.le_of_ble_eq_true rfl) rfl ?_
  refine gg_iconst (0 : Int32) dX2_thereBits_2 (by decide) ?_
  refine gg_istore_n [some (.ref 0), some (.int (0 : Int32)), some (.int (0 : Int32))] dX2_thereBits_3 rfl (Nat.le_of_ble_eq_true rfl) rfl ?_
  refine lq_X2_thereBits_4 c_huts c_food c_due c_backs c_brick _ ?_ gg_fuel (0 : Int32) (0 : Int32) h
  intro x1_32 h
  refine gg_iload_n dX2_thereBits_32 rfl ?_
  cases h
  exact gg_iret dX2_thereBits_33 rfl
def wd_J6_bitCount_0f7a4  : va_W := []
def MD_J6_bitCount_0f7a4 : gg_M := (yJ6_bitCount_0f7a4, cJ6_bitCount_0f7a4, 1, some .int, 0, 0)
theorem nS_J6_bitCount_0f7a4 : gg_nS MD_J6_bitCount_0f7a4 1 := ⟨⟨gg_mem (by decide +kernel) rfl, gg_mem cw_J6_bitCount_0f7a4 rfl, by decide, by decide, by decide +kernel⟩, gg_mem (by decide +kernel) rfl⟩
def f_J6_bitCount_0f7a4 (a0 : Int32)  : Option (Int32) := (some ((((((((a0 - (((a0.toUInt32 >>> ((1 : Int32).toUInt32 &&& Int32.toUInt32 31)).toInt32) &&& (1431655765 : Int32))) &&& (858993459 : Int32)) + ((((a0 - (((a0.toUInt32 >>> ((1 : Int32).toUInt32 &&& Int32.toUInt32 31)).toInt32) &&& (1431655765 : Int32))).toUInt32 >>> ((2 : Int32).toUInt32 &&& Int32.toUInt32 31)).toInt32) &&& (858993459 : Int32))) + (((((a0 - (((a0.toUInt32 >>> ((1 : Int32).toUInt32 &&& Int32.toUInt32 31)).toInt32) &&& (1431655765 : Int32))) &&& (858993459 : Int32)) + ((((a0 - (((a0.toUInt32 >>> ((1 : Int32).toUInt32 &&& Int32.toUInt32 31)).toInt32) &&& (1431655765 : Int32))).toUInt32 >>> ((2 : Int32).toUInt32 &&& Int32.toUInt32 31)).toInt32) &&& (858993459 : Int32))).toUInt32 >>> ((4 : Int32).toUInt32 &&& Int32.toUInt32 31)).toInt32)) &&& (252645135 : Int32)) + (((((((a0 - (((a0.toUInt32 >>> ((1 : Int32).toUInt32 &&& Int32.toUInt32 31)).toInt32) &&& (1431655765 : Int32))) &&& (858993459 : Int32)) + ((((a0 - (((a0.toUInt32 >>> ((1 : Int32).toUInt32 &&& Int32.toUInt32 31)).toInt32) &&& (1431655765 : Int32))).toUInt32 >>> ((2 : Int32).toUInt32 &&& Int32.toUInt32 31)).toInt32) &&& (858993459 : Int32))) + (((((a0 - (((a0.toUInt32 >>> ((1 : Int32).toUInt32 &&& Int32.toUInt32 31)).toInt32) &&& (1431655765 : Int32))) &&& (858993459 : Int32)) + ((((a0 - (((a0.toUInt32 >>> ((1 : Int32).toUInt32 &&& Int32.toUInt32 31)).toInt32) &&& (1431655765 : Int32))).toUInt32 >>> ((2 : Int32).toUInt32 &&& Int32.toUInt32 31)).toInt32) &&& (858993459 : Int32))).toUInt32 >>> ((4 : Int32).toUInt32 &&& Int32.toUInt32 31)).toInt32)) &&& (252645135 : Int32)).toUInt32 >>> ((8 : Int32).toUInt32 &&& Int32.toUInt32 31)).toInt32)) + ((((((((a0 - (((a0.toUInt32 >>> ((1 : Int32).toUInt32 &&& Int32.toUInt32 31)).toInt32) &&& (1431655765 : Int32))) &&& (858993459 : Int32)) + ((((a0 - (((a0.toUInt32 >>> ((1 : Int32).toUInt32 &&& Int32.toUInt32 31)).toInt32) &&& (1431655765 : Int32))).toUInt32 >>> ((2 : Int32).toUInt32 &&& Int32.toUInt32 31)).toInt32) &&& (858993459 : Int32))) + (((((a0 - (((a0.toUInt32 >>> ((1 : Int32).toUInt32 &&& Int32.toUInt32 31)).toInt32) &&& (1431655765 : Int32))) &&& (858993459 : Int32)) + ((((a0 - (((a0.toUInt32 >>> ((1 : Int32).toUInt32 &&& Int32.toUInt32 31)).toInt32) &&& (1431655765 : Int32))).toUInt32 >>> ((2 : Int32).toUInt32 &&& Int32.toUInt32 31)).toInt32) &&& (858993459 : Int32))).toUInt32 >>> ((4 : Int32).toUInt32 &&& Int32.toUInt32 31)).toInt32)) &&& (252645135 : Int32)) + (((((((a0 - (((a0.toUInt32 >>> ((1 : Int32).toUInt32 &&& Int32.toUInt32 31)).toInt32) &&& (1431655765 : Int32))) &&& (858993459 : Int32)) + ((((a0 - (((a0.toUInt32 >>> ((1 : Int32).toUInt32 &&& Int32.toUInt32 31)).toInt32) &&& (1431655765 : Int32))).toUInt32 >>> ((2 : Int32).toUInt32 &&& Int32.toUInt32 31)).toInt32) &&& (858993459 : Int32))) + (((((a0 - (((a0.toUInt32 >>> ((1 : Int32).toUInt32 &&& Int32.toUInt32 31)).toInt32) &&& (1431655765 : Int32))) &&& (858993459 : Int32)) + ((((a0 - (((a0.toUInt32 >>> ((1 : Int32).toUInt32 &&& Int32.toUInt32 31)).toInt32) &&& (1431655765 : Int32))).toUInt32 >>> ((2 : Int32).toUInt32 &&& Int32.toUInt32 31)).toInt32) &&& (858993459 : Int32))).toUInt32 >>> ((4 : Int32).toUInt32 &&& Int32.toUInt32 31)).toInt32)) &&& (252645135 : Int32)).toUInt32 >>> ((8 : Int32).toUInt32 &&& Int32.toUInt32 31)).toInt32)).toUInt32 >>> ((16 : Int32).toUInt32 &&& Int32.toUInt32 31)).toInt32)) &&& (63 : Int32)))
set_option maxRecDepth 20000 in
set_option maxHeartbeats 8000000 in
theorem C_J6_bitCount_0f7a4 (a0 : Int32)  {res : Int32} (h : f_J6_bitCount_0f7a4 a0 = some res) : gg_C MD_J6_bitCount_0f7a4 [.int a0] (wd_J6_bitCount_0f7a4) (some (.int res)) (wd_J6_bitCount_0f7a4) := by
  refine gg_ofG [some (.int a0)] (by decide +kernel) (Nat.le_of_ble_eq_true rfl) rfl ?_
  unfold f_J6_bitCount_0f7a4 at h
  refine gg_iload_n dJ6_bitCount_0f7a4_0 rfl ?_
  refine gg_iload_n dJ6_bitCount_0f7a4_1 rfl ?_
  refine gg_iconst (1 : Int32) dJ6_bitCount_0f7a4_2 (by decide) ?_
  refine gg_iushr dJ6_bitCount_0f7a4_3 ?_
  refine gg_ldcw (1431655765 : Int32) dJ6_bitCount_0f7a4_4 (gg_mem (by decide +kernel) rfl) ?_
  refine gg_iand dJ6_bitCount_0f7a4_7 ?_
  refine gg_isub dJ6_bitCount_0f7a4_8 ?_
  refine gg_istore_n [some (.int (a0 - (((a0.toUInt32 >>> ((1 : Int32).toUInt32 &&& Int32.toUInt32 31)).toInt32) &&& (1431655765 : Int32))))] dJ6_bitCount_0f7a4_9 rfl (Nat.le_of_ble_eq_true rfl) rfl ?_
  refine gg_iload_n dJ6_bitCount_0f7a4_10 rfl ?_
  refine gg_ldcw (858993459 : Int32) dJ6_bitCount_0f7a4_11 (gg_mem (by decide +kernel) rfl) ?_
  refine gg_iand dJ6_bitCount_0f7a4_14 ?_
  refine gg_iload_n dJ6_bitCount_0f7a4_15 rfl ?_
  refine gg_iconst (2 : Int32) dJ6_bitCount_0f7a4_16 (by decide) ?_
  refine gg_iushr dJ6_bitCount_0f7a4_17 ?_
  refine gg_ldcw (858993459 : Int32) dJ6_bitCount_0f7a4_18 (gg_mem (by decide +kernel) rfl) ?_
  refine gg_iand dJ6_bitCount_0f7a4_21 ?_
  refine gg_iadd dJ6_bitCount_0f7a4_22 ?_
  refine gg_istore_n [some (.int (((a0 - (((a0.toUInt32 >>> ((1 : Int32).toUInt32 &&& Int32.toUInt32 31)).toInt32) &&& (1431655765 : Int32))) &&& (858993459 : Int32)) + ((((a0 - (((a0.toUInt32 >>> ((1 : Int32).toUInt32 &&& Int32.toUInt32 31)).toInt32) &&& (1431655765 : Int32))).toUInt32 >>> ((2 : Int32).toUInt32 &&& Int32.toUInt32 31)).toInt32) &&& (858993459 : Int32))))] dJ6_bitCount_0f7a4_23 rfl (Nat.le_of_ble_eq_true rfl) rfl ?_
  refine gg_iload_n dJ6_bitCount_0f7a4_24 rfl ?_
  refine gg_iload_n dJ6_bitCount_0f7a4_25 rfl ?_
  refine gg_iconst (4 : Int32) dJ6_bitCount_0f7a4_26 (by decide) ?_
  refine gg_iushr dJ6_bitCount_0f7a4_27 ?_
  refine gg_iadd dJ6_bitCount_0f7a4_28 ?_
  refine gg_ldcw (252645135 : Int32) dJ6_bitCount_0f7a4_29 (gg_mem (by decide +kernel) rfl) ?_
  refine gg_iand dJ6_bitCount_0f7a4_32 ?_
  refine gg_istore_n [some (.int (((((a0 - (((a0.toUInt32 >>> ((1 : Int32).toUInt32 &&& Int32.toUInt32 31)).toInt32) &&& (1431655765 : Int32))) &&& (858993459 : Int32)) + ((((a0 - (((a0.toUInt32 >>> ((1 : Int32).toUInt32 &&& Int32.toUInt32 31)).toInt32) &&& (1431655765 : Int32))).toUInt32 >>> ((2 : Int32).toUInt32 &&& Int32.toUInt32 31)).toInt32) &&& (858993459 : Int32))) + (((((a0 - (((a0.toUInt32 >>> ((1 : Int32).toUInt32 &&& Int32.toUInt32 31)).toInt32) &&& (1431655765 : Int32))) &&& (858993459 : Int32)) + ((((a0 - (((a0.toUInt32 >>> ((1 : Int32).toUInt32 &&& Int32.toUInt32 31)).toInt32) &&& (1431655765 : Int32))).toUInt32 >>> ((2 : Int32).toUInt32 &&& Int32.toUInt32 31)).toInt32) &&& (858993459 : Int32))).toUInt32 >>> ((4 : Int32).toUInt32 &&& Int32.toUInt32 31)).toInt32)) &&& (252645135 : Int32)))] dJ6_bitCount_0f7a4_33 rfl (Nat.le_of_ble_eq_true rfl) rfl ?_
  refine gg_iload_n dJ6_bitCount_0f7a4_34 rfl ?_
  refine gg_iload_n dJ6_bitCount_0f7a4_35 rfl ?_
  refine gg_bipush (8 : Int32) dJ6_bitCount_0f7a4_36 (by decide) ?_
  refine gg_iushr dJ6_bitCount_0f7a4_38 ?_
  refine gg_iadd dJ6_bitCount_0f7a4_39 ?_
  refine gg_istore_n [some (.int ((((((a0 - (((a0.toUInt32 >>> ((1 : Int32).toUInt32 &&& Int32.toUInt32 31)).toInt32) &&& (1431655765 : Int32))) &&& (858993459 : Int32)) + ((((a0 - (((a0.toUInt32 >>> ((1 : Int32).toUInt32 &&& Int32.toUInt32 31)).toInt32) &&& (1431655765 : Int32))).toUInt32 >>> ((2 : Int32).toUInt32 &&& Int32.toUInt32 31)).toInt32) &&& (858993459 : Int32))) + (((((a0 - (((a0.toUInt32 >>> ((1 : Int32).toUInt32 &&& Int32.toUInt32 31)).toInt32) &&& (1431655765 : Int32))) &&& (858993459 : Int32)) + ((((a0 - (((a0.toUInt32 >>> ((1 : Int32).toUInt32 &&& Int32.toUInt32 31)).toInt32) &&& (1431655765 : Int32))).toUInt32 >>> ((2 : Int32).toUInt32 &&& Int32.toUInt32 31)).toInt32) &&& (858993459 : Int32))).toUInt32 >>> ((4 : Int32).toUInt32 &&& Int32.toUInt32 31)).toInt32)) &&& (252645135 : Int32)) + (((((((a0 - (((a0.toUInt32 >>> ((1 : Int32).toUInt32 &&& Int32.toUInt32 31)).toInt32) &&& (1431655765 : Int32))) &&& (858993459 : Int32)) + ((((a0 - (((a0.toUInt32 >>> ((1 : Int32).toUInt32 &&& Int32.toUInt32 31)).toInt32) &&& (1431655765 : Int32))).toUInt32 >>> ((2 : Int32).toUInt32 &&& Int32.toUInt32 31)).toInt32) &&& (858993459 : Int32))) + (((((a0 - (((a0.toUInt32 >>> ((1 : Int32).toUInt32 &&& Int32.toUInt32 31)).toInt32) &&& (1431655765 : Int32))) &&& (858993459 : Int32)) + ((((a0 - (((a0.toUInt32 >>> ((1 : Int32).toUInt32 &&& Int32.toUInt32 31)).toInt32) &&& (1431655765 : Int32))).toUInt32 >>> ((2 : Int32).toUInt32 &&& Int32.toUInt32 31)).toInt32) &&& (858993459 : Int32))).toUInt32 >>> ((4 : Int32).toUInt32 &&& Int32.toUInt32 31)).toInt32)) &&& (252645135 : Int32)).toUInt32 >>> ((8 : Int32).toUInt32 &&& Int32.toUInt32 31)).toInt32)))] dJ6_bitCount_0f7a4_40 rfl (Nat.le_of_ble_eq_true rfl) rfl ?_
  refine gg_iload_n dJ6_bitCount_0f7a4_41 rfl ?_
  refine gg_iload_n dJ6_bitCount_0f7a4_42 rfl ?_
  refine gg_bipush (16 : Int32) dJ6_bitCount_0f7a4_43 (by decide) ?_
  refine gg_iushr dJ6_bitCount_0f7a4_45 ?_
  refine gg_iadd dJ6_bitCount_0f7a4_46 ?_
  refine gg_istore_n [some (.int (((((((a0 - (((a0.toUInt32 >>> ((1 : Int32).toUInt32 &&& Int32.toUInt32 31)).toInt32) &&& (1431655765 : Int32))) &&& (858993459 : Int32)) + ((((a0 - (((a0.toUInt32 >>> ((1 : Int32).toUInt32 &&& Int32.toUInt32 31)).toInt32) &&& (1431655765 : Int32))).toUInt32 >>> ((2 : Int32).toUInt32 &&& Int32.toUInt32 31)).toInt32) &&& (858993459 : Int32))) + (((((a0 - (((a0.toUInt32 >>> ((1 : Int32).toUInt32 &&& Int32.toUInt32 31)).toInt32) &&& (1431655765 : Int32))) &&& (858993459 : Int32)) + ((((a0 - (((a0.toUInt32 >>> ((1 : Int32).toUInt32 &&& Int32.toUInt32 31)).toInt32) &&& (1431655765 : Int32))).toUInt32 >>> ((2 : Int32).toUInt32 &&& Int32.toUInt32 31)).toInt32) &&& (858993459 : Int32))).toUInt32 >>> ((4 : Int32).toUInt32 &&& Int32.toUInt32 31)).toInt32)) &&& (252645135 : Int32)) + (((((((a0 - (((a0.toUInt32 >>> ((1 : Int32).toUInt32 &&& Int32.toUInt32 31)).toInt32) &&& (1431655765 : Int32))) &&& (858993459 : Int32)) + ((((a0 - (((a0.toUInt32 >>> ((1 : Int32).toUInt32 &&& Int32.toUInt32 31)).toInt32) &&& (1431655765 : Int32))).toUInt32 >>> ((2 : Int32).toUInt32 &&& Int32.toUInt32 31)).toInt32) &&& (858993459 : Int32))) + (((((a0 - (((a0.toUInt32 >>> ((1 : Int32).toUInt32 &&& Int32.toUInt32 31)).toInt32) &&& (1431655765 : Int32))) &&& (858993459 : Int32)) + ((((a0 - (((a0.toUInt32 >>> ((1 : Int32).toUInt32 &&& Int32.toUInt32 31)).toInt32) &&& (1431655765 : Int32))).toUInt32 >>> ((2 : Int32).toUInt32 &&& Int32.toUInt32 31)).toInt32) &&& (858993459 : Int32))).toUInt32 >>> ((4 : Int32).toUInt32 &&& Int32.toUInt32 31)).toInt32)) &&& (252645135 : Int32)).toUInt32 >>> ((8 : Int32).toUInt32 &&& Int32.toUInt32 31)).toInt32)) + ((((((((a0 - (((a0.toUInt32 >>> ((1 : Int32).toUInt32 &&& Int32.toUInt32 31)).toInt32) &&& (1431655765 : Int32))) &&& (858993459 : Int32)) + ((((a0 - (((a0.toUInt32 >>> ((1 : Int32).toUInt32 &&& Int32.toUInt32 31)).toInt32) &&& (1431655765 : Int32))).toUInt32 >>> ((2 : Int32).toUInt32 &&& Int32.toUInt32 31)).toInt32) &&& (858993459 : Int32))) + (((((a0 - (((a0.toUInt32 >>> ((1 : Int32).toUInt32 &&& Int32.toUInt32 31)).toInt32) &&& (1431655765 : Int32))) &&& (858993459 : Int32)) + ((((a0 - (((a0.toUInt32 >>> ((1 : Int32).toUInt32 &&& Int32.toUInt32 31)).toInt32) &&& (1431655765 : Int32))).toUInt32 >>> ((2 : Int32).toUInt32 &&& Int32.toUInt32 31)).toInt32) &&& (858993459 : Int32))).toUInt32 >>> ((4 : Int32).toUInt32 &&& Int32.toUInt32 31)).toInt32)) &&& (252645135 : Int32)) + (((((((a0 - (((a0.toUInt32 >>> ((1 : Int32).toUInt32 &&& Int32.toUInt32 31)).toInt32) &&& (1431655765 : Int32))) &&& (858993459 : Int32)) + ((((a0 - (((a0.toUInt32 >>> ((1 : Int32).toUInt32 &&& Int32.toUInt32 31)).toInt32) &&& (1431655765 : Int32))).toUInt32 >>> ((2 : Int32).toUInt32 &&& Int32.toUInt32 31)).toInt32) &&& (858993459 : Int32))) + (((((a0 - (((a0.toUInt32 >>> ((1 : Int32).toUInt32 &&& Int32.toUInt32 31)).toInt32) &&& (1431655765 : Int32))) &&& (858993459 : Int32)) + ((((a0 - (((a0.toUInt32 >>> ((1 : Int32).toUInt32 &&& Int32.toUInt32 31)).toInt32) &&& (1431655765 : Int32))).toUInt32 >>> ((2 : Int32).toUInt32 &&& Int32.toUInt32 31)).toInt32) &&& (858993459 : Int32))).toUInt32 >>> ((4 : Int32).toUInt32 &&& Int32.toUInt32 31)).toInt32)) &&& (252645135 : Int32)).toUInt32 >>> ((8 : Int32).toUInt32 &&& Int32.toUInt32 31)).toInt32)).toUInt32 >>> ((16 : Int32).toUInt32 &&& Int32.toUInt32 31)).toInt32)))] dJ6_bitCount_0f7a4_47 rfl (Nat.le_of_ble_eq_true rfl) rfl ?_
  refine gg_iload_n dJ6_bitCount_0f7a4_48 rfl ?_
  refine gg_bipush (63 : Int32) dJ6_bitCount_0f7a4_49 (by decide) ?_
  refine gg_iand dJ6_bitCount_0f7a4_51 ?_
  cases h
  exact gg_iret dJ6_bitCount_0f7a4_52 rfl
