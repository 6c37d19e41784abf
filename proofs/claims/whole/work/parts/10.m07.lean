def wd_X3_greatestPart  : va_W := []
def MD_X3_greatestPart : gg_M := (yX3_greatestPart, cX3_greatestPart, 6, some .int, 2, 42)
theorem nS_X3_greatestPart : gg_nS MD_X3_greatestPart 2 := ⟨⟨gg_mem (by decide +kernel) rfl, gg_mem cw_X3_greatestPart rfl, by decide, by decide, by decide +kernel⟩, gg_mem (by decide +kernel) rfl⟩
def lp_X3_greatestPart_16 {β : Type} (y0 : Int32) (y1 : Int32) (y3 : Int32) (k52 : (Int32) → Option β) : Nat → (Int32) → (Int32) → Option β
  | 0, _, _ => none
  | n + 1, x4_16, x5_16 => (if (6 : Int32) ≤ x5_16 then (k52 x4_16) else gg_lt (fun (x4_46 : Int32) => (lp_X3_greatestPart_16 y0 y1 y3 k52 n x4_46 (x5_16 + (1 : Int32)))) (fun k46 => (if ((y0 >>> (x5_16 &&& 31)) &&& (1 : Int32)) = (1 : Int32) then (f_X3_tiredBy x5_16 y1).bind (fun v1 => (if v1 = y3 then (k46 (x4_16 + (1 : Int32))) else (k46 x4_16))) else (k46 x4_16))))
def lp_X3_greatestPart_4 {β : Type} (y0 : Int32) (y1 : Int32) (k65 : (Int32) → Option β) : Nat → (Int32) → (Int32) → Option β
  | 0, _, _ => none
  | n + 1, x2_4, x3_4 => (if (11 : Int32) < x3_4 then (k65 x2_4) else (lp_X3_greatestPart_16 y0 y1 x3_4 (fun (x4_52 : Int32) => (f_J9_max_7cf53 x2_4 x4_52).bind (fun v2 => (lp_X3_greatestPart_4 y0 y1 k65 n v2 (x3_4 + (1 : Int32))))) gg_fuel (0 : Int32) (0 : Int32)))
def f_X3_greatestPart (a0 : Int32) (a1 : Int32)  : Option (Int32) := (lp_X3_greatestPart_4 a0 a1 (fun (x2_65 : Int32) => (some x2_65)) gg_fuel (0 : Int32) (0 : Int32))
set_option maxRecDepth 20000 in
set_option maxHeartbeats 4000000 in
theorem lq_X3_greatestPart_16 {β : Type} {res : β} {rr : Option Value} {ww : va_W} (y0 : Int32) (y1 : Int32) (y2 : Int32) (y3 : Int32) (k52 : (Int32) → Option β) (hk52 : ∀ (x4_52 : Int32), k52 x4_52 = some res → gg_G MD_X3_greatestPart 52 [some (.int y0), some (.int y1), some (.int y2), some (.int y3), some (.int x4_52), none] [] (wd_X3_greatestPart) rr ww) : ∀ (n : Nat) (x4_16 : Int32) (x5_16 : Int32), lp_X3_greatestPart_16 y0 y1 y3 k52 n x4_16 x5_16 = some res → gg_G MD_X3_greatestPart 16 [some (.int y0), some (.int y1), some (.int y2), some (.int y3), some (.int x4_16), some (.int x5_16)] [] (wd_X3_greatestPart) rr ww := by
  intro n
  induction n with
  | zero =>
    intro x4_16 x5_16 h
    exact nomatch (show (none : Option β) = some res from h)
  | succ n ih =>
    intro x4_16 x5_16 h
    rw [lp_X3_greatestPart_16] at h
    refine gg_iload dX3_greatestPart_16 rfl ?_
    refine gg_bipush (6 : Int32) dX3_greatestPart_18 (by decide) ?_
    refine gg_icmp_ge 52 dX3_greatestPart_20 (by decide) (fun hc => ?_) (fun hc => ?_)
    · replace h := gg_th h hc
      refine gg_fg [true, true, true, true, true, false] [some (.int y0), some (.int y1), some (.int y2), some (.int y3), some (.int x4_16), none] rfl ?_
      exact hk52 x4_16 h
    · replace h := gg_el h hc
      refine gg_iload_n dX3_greatestPart_23 rfl ?_
      refine gg_iload dX3_greatestPart_24 rfl ?_
      refine gg_ishr dX3_greatestPart_26 ?_
      refine gg_iconst (1 : Int32) dX3_greatestPart_27 (by decide) ?_
      refine gg_iand dX3_greatestPart_28 ?_
      refine gg_iconst (1 : Int32) dX3_greatestPart_29 (by decide) ?_
      obtain ⟨k46, hke46, h⟩ := gg_lte h
      have hk46 : ∀ (x4_46 : Int32), k46 x4_46 = some res → gg_G MD_X3_greatestPart 46 [some (.int y0), some (.int y1), some (.int y2), some (.int y3), some (.int x4_46), some (.int x5_16)] [] (wd_X3_greatestPart) rr ww := by
        intro x4_46 h
        subst hke46
        refine gg_iinc (x5_16 + (1 : Int32)) [some (.int y0), some (.int y1), some (.int y2), some (.int y3), some (.int x4_46), some (.int (x5_16 + (1 : Int32)))] dX3_greatestPart_46 rfl rfl rfl (Nat.le_of_ble_eq_true rfl) rfl ?_
        refine gg_goto 16 dX3_greatestPart_49 (by decide) ?_
        exact ih x4_46 (x5_16 + (1 : Int32)) h
      clear hke46
      refine gg_icmp_ne 46 dX3_greatestPart_30 (by decide) (fun hc => ?_) (fun hc => ?_)
      · replace h := gg_el h hc
        exact hk46 x4_16 h
      · replace h := gg_th h hc
        refine gg_iload dX3_greatestPart_33 rfl ?_
        refine gg_iload_n dX3_greatestPart_35 rfl ?_
        obtain ⟨v1, hv1, h⟩ := gg_bd h
        refine gg_callS (gg_sg []) [] (wd_X3_greatestPart) (C_X3_tiredBy x5_16 y1 hv1) nS_X3_tiredBy ml_X3_23 rfl rfl rfl rfl rfl rfl rfl [] 0 rfl rfl rfl rfl rfl ⟨Nat.le_of_ble_eq_true rfl, Nat.le_of_ble_eq_true rfl⟩ (Nat.le_of_ble_eq_true rfl) dX3_greatestPart_36 [.int v1] rfl ?_
        refine gg_iload_n dX3_greatestPart_39 rfl ?_
        refine gg_icmp_ne 46 dX3_greatestPart_40 (by decide) (fun hc => ?_) (fun hc => ?_)
        · replace h := gg_el h hc
          exact hk46 x4_16 h
        · replace h := gg_th h hc
          refine gg_iinc (x4_16 + (1 : Int32)) [some (.int y0), some (.int y1), some (.int y2), some (.int y3), some (.int (x4_16 + (1 : Int32))), some (.int x5_16)] dX3_greatestPart_43 rfl rfl rfl (Nat.le_of_ble_eq_true rfl) rfl ?_
          exact hk46 (x4_16 + (1 : Int32)) h
set_option maxRecDepth 20000 in
set_option maxHeartbeats 4000000 in
theorem lq_X3_greatestPart_4 {β : Type} {res : β} {rr : Option Value} {ww : va_W} (y0 : Int32) (y1 : Int32) (k65 : (Int32) → Option β) (hk65 : ∀ (x2_65 : Int32), k65 x2_65 = some res → gg_G MD_X3_greatestPart 65 [none, none, some (.int x2_65), none, none, none] [] (wd_X3_greatestPart) rr ww) : ∀ (n : Nat) (x2_4 : Int32) (x3_4 : Int32), lp_X3_greatestPart_4 y0 y1 k65 n x2_4 x3_4 = some res → gg_G MD_X3_greatestPart 4 [some (.int y0), some (.int y1), some (.int x2_4), some (.int x3_4), none, none] [] (wd_X3_greatestPart) rr ww := by
  intro n
  induction n with
  | zero =>
    intro x2_4 x3_4 h
    exact nomatch (show (none : Option β) = some res from h)
  | succ n ih =>
    intro x2_4 x3_4 h
    rw [lp_X3_greatestPart_4] at h
    refine gg_iload_n dX3_greatestPart_4 rfl ?_
    refine gg_bipush (11 : Int32) dX3_greatestPart_5 (by decide) ?_
    refine gg_icmp_gt 65 dX3_greatestPart_7 (by decide) (fun hc => ?_) (fun hc => ?_)
    · replace h := gg_th h hc
      refine gg_fg [false, false, true, false, false, false] [none, none, some (.int x2_4), none, none, none] rfl ?_
      exact hk65 x2_4 h
    · replace h := gg_el h hc
      refine gg_iconst (0 : Int32) dX3_greatestPart_10 (by decide) ?_
      refine gg_istore [some (.int y0), some (.int y1), some (.int x2_4), some (.int x3_4), some (.int (0 : Int32)), none] dX3_greatestPart_11 rfl (Nat.le_of_ble_eq_true rfl) rfl ?_
      refine gg_iconst (0 : Int32) dX3_greatestPart_13 (by decide) ?_
      refine gg_istore [some (.int y0), some (.int y1), some (.int x2_4), some (.int x3_4), some (.int (0 : Int32)), some (.int (0 : Int32))] dX3_greatestPart_14 rfl (Nat.le_of_ble_eq_true rfl) rfl ?_
      refine lq_X3_greatestPart_16 y0 y1 x2_4 x3_4 _ ?_ gg_fuel (0 : Int32) (0 : Int32) h
      intro x4_52 h
      refine gg_iload_n dX3_greatestPart_52 rfl ?_
      refine gg_iload dX3_greatestPart_53 rfl ?_
      obtain ⟨v2, hv2, h⟩ := gg_bd h
      refine gg_callS (gg_sg []) [] (wd_X3_greatestPart) (C_J9_max_7cf53 x2_4 x4_52 hv2) nS_J9_max_7cf53 ml_X3_26 rfl rfl rfl rfl rfl rfl rfl [] 0 rfl rfl rfl rfl rfl ⟨Nat.le_of_ble_eq_true rfl, Nat.le_of_ble_eq_true rfl⟩ (Nat.le_of_ble_eq_true rfl) dX3_greatestPart_55 [.int v2] rfl ?_
      refine gg_istore_n [some (.int y0), some (.int y1), some (.int v2), some (.int x3_4), some (.int x4_52), none] dX3_greatestPart_58 rfl (Nat.le_of_ble_eq_true rfl) rfl ?_
      refine gg_iinc (x3_4 + (1 : Int32)) [some (.int y0), some (.int y1), some (.int v2), some (.int (x3_4 + (1 : Int32))), some (.int x4_52), none] dX3_greatestPart_59 rfl rfl rfl (Nat.le_of_ble_eq_true rfl) rfl ?_
      refine gg_goto 4 dX3_greatestPart_62 (by decide) ?_
      refine gg_fg [true, true, true, true, false, false] [some (.int y0), some (.int y1), some (.int v2), some (.int (x3_4 + (1 : Int32))), none, none] rfl ?_
      exact ih v2 (x3_4 + (1 : Int32)) h
set_option maxRecDepth 20000 in
set_option maxHeartbeats 8000000 in
theorem C_X3_greatestPart (a0 : Int32) (a1 : Int32)  {res : Int32} (h : f_X3_greatestPart a0 a1 = some res) : gg_C MD_X3_greatestPart [.int a0, .int a1] (wd_X3_greatestPart) (some (.int res)) (wd_X3_greatestPart) := by
  refine gg_ofG [some (.int a0), some (.int a1), none, none, none, none] (plainFor_of_name (by decide)) (Nat.le_of_ble_eq_true rfl) rfl ?_
  unfold f_X3_greatestPart at h
  refine gg_iconst (0 : Int32) dX3_greatestPart_0 (by decide) ?_
  refine gg_istore_n [some (.int a0), some (.int a1), some (.int (0 : Int32)), none, none, none] dX3_greatestPart_1 rfl (Nat.le_of_ble_eq_true rfl) rfl ?_
  refine gg_iconst (0 : Int32) dX3_greatestPart_2 (by decide) ?_
  refine gg_istore_n [some (.int a0), some (.int a1), some (.int (0 : Int32)), some (.int (0 : Int32)), none, none] dX3_greatestPart_3 rfl (Nat.le_of_ble_eq_true rfl) rfl ?_
  refine lq_X3_greatestPart_4 a0 a1 _ ?_ gg_fuel (0 : Int32) (0 : Int32) h
  intro x2_65 h
  refine gg_iload_n dX3_greatestPart_65 rfl ?_
  cases h
  exact gg_iret dX3_greatestPart_66 rfl
def wd_X8_test (c_latestFinding : Int32) (c_told : Int32) (c_above : Int64) (c_below : Int64) (c_rows_most : Int32) (c_rows_sizes : Nat → Int32) (c_rows_cells : Nat → Nat → Int32) (c_now_huts : Int32) (c_now_food : Int32) (c_now_due : Int32) (c_now_backs : Int32) (c_found : Nat → Int32) : va_W := [(0, .inr (7, [.ref 1, .ref 10, .ref 17, .ref 19, .ref 27, .ref 35, .ref 43, .ref 45, .ref 52, .ref 56, .ref 60, .ref 67, .int c_latestFinding, .int c_told, .long c_above, .long c_below])), (1, .inr (5, [.int c_rows_most, .ref 2, .ref 3])), (2, .inl (4, 6, .inr (.inr (.inr (.inr (gg_rf 2 1)))))), (3, .inl (0, 6, .inl c_rows_sizes)), (4, .inl (0, 40, .inl (c_rows_cells 0))), (5, .inl (0, 40, .inl (c_rows_cells 1))), (6, .inl (0, 40, .inl (c_rows_cells 2))), (7, .inl (0, 40, .inl (c_rows_cells 3))), (8, .inl (0, 40, .inl (c_rows_cells 4))), (9, .inl (0, 40, .inl (c_rows_cells 5))), (27, .inr (2, [.int c_now_huts, .int c_now_food, .int c_now_due, .ref 28, .ref 29, .ref 30, .ref 31, .ref 32, .ref 33, .ref 34, .int c_now_backs])), (67, .inl (0, 6, .inl c_found))]
def MD_X8_test : gg_M := (yX8_test, cX8_test, 9, some .int, 5, 111)
theorem nV_X8_test : gg_nV MD_X8_test 2 := ⟨⟨gg_mem (by decide +kernel) rfl, gg_mem cw_X8_test rfl, by decide, by decide, by decide +kernel⟩, gg_mem (by decide +kernel) rfl, gg_mem (by decide +kernel) rfl⟩
def lp_X8_test_38 {β : Type} (y4 : Int32) (k75 : (Int32) → (Int32) → Option β) : Nat → (Int32) → (Int32) → (Int32) → Option β
  | 0, _, _, _ => none
  | n + 1, x5_38, x6_38, x7_38 => (if (10 : Int32) ≤ x7_38 then (k75 x5_38 x6_38) else (f_X3_greatestPart y4 x7_38).bind (fun v3 => gg_lt (fun (x5_69 : Int32) (x6_69 : Int32) => (lp_X8_test_38 y4 k75 n x5_69 x6_69 (x7_38 + (1 : Int32)))) (fun k69 => (if x6_38 ≤ v3 then (k69 x5_38 x6_38) else (k69 x7_38 v3)))))
def f_X8_test (a0 : Int32) (a1 : Int32) (c_latestFinding : Int32) (c_told : Int32) (c_rows_sizes : Nat → Int32) (c_rows_cells : Nat → Nat → Int32) (c_now_huts : Int32) (c_found : Nat → Int32) : Option (Int32 × (Int32) × (Int32) × (Nat → Int32)) := gg_b3 (f_X8_refusedSigns a0 a1 c_latestFinding c_rows_sizes c_rows_cells c_now_huts c_found) (fun v1_0 v1_1 v1_2 => (if v1_0 = (0 : Int32) then (f_X8_kindsBy a1 c_rows_sizes c_rows_cells).bind (fun v2 => (if v2 = (0 : Int32) then (some ((-9 : Int32), v1_1, c_told, v1_2)) else (lp_X8_test_38 v2 (fun (x5_75 : Int32) (x6_75 : Int32) => (some (x5_75, v1_1, x6_75, v1_2))) gg_fuel (0 : Int32) (7 : Int32) (0 : Int32)))) else (some (v1_0, v1_1, c_told, v1_2))))
set_option maxRecDepth 20000 in
set_option maxHeartbeats 4000000 in
theorem lq_X8_test_38 {β : Type} {res : β} {rr : Option Value} {ww : va_W} (y4 : Int32) (c_latestFinding : Int32) (c_told : Int32) (c_above : Int64) (c_below : Int64) (c_rows_most : Int32) (c_rows_sizes : Nat → Int32) (c_rows_cells : Nat → Nat → Int32) (c_now_huts : Int32) (c_now_food : Int32) (c_now_due : Int32) (c_now_backs : Int32) (c_found : Nat → Int32) (k75 : (Int32) → (Int32) → Option β) (hk75 : ∀ (x5_75 : Int32) (x6_75 : Int32), k75 x5_75 x6_75 = some res → gg_G MD_X8_test 75 [some (.ref 0), none, none, none, none, some (.int x5_75), some (.int x6_75), none, none] [] (wd_X8_test c_latestFinding c_told c_above c_below c_rows_most c_rows_sizes c_rows_cells c_now_huts c_now_food c_now_due c_now_backs c_found) rr ww) : ∀ (n : Nat) (x5_38 : Int32) (x6_38 : Int32) (x7_38 : Int32), lp_X8_test_38 y4 k75 n x5_38 x6_38 x7_38 = some res → gg_G MD_X8_test 38 [some (.ref 0), none, none, none, some (.int y4), some (.int x5_38), some (.int x6_38), some (.int x7_38), none] [] (wd_X8_test c_latestFinding c_told c_above c_below c_rows_most c_rows_sizes c_rows_cells c_now_huts c_now_food c_now_due c_now_backs c_found) rr ww := by
  intro n
  induction n with
  | zero =>
    intro x5_38 x6_38 x7_38 h
    exact nomatch (show (none : Option β) = some res from h)
  | succ n ih =>
    intro x5_38 x6_38 x7_38 h
    rw [lp_X8_test_38] at h
    refine gg_iload dX8_test_38 rfl ?_
    refine gg_bipush (10 : Int32) dX8_test_40 (by decide) ?_
    refine gg_icmp_ge 75 dX8_test_42 (by decide) (fun hc => ?_) (fun hc => ?_)
    · replace h := gg_th h hc
      refine gg_fg [true, false, false, false, false, true, true, false, false] [some (.ref 0), none, none, none, none, some (.int x5_38), some (.int x6_38), none, none] rfl ?_
      exact hk75 x5_38 x6_38 h
    · replace h := gg_el h hc
      refine gg_iload dX8_test_45 rfl ?_
      refine gg_iload dX8_test_47 rfl ?_
      obtain ⟨v3, hv3, h⟩ := gg_bd h
      refine gg_callS (gg_sg []) [] (wd_X8_test c_latestFinding c_told c_above c_below c_rows_most c_rows_sizes c_rows_cells c_now_huts c_now_food c_now_due c_now_backs c_found) (C_X3_greatestPart y4 x7_38 hv3) nS_X3_greatestPart ml_X8_259 rfl rfl rfl rfl rfl rfl rfl [0, 1, 2, 3, 4, 5, 6, 7, 8, 9, 10, 11] 12 rfl rfl rfl rfl rfl ⟨Nat.le_of_ble_eq_true rfl, Nat.le_of_ble_eq_true rfl⟩ (Nat.le_of_ble_eq_true rfl) dX8_test_49 [.int v3] rfl ?_
      refine gg_istore [some (.ref 0), none, none, none, some (.int y4), some (.int x5_38), some (.int x6_38), some (.int x7_38), some (.int v3)] dX8_test_52 rfl (Nat.le_of_ble_eq_true rfl) rfl ?_
      refine gg_iload dX8_test_54 rfl ?_
      refine gg_iload dX8_test_56 rfl ?_
      obtain ⟨k69, hke69, h⟩ := gg_lte h
      have hk69 : ∀ (x5_69 : Int32) (x6_69 : Int32), k69 x5_69 x6_69 = some res → gg_G MD_X8_test 69 [some (.ref 0), none, none, none, some (.int y4), some (.int x5_69), some (.int x6_69), some (.int x7_38), none] [] (wd_X8_test c_latestFinding c_told c_above c_below c_rows_most c_rows_sizes c_rows_cells c_now_huts c_now_food c_now_due c_now_backs c_found) rr ww := by
        intro x5_69 x6_69 h
        subst hke69
        refine gg_iinc (x7_38 + (1 : Int32)) [some (.ref 0), none, none, none, some (.int y4), some (.int x5_69), some (.int x6_69), some (.int (x7_38 + (1 : Int32))), none] dX8_test_69 rfl rfl rfl (Nat.le_of_ble_eq_true rfl) rfl ?_
        refine gg_goto 38 dX8_test_72 (by decide) ?_
        exact ih x5_69 x6_69 (x7_38 + (1 : Int32)) h
      clear hke69
      refine gg_icmp_ge 69 dX8_test_58 (by decide) (fun hc => ?_) (fun hc => ?_)
      · replace h := gg_th h hc
        refine gg_fg [true, false, false, false, true, true, true, true, false] [some (.ref 0), none, none, none, some (.int y4), some (.int x5_38), some (.int x6_38), some (.int x7_38), none] rfl ?_
        exact hk69 x5_38 x6_38 h
      · replace h := gg_el h hc
        refine gg_iload dX8_test_61 rfl ?_
        refine gg_istore [some (.ref 0), none, none, none, some (.int y4), some (.int x5_38), some (.int v3), some (.int x7_38), some (.int v3)] dX8_test_63 rfl (Nat.le_of_ble_eq_true rfl) rfl ?_
        refine gg_iload dX8_test_65 rfl ?_
        refine gg_istore [some (.ref 0), none, none, none, some (.int y4), some (.int x7_38), some (.int v3), some (.int x7_38), some (.int v3)] dX8_test_67 rfl (Nat.le_of_ble_eq_true rfl) rfl ?_
        refine gg_fg [true, false, false, false, true, true, true, true, false] [some (.ref 0), none, none, none, some (.int y4), some (.int x7_38), some (.int v3), some (.int x7_38), none] rfl ?_
        exact hk69 x7_38 v3 h
set_option maxRecDepth 20000 in
set_option maxHeartbeats 8000000 in
theorem C_X8_test (a0 : Int32) (a1 : Int32) (c_latestFinding : Int32) (c_told : Int32) (c_above : Int64) (c_below : Int64) (c_rows_most : Int32) (c_rows_sizes : Nat → Int32) (c_rows_cells : Nat → Nat → Int32) (c_now_huts : Int32) (c_now_food : Int32) (c_now_due : Int32) (c_now_backs : Int32) (c_found : Nat → Int32) {r0 : Int32} {r1 : (Int32)} {r2 : (Int32)} {r3 : (Nat → Int32)} (h : f_X8_test a0 a1 c_latestFinding c_told c_rows_sizes c_rows_cells c_now_huts c_found = some (r0, r1, r2, r3)) : gg_C MD_X8_test [.ref 0, .int a0, .int a1] (wd_X8_test c_latestFinding c_told c_above c_below c_rows_most c_rows_sizes c_rows_cells c_now_huts c_now_food c_now_due c_now_backs c_found) (some (.int r0)) (wd_X8_test r1 r2 c_above c_below c_rows_most c_rows_sizes c_rows_cells c_now_huts c_now_food c_now_due c_now_backs r3) := by
  refine gg_ofG [some (.ref 0), some (.int a0), some (.int a1), none, none, none, none, none, none] (plainFor_of_name (by decide)) (Nat.le_of_ble_eq_true rfl) rfl ?_
  unfold f_X8_test at h
  refine gg_aload_n dX8_test_0 rfl ?_
  refine gg_iload_n dX8_test_1 rfl ?_
  refine gg_iload_n dX8_test_2 rfl ?_
  obtain ⟨v1_0, v1_1, v1_2, hv1, h⟩ := gg_bd3 h
  refine gg_callV (gg_sg [0]) [0, 1, 2, 3, 4, 5, 6, 7, 8, 9, 10, 11] (wd_X8_test v1_1 c_told c_above c_below c_rows_most c_rows_sizes c_rows_cells c_now_huts c_now_food c_now_due c_now_backs v1_2) 0 (C_X8_refusedSigns a0 a1 c_latestFinding c_told c_above c_below c_rows_most c_rows_sizes c_rows_cells c_now_huts c_now_food c_now_due c_now_backs c_found hv1) nV_X8_refusedSigns ml_X8_253 rfl rfl rfl rfl rfl rfl rfl rfl rfl rfl [] 12 rfl rfl rfl rfl rfl ⟨Nat.le_of_ble_eq_true rfl, Nat.le_of_ble_eq_true rfl⟩ (Nat.le_of_ble_eq_true rfl) dX8_test_3 [.int v1_0] rfl ?_
  refine gg_istore_n [some (.ref 0), some (.int a0), some (.int a1), some (.int v1_0), none, none, none, none, none] dX8_test_6 rfl (Nat.le_of_ble_eq_true rfl) rfl ?_
  refine gg_iload_n dX8_test_7 rfl ?_
  refine gg_if_eq 13 dX8_test_8 (by decide) (fun hc => ?_) (fun hc => ?_)
  · replace h := gg_th h hc
    refine gg_aload_n dX8_test_13 rfl ?_
    refine gg_iload_n dX8_test_14 rfl ?_
    obtain ⟨v2, hv2, h⟩ := gg_bd h
    refine gg_callV (gg_sg [0]) [0, 1, 2, 3, 4, 5, 6, 7, 8, 9] (wd_X8_test v1_1 c_told c_above c_below c_rows_most c_rows_sizes c_rows_cells c_now_huts c_now_food c_now_due c_now_backs v1_2) 0 (C_X8_kindsBy a1 v1_1 c_told c_above c_below c_rows_most c_rows_sizes c_rows_cells hv2) nV_X8_kindsBy ml_X8_256 rfl rfl rfl rfl rfl rfl rfl rfl rfl rfl [10, 11] 12 rfl rfl rfl rfl rfl ⟨Nat.le_of_ble_eq_true rfl, Nat.le_of_ble_eq_true rfl⟩ (Nat.le_of_ble_eq_true rfl) dX8_test_15 [.int v2] rfl ?_
    refine gg_istore [some (.ref 0), some (.int a0), some (.int a1), some (.int v1_0), some (.int v2), none, none, none, none] dX8_test_18 rfl (Nat.le_of_ble_eq_true rfl) rfl ?_
    refine gg_iload dX8_test_20 rfl ?_
    refine gg_if_ne 28 dX8_test_22 (by decide) (fun hc => ?_) (fun hc => ?_)
    · replace h := gg_el h hc
      refine gg_iconst (0 : Int32) dX8_test_28 (by decide) ?_
      refine gg_istore [some (.ref 0), some (.int a0), some (.int a1), some (.int v1_0), some (.int v2), some (.int (0 : Int32)), none, none, none] dX8_test_29 rfl (Nat.le_of_ble_eq_true rfl) rfl ?_
      refine gg_bipush (7 : Int32) dX8_test_31 (by decide) ?_
      refine gg_istore [some (.ref 0), some (.int a0), some (.int a1), some (.int v1_0), some (.int v2), some (.int (0 : Int32)), some (.int (7 : Int32)), none, none] dX8_test_33 rfl (Nat.le_of_ble_eq_true rfl) rfl ?_
      refine gg_iconst (0 : Int32) dX8_test_35 (by decide) ?_
      refine gg_istore [some (.ref 0), some (.int a0), some (.int a1), some (.int v1_0), some (.int v2), some (.int (0 : Int32)), some (.int (7 : Int32)), some (.int (0 : Int32)), none] dX8_test_36 rfl (Nat.le_of_ble_eq_true rfl) rfl ?_
      refine gg_fg [true, false, false, false, true, true, true, true, false] [some (.ref 0), none, none, none, some (.int v2), some (.int (0 : Int32)), some (.int (7 : Int32)), some (.int (0 : Int32)), none] rfl ?_
      refine lq_X8_test_38 v2 v1_1 c_told c_above c_below c_rows_most c_rows_sizes c_rows_cells c_now_huts c_now_food c_now_due c_now_backs v1_2 _ ?_ gg_fuel (0 : Int32) (7 : Int32) (0 : Int32) h
      intro x5_75 x6_75 h
      refine gg_aload_n dX8_test_75 rfl ?_
      refine gg_iload dX8_test_76 rfl ?_
      refine gg_putf 0 (wd_X8_test v1_1 x6_75 c_above c_below c_rows_most c_rows_sizes c_rows_cells c_now_huts c_now_food c_now_due c_now_backs v1_2) fl_X8_83 dX8_test_78 rfl (Nat.le_of_ble_eq_true rfl) (fun _ => ⟨rfl, rfl⟩) rfl ?_
      refine gg_iload dX8_test_81 rfl ?_
      cases h
      exact gg_iret dX8_test_83 rfl
    · replace h := gg_th h hc
      refine gg_bipush (-9 : Int32) dX8_test_25 (by decide) ?_
      cases h
      exact gg_iret dX8_test_27 rfl
  · replace h := gg_el h hc
    refine gg_iload_n dX8_test_11 rfl ?_
    cases h
    exact gg_iret dX8_test_12 rfl
def wd_X1_waysOf (c_earliest : Int32) (c_ways : Nat → Nat → Int32) : va_W := [(0, .inr (1, [.ref 1, .int c_earliest])), (1, .inl (4, 5, .inr (.inr (.inr (.inr (gg_rf 1 1)))))), (2, .inl (0, 41, .inl (c_ways 0))), (3, .inl (0, 41, .inl (c_ways 1))), (4, .inl (0, 41, .inl (c_ways 2))), (5, .inl (0, 41, .inl (c_ways 3))), (6, .inl (0, 41, .inl (c_ways 4)))]
def MD_X1_waysOf : gg_M := (yX1_waysOf, cX1_waysOf, 3, some .int, 0, 0)
theorem nV_X1_waysOf : gg_nV MD_X1_waysOf 2 := ⟨⟨gg_mem (by decide +kernel) rfl, gg_mem cw_X1_waysOf rfl, by decide, by decide, by decide +kernel⟩, gg_mem (by decide +kernel) rfl, gg_mem (by decide +kernel) rfl⟩
def f_X1_waysOf (a0 : Int32) (a1 : Int32) (c_ways : Nat → Nat → Int32) : Option (Int32) := gg_lt (fun (s0_33 : Int32) => (some s0_33)) (fun k33 => gg_lt ((k33 (0 : Int32))) (fun k32 => (if a0 < (0 : Int32) then k32 else (if (4 : Int32) < a0 then k32 else (if a1 < (0 : Int32) then k32 else (if (40 : Int32) < a1 then k32 else gg_chk (gg_in a0 5) (gg_chk (gg_in a1 41) ((k33 (c_ways a0.toNatClampNeg a1.toNatClampNeg))))))))))
set_option maxRecDepth 20000 in
set_option maxHeartbeats 8000000 in
theorem C_X1_waysOf (a0 : Int32) (a1 : Int32) (c_earliest : Int32) (c_ways : Nat → Nat → Int32) {res : Int32} (h : f_X1_waysOf a0 a1 c_ways = some res) : gg_C MD_X1_waysOf [.ref 0, .int a0, .int a1] (wd_X1_waysOf c_earliest c_ways) (some (.int res)) (wd_X1_waysOf c_earliest c_ways) := by
  refine gg_ofG [some (.ref 0), some (.int a0), some (.int a1)] (plainFor_of_name (by decide)) (Nat.le_of_ble_eq_true rfl) rfl ?_
  unfold f_X1_waysOf at h
  refine gg_iconst (0 : Int32) dX1_waysOf_0 (by decide) ?_
  refine gg_iload_n dX1_waysOf_1 rfl ?_
  obtain ⟨k33, hke33, h⟩ := gg_lte h
  have hk33 : ∀ (s0_33 : Int32), k33 s0_33 = some res → gg_G MD_X1_waysOf 33 [none, none, none] [.int s0_33] (wd_X1_waysOf c_earliest c_ways) (some (.int res)) (wd_X1_waysOf c_earliest c_ways) := by
    intro s0_33 h
    subst hke33
    cases h
    exact gg_iret dX1_waysOf_33 rfl
  clear hke33
  obtain ⟨k32, hke32, h⟩ := gg_lte h
  have hk32 : k32 = some res → gg_G MD_X1_waysOf 32 [none, none, none] [] (wd_X1_waysOf c_earliest c_ways) (some (.int res)) (wd_X1_waysOf c_earliest c_ways) := by
    intro  h
    subst hke32
    refine gg_iconst (0 : Int32) dX1_waysOf_32 (by decide) ?_
    exact hk33 (0 : Int32) h
  clear hke32
  refine gg_icmp_gt 32 dX1_waysOf_2 (by decide) (fun hc => ?_) (fun hc => ?_)
  · replace h := gg_th h hc
    refine gg_fg [false, false, false] [none, none, none] rfl ?_
    exact hk32 h
  · replace h := gg_el h hc
    refine gg_iload_n dX1_waysOf_5 rfl ?_
    refine gg_iconst (4 : Int32) dX1_waysOf_6 (by decide) ?_
    refine gg_icmp_gt 32 dX1_waysOf_7 (by decide) (fun hc => ?_) (fun hc => ?_)
    · replace h := gg_th h hc
      refine gg_fg [false, false, false] [none, none, none] rfl ?_
      exact hk32 h
    · replace h := gg_el h hc
      refine gg_iconst (0 : Int32) dX1_waysOf_10 (by decide) ?_
      refine gg_iload_n dX1_waysOf_11 rfl ?_
      refine gg_icmp_gt 32 dX1_waysOf_12 (by decide) (fun hc => ?_) (fun hc => ?_)
      · replace h := gg_th h hc
        refine gg_fg [false, false, false] [none, none, none] rfl ?_
        exact hk32 h
      · replace h := gg_el h hc
        refine gg_iload_n dX1_waysOf_15 rfl ?_
        refine gg_bipush (40 : Int32) dX1_waysOf_16 (by decide) ?_
        refine gg_icmp_gt 32 dX1_waysOf_18 (by decide) (fun hc => ?_) (fun hc => ?_)
        · replace h := gg_th h hc
          refine gg_fg [false, false, false] [none, none, none] rfl ?_
          exact hk32 h
        · replace h := gg_el h hc
          refine gg_aload_n dX1_waysOf_21 rfl ?_
          refine gg_get 0 fl_X1_11 dX1_waysOf_22 rfl rfl ?_
          refine gg_iload_n dX1_waysOf_25 rfl ?_
          obtain ⟨hr26, h⟩ := gg_ck h
          refine gg_aldA 1 (2 + a0.toNatClampNeg) dX1_waysOf_26 rfl hr26 rfl (gg_ad 1 1 _) ?_
          refine gg_iload_n dX1_waysOf_27 rfl ?_
          obtain ⟨hb28, h⟩ := gg_ck h
          refine gg_iald (2 + a0.toNatClampNeg) dX1_waysOf_28 (gg_rows5 rfl rfl rfl rfl rfl (gg_in_lt hr26)) hb28 ?_
          refine gg_goto 33 dX1_waysOf_29 (by decide) ?_
          refine gg_fg [false, false, false] [none, none, none] rfl ?_
          exact hk33 (c_ways a0.toNatClampNeg a1.toNatClampNeg) h
def wd_X1_waysByLast (c_earliest : Int32) (c_ways : Nat → Nat → Int32) : va_W := [(0, .inr (1, [.ref 1, .int c_earliest])), (1, .inl (4, 5, .inr (.inr (.inr (.inr (gg_rf 1 1)))))), (2, .inl (0, 41, .inl (c_ways 0))), (3, .inl (0, 41, .inl (c_ways 1))), (4, .inl (0, 41, .inl (c_ways 2))), (5, .inl (0, 41, .inl (c_ways 3))), (6, .inl (0, 41, .inl (c_ways 4)))]
def MD_X1_waysByLast : gg_M := (yX1_waysByLast, cX1_waysByLast, 6, some .int, 2, 42)
theorem nV_X1_waysByLast : gg_nV MD_X1_waysByLast 3 := ⟨⟨gg_mem (by decide +kernel) rfl, gg_mem cw_X1_waysByLast rfl, by decide, by decide, by decide +kernel⟩, gg_mem (by decide +kernel) rfl, gg_mem (by decide +kernel) rfl⟩
def lp_X1_waysByLast_6 {β : Type} (y1 : Int32) (y2 : Int32) (y3 : Int32) (c_ways : Nat → Nat → Int32) (k39 : (Int32) → Option β) : Nat → (Int32) → (Int32) → Option β
  | 0, _, _ => none
  | n + 1, x4_6, x5_6 => (if (10 : Int32) ≤ x5_6 then (k39 x4_6) else (f_X3_tiredBy y1 x5_6).bind (fun v1 => (f_X1_waysOf (y2 - (1 : Int32)) (y3 - v1) c_ways).bind (fun v2 => (lp_X1_waysByLast_6 y1 y2 y3 c_ways k39 n (x4_6 + v2) (x5_6 + (1 : Int32))))))
def f_X1_waysByLast (a0 : Int32) (a1 : Int32) (a2 : Int32) (c_ways : Nat → Nat → Int32) : Option (Int32) := (lp_X1_waysByLast_6 a0 a1 a2 c_ways (fun (x4_39 : Int32) => (some x4_39)) gg_fuel (0 : Int32) (0 : Int32))
set_option maxRecDepth 20000 in
set_option maxHeartbeats 4000000 in
theorem lq_X1_waysByLast_6 {β : Type} {res : β} {rr : Option Value} {ww : va_W} (y1 : Int32) (y2 : Int32) (y3 : Int32) (c_earliest : Int32) (c_ways : Nat → Nat → Int32) (k39 : (Int32) → Option β) (hk39 : ∀ (x4_39 : Int32), k39 x4_39 = some res → gg_G MD_X1_waysByLast 39 [none, none, none, none, some (.int x4_39), none] [] (wd_X1_waysByLast c_earliest c_ways) rr ww) : ∀ (n : Nat) (x4_6 : Int32) (x5_6 : Int32), lp_X1_waysByLast_6 y1 y2 y3 c_ways k39 n x4_6 x5_6 = some res → gg_G MD_X1_waysByLast 6 [some (.ref 0), some (.int y1), some (.int y2), some (.int y3), some (.int x4_6), some (.int x5_6)] [] (wd_X1_waysByLast c_earliest c_ways) rr ww := by
  intro n
  induction n with
  | zero =>
    intro x4_6 x5_6 h
    exact nomatch (show (none : Option β) = some res from h)
  | succ n ih =>
    intro x4_6 x5_6 h
    rw [lp_X1_waysByLast_6] at h
    refine gg_iload dX1_waysByLast_6 rfl ?_
    refine gg_bipush (10 : Int32) dX1_waysByLast_8 (by decide) ?_
    refine gg_icmp_ge 39 dX1_waysByLast_10 (by decide) (fun hc => ?_) (fun hc => ?_)
    · replace h := gg_th h hc
      refine gg_fg [false, false, false, false, true, false] [none, none, none, none, some (.int x4_6), none] rfl ?_
      exact hk39 x4_6 h
    · replace h := gg_el h hc
      refine gg_iload dX1_waysByLast_13 rfl ?_
      refine gg_aload_n dX1_waysByLast_15 rfl ?_
      refine gg_iload_n dX1_waysByLast_16 rfl ?_
      refine gg_iconst (1 : Int32) dX1_waysByLast_17 (by decide) ?_
      refine gg_isub dX1_waysByLast_18 ?_
      refine gg_iload_n dX1_waysByLast_19 rfl ?_
      refine gg_iload_n dX1_waysByLast_20 rfl ?_
      refine gg_iload dX1_waysByLast_21 rfl ?_
      obtain ⟨v1, hv1, h⟩ := gg_bd h
      refine gg_callS (gg_sg []) [] (wd_X1_waysByLast c_earliest c_ways) (C_X3_tiredBy y1 x5_6 hv1) nS_X3_tiredBy ml_X1_31 rfl rfl rfl rfl rfl rfl rfl [0, 1, 2, 3, 4, 5, 6] 7 rfl rfl rfl rfl rfl ⟨Nat.le_of_ble_eq_true rfl, Nat.le_of_ble_eq_true rfl⟩ (Nat.le_of_ble_eq_true rfl) dX1_waysByLast_23 [.int v1, .int y3, .int (y2 - (1 : Int32)), .ref 0, .int x4_6] rfl ?_
      refine gg_isub dX1_waysByLast_26 ?_
      obtain ⟨v2, hv2, h⟩ := gg_bd h
      refine gg_callV (gg_sg [0]) [0, 1, 2, 3, 4, 5, 6] (wd_X1_waysByLast c_earliest c_ways) 0 (C_X1_waysOf (y2 - (1 : Int32)) (y3 - v1) c_earliest c_ways hv2) nV_X1_waysOf ml_X1_24 rfl rfl rfl rfl rfl rfl rfl rfl rfl rfl [] 7 rfl rfl rfl rfl rfl ⟨Nat.le_of_ble_eq_true rfl, Nat.le_of_ble_eq_true rfl⟩ (Nat.le_of_ble_eq_true rfl) dX1_waysByLast_27 [.int v2, .int x4_6] rfl ?_
      refine gg_iadd dX1_waysByLast_30 ?_
      refine gg_istore [some (.ref 0), some (.int y1), some (.int y2), some (.int y3), some (.int (x4_6 + v2)), some (.int x5_6)] dX1_waysByLast_31 rfl (Nat.le_of_ble_eq_true rfl) rfl ?_
      refine gg_iinc (x5_6 + (1 : Int32)) [some (.ref 0), some (.int y1), some (.int y2), some (.int y3), some (.int (x4_6 + v2)), some (.int (x5_6 + (1 : Int32)))] dX1_waysByLast_33 rfl rfl rfl (Nat.le_of_ble_eq_true rfl) rfl ?_
      refine gg_goto 6 dX1_waysByLast_36 (by decide) ?_
      exact ih (x4_6 + v2) (x5_6 + (1 : Int32)) h
set_option maxRecDepth 20000 in
set_option maxHeartbeats 8000000 in
theorem C_X1_waysByLast (a0 : Int32) (a1 : Int32) (a2 : Int32) (c_earliest : Int32) (c_ways : Nat → Nat → Int32) {res : Int32} (h : f_X1_waysByLast a0 a1 a2 c_ways = some res) : gg_C MD_X1_waysByLast [.ref 0, .int a0, .int a1, .int a2] (wd_X1_waysByLast c_earliest c_ways) (some (.int res)) (wd_X1_waysByLast c_earliest c_ways) := by
  refine gg_ofG [some (.ref 0), some (.int a0), some (.int a1), some (.int a2), none, none] (plainFor_of_name (by decide)) (Nat.le_of_ble_eq_true rfl) rfl ?_
  unfold f_X1_waysByLast at h
  refine gg_iconst (0 : Int32) dX1_waysByLast_0 (by decide) ?_
  refine gg_istore [some (.ref 0), some (.int a0), some (.int a1), some (.int a2), some (.int (0 : Int32)), none] dX1_waysByLast_1 rfl (Nat.le_of_ble_eq_true rfl) rfl ?_
  refine gg_iconst (0 : Int32) dX1_waysByLast_3 (by decide) ?_
  refine gg_istore [some (.ref 0), some (.int a0), some (.int a1), some (.int a2), some (.int (0 : Int32)), some (.int (0 : Int32))] dX1_waysByLast_4 rfl (Nat.le_of_ble_eq_true rfl) rfl ?_
  refine lq_X1_waysByLast_6 a0 a1 a2 c_earliest c_ways _ ?_ gg_fuel (0 : Int32) (0 : Int32) h
  intro x4_39 h
  refine gg_iload dX1_waysByLast_39 rfl ?_
  cases h
  exact gg_iret dX1_waysByLast_41 rfl
def wd_X1_firstWind (c_earliest : Int32) (c_ways : Nat → Nat → Int32) : va_W := [(0, .inr (1, [.ref 1, .int c_earliest])), (1, .inl (4, 5, .inr (.inr (.inr (.inr (gg_rf 1 1)))))), (2, .inl (0, 41, .inl (c_ways 0))), (3, .inl (0, 41, .inl (c_ways 1))), (4, .inl (0, 41, .inl (c_ways 2))), (5, .inl (0, 41, .inl (c_ways 3))), (6, .inl (0, 41, .inl (c_ways 4)))]
def MD_X1_firstWind : gg_M := (yX1_firstWind, cX1_firstWind, 5, some .int, 2, 42)
theorem nV_X1_firstWind : gg_nV MD_X1_firstWind 3 := ⟨⟨gg_mem (by decide +kernel) rfl, gg_mem cw_X1_firstWind rfl, by decide, by decide, by decide +kernel⟩, gg_mem (by decide +kernel) rfl, gg_mem (by decide +kernel) rfl⟩
def lp_X1_firstWind_3 {β : Type} (y1 : Int32) (y2 : Int32) (y3 : Int32) (c_ways : Nat → Nat → Int32) (k28 : (Int32) → Option β) (k37 : Option β) : Nat → (Int32) → Option β
  | 0, _ => none
  | n + 1, x4_3 => (if (10 : Int32) ≤ x4_3 then k37 else (f_X3_tiredBy y1 x4_3).bind (fun v1 => (f_X1_waysOf (y2 - (1 : Int32)) (y3 - v1) c_ways).bind (fun v2 => (if v2 ≤ (0 : Int32) then (lp_X1_firstWind_3 y1 y2 y3 c_ways k28 k37 n (x4_3 + (1 : Int32))) else (k28 x4_3)))))
def f_X1_firstWind (a0 : Int32) (a1 : Int32) (a2 : Int32) (c_ways : Nat → Nat → Int32) : Option (Int32) := (lp_X1_firstWind_3 a0 a1 a2 c_ways (fun (x4_28 : Int32) => (some x4_28)) ((some (0 : Int32))) gg_fuel (0 : Int32))
set_option maxRecDepth 20000 in
set_option maxHeartbeats 4000000 in
theorem lq_X1_firstWind_3 {β : Type} {res : β} {rr : Option Value} {ww : va_W} (y1 : Int32) (y2 : Int32) (y3 : Int32) (c_earliest : Int32) (c_ways : Nat → Nat → Int32) (k28 : (Int32) → Option β) (k37 : Option β) (hk28 : ∀ (x4_28 : Int32), k28 x4_28 = some res → gg_G MD_X1_firstWind 28 [none, none, none, none, some (.int x4_28)] [] (wd_X1_firstWind c_earliest c_ways) rr ww) (hk37 : k37 = some res → gg_G MD_X1_firstWind 37 [none, none, none, none, none] [] (wd_X1_firstWind c_earliest c_ways) rr ww) : ∀ (n : Nat) (x4_3 : Int32), lp_X1_firstWind_3 y1 y2 y3 c_ways k28 k37 n x4_3 = some res → gg_G MD_X1_firstWind 3 [some (.ref 0), some (.int y1), some (.int y2), some (.int y3), some (.int x4_3)] [] (wd_X1_firstWind c_earliest c_ways) rr ww := by
  intro n
  induction n with
  | zero =>
    intro x4_3 h
    exact nomatch (show (none : Option β) = some res from h)
  | succ n ih =>
    intro x4_3 h
    rw [lp_X1_firstWind_3] at h
    refine gg_iload dX1_firstWind_3 rfl ?_
    refine gg_bipush (10 : Int32) dX1_firstWind_5 (by decide) ?_
    refine gg_icmp_ge 37 dX1_firstWind_7 (by decide) (fun hc => ?_) (fun hc => ?_)
    · replace h := gg_th h hc
      refine gg_fg [false, false, false, false, false] [none, none, none, none, none] rfl ?_
      exact hk37 h
    · replace h := gg_el h hc
      refine gg_aload_n dX1_firstWind_10 rfl ?_
      refine gg_iload_n dX1_firstWind_11 rfl ?_
      refine gg_iconst (1 : Int32) dX1_firstWind_12 (by decide) ?_
      refine gg_isub dX1_firstWind_13 ?_
      refine gg_iload_n dX1_firstWind_14 rfl ?_
      refine gg_iload_n dX1_firstWind_15 rfl ?_
      refine gg_iload dX1_firstWind_16 rfl ?_
      obtain ⟨v1, hv1, h⟩ := gg_bd h
      refine gg_callS (gg_sg []) [] (wd_X1_firstWind c_earliest c_ways) (C_X3_tiredBy y1 x4_3 hv1) nS_X3_tiredBy ml_X1_31 rfl rfl rfl rfl rfl rfl rfl [0, 1, 2, 3, 4, 5, 6] 7 rfl rfl rfl rfl rfl ⟨Nat.le_of_ble_eq_true rfl, Nat.le_of_ble_eq_true rfl⟩ (Nat.le_of_ble_eq_true rfl) dX1_firstWind_18 [.int v1, .int y3, .int (y2 - (1 : Int32)), .ref 0] rfl ?_
      refine gg_isub dX1_firstWind_21 ?_
      obtain ⟨v2, hv2, h⟩ := gg_bd h
      refine gg_callV (gg_sg [0]) [0, 1, 2, 3, 4, 5, 6] (wd_X1_firstWind c_earliest c_ways) 0 (C_X1_waysOf (y2 - (1 : Int32)) (y3 - v1) c_earliest c_ways hv2) nV_X1_waysOf ml_X1_24 rfl rfl rfl rfl rfl rfl rfl rfl rfl rfl [] 7 rfl rfl rfl rfl rfl ⟨Nat.le_of_ble_eq_true rfl, Nat.le_of_ble_eq_true rfl⟩ (Nat.le_of_ble_eq_true rfl) dX1_firstWind_22 [.int v2] rfl ?_
      refine gg_if_le 31 dX1_firstWind_25 (by decide) (fun hc => ?_) (fun hc => ?_)
      · replace h := gg_th h hc
        refine gg_iinc (x4_3 + (1 : Int32)) [some (.ref 0), some (.int y1), some (.int y2), some (.int y3), some (.int (x4_3 + (1 : Int32)))] dX1_firstWind_31 rfl rfl rfl (Nat.le_of_ble_eq_true rfl) rfl ?_
        refine gg_goto 3 dX1_firstWind_34 (by decide) ?_
        exact ih (x4_3 + (1 : Int32)) h
      · replace h := gg_el h hc
        refine gg_fg [false, false, false, false, true] [none, none, none, none, some (.int x4_3)] rfl ?_
        exact hk28 x4_3 h
set_option maxRecDepth 20000 in
set_option maxHeartbeats 8000000 in
theorem C_X1_firstWind (a0 : Int32) (a1 : Int32) (a2 : Int32) (c_earliest : Int32) (c_ways : Nat → Nat → Int32) {res : Int32} (h : f_X1_firstWind a0 a1 a2 c_ways = some res) : gg_C MD_X1_firstWind [.ref 0, .int a0, .int a1, .int a2] (wd_X1_firstWind c_earliest c_ways) (some (.int res)) (wd_X1_firstWind c_earliest c_ways) := by
  refine gg_ofG [some (.ref 0), some (.int a0), some (.int a1), some (.int a2), none] (plainFor_of_name (by decide)) (Nat.le_of_ble_eq_true rfl) rfl ?_
  unfold f_X1_firstWind at h
  refine gg_iconst (0 : Int32) dX1_firstWind_0 (by decide) ?_
  refine gg_istore [some (.ref 0), some (.int a0), some (.int a1), some (.int a2), some (.int (0 : Int32))] dX1_firstWind_1 rfl (Nat.le_of_ble_eq_true rfl) rfl ?_
  refine lq_X1_firstWind_3 a0 a1 a2 c_earliest c_ways _ _ ?_ ?_ gg_fuel (0 : Int32) h
  · intro x4_28 h
    refine gg_iload dX1_firstWind_28 rfl ?_
    cases h
    exact gg_iret dX1_firstWind_30 rfl
  · intro  h
    refine gg_iconst (0 : Int32) dX1_firstWind_37 (by decide) ?_
    cases h
    exact gg_iret dX1_firstWind_38 rfl
def wd_X1_firstRow (c_earliest : Int32) (c_ways : Nat → Nat → Int32) : va_W := [(0, .inr (1, [.ref 1, .int c_earliest])), (1, .inl (4, 5, .inr (.inr (.inr (.inr (gg_rf 1 1)))))), (2, .inl (0, 41, .inl (c_ways 0))), (3, .inl (0, 41, .inl (c_ways 1))), (4, .inl (0, 41, .inl (c_ways 2))), (5, .inl (0, 41, .inl (c_ways 3))), (6, .inl (0, 41, .inl (c_ways 4)))]
def MD_X1_firstRow : gg_M := (yX1_firstRow, cX1_firstRow, 8, some .int, 3, 66)
theorem nV_X1_firstRow : gg_nV MD_X1_firstRow 3 := ⟨⟨gg_mem (by decide +kernel) rfl, gg_mem cw_X1_firstRow rfl, by decide, by decide, by decide +kernel⟩, gg_mem (by decide +kernel) rfl, gg_mem (by decide +kernel) rfl⟩
def lp_X1_firstRow_9 {β : Type} (y1 : Int32) (c_ways : Nat → Nat → Int32) (k52 : (Int32) → Option β) : Nat → (Int32) → (Int32) → (Int32) → Option β
  | 0, _, _, _ => none
  | n + 1, x4_9, x5_9, x6_9 => (if x6_9 ≤ (0 : Int32) then (k52 x4_9) else (f_X1_firstWind y1 x6_9 x5_9 c_ways).bind (fun v1 => (f_X3_tiredBy y1 v1).bind (fun v2 => (lp_X1_firstRow_9 y1 c_ways k52 n (((10 : Int32) * x4_9) + v1) (x5_9 - v2) (x6_9 + (-1 : Int32))))))
def f_X1_firstRow (a0 : Int32) (a1 : Int32) (a2 : Int32) (c_ways : Nat → Nat → Int32) : Option (Int32) := (lp_X1_firstRow_9 a0 c_ways (fun (x4_52 : Int32) => (some x4_52)) gg_fuel (0 : Int32) a2 a1)
set_option maxRecDepth 20000 in
set_option maxHeartbeats 4000000 in
theorem lq_X1_firstRow_9 {β : Type} {res : β} {rr : Option Value} {ww : va_W} (y1 : Int32) (c_earliest : Int32) (c_ways : Nat → Nat → Int32) (k52 : (Int32) → Option β) (hk52 : ∀ (x4_52 : Int32), k52 x4_52 = some res → gg_G MD_X1_firstRow 52 [none, none, none, none, some (.int x4_52), none, none, none] [] (wd_X1_firstRow c_earliest c_ways) rr ww) : ∀ (n : Nat) (x4_9 : Int32) (x5_9 : Int32) (x6_9 : Int32), lp_X1_firstRow_9 y1 c_ways k52 n x4_9 x5_9 x6_9 = some res → gg_G MD_X1_firstRow 9 [some (.ref 0), some (.int y1), none, none, some (.int x4_9), some (.int x5_9), some (.int x6_9), none] [] (wd_X1_firstRow c_earliest c_ways) rr ww := by
  intro n
  induction n with
  | zero =>
    intro x4_9 x5_9 x6_9 h
    exact nomatch (show (none : Option β) = some res from h)
  | succ n ih =>
    intro x4_9 x5_9 x6_9 h
    rw [lp_X1_firstRow_9] at h
    refine gg_iload dX1_firstRow_9 rfl ?_
    refine gg_if_le 52 dX1_firstRow_11 (by decide) (fun hc => ?_) (fun hc => ?_)
    · replace h := gg_th h hc
      refine gg_fg [false, false, false, false, true, false, false, false] [none, none, none, none, some (.int x4_9), none, none, none] rfl ?_
      exact hk52 x4_9 h
    · replace h := gg_el h hc
      refine gg_aload_n dX1_firstRow_14 rfl ?_
      refine gg_iload_n dX1_firstRow_15 rfl ?_
      refine gg_iload dX1_firstRow_16 rfl ?_
      refine gg_iload dX1_firstRow_18 rfl ?_
      obtain ⟨v1, hv1, h⟩ := gg_bd h
      refine gg_callV (gg_sg [0]) [0, 1, 2, 3, 4, 5, 6] (wd_X1_firstRow c_earliest c_ways) 0 (C_X1_firstWind y1 x6_9 x5_9 c_earliest c_ways hv1) nV_X1_firstWind ml_X1_36 rfl rfl rfl rfl rfl rfl rfl rfl rfl rfl [] 7 rfl rfl rfl rfl rfl ⟨Nat.le_of_ble_eq_true rfl, Nat.le_of_ble_eq_true rfl⟩ (Nat.le_of_ble_eq_true rfl) dX1_firstRow_20 [.int v1] rfl ?_
      refine gg_istore [some (.ref 0), some (.int y1), none, none, some (.int x4_9), some (.int x5_9), some (.int x6_9), some (.int v1)] dX1_firstRow_23 rfl (Nat.le_of_ble_eq_true rfl) rfl ?_
      refine gg_bipush (10 : Int32) dX1_firstRow_25 (by decide) ?_
      refine gg_iload dX1_firstRow_27 rfl ?_
      refine gg_imul dX1_firstRow_29 ?_
      refine gg_iload dX1_firstRow_30 rfl ?_
      refine gg_iadd dX1_firstRow_32 ?_
      refine gg_istore [some (.ref 0), some (.int y1), none, none, some (.int (((10 : Int32) * x4_9) + v1)), some (.int x5_9), some (.int x6_9), some (.int v1)] dX1_firstRow_33 rfl (Nat.le_of_ble_eq_true rfl) rfl ?_
      refine gg_iload dX1_firstRow_35 rfl ?_
      refine gg_iload_n dX1_firstRow_37 rfl ?_
      refine gg_iload dX1_firstRow_38 rfl ?_
      obtain ⟨v2, hv2, h⟩ := gg_bd h
      refine gg_callS (gg_sg []) [] (wd_X1_firstRow c_earliest c_ways) (C_X3_tiredBy y1 v1 hv2) nS_X3_tiredBy ml_X1_31 rfl rfl rfl rfl rfl rfl rfl [0, 1, 2, 3, 4, 5, 6] 7 rfl rfl rfl rfl rfl ⟨Nat.le_of_ble_eq_true rfl, Nat.le_of_ble_eq_true rfl⟩ (Nat.le_of_ble_eq_true rfl) dX1_firstRow_40 [.int v2, .int x5_9] rfl ?_
      refine gg_isub dX1_firstRow_43 ?_
      refine gg_istore [some (.ref 0), some (.int y1), none, none, some (.int (((10 : Int32) * x4_9) + v1)), some (.int (x5_9 - v2)), some (.int x6_9), some (.int v1)] dX1_firstRow_44 rfl (Nat.le_of_ble_eq_true rfl) rfl ?_
      refine gg_iinc (x6_9 + (-1 : Int32)) [some (.ref 0), some (.int y1), none, none, some (.int (((10 : Int32) * x4_9) + v1)), some (.int (x5_9 - v2)), some (.int (x6_9 + (-1 : Int32))), some (.int v1)] dX1_firstRow_46 rfl rfl rfl (Nat.le_of_ble_eq_true rfl) rfl ?_
      refine gg_goto 9 dX1_firstRow_49 (by decide) ?_
      refine gg_fg [true, true, false, false, true, true, true, false] [some (.ref 0), some (.int y1), none, none, some (.int (((10 : Int32) * x4_9) + v1)), some (.int (x5_9 - v2)), some (.int (x6_9 + (-1 : Int32))), none] rfl ?_
      exact ih (((10 : Int32) * x4_9) + v1) (x5_9 - v2) (x6_9 + (-1 : Int32)) h
set_option maxRecDepth 20000 in
set_option maxHeartbeats 8000000 in
theorem C_X1_firstRow (a0 : Int32) (a1 : Int32) (a2 : Int32) (c_earliest : Int32) (c_ways : Nat → Nat → Int32) {res : Int32} (h : f_X1_firstRow a0 a1 a2 c_ways = some res) : gg_C MD_X1_firstRow [.ref 0, .int a0, .int a1, .int a2] (wd_X1_firstRow c_earliest c_ways) (some (.int res)) (wd_X1_firstRow c_earliest c_ways) := by
  refine gg_ofG [some (.ref 0), some (.int a0), some (.int a1), some (.int a2), none, none, none, none] (plainFor_of_name (by decide)) (Nat.le_of_ble_eq_true rfl) rfl ?_
  unfold f_X1_firstRow at h
  refine gg_iconst (0 : Int32) dX1_firstRow_0 (by decide) ?_
  refine gg_istore [some (.ref 0), some (.int a0), some (.int a1), some (.int a2), some (.int (0 : Int32)), none, none, none] dX1_firstRow_1 rfl (Nat.le_of_ble_eq_true rfl) rfl ?_
  refine gg_iload_n dX1_firstRow_3 rfl ?_
  refine gg_istore [some (.ref 0), some (.int a0), some (.int a1), some (.int a2), some (.int (0 : Int32)), some (.int a2), none, none] dX1_firstRow_4 rfl (Nat.le_of_ble_eq_true rfl) rfl ?_
  refine gg_iload_n dX1_firstRow_6 rfl ?_
  refine gg_istore [some (.ref 0), some (.int a0), some (.int a1), some (.int a2), some (.int (0 : Int32)), some (.int a2), some (.int a1), none] dX1_firstRow_7 rfl (Nat.le_of_ble_eq_true rfl) rfl ?_
  refine gg_fg [true, true, false, false, true, true, true, false] [some (.ref 0), some (.int a0), none, none, some (.int (0 : Int32)), some (.int a2), some (.int a1), none] rfl ?_
  refine lq_X1_firstRow_9 a0 c_earliest c_ways _ ?_ gg_fuel (0 : Int32) a2 a1 h
  intro x4_52 h
  refine gg_iload dX1_firstRow_52 rfl ?_
  cases h
  exact gg_iret dX1_firstRow_54 rfl
def wd_X1_seek (c_earliest : Int32) (c_ways : Nat → Nat → Int32) : va_W := [(0, .inr (1, [.ref 1, .int c_earliest])), (1, .inl (4, 5, .inr (.inr (.inr (.inr (gg_rf 1 1)))))), (2, .inl (0, 41, .inl (c_ways 0))), (3, .inl (0, 41, .inl (c_ways 1))), (4, .inl (0, 41, .inl (c_ways 2))), (5, .inl (0, 41, .inl (c_ways 3))), (6, .inl (0, 41, .inl (c_ways 4)))]
def MD_X1_seek : gg_M := (yX1_seek, cX1_seek, 6, some .int, 4, 93)
theorem nV_X1_seek : gg_nV MD_X1_seek 3 := ⟨⟨gg_mem (by decide +kernel) rfl, gg_mem cw_X1_seek rfl, by decide, by decide, by decide +kernel⟩, gg_mem (by decide +kernel) rfl, gg_mem (by decide +kernel) rfl⟩
def lp_X1_seek_18 {β : Type} (y1 : Int32) (y4 : Int32) (k68 : (Nat → Nat → Int32) → Option β) : Nat → (Int32) → (Nat → Nat → Int32) → Option β
  | 0, _, _ => none
  | n + 1, x5_18, c_ways_18 => (if (40 : Int32) < x5_18 then (k68 c_ways_18) else gg_chk (gg_in y4 5) (gg_lt (fun (s2_61 : Int32) => gg_chk (gg_in x5_18 41) ((lp_X1_seek_18 y1 y4 k68 n (x5_18 + (1 : Int32)) (gg_up c_ways_18 y4.toNatClampNeg (upd (c_ways_18 y4.toNatClampNeg) x5_18.toNatClampNeg s2_61))))) (fun k61 => (if y4 = (0 : Int32) then (if x5_18 = (0 : Int32) then (k61 (1 : Int32)) else (k61 (0 : Int32))) else (f_X1_waysByLast y1 y4 x5_18 c_ways_18).bind (fun v1 => (k61 v1))))))
def lp_X1_seek_3 {β : Type} (y1 : Int32) (y2 : Int32) (k74 : (Nat → Nat → Int32) → Option β) : Nat → (Int32) → (Nat → Nat → Int32) → Option β
  | 0, _, _ => none
  | n + 1, x4_3, c_ways_3 => (if y2 < x4_3 then (k74 c_ways_3) else (if (4 : Int32) < x4_3 then (k74 c_ways_3) else (lp_X1_seek_18 y1 x4_3 (fun (c_ways_68 : Nat → Nat → Int32) => (lp_X1_seek_3 y1 y2 k74 n (x4_3 + (1 : Int32)) c_ways_68)) gg_fuel (0 : Int32) c_ways_3)))
def f_X1_seek (a0 : Int32) (a1 : Int32) (a2 : Int32) (c_earliest : Int32) (c_ways : Nat → Nat → Int32) : Option (Int32 × (Int32) × (Nat → Nat → Int32)) := (lp_X1_seek_3 a0 a1 (fun (c_ways_74 : Nat → Nat → Int32) => (f_X1_waysOf a1 a2 c_ways_74).bind (fun v2 => gg_lt (fun (c_earliest_98 : Int32) => (some (v2, c_earliest_98, c_ways_74))) (fun k98 => (if v2 ≤ (0 : Int32) then (k98 c_earliest) else (f_X1_firstRow a0 a1 a2 c_ways_74).bind (fun v3 => (k98 v3)))))) gg_fuel (0 : Int32) c_ways)
set_option maxRecDepth 20000 in
set_option maxHeartbeats 4000000 in
theorem lq_X1_seek_18 {β : Type} {res : β} {rr : Option Value} {ww : va_W} (y1 : Int32) (y2 : Int32) (y3 : Int32) (y4 : Int32) (c_earliest : Int32) (k68 : (Nat → Nat → Int32) → Option β) (hk68 : ∀ (c_ways_68 : Nat → Nat → Int32), k68 c_ways_68 = some res → gg_G MD_X1_seek 68 [some (.ref 0), some (.int y1), some (.int y2), some (.int y3), some (.int y4), none] [] (wd_X1_seek c_earliest c_ways_68) rr ww) : ∀ (n : Nat) (x5_18 : Int32) (c_ways_18 : Nat → Nat → Int32), lp_X1_seek_18 y1 y4 k68 n x5_18 c_ways_18 = some res → gg_G MD_X1_seek 18 [some (.ref 0), some (.int y1), some (.int y2), some (.int y3), some (.int y4), some (.int x5_18)] [] (wd_X1_seek c_earliest c_ways_18) rr ww := by
  intro n
  induction n with
  | zero =>
    intro x5_18 c_ways_18 h
    exact nomatch (show (none : Option β) = some res from h)
  | succ n ih =>
    intro x5_18 c_ways_18 h
    rw [lp_X1_seek_18] at h
    refine gg_iload dX1_seek_18 rfl ?_
    refine gg_bipush (40 : Int32) dX1_seek_20 (by decide) ?_
    refine gg_icmp_gt 68 dX1_seek_22 (by decide) (fun hc => ?_) (fun hc => ?_)
    · replace h := gg_th h hc
      refine gg_fg [true, true, true, true, true, false] [some (.ref 0), some (.int y1), some (.int y2), some (.int y3), some (.int y4), none] rfl ?_
      exact hk68 c_ways_18 h
    · replace h := gg_el h hc
      refine gg_aload_n dX1_seek_25 rfl ?_
      refine gg_get 0 fl_X1_11 dX1_seek_26 rfl rfl ?_
      refine gg_iload dX1_seek_29 rfl ?_
      obtain ⟨hr31, h⟩ := gg_ck h
      refine gg_aldA 1 (2 + y4.toNatClampNeg) dX1_seek_31 rfl hr31 rfl (gg_ad 1 1 _) ?_
      refine gg_iload dX1_seek_32 rfl ?_
      refine gg_iload dX1_seek_34 rfl ?_
      obtain ⟨k61, hke61, h⟩ := gg_lte h
      have hk61 : ∀ (s2_61 : Int32), k61 s2_61 = some res → gg_G MD_X1_seek 61 [some (.ref 0), some (.int y1), some (.int y2), some (.int y3), some (.int y4), some (.int x5_18)] [.int s2_61, .int x5_18, .ref (2 + y4.toNatClampNeg)] (wd_X1_seek c_earliest c_ways_18) rr ww := by
        intro s2_61 h
        subst hke61
        obtain ⟨hb61, h⟩ := gg_ck h
        refine gg_iast (2 + y4.toNatClampNeg) (wd_X1_seek c_earliest (gg_up c_ways_18 y4.toNatClampNeg (upd (c_ways_18 y4.toNatClampNeg) x5_18.toNatClampNeg s2_61))) dX1_seek_61 (gg_rows5 rfl rfl rfl rfl rfl (gg_in_lt hr31)) hb61 (gg_pick5 (P := fun t => List.set (wd_X1_seek c_earliest c_ways_18) (2 + t) (2 + t, .inl (0, 41, .inl (upd (c_ways_18 t) x5_18.toNatClampNeg s2_61))) = (wd_X1_seek c_earliest (gg_up c_ways_18 t (upd (c_ways_18 t) x5_18.toNatClampNeg s2_61)))) rfl rfl rfl rfl rfl (gg_in_lt hr31)) ?_
        refine gg_iinc (x5_18 + (1 : Int32)) [some (.ref 0), some (.int y1), some (.int y2), some (.int y3), some (.int y4), some (.int (x5_18 + (1 : Int32)))] dX1_seek_62 rfl rfl rfl (Nat.le_of_ble_eq_true rfl) rfl ?_
        refine gg_goto 18 dX1_seek_65 (by decide) ?_
        exact ih (x5_18 + (1 : Int32)) (gg_up c_ways_18 y4.toNatClampNeg (upd (c_ways_18 y4.toNatClampNeg) x5_18.toNatClampNeg s2_61)) h
      clear hke61
      refine gg_if_ne 52 dX1_seek_36 (by decide) (fun hc => ?_) (fun hc => ?_)
      · replace h := gg_el h hc
        refine gg_aload_n dX1_seek_52 rfl ?_
        refine gg_iload_n dX1_seek_53 rfl ?_
        refine gg_iload dX1_seek_54 rfl ?_
        refine gg_iload dX1_seek_56 rfl ?_
        obtain ⟨v1, hv1, h⟩ := gg_bd h
        refine gg_callV (gg_sg [0]) [0, 1, 2, 3, 4, 5, 6] (wd_X1_seek c_earliest c_ways_18) 0 (C_X1_waysByLast y1 y4 x5_18 c_earliest c_ways_18 hv1) nV_X1_waysByLast ml_X1_20 rfl rfl rfl rfl rfl rfl rfl rfl rfl rfl [] 7 rfl rfl rfl rfl rfl ⟨Nat.le_of_ble_eq_true rfl, Nat.le_of_ble_eq_true rfl⟩ (Nat.le_of_ble_eq_true rfl) dX1_seek_58 [.int v1, .int x5_18, .ref (2 + y4.toNatClampNeg)] rfl ?_
        exact hk61 v1 h
      · replace h := gg_th h hc
        refine gg_iload dX1_seek_39 rfl ?_
        refine gg_if_ne 48 dX1_seek_41 (by decide) (fun hc => ?_) (fun hc => ?_)
        · replace h := gg_el h hc
          refine gg_iconst (0 : Int32) dX1_seek_48 (by decide) ?_
          refine gg_goto 61 dX1_seek_49 (by decide) ?_
          exact hk61 (0 : Int32) h
        · replace h := gg_th h hc
          refine gg_iconst (1 : Int32) dX1_seek_44 (by decide) ?_
          refine gg_goto 61 dX1_seek_45 (by decide) ?_
          exact hk61 (1 : Int32) h
set_option maxRecDepth 20000 in
set_option maxHeartbeats 4000000 in
theorem lq_X1_seek_3 {β : Type} {res : β} {rr : Option Value} {ww : va_W} (y1 : Int32) (y2 : Int32) (y3 : Int32) (c_earliest : Int32) (k74 : (Nat → Nat → Int32) → Option β) (hk74 : ∀ (c_ways_74 : Nat → Nat → Int32), k74 c_ways_74 = some res → gg_G MD_X1_seek 74 [some (.ref 0), some (.int y1), some (.int y2), some (.int y3), none, none] [] (wd_X1_seek c_earliest c_ways_74) rr ww) : ∀ (n : Nat) (x4_3 : Int32) (c_ways_3 : Nat → Nat → Int32), lp_X1_seek_3 y1 y2 k74 n x4_3 c_ways_3 = some res → gg_G MD_X1_seek 3 [some (.ref 0), some (.int y1), some (.int y2), some (.int y3), some (.int x4_3), none] [] (wd_X1_seek c_earliest c_ways_3) rr ww := by
  intro n
  induction n with
  | zero =>
    intro x4_3 c_ways_3 h
    exact nomatch (show (none : Option β) = some res from h)
  | succ n ih =>
    intro x4_3 c_ways_3 h
    rw [lp_X1_seek_3] at h
    refine gg_iload dX1_seek_3 rfl ?_
    refine gg_iload_n dX1_seek_5 rfl ?_
    refine gg_icmp_gt 74 dX1_seek_6 (by decide) (fun hc => ?_) (fun hc => ?_)
    · replace h := gg_th h hc
      refine gg_fg [true, true, true, true, false, false] [some (.ref 0), some (.int y1), some (.int y2), some (.int y3), none, none] rfl ?_
      exact hk74 c_ways_3 h
    · replace h := gg_el h hc
      refine gg_iload dX1_seek_9 rfl ?_
      refine gg_iconst (4 : Int32) dX1_seek_11 (by decide) ?_
      refine gg_icmp_gt 74 dX1_seek_12 (by decide) (fun hc => ?_) (fun hc => ?_)
      · replace h := gg_th h hc
        refine gg_fg [true, true, true, true, false, false] [some (.ref 0), some (.int y1), some (.int y2), some (.int y3), none, none] rfl ?_
        exact hk74 c_ways_3 h
      · replace h := gg_el h hc
        refine gg_iconst (0 : Int32) dX1_seek_15 (by decide) ?_
        refine gg_istore [some (.ref 0), some (.int y1), some (.int y2), some (.int y3), some (.int x4_3), some (.int (0 : Int32))] dX1_seek_16 rfl (Nat.le_of_ble_eq_true rfl) rfl ?_
        refine lq_X1_seek_18 y1 y2 y3 x4_3 c_earliest _ ?_ gg_fuel (0 : Int32) c_ways_3 h
        intro c_ways_68 h
        refine gg_iinc (x4_3 + (1 : Int32)) [some (.ref 0), some (.int y1), some (.int y2), some (.int y3), some (.int (x4_3 + (1 : Int32))), none] dX1_seek_68 rfl rfl rfl (Nat.le_of_ble_eq_true rfl) rfl ?_
        refine gg_goto 3 dX1_seek_71 (by decide) ?_
        exact ih (x4_3 + (1 : Int32)) c_ways_68 h
set_option maxRecDepth 20000 in
set_option maxHeartbeats 8000000 in
theorem C_X1_seek (a0 : Int32) (a1 : Int32) (a2 : Int32) (c_earliest : Int32) (c_ways : Nat → Nat → Int32) {r0 : Int32} {r1 : (Int32)} {r2 : (Nat → Nat → Int32)} (h : f_X1_seek a0 a1 a2 c_earliest c_ways = some (r0, r1, r2)) : gg_C MD_X1_seek [.ref 0, .int a0, .int a1, .int a2] (wd_X1_seek c_earliest c_ways) (some (.int r0)) (wd_X1_seek r1 r2) := by
  refine gg_ofG [some (.ref 0), some (.int a0), some (.int a1), some (.int a2), none, none] (plainFor_of_name (by decide)) (Nat.le_of_ble_eq_true rfl) rfl ?_
  unfold f_X1_seek at h
  refine gg_iconst (0 : Int32) dX1_seek_0 (by decide) ?_
  refine gg_istore [some (.ref 0), some (.int a0), some (.int a1), some (.int a2), some (.int (0 : Int32)), none] dX1_seek_1 rfl (Nat.le_of_ble_eq_true rfl) rfl ?_
  refine lq_X1_seek_3 a0 a1 a2 c_earliest _ ?_ gg_fuel (0 : Int32) c_ways h
  intro c_ways_74 h
  refine gg_aload_n dX1_seek_74 rfl ?_
  refine gg_iload_n dX1_seek_75 rfl ?_
  refine gg_iload_n dX1_seek_76 rfl ?_
  obtain ⟨v2, hv2, h⟩ := gg_bd h
  refine gg_callV (gg_sg [0]) [0, 1, 2, 3, 4, 5, 6] (wd_X1_seek c_earliest c_ways_74) 0 (C_X1_waysOf a1 a2 c_earliest c_ways_74 hv2) nV_X1_waysOf ml_X1_24 rfl rfl rfl rfl rfl rfl rfl rfl rfl rfl [] 7 rfl rfl rfl rfl rfl ⟨Nat.le_of_ble_eq_true rfl, Nat.le_of_ble_eq_true rfl⟩ (Nat.le_of_ble_eq_true rfl) dX1_seek_77 [.int v2] rfl ?_
  refine gg_istore [some (.ref 0), some (.int a0), some (.int a1), some (.int a2), some (.int v2), none] dX1_seek_80 rfl (Nat.le_of_ble_eq_true rfl) rfl ?_
  refine gg_iload dX1_seek_82 rfl ?_
  obtain ⟨k98, hke98, h⟩ := gg_lte h
  have hk98 : ∀ (c_earliest_98 : Int32), k98 c_earliest_98 = some (r0, r1, r2) → gg_G MD_X1_seek 98 [none, none, none, none, some (.int v2), none] [] (wd_X1_seek c_earliest_98 c_ways_74) (some (.int r0)) (wd_X1_seek r1 r2) := by
    intro c_earliest_98 h
    subst hke98
    refine gg_iload dX1_seek_98 rfl ?_
    cases h
    exact gg_iret dX1_seek_100 rfl
  clear hke98
  refine gg_if_le 98 dX1_seek_84 (by decide) (fun hc => ?_) (fun hc => ?_)
  · replace h := gg_th h hc
    refine gg_fg [false, false, false, false, true, false] [none, none, none, none, some (.int v2), none] rfl ?_
    exact hk98 c_earliest h
  · replace h := gg_el h hc
    refine gg_aload_n dX1_seek_87 rfl ?_
    refine gg_aload_n dX1_seek_88 rfl ?_
    refine gg_iload_n dX1_seek_89 rfl ?_
    refine gg_iload_n dX1_seek_90 rfl ?_
    refine gg_iload_n dX1_seek_91 rfl ?_
    obtain ⟨v3, hv3, h⟩ := gg_bd h
    refine gg_callV (gg_sg [0]) [0, 1, 2, 3, 4, 5, 6] (wd_X1_seek c_earliest c_ways_74) 0 (C_X1_firstRow a0 a1 a2 c_earliest c_ways_74 hv3) nV_X1_firstRow ml_X1_28 rfl rfl rfl rfl rfl rfl rfl rfl rfl rfl [] 7 rfl rfl rfl rfl rfl ⟨Nat.le_of_ble_eq_true rfl, Nat.le_of_ble_eq_true rfl⟩ (Nat.le_of_ble_eq_true rfl) dX1_seek_92 [.int v3, .ref 0] rfl ?_
    refine gg_putf 0 (wd_X1_seek v3 c_ways_74) fl_X1_16 dX1_seek_95 rfl (Nat.le_of_ble_eq_true rfl) (fun _ => ⟨rfl, rfl⟩) rfl ?_
    refine gg_fg [false, false, false, false, true, false] [none, none, none, none, some (.int v2), none] rfl ?_
    exact hk98 v3 h
def wd_X8_flown (c_latestFinding : Int32) (c_told : Int32) (c_above : Int64) (c_below : Int64) (c_now_huts : Int32) (c_now_food : Int32) (c_now_due : Int32) (c_now_backs : Int32) (c_now_kind : Nat → Int32) (c_flights_earliest : Int32) (c_flights_ways : Nat → Nat → Int32) : va_W := [(0, .inr (7, [.ref 1, .ref 10, .ref 17, .ref 19, .ref 27, .ref 35, .ref 43, .ref 45, .ref 52, .ref 56, .ref 60, .ref 67, .int c_latestFinding, .int c_told, .long c_above, .long c_below])), (27, .inr (2, [.int c_now_huts, .int c_now_food, .int c_now_due, .ref 28, .ref 29, .ref 30, .ref 31, .ref 32, .ref 33, .ref 34, .int c_now_backs])), (29, .inl (0, 6, .inl c_now_kind)), (60, .inr (1, [.ref 61, .int c_flights_earliest])), (61, .inl (4, 5, .inr (.inr (.inr (.inr (gg_rf 1 1)))))), (62, .inl (0, 41, .inl (c_flights_ways 0))), (63, .inl (0, 41, .inl (c_flights_ways 1))), (64, .inl (0, 41, .inl (c_flights_ways 2))), (65, .inl (0, 41, .inl (c_flights_ways 3))), (66, .inl (0, 41, .inl (c_flights_ways 4)))]
def MD_X8_flown : gg_M := (yX8_flown, cX8_flown, 5, some .int, 5, 118)
theorem nV_X8_flown : gg_nV MD_X8_flown 3 := ⟨⟨gg_mem (by decide +kernel) rfl, gg_mem cw_X8_flown rfl, by decide, by decide, by decide +kernel⟩, gg_mem (by decide +kernel) rfl, gg_mem (by decide +kernel) rfl⟩
def f_X8_flown (a0 : Int32) (a1 : Int32) (a2 : Int32) (c_told : Int32) (c_now_huts : Int32) (c_now_kind : Nat → Int32) (c_flights_earliest : Int32) (c_flights_ways : Nat → Nat → Int32) : Option (Int32 × (Int32) × (Int32) × (Nat → Nat → Int32)) := (f_X2_knows a0 c_now_huts).bind (fun v1 => gg_lt ((some ((-1 : Int32), c_told, c_flights_earliest, c_flights_ways))) (fun k30 => (if v1 = (0 : Int32) then k30 else (f_X8_within a1 (0 : Int32) (4 : Int32)).bind (fun v2 => (if v2 = (0 : Int32) then k30 else (f_X8_within a2 (0 : Int32) (40 : Int32)).bind (fun v3 => (if v3 = (0 : Int32) then k30 else gg_chk (gg_in a0 6) (gg_b3 (f_X1_seek (c_now_kind a0.toNatClampNeg) a1 a2 c_flights_earliest c_flights_ways) (fun v4_0 v4_1 v4_2 => (if v4_0 = (0 : Int32) then (some ((-9 : Int32), c_told, v4_1, v4_2)) else (some (v4_0, v4_1, v4_1, v4_2))))))))))))
set_option maxRecDepth 20000 in
set_option maxHeartbeats 8000000 in
theorem C_X8_flown (a0 : Int32) (a1 : Int32) (a2 : Int32) (c_latestFinding : Int32) (c_told : Int32) (c_above : Int64) (c_below : Int64) (c_now_huts : Int32) (c_now_food : Int32) (c_now_due : Int32) (c_now_backs : Int32) (c_now_kind : Nat → Int32) (c_flights_earliest : Int32) (c_flights_ways : Nat → Nat → Int32) {r0 : Int32} {r1 : (Int32)} {r2 : (Int32)} {r3 : (Nat → Nat → Int32)} (h : f_X8_flown a0 a1 a2 c_told c_now_huts c_now_kind c_flights_earliest c_flights_ways = some (r0, r1, r2, r3)) : gg_C MD_X8_flown [.ref 0, .int a0, .int a1, .int a2] (wd_X8_flown c_latestFinding c_told c_above c_below c_now_huts c_now_food c_now_due c_now_backs c_now_kind c_flights_earliest c_flights_ways) (some (.int r0)) (wd_X8_flown c_latestFinding r1 c_above c_below c_now_huts c_now_food c_now_due c_now_backs c_now_kind r2 r3) := by
  refine gg_ofG [some (.ref 0), some (.int a0), some (.int a1), some (.int a2), none] (plainFor_of_name (by decide)) (Nat.le_of_ble_eq_true rfl) rfl ?_
  unfold f_X8_flown at h
  refine gg_aload_n dX8_flown_0 rfl ?_
  refine gg_get 0 fl_X8_35 dX8_flown_1 rfl rfl ?_
  refine gg_iload_n dX8_flown_4 rfl ?_
  obtain ⟨v1, hv1, h⟩ := gg_bd h
  refine gg_callV (gg_sg [27]) [1] (wd_X8_flown c_latestFinding c_told c_above c_below c_now_huts c_now_food c_now_due c_now_backs c_now_kind c_flights_earliest c_flights_ways) 0 (C_X2_knows a0 c_now_huts c_now_food c_now_due c_now_backs hv1) nV_X2_knows ml_X8_154 rfl rfl rfl rfl rfl rfl rfl rfl rfl rfl [0, 2, 3, 4, 5, 6, 7, 8, 9] 10 rfl rfl rfl rfl rfl ⟨Nat.le_of_ble_eq_true rfl, Nat.le_of_ble_eq_true rfl⟩ (Nat.le_of_ble_eq_true rfl) dX8_flown_5 [.int v1] rfl ?_
  obtain ⟨k30, hke30, h⟩ := gg_lte h
  have hk30 : k30 = some (r0, r1, r2, r3) → gg_G MD_X8_flown 30 [none, none, none, none, none] [] (wd_X8_flown c_latestFinding c_told c_above c_below c_now_huts c_now_food c_now_due c_now_backs c_now_kind c_flights_earliest c_flights_ways) (some (.int r0)) (wd_X8_flown c_latestFinding r1 c_above c_below c_now_huts c_now_food c_now_due c_now_backs c_now_kind r2 r3) := by
    intro  h
    subst hke30
    refine gg_iconst (-1 : Int32) dX8_flown_30 (by decide) ?_
    cases h
    exact gg_iret dX8_flown_31 rfl
  clear hke30
  refine gg_if_eq 30 dX8_flown_8 (by decide) (fun hc => ?_) (fun hc => ?_)
  · replace h := gg_th h hc
    refine gg_fg [false, false, false, false, false] [none, none, none, none, none] rfl ?_
    exact hk30 h
  · replace h := gg_el h hc
    refine gg_iload_n dX8_flown_11 rfl ?_
    refine gg_iconst (0 : Int32) dX8_flown_12 (by decide) ?_
    refine gg_iconst (4 : Int32) dX8_flown_13 (by decide) ?_
    obtain ⟨v2, hv2, h⟩ := gg_bd h
    refine gg_callS (gg_sg []) [] (wd_X8_flown c_latestFinding c_told c_above c_below c_now_huts c_now_food c_now_due c_now_backs c_now_kind c_flights_earliest c_flights_ways) (C_X8_within a1 (0 : Int32) (4 : Int32) hv2) nS_X8_within ml_X8_155 rfl rfl rfl rfl rfl rfl rfl [0, 1, 2, 3, 4, 5, 6, 7, 8, 9] 10 rfl rfl rfl rfl rfl ⟨Nat.le_of_ble_eq_true rfl, Nat.le_of_ble_eq_true rfl⟩ (Nat.le_of_ble_eq_true rfl) dX8_flown_14 [.int v2] rfl ?_
    refine gg_if_eq 30 dX8_flown_17 (by decide) (fun hc => ?_) (fun hc => ?_)
    · replace h := gg_th h hc
      refine gg_fg [false, false, false, false, false] [none, none, none, none, none] rfl ?_
      exact hk30 h
    · replace h := gg_el h hc
      refine gg_iload_n dX8_flown_20 rfl ?_
      refine gg_iconst (0 : Int32) dX8_flown_21 (by decide) ?_
      refine gg_bipush (40 : Int32) dX8_flown_22 (by decide) ?_
      obtain ⟨v3, hv3, h⟩ := gg_bd h
      refine gg_callS (gg_sg []) [] (wd_X8_flown c_latestFinding c_told c_above c_below c_now_huts c_now_food c_now_due c_now_backs c_now_kind c_flights_earliest c_flights_ways) (C_X8_within a2 (0 : Int32) (40 : Int32) hv3) nS_X8_within ml_X8_155 rfl rfl rfl rfl rfl rfl rfl [0, 1, 2, 3, 4, 5, 6, 7, 8, 9] 10 rfl rfl rfl rfl rfl ⟨Nat.le_of_ble_eq_true rfl, Nat.le_of_ble_eq_true rfl⟩ (Nat.le_of_ble_eq_true rfl) dX8_flown_24 [.int v3] rfl ?_
      refine gg_if_ne 32 dX8_flown_27 (by decide) (fun hc => ?_) (fun hc => ?_)
      · replace h := gg_el h hc
        refine gg_aload_n dX8_flown_32 rfl ?_
        refine gg_get 0 fl_X8_71 dX8_flown_33 rfl rfl ?_
        refine gg_aload_n dX8_flown_36 rfl ?_
        refine gg_get 0 fl_X8_35 dX8_flown_37 rfl rfl ?_
        refine gg_get 1 fl_X8_163 dX8_flown_40 rfl rfl ?_
        refine gg_iload_n dX8_flown_43 rfl ?_
        obtain ⟨hb44, h⟩ := gg_ck h
        refine gg_iald 2 dX8_flown_44 rfl hb44 ?_
        refine gg_iload_n dX8_flown_45 rfl ?_
        refine gg_iload_n dX8_flown_46 rfl ?_
        obtain ⟨v4_0, v4_1, v4_2, hv4, h⟩ := gg_bd3 h
        refine gg_callV (gg_sg [60]) [3, 4, 5, 6, 7, 8, 9] (wd_X8_flown c_latestFinding c_told c_above c_below c_now_huts c_now_food c_now_due c_now_backs c_now_kind v4_1 v4_2) 0 (C_X1_seek (c_now_kind a0.toNatClampNeg) a1 a2 c_flights_earliest c_flights_ways hv4) nV_X1_seek ml_X8_262 rfl rfl rfl rfl rfl rfl rfl rfl rfl rfl [0, 1, 2] 10 rfl rfl rfl rfl rfl ⟨Nat.le_of_ble_eq_true rfl, Nat.le_of_ble_eq_true rfl⟩ (Nat.le_of_ble_eq_true rfl) dX8_flown_47 [.int v4_0] rfl ?_
        refine gg_istore [some (.ref 0), some (.int a0), some (.int a1), some (.int a2), some (.int v4_0)] dX8_flown_50 rfl (Nat.le_of_ble_eq_true rfl) rfl ?_
        refine gg_iload dX8_flown_52 rfl ?_
        refine gg_if_ne 60 dX8_flown_54 (by decide) (fun hc => ?_) (fun hc => ?_)
        · replace h := gg_el h hc
          refine gg_aload_n dX8_flown_60 rfl ?_
          refine gg_aload_n dX8_flown_61 rfl ?_
          refine gg_get 0 fl_X8_71 dX8_flown_62 rfl rfl ?_
          refine gg_get 3 fl_X8_264 dX8_flown_65 rfl rfl ?_
          refine gg_putf 0 (wd_X8_flown c_latestFinding v4_1 c_above c_below c_now_huts c_now_food c_now_due c_now_backs c_now_kind v4_1 v4_2) fl_X8_83 dX8_flown_68 rfl (Nat.le_of_ble_eq_true rfl) (fun _ => ⟨rfl, rfl⟩) rfl ?_
          refine gg_iload dX8_flown_71 rfl ?_
          cases h
          exact gg_iret dX8_flown_73 rfl
        · replace h := gg_th h hc
          refine gg_bipush (-9 : Int32) dX8_flown_57 (by decide) ?_
          cases h
          exact gg_iret dX8_flown_59 rfl
      · replace h := gg_th h hc
        refine gg_fg [false, false, false, false, false] [none, none, none, none, none] rfl ?_
        exact hk30 h
def wd_X2_strongestOf (c_huts : Int32) (c_food : Int32) (c_due : Int32) (c_backs : Int32) (c_strength : Nat → Int32) : va_W := [(0, .inr (2, [.int c_huts, .int c_food, .int c_due, .ref 1, .ref 2, .ref 3, .ref 4, .ref 5, .ref 6, .ref 7, .int c_backs])), (4, .inl (0, 6, .inl c_strength))]
def MD_X2_strongestOf : gg_M := (yX2_strongestOf, cX2_strongestOf, 4, some .int, 0, 0)
theorem nV_X2_strongestOf : gg_nV MD_X2_strongestOf 1 := ⟨⟨gg_mem (by decide +kernel) rfl, gg_mem cw_X2_strongestOf rfl, by decide, by decide, by decide +kernel⟩, gg_mem (by decide +kernel) rfl, gg_mem (by decide +kernel) rfl⟩
def lp_X2_strongestOf_5 {β : Type} (y1 : Int32) (c_huts : Int32) (c_strength : Nat → Int32) (k51 : (Int32) → Option β) : Nat → (Int32) → (Int32) → Option β
  | 0, _, _ => none
  | n + 1, x2_5, x3_5 => (if c_huts ≤ x3_5 then (k51 x2_5) else gg_lt (fun (x2_45 : Int32) => (lp_X2_strongestOf_5 y1 c_huts c_strength k51 n x2_45 (x3_5 + (1 : Int32)))) (fun k45 => (if ((y1 >>> (x3_5 &&& 31)) &&& (1 : Int32)) = (1 : Int32) then gg_lt ((k45 x3_5)) (fun k43 => (if x2_5 = (-9 : Int32) then k43 else gg_chk (gg_in x3_5 6) (gg_chk (gg_in x2_5 6) ((if (c_strength x3_5.toNatClampNeg) ≤ (c_strength x2_5.toNatClampNeg) then (k45 x2_5) else k43))))) else (k45 x2_5))))
def f_X2_strongestOf (a0 : Int32) (c_huts : Int32) (c_strength : Nat → Int32) : Option (Int32) := (lp_X2_strongestOf_5 a0 c_huts c_strength (fun (x2_51 : Int32) => (some x2_51)) gg_fuel (-9 : Int32) (0 : Int32))
set_option maxRecDepth 20000 in
set_option maxHeartbeats 4000000 in
theorem lq_X2_strongestOf_5 {β : Type} {res : β} {rr : Option Value} {ww : va_W} (y1 : Int32) (c_huts : Int32) (c_food : Int32) (c_due : Int32) (c_backs : Int32) (c_strength : Nat → Int32) (k51 : (Int32) → Option β) (hk51 : ∀ (x2_51 : Int32), k51 x2_51 = some res → gg_G MD_X2_strongestOf 51 [none, none, some (.int x2_51), none] [] (wd_X2_strongestOf c_huts c_food c_due c_backs c_strength) rr ww) : ∀ (n : Nat) (x2_5 : Int32) (x3_5 : Int32), lp_X2_strongestOf_5 y1 c_huts c_strength k51 n x2_5 x3_5 = some res → gg_G MD_X2_strongestOf 5 [some (.ref 0), some (.int y1), some (.int x2_5), some (.int x3_5)] [] (wd_X2_strongestOf c_huts c_food c_due c_backs c_strength) rr ww := by
  intro n
  induction n with
  | zero =>
    intro x2_5 x3_5 h
    exact nomatch (show (none : Option β) = some res from h)
  | succ n ih =>
    intro x2_5 x3_5 h
    rw [lp_X2_strongestOf_5] at h
    refine gg_iload_n dX2_strongestOf_5 rfl ?_
    refine gg_aload_n dX2_strongestOf_6 rfl ?_
    refine gg_get 0 fl_X2_9 dX2_strongestOf_7 rfl rfl ?_
    refine gg_icmp_ge 51 dX2_strongestOf_10 (by decide) (fun hc => ?_) (fun hc => ?_)
    · replace h := gg_th h hc
      refine gg_fg [false, false, true, false] [none, none, some (.int x2_5), none] rfl ?_
      exact hk51 x2_5 h
    · replace h := gg_el h hc
      refine gg_iload_n dX2_strongestOf_13 rfl ?_
      refine gg_iload_n dX2_strongestOf_14 rfl ?_
      refine gg_ishr dX2_strongestOf_15 ?_
      refine gg_iconst (1 : Int32) dX2_strongestOf_16 (by decide) ?_
      refine gg_iand dX2_strongestOf_17 ?_
      refine gg_iconst (1 : Int32) dX2_strongestOf_18 (by decide) ?_
      obtain ⟨k45, hke45, h⟩ := gg_lte h
      have hk45 : ∀ (x2_45 : Int32), k45 x2_45 = some res → gg_G MD_X2_strongestOf 45 [some (.ref 0), some (.int y1), some (.int x2_45), some (.int x3_5)] [] (wd_X2_strongestOf c_huts c_food c_due c_backs c_strength) rr ww := by
        intro x2_45 h
        subst hke45
        refine gg_iinc (x3_5 + (1 : Int32)) [some (.ref 0), some (.int y1), some (.int x2_45), some (.int (x3_5 + (1 : Int32)))] dX2_strongestOf_45 rfl rfl rfl (Nat.le_of_ble_eq_true rfl) rfl ?_
        refine gg_goto 5 dX2_strongestOf_48 (by decide) ?_
        exact ih x2_45 (x3_5 + (1 : Int32)) h
      clear hke45
      refine gg_icmp_ne 45 dX2_strongestOf_19 (by decide) (fun hc => ?_) (fun hc => ?_)
      · replace h := gg_el h hc
        exact hk45 x2_5 h
      · replace h := gg_th h hc
        refine gg_iload_n dX2_strongestOf_22 rfl ?_
        refine gg_bipush (-9 : Int32) dX2_strongestOf_23 (by decide) ?_
        obtain ⟨k43, hke43, h⟩ := gg_lte h
        have hk43 : k43 = some res → gg_G MD_X2_strongestOf 43 [some (.ref 0), some (.int y1), none, some (.int x3_5)] [] (wd_X2_strongestOf c_huts c_food c_due c_backs c_strength) rr ww := by
          intro  h
          subst hke43
          refine gg_iload_n dX2_strongestOf_43 rfl ?_
          refine gg_istore_n [some (.ref 0), some (.int y1), some (.int x3_5), some (.int x3_5)] dX2_strongestOf_44 rfl (Nat.le_of_ble_eq_true rfl) rfl ?_
          exact hk45 x3_5 h
        clear hke43
        refine gg_icmp_eq 43 dX2_strongestOf_25 (by decide) (fun hc => ?_) (fun hc => ?_)
        · replace h := gg_th h hc
          refine gg_fg [true, true, false, true] [some (.ref 0), some (.int y1), none, some (.int x3_5)] rfl ?_
          exact hk43 h
        · replace h := gg_el h hc
          refine gg_aload_n dX2_strongestOf_28 rfl ?_
          refine gg_get 0 fl_X2_31 dX2_strongestOf_29 rfl rfl ?_
          refine gg_iload_n dX2_strongestOf_32 rfl ?_
          obtain ⟨hb33, h⟩ := gg_ck h
          refine gg_iald 1 dX2_strongestOf_33 rfl hb33 ?_
          refine gg_aload_n dX2_strongestOf_34 rfl ?_
          refine gg_get 0 fl_X2_31 dX2_strongestOf_35 rfl rfl ?_
          refine gg_iload_n dX2_strongestOf_38 rfl ?_
          obtain ⟨hb39, h⟩ := gg_ck h
          refine gg_iald 1 dX2_strongestOf_39 rfl hb39 ?_
          refine gg_icmp_le 45 dX2_strongestOf_40 (by decide) (fun hc => ?_) (fun hc => ?_)
          · replace h := gg_th h hc
            exact hk45 x2_5 h
          · replace h := gg_el h hc
            refine gg_fg [true, true, false, true] [some (.ref 0), some (.int y1), none, some (.int x3_5)] rfl ?_
            exact hk43 h
set_option maxRecDepth 20000 in
set_option maxHeartbeats 8000000 in
theorem C_X2_strongestOf (a0 : Int32) (c_huts : Int32) (c_food : Int32) (c_due : Int32) (c_backs : Int32) (c_strength : Nat → Int32) {res : Int32} (h : f_X2_strongestOf a0 c_huts c_strength = some res) : gg_C MD_X2_strongestOf [.ref 0, .int a0] (wd_X2_strongestOf c_huts c_food c_due c_backs c_strength) (some (.int res)) (wd_X2_strongestOf c_huts c_food c_due c_backs c_strength) := by
  refine gg_ofG [some (.ref 0), some (.int a0), none, none] (plainFor_of_name (by decide)) (Nat.le_of_ble_eq_true rfl) rfl ?_
  unfold f_X2_strongestOf at h
  refine gg_bipush (-9 : Int32) dX2_strongestOf_0 (by decide) ?_
  refine gg_istore_n [some (.ref 0), some (.int a0), some (.int (-9 : Int32)), none] dX2_strongestOf_2 rfl (Nat.le_of_ble_eq_true rfl) rfl ?_
  refine gg_iconst (0 : Int32) dX2_strongestOf_3 (by decide) ?_
  refine gg_istore_n [some (.ref 0), some (.int a0), some (.int (-9 : Int32)), some (.int (0 : Int32))] dX2_strongestOf_4 rfl (Nat.le_of_ble_eq_true rfl) rfl ?_
  refine lq_X2_strongestOf_5 a0 c_huts c_food c_due c_backs c_strength _ ?_ gg_fuel (-9 : Int32) (0 : Int32) h
  intro x2_51 h
  refine gg_iload_n dX2_strongestOf_51 rfl ?_
  cases h
  exact gg_iret dX2_strongestOf_52 rfl
def wd_X2_leadByLuring (c_huts : Int32) (c_food : Int32) (c_due : Int32) (c_backs : Int32) (c_strength : Nat → Int32) (c_brick : Nat → Int32) : va_W := [(0, .inr (2, [.int c_huts, .int c_food, .int c_due, .ref 1, .ref 2, .ref 3, .ref 4, .ref 5, .ref 6, .ref 7, .int c_backs])), (4, .inl (0, 6, .inl c_strength)), (6, .inl (0, 6, .inl c_brick))]
def MD_X2_leadByLuring : gg_M := (yX2_leadByLuring, cX2_leadByLuring, 6, some .int, 3, 64)
theorem nV_X2_leadByLuring : gg_nV MD_X2_leadByLuring 1 := ⟨⟨gg_mem (by decide +kernel) rfl, gg_mem cw_X2_leadByLuring rfl, by decide, by decide, by decide +kernel⟩, gg_mem (by decide +kernel) rfl, gg_mem (by decide +kernel) rfl⟩
def lp_X2_leadByLuring_10 {β : Type} (y1 : Int32) (c_huts : Int32) (c_strength : Nat → Int32) (k30 : (Int32) → Option β) (k76 : (Int32) → Option β) : Nat → (Int32) → (Int32) → (Int32) → Option β
  | 0, _, _, _ => none
  | n + 1, x2_10, x3_10, x4_10 => (if y1 ≤ x4_10 then (k76 x3_10) else (f_X2_strongestOf x2_10 c_huts c_strength).bind (fun v2 => (if v2 = (-9 : Int32) then (k30 x3_10) else gg_lt (fun (s1_59 : Int32) => (lp_X2_leadByLuring_10 y1 c_huts c_strength k30 k76 n (x2_10 &&& (((1 : Int32) <<< (v2 &&& 31)) ^^^ (-1 : Int32))) (x3_10 + s1_59) (x4_10 + (1 : Int32)))) (fun k59 => (if (x4_10 - x4_10 / (2 : Int32) * (2 : Int32)) = (0 : Int32) then gg_chk (gg_in v2 6) ((k59 (c_strength v2.toNatClampNeg))) else gg_chk (gg_in v2 6) ((k59 (-(c_strength v2.toNatClampNeg)))))))))
def f_X2_leadByLuring (a0 : Int32) (c_huts : Int32) (c_strength : Nat → Int32) (c_brick : Nat → Int32) : Option (Int32) := (f_X2_thereBits c_huts c_brick).bind (fun v1 => (lp_X2_leadByLuring_10 a0 c_huts c_strength (fun (x3_30 : Int32) => (some x3_30)) (fun (x3_76 : Int32) => (some x3_76)) gg_fuel v1 (0 : Int32) (0 : Int32)))
set_option maxRecDepth 20000 in
set_option maxHeartbeats 4000000 in
theorem lq_X2_leadByLuring_10 {β : Type} {res : β} {rr : Option Value} {ww : va_W} (y1 : Int32) (c_huts : Int32) (c_food : Int32) (c_due : Int32) (c_backs : Int32) (c_strength : Nat → Int32) (c_brick : Nat → Int32) (k30 : (Int32) → Option β) (k76 : (Int32) → Option β) (hk30 : ∀ (x3_30 : Int32), k30 x3_30 = some res → gg_G MD_X2_leadByLuring 30 [none, none, none, some (.int x3_30), none, none] [] (wd_X2_leadByLuring c_huts c_food c_due c_backs c_strength c_brick) rr ww) (hk76 : ∀ (x3_76 : Int32), k76 x3_76 = some res → gg_G MD_X2_leadByLuring 76 [none, none, none, some (.int x3_76), none, none] [] (wd_X2_leadByLuring c_huts c_food c_due c_backs c_strength c_brick) rr ww) : ∀ (n : Nat) (x2_10 : Int32) (x3_10 : Int32) (x4_10 : Int32), lp_X2_leadByLuring_10 y1 c_huts c_strength k30 k76 n x2_10 x3_10 x4_10 = some res → gg_G MD_X2_leadByLuring 10 [some (.ref 0), some (.int y1), some (.int x2_10), some (.int x3_10), some (.int x4_10), none] [] (wd_X2_leadByLuring c_huts c_food c_due c_backs c_strength c_brick) rr ww := by
  intro n
  induction n with
  | zero =>
    intro x2_10 x3_10 x4_10 h
    exact nomatch (show (none : Option β) = some res from h)
  | succ n ih =>
    intro x2_10 x3_10 x4_10 h
    rw [lp_X2_leadByLuring_10] at h
    refine gg_iload dX2_leadByLuring_10 rfl ?_
    refine gg_iload_n dX2_leadByLuring_12 rfl ?_
    refine gg_icmp_ge 76 dX2_leadByLuring_13 (by decide) (fun hc => ?_) (fun hc => ?_)
    · replace h := gg_th h hc
      refine gg_fg [false, false, false, true, false, false] [none, none, none, some (.int x3_10), none, none] rfl ?_
      exact hk76 x3_10 h
    · replace h := gg_el h hc
      refine gg_aload_n dX2_leadByLuring_16 rfl ?_
      refine gg_iload_n dX2_leadByLuring_17 rfl ?_
      obtain ⟨v2, hv2, h⟩ := gg_bd h
      refine gg_callV (gg_sg [0]) [0, 1] (wd_X2_leadByLuring c_huts c_food c_due c_backs c_strength c_brick) 0 (C_X2_strongestOf x2_10 c_huts c_food c_due c_backs c_strength hv2) nV_X2_strongestOf ml_X2_90 rfl rfl rfl rfl rfl rfl rfl rfl rfl rfl [2] 3 rfl rfl rfl rfl rfl ⟨Nat.le_of_ble_eq_true rfl, Nat.le_of_ble_eq_true rfl⟩ (Nat.le_of_ble_eq_true rfl) dX2_leadByLuring_18 [.int v2] rfl ?_
      refine gg_istore [some (.ref 0), some (.int y1), some (.int x2_10), some (.int x3_10), some (.int x4_10), some (.int v2)] dX2_leadByLuring_21 rfl (Nat.le_of_ble_eq_true rfl) rfl ?_
      refine gg_iload dX2_leadByLuring_23 rfl ?_
      refine gg_bipush (-9 : Int32) dX2_leadByLuring_25 (by decide) ?_
      refine gg_icmp_ne 33 dX2_leadByLuring_27 (by decide) (fun hc => ?_) (fun hc => ?_)
      · replace h := gg_el h hc
        refine gg_iload_n dX2_leadByLuring_33 rfl ?_
        refine gg_iload dX2_leadByLuring_34 rfl ?_
        refine gg_iconst (2 : Int32) dX2_leadByLuring_36 (by decide) ?_
        refine gg_irem dX2_leadByLuring_37 (by decide) ?_
        obtain ⟨k59, hke59, h⟩ := gg_lte h
        have hk59 : ∀ (s1_59 : Int32), k59 s1_59 = some res → gg_G MD_X2_leadByLuring 59 [some (.ref 0), some (.int y1), some (.int x2_10), none, some (.int x4_10), some (.int v2)] [.int s1_59, .int x3_10] (wd_X2_leadByLuring c_huts c_food c_due c_backs c_strength c_brick) rr ww := by
          intro s1_59 h
          subst hke59
          refine gg_iadd dX2_leadByLuring_59 ?_
          refine gg_istore_n [some (.ref 0), some (.int y1), some (.int x2_10), some (.int (x3_10 + s1_59)), some (.int x4_10), some (.int v2)] dX2_leadByLuring_60 rfl (Nat.le_of_ble_eq_true rfl) rfl ?_
          refine gg_iload_n dX2_leadByLuring_61 rfl ?_
          refine gg_iconst (1 : Int32) dX2_leadByLuring_62 (by decide) ?_
          refine gg_iload dX2_leadByLuring_63 rfl ?_
          refine gg_ishl dX2_leadByLuring_65 ?_
          refine gg_iconst (-1 : Int32) dX2_leadByLuring_66 (by decide) ?_
          refine gg_ixor dX2_leadByLuring_67 ?_
          refine gg_iand dX2_leadByLuring_68 ?_
          refine gg_istore_n [some (.ref 0), some (.int y1), some (.int (x2_10 &&& (((1 : Int32) <<< (v2 &&& 31)) ^^^ (-1 : Int32)))), some (.int (x3_10 + s1_59)), some (.int x4_10), some (.int v2)] dX2_leadByLuring_69 rfl (Nat.le_of_ble_eq_true rfl) rfl ?_
          refine gg_iinc (x4_10 + (1 : Int32)) [some (.ref 0), some (.int y1), some (.int (x2_10 &&& (((1 : Int32) <<< (v2 &&& 31)) ^^^ (-1 : Int32)))), some (.int (x3_10 + s1_59)), some (.int (x4_10 + (1 : Int32))), some (.int v2)] dX2_leadByLuring_70 rfl rfl rfl (Nat.le_of_ble_eq_true rfl) rfl ?_
          refine gg_goto 10 dX2_leadByLuring_73 (by decide) ?_
          refine gg_fg [true, true, true, true, true, false] [some (.ref 0), some (.int y1), some (.int (x2_10 &&& (((1 : Int32) <<< (v2 &&& 31)) ^^^ (-1 : Int32)))), some (.int (x3_10 + s1_59)), some (.int (x4_10 + (1 : Int32))), none] rfl ?_
          exact ih (x2_10 &&& (((1 : Int32) <<< (v2 &&& 31)) ^^^ (-1 : Int32))) (x3_10 + s1_59) (x4_10 + (1 : Int32)) h
        clear hke59
        refine gg_if_ne 51 dX2_leadByLuring_38 (by decide) (fun hc => ?_) (fun hc => ?_)
        · replace h := gg_el h hc
          refine gg_aload_n dX2_leadByLuring_51 rfl ?_
          refine gg_get 0 fl_X2_31 dX2_leadByLuring_52 rfl rfl ?_
          refine gg_iload dX2_leadByLuring_55 rfl ?_
          obtain ⟨hb57, h⟩ := gg_ck h
          refine gg_iald 1 dX2_leadByLuring_57 rfl hb57 ?_
          refine gg_ineg dX2_leadByLuring_58 ?_
          refine gg_fg [true, true, true, false, true, true] [some (.ref 0), some (.int y1), some (.int x2_10), none, some (.int x4_10), some (.int v2)] rfl ?_
          exact hk59 (-(c_strength v2.toNatClampNeg)) h
        · replace h := gg_th h hc
          refine gg_aload_n dX2_leadByLuring_41 rfl ?_
          refine gg_get 0 fl_X2_31 dX2_leadByLuring_42 rfl rfl ?_
          refine gg_iload dX2_leadByLuring_45 rfl ?_
          obtain ⟨hb47, h⟩ := gg_ck h
          refine gg_iald 1 dX2_leadByLuring_47 rfl hb47 ?_
          refine gg_goto 59 dX2_leadByLuring_48 (by decide) ?_
          refine gg_fg [true, true, true, false, true, true] [some (.ref 0), some (.int y1), some (.int x2_10), none, some (.int x4_10), some (.int v2)] rfl ?_
          exact hk59 (c_strength v2.toNatClampNeg) h
      · replace h := gg_th h hc
        refine gg_fg [false, false, false, true, false, false] [none, none, none, some (.int x3_10), none, none] rfl ?_
        exact hk30 x3_10 h
set_option maxRecDepth 20000 in
set_option maxHeartbeats 8000000 in
theorem C_X2_leadByLuring (a0 : Int32) (c_huts : Int32) (c_food : Int32) (c_due : Int32) (c_backs : Int32) (c_strength : Nat → Int32) (c_brick : Nat → Int32) {res : Int32} (h : f_X2_leadByLuring a0 c_huts c_strength c_brick = some res) : gg_C MD_X2_leadByLuring [.ref 0, .int a0] (wd_X2_leadByLuring c_huts c_food c_due c_backs c_strength c_brick) (some (.int res)) (wd_X2_leadByLuring c_huts c_food c_due c_backs c_strength c_brick) := by
  refine gg_ofG [some (.ref 0), some (.int a0), none, none, none, none] (plainFor_of_name (by decide)) (Nat.le_of_ble_eq_true rfl) rfl ?_
  unfold f_X2_leadByLuring at h
  refine gg_aload_n dX2_leadByLuring_0 rfl ?_
  obtain ⟨v1, hv1, h⟩ := gg_bd h
  refine gg_callV (gg_sg [0]) [0, 2] (wd_X2_leadByLuring c_huts c_food c_due c_backs c_strength c_brick) 0 (C_X2_thereBits c_huts c_food c_due c_backs c_brick hv1) nV_X2_thereBits ml_X2_78 rfl rfl rfl rfl rfl rfl rfl rfl rfl rfl [1] 3 rfl rfl rfl rfl rfl ⟨Nat.le_of_ble_eq_true rfl, Nat.le_of_ble_eq_true rfl⟩ (Nat.le_of_ble_eq_true rfl) dX2_leadByLuring_1 [.int v1] rfl ?_
  refine gg_istore_n [some (.ref 0), some (.int a0), some (.int v1), none, none, none] dX2_leadByLuring_4 rfl (Nat.le_of_ble_eq_true rfl) rfl ?_
  refine gg_iconst (0 : Int32) dX2_leadByLuring_5 (by decide) ?_
  refine gg_istore_n [some (.ref 0), some (.int a0), some (.int v1), some (.int (0 : Int32)), none, none] dX2_leadByLuring_6 rfl (Nat.le_of_ble_eq_true rfl) rfl ?_
  refine gg_iconst (0 : Int32) dX2_leadByLuring_7 (by decide) ?_
  refine gg_istore [some (.ref 0), some (.int a0), some (.int v1), some (.int (0 : Int32)), some (.int (0 : Int32)), none] dX2_leadByLuring_8 rfl (Nat.le_of_ble_eq_true rfl) rfl ?_
  refine lq_X2_leadByLuring_10 a0 c_huts c_food c_due c_backs c_strength c_brick _ _ ?_ ?_ gg_fuel v1 (0 : Int32) (0 : Int32) h
  · intro x3_30 h
    refine gg_goto 76 dX2_leadByLuring_30 (by decide) ?_
    refine gg_iload_n dX2_leadByLuring_76 rfl ?_
    cases h
    exact gg_iret dX2_leadByLuring_77 rfl
  · intro x3_76 h
    refine gg_iload_n dX2_leadByLuring_76 rfl ?_
    cases h
    exact gg_iret dX2_leadByLuring_77 rfl
def wd_X8_duel (c_latestFinding : Int32) (c_told : Int32) (c_above : Int64) (c_below : Int64) (c_now_huts : Int32) (c_now_food : Int32) (c_now_due : Int32) (c_now_backs : Int32) (c_now_strength : Nat → Int32) (c_now_brick : Nat → Int32) : va_W := [(0, .inr (7, [.ref 1, .ref 10, .ref 17, .ref 19, .ref 27, .ref 35, .ref 43, .ref 45, .ref 52, .ref 56, .ref 60, .ref 67, .int c_latestFinding, .int c_told, .long c_above, .long c_below])), (27, .inr (2, [.int c_now_huts, .int c_now_food, .int c_now_due, .ref 28, .ref 29, .ref 30, .ref 31, .ref 32, .ref 33, .ref 34, .int c_now_backs])), (31, .inl (0, 6, .inl c_now_strength)), (33, .inl (0, 6, .inl c_now_brick))]
def MD_X8_duel : gg_M := (yX8_duel, cX8_duel, 2, some .int, 4, 89)
theorem nV_X8_duel : gg_nV MD_X8_duel 1 := ⟨⟨gg_mem (by decide +kernel) rfl, gg_mem cw_X8_duel rfl, by decide, by decide, by decide +kernel⟩, gg_mem (by decide +kernel) rfl, gg_mem (by decide +kernel) rfl⟩
def f_X8_duel (a0 : Int32) (c_now_huts : Int32) (c_now_strength : Nat → Int32) (c_now_brick : Nat → Int32) : Option (Int32) := (f_X8_within a0 (0 : Int32) (6 : Int32)).bind (fun v1 => (if v1 = (0 : Int32) then (some (-1 : Int32)) else (f_X2_howManyThere c_now_huts c_now_brick).bind (fun v2 => (if v2 = (0 : Int32) then (some (-4 : Int32)) else (f_X2_leadByLuring a0 c_now_huts c_now_strength c_now_brick).bind (fun v3 => (some (v3 + (100 : Int32))))))))
set_option maxRecDepth 20000 in
set_option maxHeartbeats 8000000 in
theorem C_X8_duel (a0 : Int32) (c_latestFinding : Int32) (c_told : Int32) (c_above : Int64) (c_below : Int64) (c_now_huts : Int32) (c_now_food : Int32) (c_now_due : Int32) (c_now_backs : Int32) (c_now_strength : Nat → Int32) (c_now_brick : Nat → Int32) {res : Int32} (h : f_X8_duel a0 c_now_huts c_now_strength c_now_brick = some res) : gg_C MD_X8_duel [.ref 0, .int a0] (wd_X8_duel c_latestFinding c_told c_above c_below c_now_huts c_now_food c_now_due c_now_backs c_now_strength c_now_brick) (some (.int res)) (wd_X8_duel c_latestFinding c_told c_above c_below c_now_huts c_now_food c_now_due c_now_backs c_now_strength c_now_brick) := by
  refine gg_ofG [some (.ref 0), some (.int a0)] (plainFor_of_name (by decide)) (Nat.le_of_ble_eq_true rfl) rfl ?_
  unfold f_X8_duel at h
  refine gg_iload_n dX8_duel_0 rfl ?_
  refine gg_iconst (0 : Int32) dX8_duel_1 (by decide) ?_
  refine gg_bipush (6 : Int32) dX8_duel_2 (by decide) ?_
  obtain ⟨v1, hv1, h⟩ := gg_bd h
  refine gg_callS (gg_sg []) [] (wd_X8_duel c_latestFinding c_told c_above c_below c_now_huts c_now_food c_now_due c_now_backs c_now_strength c_now_brick) (C_X8_within a0 (0 : Int32) (6 : Int32) hv1) nS_X8_within ml_X8_155 rfl rfl rfl rfl rfl rfl rfl [0, 1, 2, 3] 4 rfl rfl rfl rfl rfl ⟨Nat.le_of_ble_eq_true rfl, Nat.le_of_ble_eq_true rfl⟩ (Nat.le_of_ble_eq_true rfl) dX8_duel_4 [.int v1] rfl ?_
  refine gg_if_ne 12 dX8_duel_7 (by decide) (fun hc => ?_) (fun hc => ?_)
  · replace h := gg_el h hc
    refine gg_aload_n dX8_duel_12 rfl ?_
    refine gg_get 0 fl_X8_35 dX8_duel_13 rfl rfl ?_
    obtain ⟨v2, hv2, h⟩ := gg_bd h
    refine gg_callV (gg_sg [27]) [1, 3] (wd_X8_duel c_latestFinding c_told c_above c_below c_now_huts c_now_food c_now_due c_now_backs c_now_strength c_now_brick) 0 (C_X2_howManyThere c_now_huts c_now_food c_now_due c_now_backs c_now_brick hv2) nV_X2_howManyThere ml_X8_196 rfl rfl rfl rfl rfl rfl rfl rfl rfl rfl [0, 2] 4 rfl rfl rfl rfl rfl ⟨Nat.le_of_ble_eq_true rfl, Nat.le_of_ble_eq_true rfl⟩ (Nat.le_of_ble_eq_true rfl) dX8_duel_16 [.int v2] rfl ?_
    refine gg_if_ne 25 dX8_duel_19 (by decide) (fun hc => ?_) (fun hc => ?_)
    · replace h := gg_el h hc
      refine gg_aload_n dX8_duel_25 rfl ?_
      refine gg_get 0 fl_X8_35 dX8_duel_26 rfl rfl ?_
      refine gg_iload_n dX8_duel_29 rfl ?_
      obtain ⟨v3, hv3, h⟩ := gg_bd h
      refine gg_callV (gg_sg [27]) [1, 2, 3] (wd_X8_duel c_latestFinding c_told c_above c_below c_now_huts c_now_food c_now_due c_now_backs c_now_strength c_now_brick) 0 (C_X2_leadByLuring a0 c_now_huts c_now_food c_now_due c_now_backs c_now_strength c_now_brick hv3) nV_X2_leadByLuring ml_X8_267 rfl rfl rfl rfl rfl rfl rfl rfl rfl rfl [0] 4 rfl rfl rfl rfl rfl ⟨Nat.le_of_ble_eq_true rfl, Nat.le_of_ble_eq_true rfl⟩ (Nat.le_of_ble_eq_true rfl) dX8_duel_30 [.int v3] rfl ?_
      refine gg_bipush (100 : Int32) dX8_duel_33 (by decide) ?_
      refine gg_iadd dX8_duel_35 ?_
      cases h
      exact gg_iret dX8_duel_36 rfl
    · replace h := gg_th h hc
      refine gg_bipush (-4 : Int32) dX8_duel_22 (by decide) ?_
      cases h
      exact gg_iret dX8_duel_24 rfl
  · replace h := gg_th h hc
    refine gg_iconst (-1 : Int32) dX8_duel_10 (by decide) ?_
    cases h
    exact gg_iret dX8_duel_11 rfl
def wd_X8_thereBehindWinter (c_latestFinding : Int32) (c_told : Int32) (c_above : Int64) (c_below : Int64) (c_now_huts : Int32) (c_now_food : Int32) (c_now_due : Int32) (c_now_backs : Int32) (c_now_winds : Nat → Int32) (c_now_kind : Nat → Int32) (c_now_home : Nat → Int32) (c_now_strength : Nat → Int32) (c_now_brown : Nat → Int32) (c_now_brick : Nat → Int32) (c_aside_huts : Int32) (c_aside_food : Int32) (c_aside_due : Int32) (c_aside_backs : Int32) (c_aside_winds : Nat → Int32) (c_aside_kind : Nat → Int32) (c_aside_home : Nat → Int32) (c_aside_strength : Nat → Int32) (c_aside_brown : Nat → Int32) (c_aside_brick : Nat → Int32) (c_aside_back : Nat → Int32) : va_W := [(0, .inr (7, [.ref 1, .ref 10, .ref 17, .ref 19, .ref 27, .ref 35, .ref 43, .ref 45, .ref 52, .ref 56, .ref 60, .ref 67, .int c_latestFinding, .int c_told, .long c_above, .long c_below])), (27, .inr (2, [.int c_now_huts, .int c_now_food, .int c_now_due, .ref 28, .ref 29, .ref 30, .ref 31, .ref 32, .ref 33, .ref 34, .int c_now_backs])), (28, .inl (0, 4, .inl c_now_winds)), (29, .inl (0, 6, .inl c_now_kind)), (30, .inl (0, 6, .inl c_now_home)), (31, .inl (0, 6, .inl c_now_strength)), (32, .inl (0, 6, .inl c_now_brown)), (33, .inl (0, 6, .inl c_now_brick)), (35, .inr (2, [.int c_aside_huts, .int c_aside_food, .int c_aside_due, .ref 36, .ref 37, .ref 38, .ref 39, .ref 40, .ref 41, .ref 42, .int c_aside_backs])), (36, .inl (0, 4, .inl c_aside_winds)), (37, .inl (0, 6, .inl c_aside_kind)), (38, .inl (0, 6, .inl c_aside_home)), (39, .inl (0, 6, .inl c_aside_strength)), (40, .inl (0, 6, .inl c_aside_brown)), (41, .inl (0, 6, .inl c_aside_brick)), (42, .inl (0, 6, .inl c_aside_back))]
def MD_X8_thereBehindWinter : gg_M := (yX8_thereBehindWinter, cX8_thereBehindWinter, 1, some .int, 4, 90)
theorem nV_X8_thereBehindWinter : gg_nV MD_X8_thereBehindWinter 0 := ⟨⟨gg_mem (by decide +kernel) rfl, gg_mem cw_X8_thereBehindWinter rfl, by decide, by decide, by decide +kernel⟩, gg_mem (by decide +kernel) rfl, gg_mem (by decide +kernel) rfl⟩
def f_X8_thereBehindWinter  (c_now_huts : Int32) (c_now_food : Int32) (c_now_due : Int32) (c_now_winds : Nat → Int32) (c_now_kind : Nat → Int32) (c_now_home : Nat → Int32) (c_now_strength : Nat → Int32) (c_now_brown : Nat → Int32) (c_now_brick : Nat → Int32) (c_aside_huts : Int32) (c_aside_food : Int32) (c_aside_due : Int32) (c_aside_backs : Int32) (c_aside_winds : Nat → Int32) (c_aside_kind : Nat → Int32) (c_aside_home : Nat → Int32) (c_aside_strength : Nat → Int32) (c_aside_brown : Nat → Int32) (c_aside_brick : Nat → Int32) (c_aside_back : Nat → Int32) : Option (Int32 × (Int32) × (Int32) × (Int32) × (Int32) × (Nat → Int32) × (Nat → Int32) × (Nat → Int32) × (Nat → Int32) × (Nat → Int32) × (Nat → Int32) × (Nat → Int32)) := gg_b10 (f_X2_become c_aside_huts c_aside_food c_aside_due c_aside_backs c_aside_winds c_aside_kind c_aside_home c_aside_strength c_aside_brown c_aside_brick c_now_huts c_now_food c_now_due c_now_winds c_now_kind c_now_home c_now_strength c_now_brown c_now_brick) (fun v1_0 v1_1 v1_2 v1_3 v1_4 v1_5 v1_6 v1_7 v1_8 v1_9 => gg_b7 (f_X2_passWinter v1_0 v1_1 v1_2 v1_3 v1_4 v1_5 v1_6 v1_7 v1_8 v1_9 c_aside_back) (fun v2_0 v2_1 v2_2 v2_3 v2_4 v2_5 v2_6 => (f_X2_thereBits v1_0 v2_5).bind (fun v3 => (some (v3, v1_0, v2_0, v2_1, v2_2, v1_4, v1_5, v1_6, v2_3, v2_4, v2_5, v2_6)))))
set_option maxRecDepth 20000 in
set_option maxHeartbeats 8000000 in
theorem C_X8_thereBehindWinter  (c_latestFinding : Int32) (c_told : Int32) (c_above : Int64) (c_below : Int64) (c_now_huts : Int32) (c_now_food : Int32) (c_now_due : Int32) (c_now_backs : Int32) (c_now_winds : Nat → Int32) (c_now_kind : Nat → Int32) (c_now_home : Nat → Int32) (c_now_strength : Nat → Int32) (c_now_brown : Nat → Int32) (c_now_brick : Nat → Int32) (c_aside_huts : Int32) (c_aside_food : Int32) (c_aside_due : Int32) (c_aside_backs : Int32) (c_aside_winds : Nat → Int32) (c_aside_kind : Nat → Int32) (c_aside_home : Nat → Int32) (c_aside_strength : Nat → Int32) (c_aside_brown : Nat → Int32) (c_aside_brick : Nat → Int32) (c_aside_back : Nat → Int32) {r0 : Int32} {r1 : (Int32)} {r2 : (Int32)} {r3 : (Int32)} {r4 : (Int32)} {r5 : (Nat → Int32)} {r6 : (Nat → Int32)} {r7 : (Nat → Int32)} {r8 : (Nat → Int32)} {r9 : (Nat → Int32)} {r10 : (Nat → Int32)} {r11 : (Nat → Int32)} (h : f_X8_thereBehindWinter c_now_huts c_now_food c_now_due c_now_winds c_now_kind c_now_home c_now_strength c_now_brown c_now_brick c_aside_huts c_aside_food c_aside_due c_aside_backs c_aside_winds c_aside_kind c_aside_home c_aside_strength c_aside_brown c_aside_brick c_aside_back = some (r0, r1, r2, r3, r4, r5, r6, r7, r8, r9, r10, r11)) : gg_C MD_X8_thereBehindWinter [.ref 0] (wd_X8_thereBehindWinter c_latestFinding c_told c_above c_below c_now_huts c_now_food c_now_due c_now_backs c_now_winds c_now_kind c_now_home c_now_strength c_now_brown c_now_brick c_aside_huts c_aside_food c_aside_due c_aside_backs c_aside_winds c_aside_kind c_aside_home c_aside_strength c_aside_brown c_aside_brick c_aside_back) (some (.int r0)) (wd_X8_thereBehindWinter c_latestFinding c_told c_above c_below c_now_huts c_now_food c_now_due c_now_backs c_now_winds c_now_kind c_now_home c_now_strength c_now_brown c_now_brick r1 r2 r3 r4 r5 r6 r7 r8 r9 r10 r11) := by
  refine gg_ofG [some (.ref 0)] (plainFor_of_name (by decide)) (Nat.le_of_ble_eq_true rfl) rfl ?_
  unfold f_X8_thereBehindWinter at h
  refine gg_aload_n dX8_thereBehindWinter_0 rfl ?_
  refine gg_get 0 fl_X8_38 dX8_thereBehindWinter_1 rfl rfl ?_
  refine gg_aload_n dX8_thereBehindWinter_4 rfl ?_
  refine gg_get 0 fl_X8_35 dX8_thereBehindWinter_5 rfl rfl ?_
  obtain ⟨v1_0, v1_1, v1_2, v1_3, v1_4, v1_5, v1_6, v1_7, v1_8, v1_9, hv1, h⟩ := gg_bd10 h
  refine gg_callV (gg_sg [35, 27]) [8, 9, 10, 11, 12, 13, 14, 1, 2, 3, 4, 5, 6, 7] (wd_X8_thereBehindWinter c_latestFinding c_told c_above c_below c_now_huts c_now_food c_now_due c_now_backs c_now_winds c_now_kind c_now_home c_now_strength c_now_brown c_now_brick v1_0 v1_1 v1_2 v1_3 v1_4 v1_5 v1_6 v1_7 v1_8 v1_9 c_aside_back) 0 (C_X2_become c_aside_huts c_aside_food c_aside_due c_aside_backs c_aside_winds c_aside_kind c_aside_home c_aside_strength c_aside_brown c_aside_brick c_now_huts c_now_food c_now_due c_now_backs c_now_winds c_now_kind c_now_home c_now_strength c_now_brown c_now_brick hv1) nV_X2_become ml_X8_145 rfl rfl rfl rfl rfl rfl rfl rfl rfl rfl [0, 15] 16 rfl rfl rfl rfl rfl ⟨Nat.le_of_ble_eq_true rfl, Nat.le_of_ble_eq_true rfl⟩ (Nat.le_of_ble_eq_true rfl) dX8_thereBehindWinter_8 [] rfl ?_
  refine gg_aload_n dX8_thereBehindWinter_11 rfl ?_
  refine gg_get 0 fl_X8_38 dX8_thereBehindWinter_12 rfl rfl ?_
  obtain ⟨v2_0, v2_1, v2_2, v2_3, v2_4, v2_5, v2_6, hv2, h⟩ := gg_bd7 h
  refine gg_callV (gg_sg [35]) [8, 9, 10, 11, 12, 13, 14, 15] (wd_X8_thereBehindWinter c_latestFinding c_told c_above c_below c_now_huts c_now_food c_now_due c_now_backs c_now_winds c_now_kind c_now_home c_now_strength c_now_brown c_now_brick v1_0 v2_0 v2_1 v2_2 v1_4 v1_5 v1_6 v2_3 v2_4 v2_5 v2_6) 0 (C_X2_passWinter v1_0 v1_1 v1_2 v1_3 v1_4 v1_5 v1_6 v1_7 v1_8 v1_9 c_aside_back hv2) nV_X2_passWinter ml_X8_223 rfl rfl rfl rfl rfl rfl rfl rfl rfl rfl [0, 1, 2, 3, 4, 5, 6, 7] 16 rfl rfl rfl rfl rfl ⟨Nat.le_of_ble_eq_true rfl, Nat.le_of_ble_eq_true rfl⟩ (Nat.le_of_ble_eq_true rfl) dX8_thereBehindWinter_15 [] rfl ?_
  refine gg_aload_n dX8_thereBehindWinter_18 rfl ?_
  refine gg_get 0 fl_X8_38 dX8_thereBehindWinter_19 rfl rfl ?_
  obtain ⟨v3, hv3, h⟩ := gg_bd h
  refine gg_callV (gg_sg [35]) [8, 14] (wd_X8_thereBehindWinter c_latestFinding c_told c_above c_below c_now_huts c_now_food c_now_due c_now_backs c_now_winds c_now_kind c_now_home c_now_strength c_now_brown c_now_brick v1_0 v2_0 v2_1 v2_2 v1_4 v1_5 v1_6 v2_3 v2_4 v2_5 v2_6) 0 (C_X2_thereBits v1_0 v2_0 v2_1 v2_2 v2_5 hv3) nV_X2_thereBits ml_X8_304 rfl rfl rfl rfl rfl rfl rfl rfl rfl rfl [0, 1, 2, 3, 4, 5, 6, 7, 9, 10, 11, 12, 13, 15] 16 rfl rfl rfl rfl rfl ⟨Nat.le_of_ble_eq_true rfl, Nat.le_of_ble_eq_true rfl⟩ (Nat.le_of_ble_eq_true rfl) dX8_thereBehindWinter_22 [.int v3] rfl ?_
  cases h
  exact gg_iret dX8_thereBehindWinter_25 rfl
def wd_X8_isPartOf  : va_W := []
def MD_X8_isPartOf : gg_M := (yX8_isPartOf, cX8_isPartOf, 2, some .boolean, 0, 0)
theorem nS_X8_isPartOf : gg_nS MD_X8_isPartOf 2 := ⟨⟨gg_mem (by decide +kernel) rfl, gg_mem cw_X8_isPartOf rfl, by decide, by decide, by decide +kernel⟩, gg_mem (by decide +kernel) rfl⟩
def f_X8_isPartOf (a0 : Int32) (a1 : Int32)  : Option (Int32) := gg_lt (fun (s0_13 : Int32) => gg_chk (gg_isb s0_13) (some s0_13)) (fun k13 => (if (a0 &&& (a1 ^^^ (-1 : Int32))) = (0 : Int32) then (k13 (1 : Int32)) else (k13 (0 : Int32))))
set_option maxRecDepth 20000 in
set_option maxHeartbeats 8000000 in
theorem C_X8_isPartOf (a0 : Int32) (a1 : Int32)  {res : Int32} (h : f_X8_isPartOf a0 a1 = some res) : gg_C MD_X8_isPartOf [.int a0, .int a1] (wd_X8_isPartOf) (some (.int res)) (wd_X8_isPartOf) := by
  refine gg_ofG [some (.int a0), some (.int a1)] (plainFor_of_name (by decide)) (Nat.le_of_ble_eq_true rfl) rfl ?_
  unfold f_X8_isPartOf at h
  refine gg_iload_n dX8_isPartOf_0 rfl ?_
  refine gg_iload_n dX8_isPartOf_1 rfl ?_
  refine gg_iconst (-1 : Int32) dX8_isPartOf_2 (by decide) ?_
  refine gg_ixor dX8_isPartOf_3 ?_
  refine gg_iand dX8_isPartOf_4 ?_
  obtain ⟨k13, hke13, h⟩ := gg_lte h
  have hk13 : ∀ (s0_13 : Int32), k13 s0_13 = some res → gg_G MD_X8_isPartOf 13 [none, none] [.int s0_13] (wd_X8_isPartOf) (some (.int res)) (wd_X8_isPartOf) := by
    intro s0_13 h
    subst hke13
    obtain ⟨hz, h⟩ := gg_ck h
    cases h
    exact gg_zret dX8_isPartOf_13 rfl hz
  clear hke13
  refine gg_if_ne 12 dX8_isPartOf_5 (by decide) (fun hc => ?_) (fun hc => ?_)
  · replace h := gg_el h hc
    refine gg_iconst (0 : Int32) dX8_isPartOf_12 (by decide) ?_
    refine gg_fg [false, false] [none, none] rfl ?_
    exact hk13 (0 : Int32) h
  · replace h := gg_th h hc
    refine gg_iconst (1 : Int32) dX8_isPartOf_8 (by decide) ?_
    refine gg_goto 13 dX8_isPartOf_9 (by decide) ?_
    refine gg_fg [false, false] [none, none] rfl ?_
    exact hk13 (1 : Int32) h
def wd_X8_weight  : va_W := []
def MD_X8_weight : gg_M := (yX8_weight, cX8_weight, 6, some .long, 0, 0)
theorem nS_X8_weight : gg_nS MD_X8_weight 3 := ⟨⟨gg_mem (by decide +kernel) rfl, gg_mem cw_X8_weight rfl, by decide, by decide, by decide +kernel⟩, gg_mem (by decide +kernel) rfl⟩
def lp_X8_weight_5 {β : Type} (y0 : Int32) (y1 : Int32) (y2 : Int32) (k51 : (Int64) → Option β) : Nat → (Int64) → (Int32) → Option β
  | 0, _, _ => none
  | n + 1, x3_5, x5_5 => (if (6 : Int32) ≤ x5_5 then (k51 x3_5) else gg_lt (fun (x3_45 : Int64) => (lp_X8_weight_5 y0 y1 y2 k51 n x3_45 (x5_5 + (1 : Int32)))) (fun k45 => (if ((y1 >>> (x5_5 &&& 31)) &&& (1 : Int32)) = (1 : Int32) then gg_lt (fun (s1_43 : Int64) => (k45 (x3_5 * s1_43))) (fun k43 => (if ((y0 >>> (x5_5 &&& 31)) &&& (1 : Int32)) = (1 : Int32) then (k43 (((12 : Int32) - y2).toInt64)) else (k43 (y2.toInt64)))) else (k45 x3_5))))
def f_X8_weight (a0 : Int32) (a1 : Int32) (a2 : Int32)  : Option (Int64) := (lp_X8_weight_5 a0 a1 a2 (fun (x3_51 : Int64) => (some x3_51)) gg_fuel (1 : Int64) (0 : Int32))
set_option maxRecDepth 20000 in
set_option maxHeartbeats 4000000 in
theorem lq_X8_weight_5 {β : Type} {res : β} {rr : Option Value} {ww : va_W} (y0 : Int32) (y1 : Int32) (y2 : Int32) (k51 : (Int64) → Option β) (hk51 : ∀ (x3_51 : Int64), k51 x3_51 = some res → gg_G MD_X8_weight 51 [none, none, none, some (.long x3_51), none, none] [] (wd_X8_weight) rr ww) : ∀ (n : Nat) (x3_5 : Int64) (x5_5 : Int32), lp_X8_weight_5 y0 y1 y2 k51 n x3_5 x5_5 = some res → gg_G MD_X8_weight 5 [some (.int y0), some (.int y1), some (.int y2), some (.long x3_5), none, some (.int x5_5)] [] (wd_X8_weight) rr ww := by
  intro n
  induction n with
  | zero =>
    intro x3_5 x5_5 h
    exact nomatch (show (none : Option β) = some res from h)
  | succ n ih =>
    intro x3_5 x5_5 h
    rw [lp_X8_weight_5] at h
    refine gg_iload dX8_weight_5 rfl ?_
    refine gg_bipush (6 : Int32) dX8_weight_7 (by decide) ?_
    refine gg_icmp_ge 51 dX8_weight_9 (by decide) (fun hc => ?_) (fun hc => ?_)
    · replace h := gg_th h hc
      refine gg_fg [false, false, false, true, false, false] [none, none, none, some (.long x3_5), none, none] rfl ?_
      exact hk51 x3_5 h
    · replace h := gg_el h hc
      refine gg_iload_n dX8_weight_12 rfl ?_
      refine gg_iload dX8_weight_13 rfl ?_
      refine gg_ishr dX8_weight_15 ?_
      refine gg_iconst (1 : Int32) dX8_weight_16 (by decide) ?_
      refine gg_iand dX8_weight_17 ?_
      refine gg_iconst (1 : Int32) dX8_weight_18 (by decide) ?_
      obtain ⟨k45, hke45, h⟩ := gg_lte h
      have hk45 : ∀ (x3_45 : Int64), k45 x3_45 = some res → gg_G MD_X8_weight 45 [some (.int y0), some (.int y1), some (.int y2), some (.long x3_45), none, some (.int x5_5)] [] (wd_X8_weight) rr ww := by
        intro x3_45 h
        subst hke45
        refine gg_iinc (x5_5 + (1 : Int32)) [some (.int y0), some (.int y1), some (.int y2), some (.long x3_45), none, some (.int (x5_5 + (1 : Int32)))] dX8_weight_45 rfl rfl rfl (Nat.le_of_ble_eq_true rfl) rfl ?_
        refine gg_goto 5 dX8_weight_48 (by decide) ?_
        exact ih x3_45 (x5_5 + (1 : Int32)) h
      clear hke45
      refine gg_icmp_ne 45 dX8_weight_19 (by decide) (fun hc => ?_) (fun hc => ?_)
      · replace h := gg_el h hc
        exact hk45 x3_5 h
      · replace h := gg_th h hc
        refine gg_lload_n dX8_weight_22 rfl ?_
        refine gg_iload_n dX8_weight_23 rfl ?_
        refine gg_iload dX8_weight_24 rfl ?_
        refine gg_ishr dX8_weight_26 ?_
        refine gg_iconst (1 : Int32) dX8_weight_27 (by decide) ?_
        refine gg_iand dX8_weight_28 ?_
        refine gg_iconst (1 : Int32) dX8_weight_29 (by decide) ?_
        obtain ⟨k43, hke43, h⟩ := gg_lte h
        have hk43 : ∀ (s1_43 : Int64), k43 s1_43 = some res → gg_G MD_X8_weight 43 [some (.int y0), some (.int y1), some (.int y2), none, none, some (.int x5_5)] [.long s1_43, .long x3_5] (wd_X8_weight) rr ww := by
          intro s1_43 h
          subst hke43
          refine gg_lmul dX8_weight_43 ?_
          refine gg_lstore_n [some (.int y0), some (.int y1), some (.int y2), some (.long (x3_5 * s1_43)), none, some (.int x5_5)] dX8_weight_44 rfl (Nat.le_of_ble_eq_true rfl) rfl ?_
          exact hk45 (x3_5 * s1_43) h
        clear hke43
        refine gg_icmp_ne 41 dX8_weight_30 (by decide) (fun hc => ?_) (fun hc => ?_)
        · replace h := gg_el h hc
          refine gg_iload_n dX8_weight_41 rfl ?_
          refine gg_i2l dX8_weight_42 ?_
          refine gg_fg [true, true, true, false, false, true] [some (.int y0), some (.int y1), some (.int y2), none, none, some (.int x5_5)] rfl ?_
          exact hk43 (y2.toInt64) h
        · replace h := gg_th h hc
          refine gg_bipush (12 : Int32) dX8_weight_33 (by decide) ?_
          refine gg_iload_n dX8_weight_35 rfl ?_
          refine gg_isub dX8_weight_36 ?_
          refine gg_i2l dX8_weight_37 ?_
          refine gg_goto 43 dX8_weight_38 (by decide) ?_
          refine gg_fg [true, true, true, false, false, true] [some (.int y0), some (.int y1), some (.int y2), none, none, some (.int x5_5)] rfl ?_
          exact hk43 (((12 : Int32) - y2).toInt64) h
set_option maxRecDepth 20000 in
set_option maxHeartbeats 8000000 in
theorem C_X8_weight (a0 : Int32) (a1 : Int32) (a2 : Int32)  {res : Int64} (h : f_X8_weight a0 a1 a2 = some res) : gg_C MD_X8_weight [.int a0, .int a1, .int a2] (wd_X8_weight) (some (.long res)) (wd_X8_weight) := by
  refine gg_ofG [some (.int a0), some (.int a1), some (.int a2), none, none, none] (plainFor_of_name (by decide)) (Nat.le_of_ble_eq_true rfl) rfl ?_
  unfold f_X8_weight at h
  refine gg_lconst (1 : Int64) dX8_weight_0 (by decide) ?_
  refine gg_lstore_n [some (.int a0), some (.int a1), some (.int a2), some (.long (1 : Int64)), none, none] dX8_weight_1 rfl (Nat.le_of_ble_eq_true rfl) rfl ?_
  refine gg_iconst (0 : Int32) dX8_weight_2 (by decide) ?_
  refine gg_istore [some (.int a0), some (.int a1), some (.int a2), some (.long (1 : Int64)), none, some (.int (0 : Int32))] dX8_weight_3 rfl (Nat.le_of_ble_eq_true rfl) rfl ?_
  refine lq_X8_weight_5 a0 a1 a2 _ ?_ gg_fuel (1 : Int64) (0 : Int32) h
  intro x3_51 h
  refine gg_lload_n dX8_weight_51 rfl ?_
  cases h
  exact gg_lret dX8_weight_52 rfl
def wd_X8_greatestDivisor  : va_W := []
def MD_X8_greatestDivisor : gg_M := (yX8_greatestDivisor, cX8_greatestDivisor, 7, some .long, 0, 0)
theorem nS_X8_greatestDivisor : gg_nS MD_X8_greatestDivisor 2 := ⟨⟨gg_mem (by decide +kernel) rfl, gg_mem cw_X8_greatestDivisor rfl, by decide, by decide, by decide +kernel⟩, gg_mem (by decide +kernel) rfl⟩
def lp_X8_greatestDivisor_3 {β : Type}  (k32 : (Int64) → Option β) : Nat → (Int64) → (Int64) → (Int32) → Option β
  | 0, _, _, _ => none
  | n + 1, x0_3, x2_3, x4_3 => (if (100 : Int32) ≤ x4_3 then (k32 x0_3) else (if (lg_cmp x2_3 (0 : Int64)) = (0 : Int32) then (k32 x0_3) else gg_chk (!decide (x2_3 = 0)) ((lp_X8_greatestDivisor_3 k32 n x2_3 (x0_3 - x0_3 / x2_3 * x2_3) (x4_3 + (1 : Int32))))))
def f_X8_greatestDivisor (a0 : Int64) (a1 : Int64)  : Option (Int64) := (lp_X8_greatestDivisor_3 (fun (x0_32 : Int64) => (some x0_32)) gg_fuel a0 a1 (0 : Int32))
set_option maxRecDepth 20000 in
set_option maxHeartbeats 4000000 in
theorem lq_X8_greatestDivisor_3 {β : Type} {res : β} {rr : Option Value} {ww : va_W}  (k32 : (Int64) → Option β) (hk32 : ∀ (x0_32 : Int64), k32 x0_32 = some res → gg_G MD_X8_greatestDivisor 32 [some (.long x0_32), none, none, none, none, none, none] [] (wd_X8_greatestDivisor) rr ww) : ∀ (n : Nat) (x0_3 : Int64) (x2_3 : Int64) (x4_3 : Int32), lp_X8_greatestDivisor_3 k32 n x0_3 x2_3 x4_3 = some res → gg_G MD_X8_greatestDivisor 3 [some (.long x0_3), none, some (.long x2_3), none, some (.int x4_3), none, none] [] (wd_X8_greatestDivisor) rr ww := by
  intro n
  induction n with
  | zero =>
    intro x0_3 x2_3 x4_3 h
    exact nomatch (show (none : Option β) = some res from h)
  | succ n ih =>
    intro x0_3 x2_3 x4_3 h
    rw [lp_X8_greatestDivisor_3] at h
    refine gg_iload dX8_greatestDivisor_3 rfl ?_
    refine gg_bipush (100 : Int32) dX8_greatestDivisor_5 (by decide) ?_
    refine gg_icmp_ge 32 dX8_greatestDivisor_7 (by decide) (fun hc => ?_) (fun hc => ?_)
    · replace h := gg_th h hc
      refine gg_fg [true, false, false, false, false, false, false] [some (.long x0_3), none, none, none, none, none, none] rfl ?_
      exact hk32 x0_3 h
    · replace h := gg_el h hc
      refine gg_lload_n dX8_greatestDivisor_10 rfl ?_
      refine gg_lconst (0 : Int64) dX8_greatestDivisor_11 (by decide) ?_
      refine gg_lcmp dX8_greatestDivisor_12 ?_
      refine gg_if_eq 32 dX8_greatestDivisor_13 (by decide) (fun hc => ?_) (fun hc => ?_)
      · replace h := gg_th h hc
        refine gg_fg [true, false, false, false, false, false, false] [some (.long x0_3), none, none, none, none, none, none] rfl ?_
        exact hk32 x0_3 h
      · replace h := gg_el h hc
        refine gg_lload_n dX8_greatestDivisor_16 rfl ?_
        refine gg_lload_n dX8_greatestDivisor_17 rfl ?_
        obtain ⟨hz18, h⟩ := gg_ck h
        refine gg_lrem dX8_greatestDivisor_18 (gg_nz hz18) ?_
        refine gg_lstore [some (.long x0_3), none, some (.long x2_3), none, some (.int x4_3), some (.long (x0_3 - x0_3 / x2_3 * x2_3)), none] dX8_greatestDivisor_19 rfl (Nat.le_of_ble_eq_true rfl) rfl ?_
        refine gg_lload_n dX8_greatestDivisor_21 rfl ?_
        refine gg_lstore_n [some (.long x2_3), none, some (.long x2_3), none, some (.int x4_3), some (.long (x0_3 - x0_3 / x2_3 * x2_3)), none] dX8_greatestDivisor_22 rfl (Nat.le_of_ble_eq_true rfl) rfl ?_
        refine gg_lload dX8_greatestDivisor_23 rfl ?_
        refine gg_lstore_n [some (.long x2_3), none, some (.long (x0_3 - x0_3 / x2_3 * x2_3)), none, some (.int x4_3), some (.long (x0_3 - x0_3 / x2_3 * x2_3)), none] dX8_greatestDivisor_25 rfl (Nat.le_of_ble_eq_true rfl) rfl ?_
        refine gg_iinc (x4_3 + (1 : Int32)) [some (.long x2_3), none, some (.long (x0_3 - x0_3 / x2_3 * x2_3)), none, some (.int (x4_3 + (1 : Int32))), some (.long (x0_3 - x0_3 / x2_3 * x2_3)), none] dX8_greatestDivisor_26 rfl rfl rfl (Nat.le_of_ble_eq_true rfl) rfl ?_
        refine gg_goto 3 dX8_greatestDivisor_29 (by decide) ?_
        refine gg_fg [true, false, true, false, true, false, false] [some (.long x2_3), none, some (.long (x0_3 - x0_3 / x2_3 * x2_3)), none, some (.int (x4_3 + (1 : Int32))), none, none] rfl ?_
        exact ih x2_3 (x0_3 - x0_3 / x2_3 * x2_3) (x4_3 + (1 : Int32)) h
set_option maxRecDepth 20000 in
set_option maxHeartbeats 8000000 in
theorem C_X8_greatestDivisor (a0 : Int64) (a1 : Int64)  {res : Int64} (h : f_X8_greatestDivisor a0 a1 = some res) : gg_C MD_X8_greatestDivisor [.long a0, .long a1] (wd_X8_greatestDivisor) (some (.long res)) (wd_X8_greatestDivisor) := by
  refine gg_ofG [some (.long a0), none, some (.long a1), none, none, none, none] (plainFor_of_name (by decide)) (Nat.le_of_ble_eq_true rfl) rfl ?_
  unfold f_X8_greatestDivisor at h
  refine gg_iconst (0 : Int32) dX8_greatestDivisor_0 (by decide) ?_
  refine gg_istore [some (.long a0), none, some (.long a1), none, some (.int (0 : Int32)), none, none] dX8_greatestDivisor_1 rfl (Nat.le_of_ble_eq_true rfl) rfl ?_
  refine lq_X8_greatestDivisor_3 _ ?_ gg_fuel a0 a1 (0 : Int32) h
  intro x0_32 h
  refine gg_lload_n dX8_greatestDivisor_32 rfl ?_
  cases h
  exact gg_lret dX8_greatestDivisor_33 rfl
def wd_X8_tell (c_latestFinding : Int32) (c_told : Int32) (c_above : Int64) (c_below : Int64) : va_W := [(0, .inr (7, [.ref 1, .ref 10, .ref 17, .ref 19, .ref 27, .ref 35, .ref 43, .ref 45, .ref 52, .ref 56, .ref 60, .ref 67, .int c_latestFinding, .int c_told, .long c_above, .long c_below]))]
def MD_X8_tell : gg_M := (yX8_tell, cX8_tell, 7, none, 1, 26)
theorem nV_X8_tell : gg_nV MD_X8_tell 2 := ⟨⟨gg_mem (by decide +kernel) rfl, gg_mem cw_X8_tell rfl, by decide, by decide, by decide +kernel⟩, gg_mem (by decide +kernel) rfl, gg_mem (by decide +kernel) rfl⟩
def f_X8_tell (a0 : Int64) (a1 : Int64) (c_above : Int64) (c_below : Int64) : Option ((Int64) × (Int64)) := (f_X8_greatestDivisor a0 a1).bind (fun v1 => gg_lt (fun (s1_23 : Int64) => gg_lt (fun (s1_42 : Int64) => (some (s1_23, s1_42))) (fun k42 => (if (lg_cmp v1 (0 : Int64)) = (0 : Int32) then (k42 (1 : Int64)) else gg_chk (!decide (v1 = 0)) ((k42 (a1 / v1)))))) (fun k23 => (if (lg_cmp v1 (0 : Int64)) = (0 : Int32) then (k23 (0 : Int64)) else gg_chk (!decide (v1 = 0)) ((k23 (a0 / v1))))))
set_option maxRecDepth 20000 in
set_option maxHeartbeats 8000000 in
theorem C_X8_tell (a0 : Int64) (a1 : Int64) (c_latestFinding : Int32) (c_told : Int32) (c_above : Int64) (c_below : Int64) {r0 : (Int64)} {r1 : (Int64)} (h : f_X8_tell a0 a1 c_above c_below = some (r0, r1)) : gg_C MD_X8_tell [.ref 0, .long a0, .long a1] (wd_X8_tell c_latestFinding c_told c_above c_below) (none) (wd_X8_tell c_latestFinding c_told r0 r1) := by
  refine gg_ofG [some (.ref 0), some (.long a0), none, some (.long a1), none, none, none] (plainFor_of_name (by decide)) (Nat.le_of_ble_eq_true rfl) rfl ?_
  unfold f_X8_tell at h
  refine gg_lload_n dX8_tell_0 rfl ?_
  refine gg_lload_n dX8_tell_1 rfl ?_
  obtain ⟨v1, hv1, h⟩ := gg_bd h
  refine gg_callS (gg_sg []) [] (wd_X8_tell c_latestFinding c_told c_above c_below) (C_X8_greatestDivisor a0 a1 hv1) nS_X8_greatestDivisor ml_X8_362 rfl rfl rfl rfl rfl rfl rfl [0] 1 rfl rfl rfl rfl rfl ⟨Nat.le_of_ble_eq_true rfl, Nat.le_of_ble_eq_true rfl⟩ (Nat.le_of_ble_eq_true rfl) dX8_tell_2 [.long v1] rfl ?_
  refine gg_lstore [some (.ref 0), some (.long a0), none, some (.long a1), none, some (.long v1), none] dX8_tell_5 rfl (Nat.le_of_ble_eq_true rfl) rfl ?_
  refine gg_aload_n dX8_tell_7 rfl ?_
  refine gg_lload dX8_tell_8 rfl ?_
  refine gg_lconst (0 : Int64) dX8_tell_10 (by decide) ?_
  refine gg_lcmp dX8_tell_11 ?_
  obtain ⟨k23, hke23, h⟩ := gg_lte h
  have hk23 : ∀ (s1_23 : Int64), k23 s1_23 = some (r0, r1) → gg_G MD_X8_tell 23 [some (.ref 0), none, none, some (.long a1), none, some (.long v1), none] [.long s1_23, .ref 0] (wd_X8_tell c_latestFinding c_told c_above c_below) (none) (wd_X8_tell c_latestFinding c_told r0 r1) := by
    intro s1_23 h
    subst hke23
    refine gg_putf 0 (wd_X8_tell c_latestFinding c_told s1_23 c_below) fl_X8_86 dX8_tell_23 rfl (Nat.le_of_ble_eq_true rfl) (fun _ => ⟨rfl, rfl⟩) rfl ?_
    refine gg_aload_n dX8_tell_26 rfl ?_
    refine gg_lload dX8_tell_27 rfl ?_
    refine gg_lconst (0 : Int64) dX8_tell_29 (by decide) ?_
    refine gg_lcmp dX8_tell_30 ?_
    obtain ⟨k42, hke42, h⟩ := gg_lte h
    have hk42 : ∀ (s1_42 : Int64), k42 s1_42 = some (r0, r1) → gg_G MD_X8_tell 42 [none, none, none, none, none, none, none] [.long s1_42, .ref 0] (wd_X8_tell c_latestFinding c_told s1_23 c_below) (none) (wd_X8_tell c_latestFinding c_told r0 r1) := by
      intro s1_42 h
      subst hke42
      refine gg_putf 0 (wd_X8_tell c_latestFinding c_told s1_23 s1_42) fl_X8_90 dX8_tell_42 rfl (Nat.le_of_ble_eq_true rfl) (fun _ => ⟨rfl, rfl⟩) rfl ?_
      cases h
      exact gg_vret dX8_tell_45 rfl
    clear hke42
    refine gg_if_ne 38 dX8_tell_31 (by decide) (fun hc => ?_) (fun hc => ?_)
    · replace h := gg_el h hc
      refine gg_lload_n dX8_tell_38 rfl ?_
      refine gg_lload dX8_tell_39 rfl ?_
      obtain ⟨hz41, h⟩ := gg_ck h
      refine gg_ldiv dX8_tell_41 (gg_nz hz41) ?_
      refine gg_fg [false, false, false, false, false, false, false] [none, none, none, none, none, none, none] rfl ?_
      exact hk42 (a1 / v1) h
    · replace h := gg_th h hc
      refine gg_lconst (1 : Int64) dX8_tell_34 (by decide) ?_
      refine gg_goto 42 dX8_tell_35 (by decide) ?_
      refine gg_fg [false, false, false, false, false, false, false] [none, none, none, none, none, none, none] rfl ?_
      exact hk42 (1 : Int64) h
  clear hke23
  refine gg_if_ne 19 dX8_tell_12 (by decide) (fun hc => ?_) (fun hc => ?_)
  · replace h := gg_el h hc
    refine gg_lload_n dX8_tell_19 rfl ?_
    refine gg_lload dX8_tell_20 rfl ?_
    obtain ⟨hz22, h⟩ := gg_ck h
    refine gg_ldiv dX8_tell_22 (gg_nz hz22) ?_
    refine gg_fg [true, false, false, true, false, true, false] [some (.ref 0), none, none, some (.long a1), none, some (.long v1), none] rfl ?_
    exact hk23 (a0 / v1) h
  · replace h := gg_th h hc
    refine gg_lconst (0 : Int64) dX8_tell_15 (by decide) ?_
    refine gg_goto 23 dX8_tell_16 (by decide) ?_
    refine gg_fg [true, false, false, true, false, true, false] [some (.ref 0), none, none, some (.long a1), none, some (.long v1), none] rfl ?_
    exact hk23 (0 : Int64) h
def wd_X8_odds (c_latestFinding : Int32) (c_told : Int32) (c_above : Int64) (c_below : Int64) (c_now_huts : Int32) (c_now_food : Int32) (c_now_due : Int32) (c_now_backs : Int32) (c_now_winds : Nat → Int32) (c_now_kind : Nat → Int32) (c_now_home : Nat → Int32) (c_now_strength : Nat → Int32) (c_now_brown : Nat → Int32) (c_now_brick : Nat → Int32) (c_aside_huts : Int32) (c_aside_food : Int32) (c_aside_due : Int32) (c_aside_backs : Int32) (c_aside_winds : Nat → Int32) (c_aside_kind : Nat → Int32) (c_aside_home : Nat → Int32) (c_aside_strength : Nat → Int32) (c_aside_brown : Nat → Int32) (c_aside_brick : Nat → Int32) (c_aside_back : Nat → Int32) : va_W := [(0, .inr (7, [.ref 1, .ref 10, .ref 17, .ref 19, .ref 27, .ref 35, .ref 43, .ref 45, .ref 52, .ref 56, .ref 60, .ref 67, .int c_latestFinding, .int c_told, .long c_above, .long c_below])), (27, .inr (2, [.int c_now_huts, .int c_now_food, .int c_now_due, .ref 28, .ref 29, .ref 30, .ref 31, .ref 32, .ref 33, .ref 34, .int c_now_backs])), (28, .inl (0, 4, .inl c_now_winds)), (29, .inl (0, 6, .inl c_now_kind)), (30, .inl (0, 6, .inl c_now_home)), (31, .inl (0, 6, .inl c_now_strength)), (32, .inl (0, 6, .inl c_now_brown)), (33, .inl (0, 6, .inl c_now_brick)), (35, .inr (2, [.int c_aside_huts, .int c_aside_food, .int c_aside_due, .ref 36, .ref 37, .ref 38, .ref 39, .ref 40, .ref 41, .ref 42, .int c_aside_backs])), (36, .inl (0, 4, .inl c_aside_winds)), (37, .inl (0, 6, .inl c_aside_kind)), (38, .inl (0, 6, .inl c_aside_home)), (39, .inl (0, 6, .inl c_aside_strength)), (40, .inl (0, 6, .inl c_aside_brown)), (41, .inl (0, 6, .inl c_aside_brick)), (42, .inl (0, 6, .inl c_aside_back))]
def MD_X8_odds : gg_M := (yX8_odds, cX8_odds, 7, some .int, 5, 110)
theorem nV_X8_odds : gg_nV MD_X8_odds 2 := ⟨⟨gg_mem (by decide +kernel) rfl, gg_mem cw_X8_odds rfl, by decide, by decide, by decide +kernel⟩, gg_mem (by decide +kernel) rfl, gg_mem (by decide +kernel) rfl⟩
def lp_X8_odds_46 {β : Type} (y1 : Int32) (y2 : Int32) (y3 : Int32) (k88 : (Int64) → Option β) : Nat → (Int64) → (Int32) → Option β
  | 0, _, _ => none
  | n + 1, x4_46, x6_46 => (if y3 < x6_46 then (k88 x4_46) else (f_X8_isPartOf x6_46 y3).bind (fun v4 => gg_lt (fun (x4_82 : Int64) => (lp_X8_odds_46 y1 y2 y3 k88 n x4_82 (x6_46 + (1 : Int32)))) (fun k82 => (if v4 = (0 : Int32) then (k82 x4_46) else (f_J6_bitCount_0f7a4 x6_46).bind (fun v5 => (if v5 < y1 then (k82 x4_46) else (f_X8_weight x6_46 y3 y2).bind (fun v6 => (k82 (x4_46 + v6)))))))))
def f_X8_odds (a0 : Int32) (a1 : Int32) (c_above : Int64) (c_below : Int64) (c_now_huts : Int32) (c_now_food : Int32) (c_now_due : Int32) (c_now_winds : Nat → Int32) (c_now_kind : Nat → Int32) (c_now_home : Nat → Int32) (c_now_strength : Nat → Int32) (c_now_brown : Nat → Int32) (c_now_brick : Nat → Int32) (c_aside_huts : Int32) (c_aside_food : Int32) (c_aside_due : Int32) (c_aside_backs : Int32) (c_aside_winds : Nat → Int32) (c_aside_kind : Nat → Int32) (c_aside_home : Nat → Int32) (c_aside_strength : Nat → Int32) (c_aside_brown : Nat → Int32) (c_aside_brick : Nat → Int32) (c_aside_back : Nat → Int32) : Option (Int32 × (Int64) × (Int64) × (Int32) × (Int32) × (Int32) × (Int32) × (Nat → Int32) × (Nat → Int32) × (Nat → Int32) × (Nat → Int32) × (Nat → Int32) × (Nat → Int32) × (Nat → Int32)) := (f_X8_within a0 (0 : Int32) (6 : Int32)).bind (fun v1 => gg_lt ((some ((-1 : Int32), c_above, c_below, c_aside_huts, c_aside_food, c_aside_due, c_aside_backs, c_aside_winds, c_aside_kind, c_aside_home, c_aside_strength, c_aside_brown, c_aside_brick, c_aside_back))) (fun k20 => (if v1 = (0 : Int32) then k20 else (f_X8_within a1 (0 : Int32) (12 : Int32)).bind (fun v2 => (if v2 = (0 : Int32) then k20 else (if c_now_huts = (0 : Int32) then (some ((-4 : Int32), c_above, c_below, c_aside_huts, c_aside_food, c_aside_due, c_aside_backs, c_aside_winds, c_aside_kind, c_aside_home, c_aside_strength, c_aside_brown, c_aside_brick, c_aside_back)) else gg_b12 (f_X8_thereBehindWinter c_now_huts c_now_food c_now_due c_now_winds c_now_kind c_now_home c_now_strength c_now_brown c_now_brick c_aside_huts c_aside_food c_aside_due c_aside_backs c_aside_winds c_aside_kind c_aside_home c_aside_strength c_aside_brown c_aside_brick c_aside_back) (fun v3_0 v3_1 v3_2 v3_3 v3_4 v3_5 v3_6 v3_7 v3_8 v3_9 v3_10 v3_11 => (lp_X8_odds_46 a0 a1 v3_0 (fun (x4_88 : Int64) => (f_X8_weight v3_0 v3_0 (0 : Int32)).bind (fun v7 => gg_b2 (f_X8_tell x4_88 v7 c_above c_below) (fun v8_0 v8_1 => (some ((1 : Int32), v8_0, v8_1, v3_1, v3_2, v3_3, v3_4, v3_5, v3_6, v3_7, v3_8, v3_9, v3_10, v3_11))))) gg_fuel (0 : Int64) (0 : Int32)))))))))
set_option maxRecDepth 20000 in
set_option maxHeartbeats 4000000 in
theorem lq_X8_odds_46 {β : Type} {res : β} {rr : Option Value} {ww : va_W} (y1 : Int32) (y2 : Int32) (y3 : Int32) (c_latestFinding : Int32) (c_told : Int32) (c_above : Int64) (c_below : Int64) (c_now_huts : Int32) (c_now_food : Int32) (c_now_due : Int32) (c_now_backs : Int32) (c_now_winds : Nat → Int32) (c_now_kind : Nat → Int32) (c_now_home : Nat → Int32) (c_now_strength : Nat → Int32) (c_now_brown : Nat → Int32) (c_now_brick : Nat → Int32) (c_aside_huts : Int32) (c_aside_food : Int32) (c_aside_due : Int32) (c_aside_backs : Int32) (c_aside_winds : Nat → Int32) (c_aside_kind : Nat → Int32) (c_aside_home : Nat → Int32) (c_aside_strength : Nat → Int32) (c_aside_brown : Nat → Int32) (c_aside_brick : Nat → Int32) (c_aside_back : Nat → Int32) (k88 : (Int64) → Option β) (hk88 : ∀ (x4_88 : Int64), k88 x4_88 = some res → gg_G MD_X8_odds 88 [some (.ref 0), none, none, some (.int y3), some (.long x4_88), none, none] [] (wd_X8_odds c_latestFinding c_told c_above c_below c_now_huts c_now_food c_now_due c_now_backs c_now_winds c_now_kind c_now_home c_now_strength c_now_brown c_now_brick c_aside_huts c_aside_food c_aside_due c_aside_backs c_aside_winds c_aside_kind c_aside_home c_aside_strength c_aside_brown c_aside_brick c_aside_back) rr ww) : ∀ (n : Nat) (x4_46 : Int64) (x6_46 : Int32), lp_X8_odds_46 y1 y2 y3 k88 n x4_46 x6_46 = some res → gg_G MD_X8_odds 46 [some (.ref 0), some (.int y1), some (.int y2), some (.int y3), some (.long x4_46), none, some (.int x6_46)] [] (wd_X8_odds c_latestFinding c_told c_above c_below c_now_huts c_now_food c_now_due c_now_backs c_now_winds c_now_kind c_now_home c_now_strength c_now_brown c_now_brick c_aside_huts c_aside_food c_aside_due c_aside_backs c_aside_winds c_aside_kind c_aside_home c_aside_strength c_aside_brown c_aside_brick c_aside_back) rr ww := by
  intro n
  induction n with
  | zero =>
    intro x4_46 x6_46 h
    exact nomatch (show (none : Option β) = some res from h)
  | succ n ih =>
    intro x4_46 x6_46 h
    rw [lp_X8_odds_46] at h
    refine gg_iload dX8_odds_46 rfl ?_
    refine gg_iload_n dX8_odds_48 rfl ?_
    refine gg_icmp_gt 88 dX8_odds_49 (by decide) (fun hc => ?_) (fun hc => ?_)
    · replace h := gg_th h hc
      refine gg_fg [true, false, false, true, true, false, false] [some (.ref 0), none, none, some (.int y3), some (.long x4_46), none, none] rfl ?_
      exact hk88 x4_46 h
    · replace h := gg_el h hc
      refine gg_iload dX8_odds_52 rfl ?_
      refine gg_iload_n dX8_odds_54 rfl ?_
      obtain ⟨v4, hv4, h⟩ := gg_bd h
      refine gg_callS (gg_sg []) [] (wd_X8_odds c_latestFinding c_told c_above c_below c_now_huts c_now_food c_now_due c_now_backs c_now_winds c_now_kind c_now_home c_now_strength c_now_brown c_now_brick c_aside_huts c_aside_food c_aside_due c_aside_backs c_aside_winds c_aside_kind c_aside_home c_aside_strength c_aside_brown c_aside_brick c_aside_back) (C_X8_isPartOf x6_46 y3 hv4) nS_X8_isPartOf ml_X8_273 rfl rfl rfl rfl rfl rfl rfl [0, 1, 2, 3, 4, 5, 6, 7, 8, 9, 10, 11, 12, 13, 14, 15] 16 rfl rfl rfl rfl rfl ⟨Nat.le_of_ble_eq_true rfl, Nat.le_of_ble_eq_true rfl⟩ (Nat.le_of_ble_eq_true rfl) dX8_odds_55 [.int v4] rfl ?_
      obtain ⟨k82, hke82, h⟩ := gg_lte h
      have hk82 : ∀ (x4_82 : Int64), k82 x4_82 = some res → gg_G MD_X8_odds 82 [some (.ref 0), some (.int y1), some (.int y2), some (.int y3), some (.long x4_82), none, some (.int x6_46)] [] (wd_X8_odds c_latestFinding c_told c_above c_below c_now_huts c_now_food c_now_due c_now_backs c_now_winds c_now_kind c_now_home c_now_strength c_now_brown c_now_brick c_aside_huts c_aside_food c_aside_due c_aside_backs c_aside_winds c_aside_kind c_aside_home c_aside_strength c_aside_brown c_aside_brick c_aside_back) rr ww := by
        intro x4_82 h
        subst hke82
        refine gg_iinc (x6_46 + (1 : Int32)) [some (.ref 0), some (.int y1), some (.int y2), some (.int y3), some (.long x4_82), none, some (.int (x6_46 + (1 : Int32)))] dX8_odds_82 rfl rfl rfl (Nat.le_of_ble_eq_true rfl) rfl ?_
        refine gg_goto 46 dX8_odds_85 (by decide) ?_
        exact ih x4_82 (x6_46 + (1 : Int32)) h
      clear hke82
      refine gg_if_eq 82 dX8_odds_58 (by decide) (fun hc => ?_) (fun hc => ?_)
      · replace h := gg_th h hc
        exact hk82 x4_46 h
      · replace h := gg_el h hc
        refine gg_iload dX8_odds_61 rfl ?_
        obtain ⟨v5, hv5, h⟩ := gg_bd h
        refine gg_callS (gg_sg []) [] (wd_X8_odds c_latestFinding c_told c_above c_below c_now_huts c_now_food c_now_due c_now_backs c_now_winds c_now_kind c_now_home c_now_strength c_now_brown c_now_brick c_aside_huts c_aside_food c_aside_due c_aside_backs c_aside_winds c_aside_kind c_aside_home c_aside_strength c_aside_brown c_aside_brick c_aside_back) (C_J6_bitCount_0f7a4 x6_46 hv5) nS_J6_bitCount_0f7a4 ml_X8_276 rfl rfl rfl rfl rfl rfl rfl [0, 1, 2, 3, 4, 5, 6, 7, 8, 9, 10, 11, 12, 13, 14, 15] 16 rfl rfl rfl rfl rfl ⟨Nat.le_of_ble_eq_true rfl, Nat.le_of_ble_eq_true rfl⟩ (Nat.le_of_ble_eq_true rfl) dX8_odds_63 [.int v5] rfl ?_
        refine gg_iload_n dX8_odds_66 rfl ?_
        refine gg_icmp_lt 82 dX8_odds_67 (by decide) (fun hc => ?_) (fun hc => ?_)
        · replace h := gg_th h hc
          exact hk82 x4_46 h
        · replace h := gg_el h hc
          refine gg_lload dX8_odds_70 rfl ?_
          refine gg_iload dX8_odds_72 rfl ?_
          refine gg_iload_n dX8_odds_74 rfl ?_
          refine gg_iload_n dX8_odds_75 rfl ?_
          obtain ⟨v6, hv6, h⟩ := gg_bd h
          refine gg_callS (gg_sg []) [] (wd_X8_odds c_latestFinding c_told c_above c_below c_now_huts c_now_food c_now_due c_now_backs c_now_winds c_now_kind c_now_home c_now_strength c_now_brown c_now_brick c_aside_huts c_aside_food c_aside_due c_aside_backs c_aside_winds c_aside_kind c_aside_home c_aside_strength c_aside_brown c_aside_brick c_aside_back) (C_X8_weight x6_46 y3 y2 hv6) nS_X8_weight ml_X8_281 rfl rfl rfl rfl rfl rfl rfl [0, 1, 2, 3, 4, 5, 6, 7, 8, 9, 10, 11, 12, 13, 14, 15] 16 rfl rfl rfl rfl rfl ⟨Nat.le_of_ble_eq_true rfl, Nat.le_of_ble_eq_true rfl⟩ (Nat.le_of_ble_eq_true rfl) dX8_odds_76 [.long v6, .long x4_46] rfl ?_
          refine gg_ladd dX8_odds_79 ?_
          refine gg_lstore [some (.ref 0), some (.int y1), some (.int y2), some (.int y3), some (.long (x4_46 + v6)), none, some (.int x6_46)] dX8_odds_80 rfl (Nat.le_of_ble_eq_true rfl) rfl ?_
          exact hk82 (x4_46 + v6) h
set_option maxRecDepth 20000 in
set_option maxHeartbeats 8000000 in
theorem C_X8_odds (a0 : Int32) (a1 : Int32) (c_latestFinding : Int32) (c_told : Int32) (c_above : Int64) (c_below : Int64) (c_now_huts : Int32) (c_now_food : Int32) (c_now_due : Int32) (c_now_backs : Int32) (c_now_winds : Nat → Int32) (c_now_kind : Nat → Int32) (c_now_home : Nat → Int32) (c_now_strength : Nat → Int32) (c_now_brown : Nat → Int32) (c_now_brick : Nat → Int32) (c_aside_huts : Int32) (c_aside_food : Int32) (c_aside_due : Int32) (c_aside_backs : Int32) (c_aside_winds : Nat → Int32) (c_aside_kind : Nat → Int32) (c_aside_home : Nat → Int32) (c_aside_strength : Nat → Int32) (c_aside_brown : Nat → Int32) (c_aside_brick : Nat → Int32) (c_aside_back : Nat → Int32) {r0 : Int32} {r1 : (Int64)} {r2 : (Int64)} {r3 : (Int32)} {r4 : (Int32)} {r5 : (Int32)} {r6 : (Int32)} {r7 : (Nat → Int32)} {r8 : (Nat → Int32)} {r9 : (Nat → Int32)} {r10 : (Nat → Int32)} {r11 : (Nat → Int32)} {r12 : (Nat → Int32)} {r13 : (Nat → Int32)} (h : f_X8_odds a0 a1 c_above c_below c_now_huts c_now_food c_now_due c_now_winds c_now_kind c_now_home c_now_strength c_now_brown c_now_brick c_aside_huts c_aside_food c_aside_due c_aside_backs c_aside_winds c_aside_kind c_aside_home c_aside_strength c_aside_brown c_aside_brick c_aside_back = some (r0, r1, r2, r3, r4, r5, r6, r7, r8, r9, r10, r11, r12, r13)) : gg_C MD_X8_odds [.ref 0, .int a0, .int a1] (wd_X8_odds c_latestFinding c_told c_above c_below c_now_huts c_now_food c_now_due c_now_backs c_now_winds c_now_kind c_now_home c_now_strength c_now_brown c_now_brick c_aside_huts c_aside_food c_aside_due c_aside_backs c_aside_winds c_aside_kind c_aside_home c_aside_strength c_aside_brown c_aside_brick c_aside_back) (some (.int r0)) (wd_X8_odds c_latestFinding c_told r1 r2 c_now_huts c_now_food c_now_due c_now_backs c_now_winds c_now_kind c_now_home c_now_strength c_now_brown c_now_brick r3 r4 r5 r6 r7 r8 r9 r10 r11 r12 r13) := by
  refine gg_ofG [some (.ref 0), some (.int a0), some (.int a1), none, none, none, none] (plainFor_of_name (by decide)) (Nat.le_of_ble_eq_true rfl) rfl ?_
  unfold f_X8_odds at h
  refine gg_iload_n dX8_odds_0 rfl ?_
  refine gg_iconst (0 : Int32) dX8_odds_1 (by decide) ?_
  refine gg_bipush (6 : Int32) dX8_odds_2 (by decide) ?_
  obtain ⟨v1, hv1, h⟩ := gg_bd h
  refine gg_callS (gg_sg []) [] (wd_X8_odds c_latestFinding c_told c_above c_below c_now_huts c_now_food c_now_due c_now_backs c_now_winds c_now_kind c_now_home c_now_strength c_now_brown c_now_brick c_aside_huts c_aside_food c_aside_due c_aside_backs c_aside_winds c_aside_kind c_aside_home c_aside_strength c_aside_brown c_aside_brick c_aside_back) (C_X8_within a0 (0 : Int32) (6 : Int32) hv1) nS_X8_within ml_X8_155 rfl rfl rfl rfl rfl rfl rfl [0, 1, 2, 3, 4, 5, 6, 7, 8, 9, 10, 11, 12, 13, 14, 15] 16 rfl rfl rfl rfl rfl ⟨Nat.le_of_ble_eq_true rfl, Nat.le_of_ble_eq_true rfl⟩ (Nat.le_of_ble_eq_true rfl) dX8_odds_4 [.int v1] rfl ?_
  obtain ⟨k20, hke20, h⟩ := gg_lte h
  have hk20 : k20 = some (r0, r1, r2, r3, r4, r5, r6, r7, r8, r9, r10, r11, r12, r13) → gg_G MD_X8_odds 20 [none, none, none, none, none, none, none] [] (wd_X8_odds c_latestFinding c_told c_above c_below c_now_huts c_now_food c_now_due c_now_backs c_now_winds c_now_kind c_now_home c_now_strength c_now_brown c_now_brick c_aside_huts c_aside_food c_aside_due c_aside_backs c_aside_winds c_aside_kind c_aside_home c_aside_strength c_aside_brown c_aside_brick c_aside_back) (some (.int r0)) (wd_X8_odds c_latestFinding c_told r1 r2 c_now_huts c_now_food c_now_due c_now_backs c_now_winds c_now_kind c_now_home c_now_strength c_now_brown c_now_brick r3 r4 r5 r6 r7 r8 r9 r10 r11 r12 r13) := by
    intro  h
    subst hke20
    refine gg_iconst (-1 : Int32) dX8_odds_20 (by decide) ?_
    cases h
    exact gg_iret dX8_odds_21 rfl
  clear hke20
  refine gg_if_eq 20 dX8_odds_7 (by decide) (fun hc => ?_) (fun hc => ?_)
  · replace h := gg_th h hc
    refine gg_fg [false, false, false, false, false, false, false] [none, none, none, none, none, none, none] rfl ?_
    exact hk20 h
  · replace h := gg_el h hc
    refine gg_iload_n dX8_odds_10 rfl ?_
    refine gg_iconst (0 : Int32) dX8_odds_11 (by decide) ?_
    refine gg_bipush (12 : Int32) dX8_odds_12 (by decide) ?_
    obtain ⟨v2, hv2, h⟩ := gg_bd h
    refine gg_callS (gg_sg []) [] (wd_X8_odds c_latestFinding c_told c_above c_below c_now_huts c_now_food c_now_due c_now_backs c_now_winds c_now_kind c_now_home c_now_strength c_now_brown c_now_brick c_aside_huts c_aside_food c_aside_due c_aside_backs c_aside_winds c_aside_kind c_aside_home c_aside_strength c_aside_brown c_aside_brick c_aside_back) (C_X8_within a1 (0 : Int32) (12 : Int32) hv2) nS_X8_within ml_X8_155 rfl rfl rfl rfl rfl rfl rfl [0, 1, 2, 3, 4, 5, 6, 7, 8, 9, 10, 11, 12, 13, 14, 15] 16 rfl rfl rfl rfl rfl ⟨Nat.le_of_ble_eq_true rfl, Nat.le_of_ble_eq_true rfl⟩ (Nat.le_of_ble_eq_true rfl) dX8_odds_14 [.int v2] rfl ?_
    refine gg_if_ne 22 dX8_odds_17 (by decide) (fun hc => ?_) (fun hc => ?_)
    · replace h := gg_el h hc
      refine gg_aload_n dX8_odds_22 rfl ?_
      refine gg_get 0 fl_X8_35 dX8_odds_23 rfl rfl ?_
      refine gg_get 1 fl_X8_151 dX8_odds_26 rfl rfl ?_
      refine gg_if_ne 35 dX8_odds_29 (by decide) (fun hc => ?_) (fun hc => ?_)
      · replace h := gg_el h hc
        refine gg_aload_n dX8_odds_35 rfl ?_
        obtain ⟨v3_0, v3_1, v3_2, v3_3, v3_4, v3_5, v3_6, v3_7, v3_8, v3_9, v3_10, v3_11, hv3, h⟩ := gg_bd12 h
        refine gg_callV (gg_sg [0]) [0, 1, 2, 3, 4, 5, 6, 7, 8, 9, 10, 11, 12, 13, 14, 15] (wd_X8_odds c_latestFinding c_told c_above c_below c_now_huts c_now_food c_now_due c_now_backs c_now_winds c_now_kind c_now_home c_now_strength c_now_brown c_now_brick v3_1 v3_2 v3_3 v3_4 v3_5 v3_6 v3_7 v3_8 v3_9 v3_10 v3_11) 0 (C_X8_thereBehindWinter c_latestFinding c_told c_above c_below c_now_huts c_now_food c_now_due c_now_backs c_now_winds c_now_kind c_now_home c_now_strength c_now_brown c_now_brick c_aside_huts c_aside_food c_aside_due c_aside_backs c_aside_winds c_aside_kind c_aside_home c_aside_strength c_aside_brown c_aside_brick c_aside_back hv3) nV_X8_thereBehindWinter ml_X8_270 rfl rfl rfl rfl rfl rfl rfl rfl rfl rfl [] 16 rfl rfl rfl rfl rfl ⟨Nat.le_of_ble_eq_true rfl, Nat.le_of_ble_eq_true rfl⟩ (Nat.le_of_ble_eq_true rfl) dX8_odds_36 [.int v3_0] rfl ?_
        refine gg_istore_n [some (.ref 0), some (.int a0), some (.int a1), some (.int v3_0), none, none, none] dX8_odds_39 rfl (Nat.le_of_ble_eq_true rfl) rfl ?_
        refine gg_lconst (0 : Int64) dX8_odds_40 (by decide) ?_
        refine gg_lstore [some (.ref 0), some (.int a0), some (.int a1), some (.int v3_0), some (.long (0 : Int64)), none, none] dX8_odds_41 rfl (Nat.le_of_ble_eq_true rfl) rfl ?_
        refine gg_iconst (0 : Int32) dX8_odds_43 (by decide) ?_
        refine gg_istore [some (.ref 0), some (.int a0), some (.int a1), some (.int v3_0), some (.long (0 : Int64)), none, some (.int (0 : Int32))] dX8_odds_44 rfl (Nat.le_of_ble_eq_true rfl) rfl ?_
        refine lq_X8_odds_46 a0 a1 v3_0 c_latestFinding c_told c_above c_below c_now_huts c_now_food c_now_due c_now_backs c_now_winds c_now_kind c_now_home c_now_strength c_now_brown c_now_brick v3_1 v3_2 v3_3 v3_4 v3_5 v3_6 v3_7 v3_8 v3_9 v3_10 v3_11 _ ?_ gg_fuel (0 : Int64) (0 : Int32) h
        intro x4_88 h
        refine gg_aload_n dX8_odds_88 rfl ?_
        refine gg_lload dX8_odds_89 rfl ?_
        refine gg_iload_n dX8_odds_91 rfl ?_
        refine gg_iload_n dX8_odds_92 rfl ?_
        refine gg_iconst (0 : Int32) dX8_odds_93 (by decide) ?_
        obtain ⟨v7, hv7, h⟩ := gg_bd h
        refine gg_callS (gg_sg []) [] (wd_X8_odds c_latestFinding c_told c_above c_below c_now_huts c_now_food c_now_due c_now_backs c_now_winds c_now_kind c_now_home c_now_strength c_now_brown c_now_brick v3_1 v3_2 v3_3 v3_4 v3_5 v3_6 v3_7 v3_8 v3_9 v3_10 v3_11) (C_X8_weight v3_0 v3_0 (0 : Int32) hv7) nS_X8_weight ml_X8_281 rfl rfl rfl rfl rfl rfl rfl [0, 1, 2, 3, 4, 5, 6, 7, 8, 9, 10, 11, 12, 13, 14, 15] 16 rfl rfl rfl rfl rfl ⟨Nat.le_of_ble_eq_true rfl, Nat.le_of_ble_eq_true rfl⟩ (Nat.le_of_ble_eq_true rfl) dX8_odds_94 [.long v7, .long x4_88, .ref 0] rfl ?_
        obtain ⟨v8_0, v8_1, hv8, h⟩ := gg_bd2 h
        refine gg_callV (gg_sg [0]) [0] (wd_X8_odds c_latestFinding c_told v8_0 v8_1 c_now_huts c_now_food c_now_due c_now_backs c_now_winds c_now_kind c_now_home c_now_strength c_now_brown c_now_brick v3_1 v3_2 v3_3 v3_4 v3_5 v3_6 v3_7 v3_8 v3_9 v3_10 v3_11) 0 (C_X8_tell x4_88 v7 c_latestFinding c_told c_above c_below hv8) nV_X8_tell ml_X8_285 rfl rfl rfl rfl rfl rfl rfl rfl rfl rfl [1, 2, 3, 4, 5, 6, 7, 8, 9, 10, 11, 12, 13, 14, 15] 16 rfl rfl rfl rfl rfl ⟨Nat.le_of_ble_eq_true rfl, Nat.le_of_ble_eq_true rfl⟩ (Nat.le_of_ble_eq_true rfl) dX8_odds_97 [] rfl ?_
        refine gg_iconst (1 : Int32) dX8_odds_100 (by decide) ?_
        cases h
        exact gg_iret dX8_odds_101 rfl
      · replace h := gg_th h hc
        refine gg_bipush (-4 : Int32) dX8_odds_32 (by decide) ?_
        cases h
        exact gg_iret dX8_odds_34 rfl
    · replace h := gg_th h hc
      refine gg_fg [false, false, false, false, false, false, false] [none, none, none, none, none, none, none] rfl ?_
      exact hk20 h
