theorem rl_told {s t : ll_S} (h : Rl_ s t) (v : Int32) : Rl_ (nH_hut s v) (nR_hut t v) := ⟨h.1, rfl, h.2.2⟩
theorem k_late_le : ∀ k, k < 6 → k_late k ≤ 3 := by decide +kernel
theorem k_tire_0 (w : Nat) : k_tire 0 w = w := by simp [k_tire, k_stay, k_fly]
theorem hu_eq {N : Nat} {kd wd : Nat → Nat} {f : FS_} {s t : ll_S} (nw : nw_ N kd wd f s t) {i w : Nat} (hi : i < N) (hw : w ≤ 6) : ∃ v, f_X2_ofHut (nI i) (nI w) (s.1 12) (s.2.2.1 10) (s.2.2.1 11) (s.2.2.1 12) (s.2.2.1 13) (s.2.2.1 14) (s.2.2.1 15) = some v ∧ f_X9_hutTells (nI i) (nI w) (t.2.2.1 6) (t.2.2.1 7) (t.2.2.1 8) = some v := by
  obtain ⟨hN, e10, eT2, kw, kt, fl, ar, ok, due⟩ := nw
  have k1 := (kw.1 i hi).2
  have k2 := (kt.1 i hi).2
  have k6 := (kw.1 i hi).1
  obtain ⟨f1, f2, f3, f4⟩ := fl.2.2 i hi
  obtain ⟨a1, a2, a3, a4⟩ := ar.2.2 i hi
  have hwd := (kw.2 (f.2.1 % 4) (by omega)).1
  have w8 := fl_wd kw (d := f.2.1) (by omega)
  have w9 := ar_wd kt (d := f.2.1) (by omega) ar.1
  have d1 := fl.2.1
  unfold f_X2_ofHut f_X9_hutTells
  rcases (show w = 0 ∨ w = 1 ∨ w = 2 ∨ w = 3 ∨ w = 4 ∨ w = 5 ∨ w = 6 by omega) with rfl | rfl | rfl | rfl | rfl | rfl | rfl
  · refine ⟨nI (kd i), ?_, ?_⟩
    · simp (disch := omega) only [nx_chk, nx_let, nx_b2, nx_b3, nx_b4, nx_b5, nx_b7, nx_b8, Option.bind_some, nx_l0, nx_l1, nx_l2, nx_l3, nx_l4, nx_l5, nx_l6, nx_l7, nx_l8, nx_l9, nx_l10, nx_l11, nx_l12, nx_l14, nx_l20, nx_l26, nx_l40, nx_l60, nx_l100, nx_l1000, nI_add, nx_sub, nx_m1, nx_in, nx_cl, nx_le, nx_ltI, nx_eq, nx_isb0, nx_isb1, nx_n9, nx_n9', nx_b9, nx_b9', nx_m1', Nat.reduceEqDiff, Nat.reduceLeDiff, Nat.reduceLT, Nat.reduceAdd, Nat.reduceSub, Nat.reduceMul, Nat.reduceDiv, Nat.reduceMod, Bool.false_eq_true, reduceIte, ite_true, ite_false, if_true, if_false, k1]
    · simp (disch := omega) only [nx_chk, nx_let, nx_b2, nx_b3, nx_b4, nx_b5, nx_b7, nx_b8, Option.bind_some, nx_l0, nx_l1, nx_l2, nx_l3, nx_l4, nx_l5, nx_l6, nx_l7, nx_l8, nx_l9, nx_l10, nx_l11, nx_l12, nx_l14, nx_l20, nx_l26, nx_l40, nx_l60, nx_l100, nx_l1000, nI_add, nx_sub, nx_m1, nx_in, nx_cl, nx_le, nx_ltI, nx_eq, nx_isb0, nx_isb1, nx_n9, nx_n9', nx_b9, nx_b9', nx_m1', Nat.reduceEqDiff, Nat.reduceLeDiff, Nat.reduceLT, Nat.reduceAdd, Nat.reduceSub, Nat.reduceMul, Nat.reduceDiv, Nat.reduceMod, Bool.false_eq_true, reduceIte, ite_true, ite_false, if_true, if_false, k2]
  · refine ⟨nI (f.2.2.1 i), ?_, ?_⟩
    · simp (disch := omega) only [nx_chk, nx_let, nx_b2, nx_b3, nx_b4, nx_b5, nx_b7, nx_b8, Option.bind_some, nx_l0, nx_l1, nx_l2, nx_l3, nx_l4, nx_l5, nx_l6, nx_l7, nx_l8, nx_l9, nx_l10, nx_l11, nx_l12, nx_l14, nx_l20, nx_l26, nx_l40, nx_l60, nx_l100, nx_l1000, nI_add, nx_sub, nx_m1, nx_in, nx_cl, nx_le, nx_ltI, nx_eq, nx_isb0, nx_isb1, nx_n9, nx_n9', nx_b9, nx_b9', nx_m1', Nat.reduceEqDiff, Nat.reduceLeDiff, Nat.reduceLT, Nat.reduceAdd, Nat.reduceSub, Nat.reduceMul, Nat.reduceDiv, Nat.reduceMod, Bool.false_eq_true, reduceIte, ite_true, ite_false, if_true, if_false, f1]
    · simp (disch := omega) only [nx_chk, nx_let, nx_b2, nx_b3, nx_b4, nx_b5, nx_b7, nx_b8, Option.bind_some, nx_l0, nx_l1, nx_l2, nx_l3, nx_l4, nx_l5, nx_l6, nx_l7, nx_l8, nx_l9, nx_l10, nx_l11, nx_l12, nx_l14, nx_l20, nx_l26, nx_l40, nx_l60, nx_l100, nx_l1000, nI_add, nx_sub, nx_m1, nx_in, nx_cl, nx_le, nx_ltI, nx_eq, nx_isb0, nx_isb1, nx_n9, nx_n9', nx_b9, nx_b9', nx_m1', Nat.reduceEqDiff, Nat.reduceLeDiff, Nat.reduceLT, Nat.reduceAdd, Nat.reduceSub, Nat.reduceMul, Nat.reduceDiv, Nat.reduceMod, Bool.false_eq_true, reduceIte, ite_true, ite_false, if_true, if_false, a1]
  · refine ⟨nI (f.2.2.2.1 i), ?_, ?_⟩
    · simp (disch := omega) only [nx_chk, nx_let, nx_b2, nx_b3, nx_b4, nx_b5, nx_b7, nx_b8, Option.bind_some, nx_l0, nx_l1, nx_l2, nx_l3, nx_l4, nx_l5, nx_l6, nx_l7, nx_l8, nx_l9, nx_l10, nx_l11, nx_l12, nx_l14, nx_l20, nx_l26, nx_l40, nx_l60, nx_l100, nx_l1000, nI_add, nx_sub, nx_m1, nx_in, nx_cl, nx_le, nx_ltI, nx_eq, nx_isb0, nx_isb1, nx_n9, nx_n9', nx_b9, nx_b9', nx_m1', Nat.reduceEqDiff, Nat.reduceLeDiff, Nat.reduceLT, Nat.reduceAdd, Nat.reduceSub, Nat.reduceMul, Nat.reduceDiv, Nat.reduceMod, Bool.false_eq_true, reduceIte, ite_true, ite_false, if_true, if_false, f2]
    · simp (disch := omega) only [nx_chk, nx_let, nx_b2, nx_b3, nx_b4, nx_b5, nx_b7, nx_b8, Option.bind_some, nx_l0, nx_l1, nx_l2, nx_l3, nx_l4, nx_l5, nx_l6, nx_l7, nx_l8, nx_l9, nx_l10, nx_l11, nx_l12, nx_l14, nx_l20, nx_l26, nx_l40, nx_l60, nx_l100, nx_l1000, nI_add, nx_sub, nx_m1, nx_in, nx_cl, nx_le, nx_ltI, nx_eq, nx_isb0, nx_isb1, nx_n9, nx_n9', nx_b9, nx_b9', nx_m1', Nat.reduceEqDiff, Nat.reduceLeDiff, Nat.reduceLT, Nat.reduceAdd, Nat.reduceSub, Nat.reduceMul, Nat.reduceDiv, Nat.reduceMod, Bool.false_eq_true, reduceIte, ite_true, ite_false, if_true, if_false, a2]
  · refine ⟨nI (f.2.2.2.2.1 i), ?_, ?_⟩
    · simp (disch := omega) only [nx_chk, nx_let, nx_b2, nx_b3, nx_b4, nx_b5, nx_b7, nx_b8, Option.bind_some, nx_l0, nx_l1, nx_l2, nx_l3, nx_l4, nx_l5, nx_l6, nx_l7, nx_l8, nx_l9, nx_l10, nx_l11, nx_l12, nx_l14, nx_l20, nx_l26, nx_l40, nx_l60, nx_l100, nx_l1000, nI_add, nx_sub, nx_m1, nx_in, nx_cl, nx_le, nx_ltI, nx_eq, nx_isb0, nx_isb1, nx_n9, nx_n9', nx_b9, nx_b9', nx_m1', Nat.reduceEqDiff, Nat.reduceLeDiff, Nat.reduceLT, Nat.reduceAdd, Nat.reduceSub, Nat.reduceMul, Nat.reduceDiv, Nat.reduceMod, Bool.false_eq_true, reduceIte, ite_true, ite_false, if_true, if_false, f3]
    · simp (disch := omega) only [nx_chk, nx_let, nx_b2, nx_b3, nx_b4, nx_b5, nx_b7, nx_b8, Option.bind_some, nx_l0, nx_l1, nx_l2, nx_l3, nx_l4, nx_l5, nx_l6, nx_l7, nx_l8, nx_l9, nx_l10, nx_l11, nx_l12, nx_l14, nx_l20, nx_l26, nx_l40, nx_l60, nx_l100, nx_l1000, nI_add, nx_sub, nx_m1, nx_in, nx_cl, nx_le, nx_ltI, nx_eq, nx_isb0, nx_isb1, nx_n9, nx_n9', nx_b9, nx_b9', nx_m1', Nat.reduceEqDiff, Nat.reduceLeDiff, Nat.reduceLT, Nat.reduceAdd, Nat.reduceSub, Nat.reduceMul, Nat.reduceDiv, Nat.reduceMod, Bool.false_eq_true, reduceIte, ite_true, ite_false, if_true, if_false, a3]
  · refine ⟨k_bI (f.2.2.2.2.2 i), ?_, ?_⟩
    · simp (disch := omega) only [nx_chk, nx_let, nx_b2, nx_b3, nx_b4, nx_b5, nx_b7, nx_b8, Option.bind_some, nx_l0, nx_l1, nx_l2, nx_l3, nx_l4, nx_l5, nx_l6, nx_l7, nx_l8, nx_l9, nx_l10, nx_l11, nx_l12, nx_l14, nx_l20, nx_l26, nx_l40, nx_l60, nx_l100, nx_l1000, nI_add, nx_sub, nx_m1, nx_in, nx_cl, nx_le, nx_ltI, nx_eq, nx_isb0, nx_isb1, nx_n9, nx_n9', nx_b9, nx_b9', nx_m1', Nat.reduceEqDiff, Nat.reduceLeDiff, Nat.reduceLT, Nat.reduceAdd, Nat.reduceSub, Nat.reduceMul, Nat.reduceDiv, Nat.reduceMod, Bool.false_eq_true, reduceIte, ite_true, ite_false, if_true, if_false, f4]
    · simp (disch := omega) only [nx_chk, nx_let, nx_b2, nx_b3, nx_b4, nx_b5, nx_b7, nx_b8, Option.bind_some, nx_l0, nx_l1, nx_l2, nx_l3, nx_l4, nx_l5, nx_l6, nx_l7, nx_l8, nx_l9, nx_l10, nx_l11, nx_l12, nx_l14, nx_l20, nx_l26, nx_l40, nx_l60, nx_l100, nx_l1000, nI_add, nx_sub, nx_m1, nx_in, nx_cl, nx_le, nx_ltI, nx_eq, nx_isb0, nx_isb1, nx_n9, nx_n9', nx_b9, nx_b9', nx_m1', Nat.reduceEqDiff, Nat.reduceLeDiff, Nat.reduceLT, Nat.reduceAdd, Nat.reduceSub, Nat.reduceMul, Nat.reduceDiv, Nat.reduceMod, Bool.false_eq_true, reduceIte, ite_true, ite_false, if_true, if_false, a4]
  · refine ⟨nI (k_tire (kd i) (wd (f.2.1 % 4))), ?_, ?_⟩
    · simp (disch := omega) only [nx_chk, nx_let, nx_b2, nx_b3, nx_b4, nx_b5, nx_b7, nx_b8, Option.bind_some, nx_l0, nx_l1, nx_l2, nx_l3, nx_l4, nx_l5, nx_l6, nx_l7, nx_l8, nx_l9, nx_l10, nx_l11, nx_l12, nx_l14, nx_l20, nx_l26, nx_l40, nx_l60, nx_l100, nx_l1000, nI_add, nx_sub, nx_m1, nx_in, nx_cl, nx_le, nx_ltI, nx_eq, nx_isb0, nx_isb1, nx_n9, nx_n9', nx_b9, nx_b9', nx_m1', Nat.reduceEqDiff, Nat.reduceLeDiff, Nat.reduceLT, Nat.reduceAdd, Nat.reduceSub, Nat.reduceMul, Nat.reduceDiv, Nat.reduceMod, Bool.false_eq_true, reduceIte, ite_true, ite_false, if_true, if_false, k1, d1, w8, e_tire8 (kd i) k6 _ hwd]
    · simp (disch := omega) only [nx_chk, nx_let, nx_b2, nx_b3, nx_b4, nx_b5, nx_b7, nx_b8, Option.bind_some, nx_l0, nx_l1, nx_l2, nx_l3, nx_l4, nx_l5, nx_l6, nx_l7, nx_l8, nx_l9, nx_l10, nx_l11, nx_l12, nx_l14, nx_l20, nx_l26, nx_l40, nx_l60, nx_l100, nx_l1000, nI_add, nx_sub, nx_m1, nx_in, nx_cl, nx_le, nx_ltI, nx_eq, nx_isb0, nx_isb1, nx_n9, nx_n9', nx_b9, nx_b9', nx_m1', Nat.reduceEqDiff, Nat.reduceLeDiff, Nat.reduceLT, Nat.reduceAdd, Nat.reduceSub, Nat.reduceMul, Nat.reduceDiv, Nat.reduceMod, Bool.false_eq_true, reduceIte, ite_true, ite_false, if_true, if_false, k2, w9, e_tire9 (kd i) k6 _ hwd]
  · refine ⟨nI (k_late (kd i)), ?_, ?_⟩
    · simp (disch := omega) only [nx_chk, nx_let, nx_b2, nx_b3, nx_b4, nx_b5, nx_b7, nx_b8, Option.bind_some, nx_l0, nx_l1, nx_l2, nx_l3, nx_l4, nx_l5, nx_l6, nx_l7, nx_l8, nx_l9, nx_l10, nx_l11, nx_l12, nx_l14, nx_l20, nx_l26, nx_l40, nx_l60, nx_l100, nx_l1000, nI_add, nx_sub, nx_m1, nx_in, nx_cl, nx_le, nx_ltI, nx_eq, nx_isb0, nx_isb1, nx_n9, nx_n9', nx_b9, nx_b9', nx_m1', Nat.reduceEqDiff, Nat.reduceLeDiff, Nat.reduceLT, Nat.reduceAdd, Nat.reduceSub, Nat.reduceMul, Nat.reduceDiv, Nat.reduceMod, Bool.false_eq_true, reduceIte, ite_true, ite_false, if_true, if_false, k1, e_late8 (kd i) k6]
    · simp (disch := omega) only [nx_chk, nx_let, nx_b2, nx_b3, nx_b4, nx_b5, nx_b7, nx_b8, Option.bind_some, nx_l0, nx_l1, nx_l2, nx_l3, nx_l4, nx_l5, nx_l6, nx_l7, nx_l8, nx_l9, nx_l10, nx_l11, nx_l12, nx_l14, nx_l20, nx_l26, nx_l40, nx_l60, nx_l100, nx_l1000, nI_add, nx_sub, nx_m1, nx_in, nx_cl, nx_le, nx_ltI, nx_eq, nx_isb0, nx_isb1, nx_n9, nx_n9', nx_b9, nx_b9', nx_m1', Nat.reduceEqDiff, Nat.reduceLeDiff, Nat.reduceLT, Nat.reduceAdd, Nat.reduceSub, Nat.reduceMul, Nat.reduceDiv, Nat.reduceMod, Bool.false_eq_true, reduceIte, ite_true, ite_false, if_true, if_false, k2, e_late9 (kd i) k6]
theorem sm_hut : sim_hut Rl_ := by
  intro s t h a0 a1
  obtain ⟨N, kd, wd, f, nw⟩ := rl_nw h.2.2.2.2.2
  obtain ⟨hN, e10, eT2, kw, kt, fl, ar, ok, due⟩ := id nw
  unfold f_X8_hut f_X9_hut
  rw [e10, eT2]
  rcases pu_ix a0 N (by omega) with q | ⟨i, hi, rfl⟩
  · rw [fl_knO q, ar_hutO hN q]
    exact ⟨-1, s.1 1, -1, t.1 1, rfl, rfl, rfl, ⟨h.1, h.2.1, h.2.2⟩⟩
  · rw [fl_kn hi hN, ar_hut hi hN]
    rcases pu_rng a1 6 6 (by omega) rfl with ⟨q1, q2⟩ | ⟨w, hw, rfl, q1, q2⟩
    · rw [q1, q2]
      exact ⟨-1, s.1 1, -1, t.1 1, rfl, rfl, rfl, ⟨h.1, h.2.1, h.2.2⟩⟩
    · obtain ⟨v, v1, v2⟩ := hu_eq nw hi hw
      rw [q1, q2, v1, v2]
      exact ⟨1, v, 1, v, rfl, rfl, rfl, rl_told h v⟩
theorem sm_tires : sim_tires Rl_ := by
  intro s t h a0 a1
  obtain ⟨N, kd, wd, f, nw⟩ := rl_nw h.2.2.2.2.2
  obtain ⟨hN, e10, eT2, kw, kt, fl, ar, ok, due⟩ := id nw
  unfold f_X8_tires f_X9_tires
  rw [e10, eT2]
  rcases pu_ix a0 N (by omega) with q | ⟨i, hi, rfl⟩
  · rw [fl_knO q, ar_hutO hN q]
    exact ⟨-1, -1, rfl, rfl, rfl, h⟩
  · rw [fl_kn hi hN, ar_hut hi hN]
    rcases pu_rng a1 9 9 (by omega) rfl with ⟨q1, q2⟩ | ⟨w, hw, rfl, q1, q2⟩
    · rw [q1, q2]
      exact ⟨-1, -1, rfl, rfl, rfl, h⟩
    · have k1 := (kw.1 i hi).2
      have k2 := (kt.1 i hi).2
      have k6 := (kw.1 i hi).1
      rw [q1, q2]
      by_cases q : k_stay (kd i) w = true
      · refine ⟨nI (k_tire (kd i) w + 10), nI (k_tire (kd i) w + 10), ?_, ?_, rfl, h⟩
        · simp (disch := omega) only [nx_chk, nx_let, nx_b2, nx_b3, nx_b4, nx_b5, nx_b7, nx_b8, Option.bind_some, nx_l0, nx_l1, nx_l2, nx_l3, nx_l4, nx_l5, nx_l6, nx_l7, nx_l8, nx_l9, nx_l10, nx_l11, nx_l12, nx_l14, nx_l20, nx_l26, nx_l40, nx_l60, nx_l100, nx_l1000, nI_add, nx_sub, nx_m1, nx_in, nx_cl, nx_le, nx_ltI, nx_eq, nx_isb0, nx_isb1, nx_n9, nx_n9', nx_b9, nx_b9', nx_m1', Nat.reduceEqDiff, Nat.reduceLeDiff, Nat.reduceLT, Nat.reduceAdd, Nat.reduceSub, Nat.reduceMul, Nat.reduceDiv, Nat.reduceMod, Bool.false_eq_true, reduceIte, ite_true, ite_false, if_true, if_false, k1, e_tire8 (kd i) k6 w (show w < 10 by omega), e_stay8 (kd i) k6 w (show w < 10 by omega), q]
        · simp (disch := omega) only [nx_chk, nx_let, nx_b2, nx_b3, nx_b4, nx_b5, nx_b7, nx_b8, Option.bind_some, nx_l0, nx_l1, nx_l2, nx_l3, nx_l4, nx_l5, nx_l6, nx_l7, nx_l8, nx_l9, nx_l10, nx_l11, nx_l12, nx_l14, nx_l20, nx_l26, nx_l40, nx_l60, nx_l100, nx_l1000, nI_add, nx_sub, nx_m1, nx_in, nx_cl, nx_le, nx_ltI, nx_eq, nx_isb0, nx_isb1, nx_n9, nx_n9', nx_b9, nx_b9', nx_m1', Nat.reduceEqDiff, Nat.reduceLeDiff, Nat.reduceLT, Nat.reduceAdd, Nat.reduceSub, Nat.reduceMul, Nat.reduceDiv, Nat.reduceMod, Bool.false_eq_true, reduceIte, ite_true, ite_false, if_true, if_false, k2, e_tire9 (kd i) k6 w (show w < 10 by omega), e_stay9 (kd i) k6 w (show w < 10 by omega), q]
      · refine ⟨nI (k_tire (kd i) w), nI (k_tire (kd i) w), ?_, ?_, rfl, h⟩
        · simp (disch := omega) only [nx_chk, nx_let, nx_b2, nx_b3, nx_b4, nx_b5, nx_b7, nx_b8, Option.bind_some, nx_l0, nx_l1, nx_l2, nx_l3, nx_l4, nx_l5, nx_l6, nx_l7, nx_l8, nx_l9, nx_l10, nx_l11, nx_l12, nx_l14, nx_l20, nx_l26, nx_l40, nx_l60, nx_l100, nx_l1000, nI_add, nx_sub, nx_m1, nx_in, nx_cl, nx_le, nx_ltI, nx_eq, nx_isb0, nx_isb1, nx_n9, nx_n9', nx_b9, nx_b9', nx_m1', Nat.reduceEqDiff, Nat.reduceLeDiff, Nat.reduceLT, Nat.reduceAdd, Nat.reduceSub, Nat.reduceMul, Nat.reduceDiv, Nat.reduceMod, Bool.false_eq_true, reduceIte, ite_true, ite_false, if_true, if_false, k1, e_tire8 (kd i) k6 w (show w < 10 by omega), e_stay8 (kd i) k6 w (show w < 10 by omega), q, Nat.add_zero]
        · simp (disch := omega) only [nx_chk, nx_let, nx_b2, nx_b3, nx_b4, nx_b5, nx_b7, nx_b8, Option.bind_some, nx_l0, nx_l1, nx_l2, nx_l3, nx_l4, nx_l5, nx_l6, nx_l7, nx_l8, nx_l9, nx_l10, nx_l11, nx_l12, nx_l14, nx_l20, nx_l26, nx_l40, nx_l60, nx_l100, nx_l1000, nI_add, nx_sub, nx_m1, nx_in, nx_cl, nx_le, nx_ltI, nx_eq, nx_isb0, nx_isb1, nx_n9, nx_n9', nx_b9, nx_b9', nx_m1', Nat.reduceEqDiff, Nat.reduceLeDiff, Nat.reduceLT, Nat.reduceAdd, Nat.reduceSub, Nat.reduceMul, Nat.reduceDiv, Nat.reduceMod, Bool.false_eq_true, reduceIte, ite_true, ite_false, if_true, if_false, k2, e_tire9 (kd i) k6 w (show w < 10 by omega), e_stay9 (kd i) k6 w (show w < 10 by omega), q, Nat.add_zero]
def m_ct (p : Nat → Bool) : Nat → Nat
  | 0 => 0
  | n + 1 => m_ct p n + (if p n = true then 1 else 0)
theorem m_ct_s (p : Nat → Bool) (n : Nat) : m_ct p (n + 1) = if p n = true then m_ct p n + 1 else m_ct p n := by
  rw [m_ct]
  split <;> rfl
def w_first (bk : Nat → Nat) (p : Nat) : Nat → Nat → Nat
  | 0, _ => 10
  | m + 1, j => if bk j = p then j else w_first bk p m (j + 1)
def w_last (bk : Nat → Nat) (p : Nat) : Nat → Nat → Nat → Nat
  | 0, _, acc => acc
  | m + 1, j, acc => w_last bk p m (j + 1) (if bk j = p then j else acc)
theorem w_last_n {bk : Nat → Nat} {p : Nat} : ∀ m j acc, (∀ x, j ≤ x → x < j + m → bk x ≠ p) → w_last bk p m j acc = acc
  | 0, _, _, _ => rfl
  | m + 1, j, acc, h => by
    unfold w_last
    rw [if_neg (h j (by omega) (by omega))]
    exact w_last_n m (j + 1) acc (fun x h1 h2 => h x (by omega) (by omega))
theorem w_fl {N : Nat} {bk : Nat → Nat} {p : Nat} (hi : w_inj N bk) (hp : p ≠ 10) : ∀ m j, j + m = N → w_last bk p m j 10 = w_first bk p m j
  | 0, _, _ => rfl
  | m + 1, j, h => by
    unfold w_last w_first
    by_cases q : bk j = p
    · rw [if_pos q, if_pos q]
      exact w_last_n m (j + 1) j (fun x h1 h2 z => by have := hi j x (by omega) (by omega) (by rw [q, z]) (by rw [q]; exact hp); omega)
    · rw [if_neg q, if_neg q]
      exact w_fl hi hp m (j + 1) (by omega)
theorem nx_bp {x p : Nat} (hx : x ≤ 10) (hp : p < 10) : (k_bI x = nI p) = (x = p) := by
  by_cases q : x = 10
  · subst q
    apply propext
    constructor
    · intro z
      exact absurd z.symm (by rw [show k_bI 10 = -9 from rfl, nx_n9 (by omega)]; exact id)
    · intro z
      omega
  · rw [nx_bI q, nx_eq (by omega) (by omega)]
theorem fl_host {N : Nat} (hN : N ≤ 6) {bk : Nat → Nat} {kind home brick : Nat → Int32} (hb : fl_b N bk brick) {y : Int32} {p : Nat} (hp : p < 10) (hw : f_X2_wanted y kind home = some (nI p)) : ∀ (m j fuel : Nat), j + m = N → m < fuel → lp_X2_hostOf_2 y (nI N) kind home brick (fun (x2_24 : Int32) => (some x2_24)) ((some (10 : Int32))) fuel (nI j) = some (nI (w_first bk p m j))
  | 0, j, fuel + 1, h, hf => by
    rw [lp_X2_hostOf_2]
    simp (disch := omega) only [nx_chk, nx_let, nx_b2, nx_b3, nx_b4, nx_b5, nx_b7, nx_b8, Option.bind_some, nx_l0, nx_l1, nx_l2, nx_l3, nx_l4, nx_l5, nx_l6, nx_l7, nx_l8, nx_l9, nx_l10, nx_l11, nx_l12, nx_l14, nx_l20, nx_l26, nx_l40, nx_l60, nx_l100, nx_l1000, nI_add, nx_sub, nx_m1, nx_in, nx_cl, nx_le, nx_ltI, nx_eq, nx_isb0, nx_isb1, nx_n9, nx_n9', nx_b9, nx_b9', nx_m1', Nat.reduceEqDiff, Nat.reduceLeDiff, Nat.reduceLT, Nat.reduceAdd, Nat.reduceSub, Nat.reduceMul, Nat.reduceDiv, Nat.reduceMod, Bool.false_eq_true, reduceIte, ite_true, ite_false, if_true, if_false, show N ≤ j by omega]
    rfl
  | m + 1, j, fuel + 1, h, hf => by
    have hj : j < N := by omega
    have hbj := (hb j hj).2
    rw [lp_X2_hostOf_2]
    unfold w_first
    by_cases q : bk j = p
    · simp (disch := omega) only [nx_chk, nx_let, nx_b2, nx_b3, nx_b4, nx_b5, nx_b7, nx_b8, Option.bind_some, nx_l0, nx_l1, nx_l2, nx_l3, nx_l4, nx_l5, nx_l6, nx_l7, nx_l8, nx_l9, nx_l10, nx_l11, nx_l12, nx_l14, nx_l20, nx_l26, nx_l40, nx_l60, nx_l100, nx_l1000, nI_add, nx_sub, nx_m1, nx_in, nx_cl, nx_le, nx_ltI, nx_eq, nx_isb0, nx_isb1, nx_n9, nx_n9', nx_b9, nx_b9', nx_m1', Nat.reduceEqDiff, Nat.reduceLeDiff, Nat.reduceLT, Nat.reduceAdd, Nat.reduceSub, Nat.reduceMul, Nat.reduceDiv, Nat.reduceMod, Bool.false_eq_true, reduceIte, ite_true, ite_false, if_true, if_false, show ¬ N ≤ j by omega, hw, (hb j hj).1, nx_bp, q]
    · simp (disch := omega) only [nx_chk, nx_let, nx_b2, nx_b3, nx_b4, nx_b5, nx_b7, nx_b8, Option.bind_some, nx_l0, nx_l1, nx_l2, nx_l3, nx_l4, nx_l5, nx_l6, nx_l7, nx_l8, nx_l9, nx_l10, nx_l11, nx_l12, nx_l14, nx_l20, nx_l26, nx_l40, nx_l60, nx_l100, nx_l1000, nI_add, nx_sub, nx_m1, nx_in, nx_cl, nx_le, nx_ltI, nx_eq, nx_isb0, nx_isb1, nx_n9, nx_n9', nx_b9, nx_b9', nx_m1', Nat.reduceEqDiff, Nat.reduceLeDiff, Nat.reduceLT, Nat.reduceAdd, Nat.reduceSub, Nat.reduceMul, Nat.reduceDiv, Nat.reduceMod, Bool.false_eq_true, reduceIte, ite_true, ite_false, if_true, if_false, show ¬ N ≤ j by omega, hw, (hb j hj).1, nx_bp, q]
      exact fl_host hN hb hp hw m (j + 1) fuel (by omega) (by omega)
theorem ar_at {β : Type} {N : Nat} (hN : N ≤ 6) {bk : Nat → Nat} {a : Nat → Int32} (hb : ∀ i, i < N → a (20 + i) = k_bI (bk i) ∧ bk i ≤ 10) {p : Nat} (hp : p < 10) (k : Int32 → Option β) : ∀ (m j fuel acc : Nat), j + m = N → m < fuel → lp_X9_atBrick_5 (nI p) (nI N) a k fuel (nI acc) (nI j) = k (nI (w_last bk p m j acc))
  | 0, j, fuel + 1, acc, h, hf => by
    rw [lp_X9_atBrick_5]
    simp (disch := omega) only [nx_chk, nx_let, nx_b2, nx_b3, nx_b4, nx_b5, nx_b7, nx_b8, Option.bind_some, nx_l0, nx_l1, nx_l2, nx_l3, nx_l4, nx_l5, nx_l6, nx_l7, nx_l8, nx_l9, nx_l10, nx_l11, nx_l12, nx_l14, nx_l20, nx_l26, nx_l40, nx_l60, nx_l100, nx_l1000, nI_add, nx_sub, nx_m1, nx_in, nx_cl, nx_le, nx_ltI, nx_eq, nx_isb0, nx_isb1, nx_n9, nx_n9', nx_b9, nx_b9', nx_m1', Nat.reduceEqDiff, Nat.reduceLeDiff, Nat.reduceLT, Nat.reduceAdd, Nat.reduceSub, Nat.reduceMul, Nat.reduceDiv, Nat.reduceMod, Bool.false_eq_true, reduceIte, ite_true, ite_false, if_true, if_false, show N ≤ j by omega]
    rfl
  | m + 1, j, fuel + 1, acc, h, hf => by
    have hj : j < N := by omega
    have hbj := (hb j hj).2
    rw [lp_X9_atBrick_5]
    unfold w_last
    by_cases q : bk j = p
    · simp (disch := omega) only [nx_chk, nx_let, nx_b2, nx_b3, nx_b4, nx_b5, nx_b7, nx_b8, Option.bind_some, nx_l0, nx_l1, nx_l2, nx_l3, nx_l4, nx_l5, nx_l6, nx_l7, nx_l8, nx_l9, nx_l10, nx_l11, nx_l12, nx_l14, nx_l20, nx_l26, nx_l40, nx_l60, nx_l100, nx_l1000, nI_add, nx_sub, nx_m1, nx_in, nx_cl, nx_le, nx_ltI, nx_eq, nx_isb0, nx_isb1, nx_n9, nx_n9', nx_b9, nx_b9', nx_m1', Nat.reduceEqDiff, Nat.reduceLeDiff, Nat.reduceLT, Nat.reduceAdd, Nat.reduceSub, Nat.reduceMul, Nat.reduceDiv, Nat.reduceMod, Bool.false_eq_true, reduceIte, ite_true, ite_false, if_true, if_false, show ¬ N ≤ j by omega, (hb j hj).1, nx_bp, q]
      exact ar_at hN hb hp k m (j + 1) fuel j (by omega) (by omega)
    · simp (disch := omega) only [nx_chk, nx_let, nx_b2, nx_b3, nx_b4, nx_b5, nx_b7, nx_b8, Option.bind_some, nx_l0, nx_l1, nx_l2, nx_l3, nx_l4, nx_l5, nx_l6, nx_l7, nx_l8, nx_l9, nx_l10, nx_l11, nx_l12, nx_l14, nx_l20, nx_l26, nx_l40, nx_l60, nx_l100, nx_l1000, nI_add, nx_sub, nx_m1, nx_in, nx_cl, nx_le, nx_ltI, nx_eq, nx_isb0, nx_isb1, nx_n9, nx_n9', nx_b9, nx_b9', nx_m1', Nat.reduceEqDiff, Nat.reduceLeDiff, Nat.reduceLT, Nat.reduceAdd, Nat.reduceSub, Nat.reduceMul, Nat.reduceDiv, Nat.reduceMod, Bool.false_eq_true, reduceIte, ite_true, ite_false, if_true, if_false, show ¬ N ≤ j by omega, (hb j hj).1, nx_bp, q]
      exact ar_at hN hb hp k m (j + 1) fuel acc (by omega) (by omega)
theorem ar_atBrick {N : Nat} (hN : N ≤ 6) {bk : Nat → Nat} {a : Nat → Int32} (hb : ∀ i, i < N → a (20 + i) = k_bI (bk i) ∧ bk i ≤ 10) (hi : w_inj N bk) {p : Nat} (hp : p < 10) : f_X9_atBrick (nI p) (nI N) a = some (nI (w_first bk p N 0)) := by
  unfold f_X9_atBrick
  obtain ⟨F, hF, hF2⟩ : ∃ F, F = gg_fuel ∧ 50000 ≤ F := ⟨_, rfl, pu_F⟩
  rw [← hF, ← w_fl hi (by omega) N 0 (by omega)]
  exact ar_at hN hb hp _ N 0 F 10 (by omega) (by omega)
theorem fl_late {β : Type} {N : Nat} (hN : N ≤ 6) {kd wd : Nat → Nat} {kind winds : Nat → Int32} (hk : fr_kw N kd wd kind winds) {i : Nat} (hi : i < N) (k : Int32 → Option β) : ∀ (m j fuel : Nat), j + m = N → m < fuel → lp_X2_howManyLessLate_4 (nI i) (nI N) kind k fuel (nI (m_ct (fun x => decide (k_late (kd x) < k_late (kd i))) j)) (nI j) = k (nI (m_ct (fun x => decide (k_late (kd x) < k_late (kd i))) N))
  | 0, j, fuel + 1, h, hf => by
    have : j = N := by omega
    subst this
    rw [lp_X2_howManyLessLate_4]
    simp (disch := omega) only [nx_chk, nx_let, nx_b2, nx_b3, nx_b4, nx_b5, nx_b7, nx_b8, Option.bind_some, nx_l0, nx_l1, nx_l2, nx_l3, nx_l4, nx_l5, nx_l6, nx_l7, nx_l8, nx_l9, nx_l10, nx_l11, nx_l12, nx_l14, nx_l20, nx_l26, nx_l40, nx_l60, nx_l100, nx_l1000, nI_add, nx_sub, nx_m1, nx_in, nx_cl, nx_le, nx_ltI, nx_eq, nx_isb0, nx_isb1, nx_n9, nx_n9', nx_b9, nx_b9', nx_m1', Nat.reduceEqDiff, Nat.reduceLeDiff, Nat.reduceLT, Nat.reduceAdd, Nat.reduceSub, Nat.reduceMul, Nat.reduceDiv, Nat.reduceMod, Bool.false_eq_true, reduceIte, ite_true, ite_false, if_true, if_false, Nat.le_refl]
  | m + 1, j, fuel + 1, h, hf => by
    have hj : j < N := by omega
    have ih := fl_late hN hk hi k m (j + 1) fuel (by omega) (by omega)
    have l1 := k_late_le (kd i) (hk.1 i hi).1
    have l2 := k_late_le (kd j) (hk.1 j hj).1
    rw [lp_X2_howManyLessLate_4, ← ih, m_ct_s]
    by_cases q : k_late (kd j) < k_late (kd i)
    · simp (disch := omega) only [nx_chk, nx_let, nx_b2, nx_b3, nx_b4, nx_b5, nx_b7, nx_b8, Option.bind_some, nx_l0, nx_l1, nx_l2, nx_l3, nx_l4, nx_l5, nx_l6, nx_l7, nx_l8, nx_l9, nx_l10, nx_l11, nx_l12, nx_l14, nx_l20, nx_l26, nx_l40, nx_l60, nx_l100, nx_l1000, nI_add, nx_sub, nx_m1, nx_in, nx_cl, nx_le, nx_ltI, nx_eq, nx_isb0, nx_isb1, nx_n9, nx_n9', nx_b9, nx_b9', nx_m1', Nat.reduceEqDiff, Nat.reduceLeDiff, Nat.reduceLT, Nat.reduceAdd, Nat.reduceSub, Nat.reduceMul, Nat.reduceDiv, Nat.reduceMod, Bool.false_eq_true, reduceIte, ite_true, ite_false, if_true, if_false, show ¬ N ≤ j by omega, (hk.1 i hi).2, (hk.1 j hj).2, e_late8 (kd i) (hk.1 i hi).1, e_late8 (kd j) (hk.1 j hj).1, q, show ¬ k_late (kd i) ≤ k_late (kd j) by omega, decide_true]
    · simp (disch := omega) only [nx_chk, nx_let, nx_b2, nx_b3, nx_b4, nx_b5, nx_b7, nx_b8, Option.bind_some, nx_l0, nx_l1, nx_l2, nx_l3, nx_l4, nx_l5, nx_l6, nx_l7, nx_l8, nx_l9, nx_l10, nx_l11, nx_l12, nx_l14, nx_l20, nx_l26, nx_l40, nx_l60, nx_l100, nx_l1000, nI_add, nx_sub, nx_m1, nx_in, nx_cl, nx_le, nx_ltI, nx_eq, nx_isb0, nx_isb1, nx_n9, nx_n9', nx_b9, nx_b9', nx_m1', Nat.reduceEqDiff, Nat.reduceLeDiff, Nat.reduceLT, Nat.reduceAdd, Nat.reduceSub, Nat.reduceMul, Nat.reduceDiv, Nat.reduceMod, Bool.false_eq_true, reduceIte, ite_true, ite_false, if_true, if_false, show ¬ N ≤ j by omega, (hk.1 i hi).2, (hk.1 j hj).2, e_late8 (kd i) (hk.1 i hi).1, e_late8 (kd j) (hk.1 j hj).1, q, show k_late (kd i) ≤ k_late (kd j) by omega, decide_false]
theorem ar_late {β : Type} {N : Nat} (hN : N ≤ 6) {kd wd : Nat → Nat} {kind winds : Nat → Int32} (hk : fr_kw N kd wd kind winds) {i : Nat} (hi : i < N) (k : Int32 → Option β) : ∀ (m j fuel : Nat), j + m = N → m < fuel → lp_X9_lessLate_4 (nI (k_late (kd i))) (nI N) kind k fuel (nI (m_ct (fun x => decide (k_late (kd x) < k_late (kd i))) j)) (nI j) = k (nI (m_ct (fun x => decide (k_late (kd x) < k_late (kd i))) N))
  | 0, j, fuel + 1, h, hf => by
    have : j = N := by omega
    subst this
    rw [lp_X9_lessLate_4]
    simp (disch := omega) only [nx_chk, nx_let, nx_b2, nx_b3, nx_b4, nx_b5, nx_b7, nx_b8, Option.bind_some, nx_l0, nx_l1, nx_l2, nx_l3, nx_l4, nx_l5, nx_l6, nx_l7, nx_l8, nx_l9, nx_l10, nx_l11, nx_l12, nx_l14, nx_l20, nx_l26, nx_l40, nx_l60, nx_l100, nx_l1000, nI_add, nx_sub, nx_m1, nx_in, nx_cl, nx_le, nx_ltI, nx_eq, nx_isb0, nx_isb1, nx_n9, nx_n9', nx_b9, nx_b9', nx_m1', Nat.reduceEqDiff, Nat.reduceLeDiff, Nat.reduceLT, Nat.reduceAdd, Nat.reduceSub, Nat.reduceMul, Nat.reduceDiv, Nat.reduceMod, Bool.false_eq_true, reduceIte, ite_true, ite_false, if_true, if_false, Nat.le_refl]
  | m + 1, j, fuel + 1, h, hf => by
    have hj : j < N := by omega
    have ih := ar_late hN hk hi k m (j + 1) fuel (by omega) (by omega)
    have l1 := k_late_le (kd i) (hk.1 i hi).1
    have l2 := k_late_le (kd j) (hk.1 j hj).1
    rw [lp_X9_lessLate_4, ← ih, m_ct_s]
    by_cases q : k_late (kd j) < k_late (kd i)
    · simp (disch := omega) only [nx_chk, nx_let, nx_b2, nx_b3, nx_b4, nx_b5, nx_b7, nx_b8, Option.bind_some, nx_l0, nx_l1, nx_l2, nx_l3, nx_l4, nx_l5, nx_l6, nx_l7, nx_l8, nx_l9, nx_l10, nx_l11, nx_l12, nx_l14, nx_l20, nx_l26, nx_l40, nx_l60, nx_l100, nx_l1000, nI_add, nx_sub, nx_m1, nx_in, nx_cl, nx_le, nx_ltI, nx_eq, nx_isb0, nx_isb1, nx_n9, nx_n9', nx_b9, nx_b9', nx_m1', Nat.reduceEqDiff, Nat.reduceLeDiff, Nat.reduceLT, Nat.reduceAdd, Nat.reduceSub, Nat.reduceMul, Nat.reduceDiv, Nat.reduceMod, Bool.false_eq_true, reduceIte, ite_true, ite_false, if_true, if_false, show ¬ N ≤ j by omega, (hk.1 j hj).2, e_late9 (kd j) (hk.1 j hj).1, q, show ¬ k_late (kd i) ≤ k_late (kd j) by omega, decide_true]
    · simp (disch := omega) only [nx_chk, nx_let, nx_b2, nx_b3, nx_b4, nx_b5, nx_b7, nx_b8, Option.bind_some, nx_l0, nx_l1, nx_l2, nx_l3, nx_l4, nx_l5, nx_l6, nx_l7, nx_l8, nx_l9, nx_l10, nx_l11, nx_l12, nx_l14, nx_l20, nx_l26, nx_l40, nx_l60, nx_l100, nx_l1000, nI_add, nx_sub, nx_m1, nx_in, nx_cl, nx_le, nx_ltI, nx_eq, nx_isb0, nx_isb1, nx_n9, nx_n9', nx_b9, nx_b9', nx_m1', Nat.reduceEqDiff, Nat.reduceLeDiff, Nat.reduceLT, Nat.reduceAdd, Nat.reduceSub, Nat.reduceMul, Nat.reduceDiv, Nat.reduceMod, Bool.false_eq_true, reduceIte, ite_true, ite_false, if_true, if_false, show ¬ N ≤ j by omega, (hk.1 j hj).2, e_late9 (kd j) (hk.1 j hj).1, q, show k_late (kd i) ≤ k_late (kd j) by omega, decide_false, Nat.add_zero]
theorem pu_rng1 (x : Int32) (n : Nat) (hi : Int32) (hn : n < 1073741824) (hh : hi = nI n) : (f_X9_in x 1 hi = some (nI 0) ∧ f_X8_within x 1 hi = some (nI 0)) ∨ ∃ j, 1 ≤ j ∧ j ≤ n ∧ x = nI j ∧ f_X9_in x 1 hi = some (nI 1) ∧ f_X8_within x 1 hi = some (nI 1) := by
  subst hh
  have e1 : (1 : Int32).toInt = 1 := by decide
  have e0 : (0 : Int32).toInt = 0 := by decide
  rcases pu_ix x (n + 1) (by omega) with q | ⟨j, hj, rfl⟩
  · left
    have h : x < 1 ∨ nI n < x := by
      rcases q with q | q
      · left
        rw [Int32.lt_iff_toInt_lt] at q
        rw [Int32.lt_iff_toInt_lt]
        omega
      · right
        rw [Int32.le_iff_toInt_le, nI_toInt (by omega)] at q
        rw [Int32.lt_iff_toInt_lt, nI_toInt (by omega)]
        omega
    exact ⟨pu_inO h, pu_wiO h⟩
  · by_cases q0 : j = 0
    · left
      have h : nI j < 1 ∨ nI n < nI j := by
        left
        rw [nx_l1, nx_ltI (by omega) (by omega)]
        omega
      exact ⟨pu_inO h, pu_wiO h⟩
    · right
      have h1 : ¬ nI j < 1 := by rw [nx_l1, nx_ltI (by omega) (by omega)]; omega
      have h2 : ¬ nI n < nI j := by rw [nx_ltI (by omega) (by omega)]; omega
      exact ⟨j, by omega, by omega, rfl, pu_inI h1 h2, pu_wiI h1 h2⟩
