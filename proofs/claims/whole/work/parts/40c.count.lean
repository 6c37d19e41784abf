theorem ct_4n {β : Type} {y : Int32} (hy : ¬ y = 7) {N : Nat} (hN : N ≤ 6) {kind : Nat → Int32} (k : Int32 → Option β) : ∀ (m j fuel : Nat) (x : Int32), j + m = N → m < fuel → lp_X9_counted_4 y (nI N) kind k fuel x (nI j) = k x
  | 0, j, fuel + 1, x, h, hf => by
    rw [lp_X9_counted_4]
    rw [if_pos (show nI N ≤ nI j by rw [nx_le (by omega) (by omega)]; omega)]
  | m + 1, j, fuel + 1, x, h, hf => by
    rw [lp_X9_counted_4]
    rw [if_neg (show ¬ nI N ≤ nI j by rw [nx_le (by omega) (by omega)]; omega)]
    simp only [nx_let, if_neg hy, Int32.add_zero, nI_1]
    exact ct_4n hy hN k m (j + 1) fuel x (by omega) (by omega)
theorem ct_4y {β : Type} {N : Nat} (hN : N ≤ 6) {kd wd : Nat → Nat} {kind winds : Nat → Int32} (hk : fr_kw N kd wd kind winds) (k : Int32 → Option β) : ∀ (m j fuel : Nat), j + m = N → m < fuel → lp_X9_counted_4 (nI 7) (nI N) kind k fuel (nI (m_ct (fun x => decide (kd x = 3 ∨ kd x = 5)) j)) (nI j) = k (nI (m_ct (fun x => decide (kd x = 3 ∨ kd x = 5)) N))
  | 0, j, fuel + 1, h, hf => by
    have : j = N := by omega
    subst this
    rw [lp_X9_counted_4]
    simp (disch := omega) only [nx_chk, nx_let, nx_b2, nx_b3, nx_b4, nx_b5, nx_b7, nx_b8, Option.bind_some, nx_l0, nx_l1, nx_l2, nx_l3, nx_l4, nx_l5, nx_l6, nx_l7, nx_l8, nx_l9, nx_l10, nx_l11, nx_l12, nx_l14, nx_l20, nx_l26, nx_l40, nx_l60, nx_l100, nx_l1000, nI_add, nx_sub, nx_m1, nx_in, nx_cl, nx_le, nx_ltI, nx_eq, nx_isb0, nx_isb1, nx_n9, nx_n9', nx_b9, nx_b9', nx_m1', Nat.reduceEqDiff, Nat.reduceLeDiff, Nat.reduceLT, Nat.reduceAdd, Nat.reduceSub, Nat.reduceMul, Nat.reduceDiv, Nat.reduceMod, Bool.false_eq_true, reduceIte, ite_true, ite_false, if_true, if_false, Nat.le_refl]
  | m + 1, j, fuel + 1, h, hf => by
    have hj : j < N := by omega
    have k6 := (hk.1 j hj).1
    have ih := ct_4y hN hk k m (j + 1) fuel (by omega) (by omega)
    rw [lp_X9_counted_4, ← ih, m_ct_s]
    by_cases q : kd j = 3
    · simp (disch := omega) only [nx_chk, nx_let, nx_b2, nx_b3, nx_b4, nx_b5, nx_b7, nx_b8, Option.bind_some, nx_l0, nx_l1, nx_l2, nx_l3, nx_l4, nx_l5, nx_l6, nx_l7, nx_l8, nx_l9, nx_l10, nx_l11, nx_l12, nx_l14, nx_l20, nx_l26, nx_l40, nx_l60, nx_l100, nx_l1000, nI_add, nx_sub, nx_m1, nx_in, nx_cl, nx_le, nx_ltI, nx_eq, nx_isb0, nx_isb1, nx_n9, nx_n9', nx_b9, nx_b9', nx_m1', Nat.reduceEqDiff, Nat.reduceLeDiff, Nat.reduceLT, Nat.reduceAdd, Nat.reduceSub, Nat.reduceMul, Nat.reduceDiv, Nat.reduceMod, Bool.false_eq_true, reduceIte, ite_true, ite_false, if_true, if_false, show ¬ N ≤ j by omega, (hk.1 j hj).2, q, true_or, decide_true]
    · by_cases q2 : kd j = 5
      · simp (disch := omega) only [nx_chk, nx_let, nx_b2, nx_b3, nx_b4, nx_b5, nx_b7, nx_b8, Option.bind_some, nx_l0, nx_l1, nx_l2, nx_l3, nx_l4, nx_l5, nx_l6, nx_l7, nx_l8, nx_l9, nx_l10, nx_l11, nx_l12, nx_l14, nx_l20, nx_l26, nx_l40, nx_l60, nx_l100, nx_l1000, nI_add, nx_sub, nx_m1, nx_in, nx_cl, nx_le, nx_ltI, nx_eq, nx_isb0, nx_isb1, nx_n9, nx_n9', nx_b9, nx_b9', nx_m1', Nat.reduceEqDiff, Nat.reduceLeDiff, Nat.reduceLT, Nat.reduceAdd, Nat.reduceSub, Nat.reduceMul, Nat.reduceDiv, Nat.reduceMod, Bool.false_eq_true, reduceIte, ite_true, ite_false, if_true, if_false, show ¬ N ≤ j by omega, (hk.1 j hj).2, q, q2, or_true, decide_true]
      · simp (disch := omega) only [nx_chk, nx_let, nx_b2, nx_b3, nx_b4, nx_b5, nx_b7, nx_b8, Option.bind_some, nx_l0, nx_l1, nx_l2, nx_l3, nx_l4, nx_l5, nx_l6, nx_l7, nx_l8, nx_l9, nx_l10, nx_l11, nx_l12, nx_l14, nx_l20, nx_l26, nx_l40, nx_l60, nx_l100, nx_l1000, nI_add, nx_sub, nx_m1, nx_in, nx_cl, nx_le, nx_ltI, nx_eq, nx_isb0, nx_isb1, nx_n9, nx_n9', nx_b9, nx_b9', nx_m1', Nat.reduceEqDiff, Nat.reduceLeDiff, Nat.reduceLT, Nat.reduceAdd, Nat.reduceSub, Nat.reduceMul, Nat.reduceDiv, Nat.reduceMod, Bool.false_eq_true, reduceIte, ite_true, ite_false, if_true, if_false, show ¬ N ≤ j by omega, (hk.1 j hj).2, q, q2, or_false, decide_false, Nat.add_zero]
theorem fl_gu {β : Type} {N : Nat} (hN : N ≤ 6) {kd wd : Nat → Nat} {kind winds : Nat → Int32} (hk : fr_kw N kd wd kind winds) (k : Int32 → Option β) : ∀ (m j fuel : Nat), j + m = N → m < fuel → lp_X2_howManyGuards_4 (nI N) kind k fuel (nI (m_ct (fun x => decide (kd x = 3 ∨ kd x = 5)) j)) (nI j) = k (nI (m_ct (fun x => decide (kd x = 3 ∨ kd x = 5)) N))
  | 0, j, fuel + 1, h, hf => by
    have : j = N := by omega
    subst this
    rw [lp_X2_howManyGuards_4]
    simp (disch := omega) only [nx_chk, nx_let, nx_b2, nx_b3, nx_b4, nx_b5, nx_b7, nx_b8, Option.bind_some, nx_l0, nx_l1, nx_l2, nx_l3, nx_l4, nx_l5, nx_l6, nx_l7, nx_l8, nx_l9, nx_l10, nx_l11, nx_l12, nx_l14, nx_l20, nx_l26, nx_l40, nx_l60, nx_l100, nx_l1000, nI_add, nx_sub, nx_m1, nx_in, nx_cl, nx_le, nx_ltI, nx_eq, nx_isb0, nx_isb1, nx_n9, nx_n9', nx_b9, nx_b9', nx_m1', Nat.reduceEqDiff, Nat.reduceLeDiff, Nat.reduceLT, Nat.reduceAdd, Nat.reduceSub, Nat.reduceMul, Nat.reduceDiv, Nat.reduceMod, Bool.false_eq_true, reduceIte, ite_true, ite_false, if_true, if_false, Nat.le_refl]
  | m + 1, j, fuel + 1, h, hf => by
    have hj : j < N := by omega
    have k6 := (hk.1 j hj).1
    have ih := fl_gu hN hk k m (j + 1) fuel (by omega) (by omega)
    have hI := e_isOf (kd j) k6 3 (by omega)
    rw [lp_X2_howManyGuards_4, ← ih, m_ct_s]
    by_cases q : kd j = 3 ∨ kd j = 5
    · rw [if_pos (by omega)] at hI
      simp (disch := omega) only [nx_chk, nx_let, nx_b2, nx_b3, nx_b4, nx_b5, nx_b7, nx_b8, Option.bind_some, nx_l0, nx_l1, nx_l2, nx_l3, nx_l4, nx_l5, nx_l6, nx_l7, nx_l8, nx_l9, nx_l10, nx_l11, nx_l12, nx_l14, nx_l20, nx_l26, nx_l40, nx_l60, nx_l100, nx_l1000, nI_add, nx_sub, nx_m1, nx_in, nx_cl, nx_le, nx_ltI, nx_eq, nx_isb0, nx_isb1, nx_n9, nx_n9', nx_b9, nx_b9', nx_m1', Nat.reduceEqDiff, Nat.reduceLeDiff, Nat.reduceLT, Nat.reduceAdd, Nat.reduceSub, Nat.reduceMul, Nat.reduceDiv, Nat.reduceMod, Bool.false_eq_true, reduceIte, ite_true, ite_false, if_true, if_false, show ¬ N ≤ j by omega, (hk.1 j hj).2, hI, q, decide_true]
    · rw [if_neg (by omega)] at hI
      simp (disch := omega) only [nx_chk, nx_let, nx_b2, nx_b3, nx_b4, nx_b5, nx_b7, nx_b8, Option.bind_some, nx_l0, nx_l1, nx_l2, nx_l3, nx_l4, nx_l5, nx_l6, nx_l7, nx_l8, nx_l9, nx_l10, nx_l11, nx_l12, nx_l14, nx_l20, nx_l26, nx_l40, nx_l60, nx_l100, nx_l1000, nI_add, nx_sub, nx_m1, nx_in, nx_cl, nx_le, nx_ltI, nx_eq, nx_isb0, nx_isb1, nx_n9, nx_n9', nx_b9, nx_b9', nx_m1', Nat.reduceEqDiff, Nat.reduceLeDiff, Nat.reduceLT, Nat.reduceAdd, Nat.reduceSub, Nat.reduceMul, Nat.reduceDiv, Nat.reduceMod, Bool.false_eq_true, reduceIte, ite_true, ite_false, if_true, if_false, show ¬ N ≤ j by omega, (hk.1 j hj).2, hI, q, decide_false]
theorem fl_home {β : Type} {N : Nat} (hN : N ≤ 6) {hm bk : Nat → Nat} {home brick : Nat → Int32} (hh : fl_h N hm home) (hb : fl_b N bk brick) (k : Int32 → Option β) : ∀ (m j fuel : Nat), j + m = N → m < fuel → lp_X2_atHomeBits_4 (nI N) home brick k fuel (nI (m_bits (fun x => decide (bk x = hm x)) j)) (nI j) = k (nI (m_bits (fun x => decide (bk x = hm x)) N))
  | 0, j, fuel + 1, h, hf => by
    have : j = N := by omega
    subst this
    rw [lp_X2_atHomeBits_4]
    simp (disch := omega) only [nx_chk, nx_let, nx_b2, nx_b3, nx_b4, nx_b5, nx_b7, nx_b8, Option.bind_some, nx_l0, nx_l1, nx_l2, nx_l3, nx_l4, nx_l5, nx_l6, nx_l7, nx_l8, nx_l9, nx_l10, nx_l11, nx_l12, nx_l14, nx_l20, nx_l26, nx_l40, nx_l60, nx_l100, nx_l1000, nI_add, nx_sub, nx_m1, nx_in, nx_cl, nx_le, nx_ltI, nx_eq, nx_isb0, nx_isb1, nx_n9, nx_n9', nx_b9, nx_b9', nx_m1', Nat.reduceEqDiff, Nat.reduceLeDiff, Nat.reduceLT, Nat.reduceAdd, Nat.reduceSub, Nat.reduceMul, Nat.reduceDiv, Nat.reduceMod, Bool.false_eq_true, reduceIte, ite_true, ite_false, if_true, if_false, Nat.le_refl]
  | m + 1, j, fuel + 1, h, hf => by
    have hj : j < N := by omega
    have h1 := (hh j hj).2
    have h2 := (hb j hj).2
    have ih := fl_home hN hh hb k m (j + 1) fuel (by omega) (by omega)
    rw [lp_X2_atHomeBits_4, ← ih, m_bits_s]
    by_cases q : bk j = hm j
    · simp (disch := omega) only [nx_chk, nx_let, nx_b2, nx_b3, nx_b4, nx_b5, nx_b7, nx_b8, Option.bind_some, nx_l0, nx_l1, nx_l2, nx_l3, nx_l4, nx_l5, nx_l6, nx_l7, nx_l8, nx_l9, nx_l10, nx_l11, nx_l12, nx_l14, nx_l20, nx_l26, nx_l40, nx_l60, nx_l100, nx_l1000, nI_add, nx_sub, nx_m1, nx_in, nx_cl, nx_le, nx_ltI, nx_eq, nx_isb0, nx_isb1, nx_n9, nx_n9', nx_b9, nx_b9', nx_m1', Nat.reduceEqDiff, Nat.reduceLeDiff, Nat.reduceLT, Nat.reduceAdd, Nat.reduceSub, Nat.reduceMul, Nat.reduceDiv, Nat.reduceMod, Bool.false_eq_true, reduceIte, ite_true, ite_false, if_true, if_false, show ¬ N ≤ j by omega, (hh j hj).1, (hb j hj).1, nx_bp, q, decide_true, nx_sh1n, nx_or]
    · simp (disch := omega) only [nx_chk, nx_let, nx_b2, nx_b3, nx_b4, nx_b5, nx_b7, nx_b8, Option.bind_some, nx_l0, nx_l1, nx_l2, nx_l3, nx_l4, nx_l5, nx_l6, nx_l7, nx_l8, nx_l9, nx_l10, nx_l11, nx_l12, nx_l14, nx_l20, nx_l26, nx_l40, nx_l60, nx_l100, nx_l1000, nI_add, nx_sub, nx_m1, nx_in, nx_cl, nx_le, nx_ltI, nx_eq, nx_isb0, nx_isb1, nx_n9, nx_n9', nx_b9, nx_b9', nx_m1', Nat.reduceEqDiff, Nat.reduceLeDiff, Nat.reduceLT, Nat.reduceAdd, Nat.reduceSub, Nat.reduceMul, Nat.reduceDiv, Nat.reduceMod, Bool.false_eq_true, reduceIte, ite_true, ite_false, if_true, if_false, show ¬ N ≤ j by omega, (hh j hj).1, (hb j hj).1, nx_bp, q, decide_false, nx_sh1n, nx_or]
theorem ar_home {β : Type} {N : Nat} (hN : N ≤ 6) {f : FS_} {a : Nat → Int32} (ha : fr_ar N f a) (ok : fr_ok N f) (k : Int32 → Option β) : ∀ (m j fuel : Nat), j + m = N → m < fuel → lp_X9_homeOf_4 (nI N) a k fuel (nI (m_bits (fun x => decide (f.2.2.2.2.2 x = f.2.2.1 x)) j)) (nI j) = k (nI (m_bits (fun x => decide (f.2.2.2.2.2 x = f.2.2.1 x)) N))
  | 0, j, fuel + 1, h, hf => by
    have : j = N := by omega
    subst this
    rw [lp_X9_homeOf_4]
    simp (disch := omega) only [nx_chk, nx_let, nx_b2, nx_b3, nx_b4, nx_b5, nx_b7, nx_b8, Option.bind_some, nx_l0, nx_l1, nx_l2, nx_l3, nx_l4, nx_l5, nx_l6, nx_l7, nx_l8, nx_l9, nx_l10, nx_l11, nx_l12, nx_l14, nx_l20, nx_l26, nx_l40, nx_l60, nx_l100, nx_l1000, nI_add, nx_sub, nx_m1, nx_in, nx_cl, nx_le, nx_ltI, nx_eq, nx_isb0, nx_isb1, nx_n9, nx_n9', nx_b9, nx_b9', nx_m1', Nat.reduceEqDiff, Nat.reduceLeDiff, Nat.reduceLT, Nat.reduceAdd, Nat.reduceSub, Nat.reduceMul, Nat.reduceDiv, Nat.reduceMod, Bool.false_eq_true, reduceIte, ite_true, ite_false, if_true, if_false, Nat.le_refl]
  | m + 1, j, fuel + 1, h, hf => by
    have hj : j < N := by omega
    have h1 := (ok.2.1 j hj).1
    have h2 := (ok.2.1 j hj).2.2.2
    obtain ⟨a1, a2, a3, a4⟩ := ha.2.2 j hj
    have ih := ar_home hN ha ok k m (j + 1) fuel (by omega) (by omega)
    rw [lp_X9_homeOf_4, ← ih, m_bits_s]
    by_cases q : f.2.2.2.2.2 j = f.2.2.1 j
    · simp (disch := omega) only [nx_chk, nx_let, nx_b2, nx_b3, nx_b4, nx_b5, nx_b7, nx_b8, Option.bind_some, nx_l0, nx_l1, nx_l2, nx_l3, nx_l4, nx_l5, nx_l6, nx_l7, nx_l8, nx_l9, nx_l10, nx_l11, nx_l12, nx_l14, nx_l20, nx_l26, nx_l40, nx_l60, nx_l100, nx_l1000, nI_add, nx_sub, nx_m1, nx_in, nx_cl, nx_le, nx_ltI, nx_eq, nx_isb0, nx_isb1, nx_n9, nx_n9', nx_b9, nx_b9', nx_m1', Nat.reduceEqDiff, Nat.reduceLeDiff, Nat.reduceLT, Nat.reduceAdd, Nat.reduceSub, Nat.reduceMul, Nat.reduceDiv, Nat.reduceMod, Bool.false_eq_true, reduceIte, ite_true, ite_false, if_true, if_false, show ¬ N ≤ j by omega, a1, a4, nx_bp, q, decide_true, nx_sh1n, nx_or]
    · simp (disch := omega) only [nx_chk, nx_let, nx_b2, nx_b3, nx_b4, nx_b5, nx_b7, nx_b8, Option.bind_some, nx_l0, nx_l1, nx_l2, nx_l3, nx_l4, nx_l5, nx_l6, nx_l7, nx_l8, nx_l9, nx_l10, nx_l11, nx_l12, nx_l14, nx_l20, nx_l26, nx_l40, nx_l60, nx_l100, nx_l1000, nI_add, nx_sub, nx_m1, nx_in, nx_cl, nx_le, nx_ltI, nx_eq, nx_isb0, nx_isb1, nx_n9, nx_n9', nx_b9, nx_b9', nx_m1', Nat.reduceEqDiff, Nat.reduceLeDiff, Nat.reduceLT, Nat.reduceAdd, Nat.reduceSub, Nat.reduceMul, Nat.reduceDiv, Nat.reduceMod, Bool.false_eq_true, reduceIte, ite_true, ite_false, if_true, if_false, show ¬ N ≤ j by omega, a1, a4, nx_bp, q, decide_false, nx_sh1n, nx_or, Nat.or_zero]
def m_sum (g : Nat → Nat) : Nat → Nat
  | 0 => 0
  | n + 1 => m_sum g n + g n
theorem fl_str {β : Type} {N : Nat} (hN : N ≤ 6) {st bk : Nat → Nat} {strength brick : Nat → Int32} (hs : fl_s N st strength) (hb : fl_b N bk brick) (k : Int32 → Option β) : ∀ (m j fuel : Nat), j + m = N → m < fuel → lp_X2_strengthThere_4 (nI N) strength brick k fuel (nI (m_sum (fun x => if bk x = 10 then 0 else st x) j)) (nI j) = k (nI (m_sum (fun x => if bk x = 10 then 0 else st x) N))
  | 0, j, fuel + 1, h, hf => by
    have : j = N := by omega
    subst this
    rw [lp_X2_strengthThere_4]
    simp (disch := omega) only [nx_chk, nx_let, nx_b2, nx_b3, nx_b4, nx_b5, nx_b7, nx_b8, Option.bind_some, nx_l0, nx_l1, nx_l2, nx_l3, nx_l4, nx_l5, nx_l6, nx_l7, nx_l8, nx_l9, nx_l10, nx_l11, nx_l12, nx_l14, nx_l20, nx_l26, nx_l40, nx_l60, nx_l100, nx_l1000, nI_add, nx_sub, nx_m1, nx_in, nx_cl, nx_le, nx_ltI, nx_eq, nx_isb0, nx_isb1, nx_n9, nx_n9', nx_b9, nx_b9', nx_m1', Nat.reduceEqDiff, Nat.reduceLeDiff, Nat.reduceLT, Nat.reduceAdd, Nat.reduceSub, Nat.reduceMul, Nat.reduceDiv, Nat.reduceMod, Bool.false_eq_true, reduceIte, ite_true, ite_false, if_true, if_false, Nat.le_refl]
  | m + 1, j, fuel + 1, h, hf => by
    have hj : j < N := by omega
    have ih := fl_str hN hs hb k m (j + 1) fuel (by omega) (by omega)
    rw [lp_X2_strengthThere_4, ← ih, m_sum]
    by_cases q : bk j = 10
    · simp (disch := omega) only [nx_chk, nx_let, nx_b2, nx_b3, nx_b4, nx_b5, nx_b7, nx_b8, Option.bind_some, nx_l0, nx_l1, nx_l2, nx_l3, nx_l4, nx_l5, nx_l6, nx_l7, nx_l8, nx_l9, nx_l10, nx_l11, nx_l12, nx_l14, nx_l20, nx_l26, nx_l40, nx_l60, nx_l100, nx_l1000, nI_add, nx_sub, nx_m1, nx_in, nx_cl, nx_le, nx_ltI, nx_eq, nx_isb0, nx_isb1, nx_n9, nx_n9', nx_b9, nx_b9', nx_m1', Nat.reduceEqDiff, Nat.reduceLeDiff, Nat.reduceLT, Nat.reduceAdd, Nat.reduceSub, Nat.reduceMul, Nat.reduceDiv, Nat.reduceMod, Bool.false_eq_true, reduceIte, ite_true, ite_false, if_true, if_false, show ¬ N ≤ j by omega, fl_th hj hN (hb j hj).2 (hb j hj).1, q, Nat.add_zero]
    · simp (disch := omega) only [nx_chk, nx_let, nx_b2, nx_b3, nx_b4, nx_b5, nx_b7, nx_b8, Option.bind_some, nx_l0, nx_l1, nx_l2, nx_l3, nx_l4, nx_l5, nx_l6, nx_l7, nx_l8, nx_l9, nx_l10, nx_l11, nx_l12, nx_l14, nx_l20, nx_l26, nx_l40, nx_l60, nx_l100, nx_l1000, nI_add, nx_sub, nx_m1, nx_in, nx_cl, nx_le, nx_ltI, nx_eq, nx_isb0, nx_isb1, nx_n9, nx_n9', nx_b9, nx_b9', nx_m1', Nat.reduceEqDiff, Nat.reduceLeDiff, Nat.reduceLT, Nat.reduceAdd, Nat.reduceSub, Nat.reduceMul, Nat.reduceDiv, Nat.reduceMod, Bool.false_eq_true, reduceIte, ite_true, ite_false, if_true, if_false, show ¬ N ≤ j by omega, fl_th hj hN (hb j hj).2 (hb j hj).1, q, (hs j hj).1]
theorem ar_str {β : Type} {N : Nat} (hN : N ≤ 6) {f : FS_} {a : Nat → Int32} (ha : fr_ar N f a) (ok : fr_ok N f) (k : Int32 → Option β) : ∀ (m j fuel : Nat), j + m = N → m < fuel → lp_X9_strongOf_4 (nI N) a k fuel (nI (m_sum (fun x => if f.2.2.2.2.2 x = 10 then 0 else f.2.2.2.1 x) j)) (nI j) = k (nI (m_sum (fun x => if f.2.2.2.2.2 x = 10 then 0 else f.2.2.2.1 x) N))
  | 0, j, fuel + 1, h, hf => by
    have : j = N := by omega
    subst this
    rw [lp_X9_strongOf_4]
    simp (disch := omega) only [nx_chk, nx_let, nx_b2, nx_b3, nx_b4, nx_b5, nx_b7, nx_b8, Option.bind_some, nx_l0, nx_l1, nx_l2, nx_l3, nx_l4, nx_l5, nx_l6, nx_l7, nx_l8, nx_l9, nx_l10, nx_l11, nx_l12, nx_l14, nx_l20, nx_l26, nx_l40, nx_l60, nx_l100, nx_l1000, nI_add, nx_sub, nx_m1, nx_in, nx_cl, nx_le, nx_ltI, nx_eq, nx_isb0, nx_isb1, nx_n9, nx_n9', nx_b9, nx_b9', nx_m1', Nat.reduceEqDiff, Nat.reduceLeDiff, Nat.reduceLT, Nat.reduceAdd, Nat.reduceSub, Nat.reduceMul, Nat.reduceDiv, Nat.reduceMod, Bool.false_eq_true, reduceIte, ite_true, ite_false, if_true, if_false, Nat.le_refl]
  | m + 1, j, fuel + 1, h, hf => by
    have hj : j < N := by omega
    obtain ⟨a1, a2, a3, a4⟩ := ha.2.2 j hj
    have ih := ar_str hN ha ok k m (j + 1) fuel (by omega) (by omega)
    rw [lp_X9_strongOf_4, ← ih, m_sum]
    by_cases q : f.2.2.2.2.2 j = 10
    · simp (disch := omega) only [nx_chk, nx_let, nx_b2, nx_b3, nx_b4, nx_b5, nx_b7, nx_b8, Option.bind_some, nx_l0, nx_l1, nx_l2, nx_l3, nx_l4, nx_l5, nx_l6, nx_l7, nx_l8, nx_l9, nx_l10, nx_l11, nx_l12, nx_l14, nx_l20, nx_l26, nx_l40, nx_l60, nx_l100, nx_l1000, nI_add, nx_sub, nx_m1, nx_in, nx_cl, nx_le, nx_ltI, nx_eq, nx_isb0, nx_isb1, nx_n9, nx_n9', nx_b9, nx_b9', nx_m1', Nat.reduceEqDiff, Nat.reduceLeDiff, Nat.reduceLT, Nat.reduceAdd, Nat.reduceSub, Nat.reduceMul, Nat.reduceDiv, Nat.reduceMod, Bool.false_eq_true, reduceIte, ite_true, ite_false, if_true, if_false, show ¬ N ≤ j by omega, ar_th hj hN (ok.2.1 j hj).2.2.2 a4, q, Nat.add_zero]
    · simp (disch := omega) only [nx_chk, nx_let, nx_b2, nx_b3, nx_b4, nx_b5, nx_b7, nx_b8, Option.bind_some, nx_l0, nx_l1, nx_l2, nx_l3, nx_l4, nx_l5, nx_l6, nx_l7, nx_l8, nx_l9, nx_l10, nx_l11, nx_l12, nx_l14, nx_l20, nx_l26, nx_l40, nx_l60, nx_l100, nx_l1000, nI_add, nx_sub, nx_m1, nx_in, nx_cl, nx_le, nx_ltI, nx_eq, nx_isb0, nx_isb1, nx_n9, nx_n9', nx_b9, nx_b9', nx_m1', Nat.reduceEqDiff, Nat.reduceLeDiff, Nat.reduceLT, Nat.reduceAdd, Nat.reduceSub, Nat.reduceMul, Nat.reduceDiv, Nat.reduceMod, Bool.false_eq_true, reduceIte, ite_true, ite_false, if_true, if_false, show ¬ N ≤ j by omega, ar_th hj hN (ok.2.1 j hj).2.2.2 a4, q, a2]
theorem ct_54n {β : Type} {y : Int32} (hy : ¬ y = 8) {z : Nat → Int32} (k : Int32 → Option β) : ∀ (m j fuel : Nat) (x : Int32), j + m = 6 → m < fuel → lp_X9_counted_54 y z k fuel x (nI j) = k x
  | 0, j, fuel + 1, x, h, hf => by
    rw [lp_X9_counted_54]
    rw [if_pos (show (6 : Int32) ≤ nI j from (nI_leI (a := 6) (by omega) (by omega)).2 (by omega))]
  | m + 1, j, fuel + 1, x, h, hf => by
    rw [lp_X9_counted_54]
    rw [if_neg (show ¬ (6 : Int32) ≤ nI j from fun z => absurd ((nI_leI (a := 6) (by omega) (by omega)).1 z) (by omega))]
    simp only [nx_let, if_neg hy, Int32.add_zero, nI_1]
    exact ct_54n hy k m (j + 1) fuel x (by omega) (by omega)
theorem ct_54y {β : Type} {z zt : Nat → Int32} (hz : rl_sz 6 40 z zt) (k : Int32 → Option β) : ∀ (m j fuel : Nat), j + m = 6 → m < fuel → lp_X9_counted_54 (nI 8) zt k fuel (nI (m_ct (fun x => decide (z x ≠ -1)) j)) (nI j) = k (nI (m_ct (fun x => decide (z x ≠ -1)) 6))
  | 0, j, fuel + 1, h, hf => by
    have : j = 6 := by omega
    subst this
    rw [lp_X9_counted_54]
    rw [if_pos (show (6 : Int32) ≤ nI 6 from (nI_leI (a := 6) (by omega) (by omega)).2 (by omega))]
  | m + 1, j, fuel + 1, h, hf => by
    have hj : j < 6 := by omega
    have ih := ct_54y hz k m (j + 1) fuel (by omega) (by omega)
    obtain ⟨e1, e2⟩ := hz j hj
    rw [lp_X9_counted_54, ← ih, m_ct_s]
    rw [if_neg (show ¬ (6 : Int32) ≤ nI j from fun z => absurd ((nI_leI (a := 6) (by omega) (by omega)).1 z) (by omega))]
    simp only [nx_let]
    rw [if_pos (show nI 8 = 8 from rfl), nx_in hj (by omega), nx_cl (by omega), nx_chk, ← e1]
    rcases e2 with e2 | ⟨n, hn, e2⟩
    · rw [if_pos (by rw [e2]; decide), if_neg (by rw [e2]; decide), Int32.add_zero, nI_1]
    · have hne : ¬ z j = -1 := by rw [e2]; exact pu_m1 (by omega)
      have hnl : ¬ z j < 0 := by rw [e2, nx_l0, nx_ltI (by omega) (by omega)]; omega
      rw [if_neg hnl, if_pos (by simp [hne]), nI_1, nI_1]
theorem hm_6 {β : Type} {z zt : Nat → Int32} (hz : rl_sz 6 40 z zt) (k : Int32 → Option β) : ∀ (m j fuel : Nat), j + m = 6 → m < fuel → lp_X6_howMany_s6_4 z k fuel (nI (m_ct (fun x => decide (z x ≠ -1)) j)) (nI j) = k (nI (m_ct (fun x => decide (z x ≠ -1)) 6))
  | 0, j, fuel + 1, h, hf => by
    have : j = 6 := by omega
    subst this
    rw [lp_X6_howMany_s6_4]
    rw [if_pos (show (6 : Int32) ≤ nI 6 from (nI_leI (a := 6) (by omega) (by omega)).2 (by omega))]
  | m + 1, j, fuel + 1, h, hf => by
    have hj : j < 6 := by omega
    have ih := hm_6 hz k m (j + 1) fuel (by omega) (by omega)
    obtain ⟨e1, e2⟩ := hz j hj
    rw [lp_X6_howMany_s6_4, ← ih, m_ct_s]
    rw [if_neg (show ¬ (6 : Int32) ≤ nI j from fun z => absurd ((nI_leI (a := 6) (by omega) (by omega)).1 z) (by omega))]
    simp only [nx_let]
    rw [nx_in hj (by omega), nx_cl (by omega), nx_chk]
    by_cases q : z j = -1
    · rw [if_pos q, if_neg (by simp [q]), nI_1]
    · rw [if_neg q, if_pos (by simp [q]), nI_1, nI_1]
theorem ct_91n {β : Type} {y : Int32} (hy : ¬ y = 9) {z : Nat → Int32} (k : Int32 → Option β) : ∀ (m j fuel : Nat) (x : Int32), j + m = 4 → m < fuel → lp_X9_counted_91 y z k fuel x (nI j) = k x
  | 0, j, fuel + 1, x, h, hf => by
    rw [lp_X9_counted_91]
    rw [if_pos (show (4 : Int32) ≤ nI j from (nI_leI (a := 4) (by omega) (by omega)).2 (by omega))]
  | m + 1, j, fuel + 1, x, h, hf => by
    rw [lp_X9_counted_91]
    rw [if_neg (show ¬ (4 : Int32) ≤ nI j from fun z => absurd ((nI_leI (a := 4) (by omega) (by omega)).1 z) (by omega))]
    simp only [nx_let, if_neg hy, Int32.add_zero, nI_1]
    exact ct_91n hy k m (j + 1) fuel x (by omega) (by omega)
theorem ct_91y {β : Type} {z zt : Nat → Int32} (hz : rl_sz 4 60 z zt) (k : Int32 → Option β) : ∀ (m j fuel : Nat), j + m = 4 → m < fuel → lp_X9_counted_91 (nI 9) zt k fuel (nI (m_ct (fun x => decide (z x ≠ -1)) j)) (nI j) = k (nI (m_ct (fun x => decide (z x ≠ -1)) 4))
  | 0, j, fuel + 1, h, hf => by
    have : j = 4 := by omega
    subst this
    rw [lp_X9_counted_91]
    rw [if_pos (show (4 : Int32) ≤ nI 4 from (nI_leI (a := 4) (by omega) (by omega)).2 (by omega))]
  | m + 1, j, fuel + 1, h, hf => by
    have hj : j < 4 := by omega
    have ih := ct_91y hz k m (j + 1) fuel (by omega) (by omega)
    obtain ⟨e1, e2⟩ := hz j hj
    rw [lp_X9_counted_91, ← ih, m_ct_s]
    rw [if_neg (show ¬ (4 : Int32) ≤ nI j from fun z => absurd ((nI_leI (a := 4) (by omega) (by omega)).1 z) (by omega))]
    simp only [nx_let]
    rw [if_pos (show nI 9 = 9 from rfl), nx_in hj (by omega), nx_cl (by omega), nx_chk, ← e1]
    rcases e2 with e2 | ⟨n, hn, e2⟩
    · rw [if_pos (by rw [e2]; decide), if_neg (by rw [e2]; decide), Int32.add_zero, nI_1]
    · have hne : ¬ z j = -1 := by rw [e2]; exact pu_m1 (by omega)
      have hnl : ¬ z j < 0 := by rw [e2, nx_l0, nx_ltI (by omega) (by omega)]; omega
      rw [if_neg hnl, if_pos (by simp [hne]), nI_1, nI_1]
theorem hm_4 {β : Type} {z zt : Nat → Int32} (hz : rl_sz 4 60 z zt) (k : Int32 → Option β) : ∀ (m j fuel : Nat), j + m = 4 → m < fuel → lp_X6_howMany_s4_4 z k fuel (nI (m_ct (fun x => decide (z x ≠ -1)) j)) (nI j) = k (nI (m_ct (fun x => decide (z x ≠ -1)) 4))
  | 0, j, fuel + 1, h, hf => by
    have : j = 4 := by omega
    subst this
    rw [lp_X6_howMany_s4_4]
    rw [if_pos (show (4 : Int32) ≤ nI 4 from (nI_leI (a := 4) (by omega) (by omega)).2 (by omega))]
  | m + 1, j, fuel + 1, h, hf => by
    have hj : j < 4 := by omega
    have ih := hm_4 hz k m (j + 1) fuel (by omega) (by omega)
    obtain ⟨e1, e2⟩ := hz j hj
    rw [lp_X6_howMany_s4_4, ← ih, m_ct_s]
    rw [if_neg (show ¬ (4 : Int32) ≤ nI j from fun z => absurd ((nI_leI (a := 4) (by omega) (by omega)).1 z) (by omega))]
    simp only [nx_let]
    rw [nx_in hj (by omega), nx_cl (by omega), nx_chk]
    by_cases q : z j = -1
    · rw [if_pos q, if_neg (by simp [q]), nI_1]
    · rw [if_neg q, if_pos (by simp [q]), nI_1, nI_1]
theorem ct_127n {β : Type} {y : Int32} (hy : ¬ y = 10) {z : Nat → Int32} (k : Int32 → Option β) : ∀ (m j fuel : Nat) (x : Int32), j + m = 3 → m < fuel → lp_X9_counted_127 y z k fuel x (nI j) = k x
  | 0, j, fuel + 1, x, h, hf => by
    rw [lp_X9_counted_127]
    rw [if_pos (show (3 : Int32) ≤ nI j from (nI_leI (a := 3) (by omega) (by omega)).2 (by omega))]
  | m + 1, j, fuel + 1, x, h, hf => by
    rw [lp_X9_counted_127]
    rw [if_neg (show ¬ (3 : Int32) ≤ nI j from fun z => absurd ((nI_leI (a := 3) (by omega) (by omega)).1 z) (by omega))]
    simp only [nx_let, if_neg hy, Int32.add_zero, nI_1]
    exact ct_127n hy k m (j + 1) fuel x (by omega) (by omega)
def kp_ (z u v : Nat → Int32) : Prop := ∀ q, q < 3 → (u q = 0 ∧ z q = -1) ∨ (u q = 1 ∧ ∃ E, E ≤ 40 ∧ z q = nI E ∧ v q = nI E)
theorem ct_127y {β : Type} {z u v : Nat → Int32} (hz : kp_ z u v) (k : Int32 → Option β) : ∀ (m j fuel : Nat), j + m = 3 → m < fuel → lp_X9_counted_127 (nI 10) u k fuel (nI (m_ct (fun x => decide (z x ≠ -1)) j)) (nI j) = k (nI (m_ct (fun x => decide (z x ≠ -1)) 3))
  | 0, j, fuel + 1, h, hf => by
    have : j = 3 := by omega
    subst this
    rw [lp_X9_counted_127]
    rw [if_pos (show (3 : Int32) ≤ nI 3 from (nI_leI (a := 3) (by omega) (by omega)).2 (by omega))]
  | m + 1, j, fuel + 1, h, hf => by
    have hj : j < 3 := by omega
    have ih := ct_127y hz k m (j + 1) fuel (by omega) (by omega)
    rw [lp_X9_counted_127, ← ih, m_ct_s]
    rw [if_neg (show ¬ (3 : Int32) ≤ nI j from fun z => absurd ((nI_leI (a := 3) (by omega) (by omega)).1 z) (by omega))]
    simp only [nx_let]
    rw [if_pos (show nI 10 = 10 from rfl), nx_in hj (by omega), nx_cl (by omega), nx_chk]
    rcases hz j hj with ⟨e1, e2⟩ | ⟨e1, n, hn, e2, e3⟩
    · rw [if_pos e1, if_neg (by rw [e2]; decide), Int32.add_zero, nI_1]
    · have hne : ¬ z j = -1 := by rw [e2]; exact pu_m1 (by omega)
      rw [if_neg (by rw [e1]; decide), if_pos (by simp [hne]), nI_1, nI_1]
theorem hm_kp {β : Type} {z : Nat → Int32} (k : Int32 → Option β) : ∀ (m j fuel : Nat), j + m = 3 → m < fuel → lp_X8_howManyKept_4 z k fuel (nI (m_ct (fun x => decide (z x ≠ -1)) j)) (nI j) = k (nI (m_ct (fun x => decide (z x ≠ -1)) 3))
  | 0, j, fuel + 1, h, hf => by
    have : j = 3 := by omega
    subst this
    rw [lp_X8_howManyKept_4]
    rw [if_pos (show (3 : Int32) ≤ nI 3 from (nI_leI (a := 3) (by omega) (by omega)).2 (by omega))]
  | m + 1, j, fuel + 1, h, hf => by
    have hj : j < 3 := by omega
    have ih := hm_kp (z := z) k m (j + 1) fuel (by omega) (by omega)
    rw [lp_X8_howManyKept_4, ← ih, m_ct_s]
    rw [if_neg (show ¬ (3 : Int32) ≤ nI j from fun z => absurd ((nI_leI (a := 3) (by omega) (by omega)).1 z) (by omega))]
    simp only [nx_let]
    rcases (show j = 0 ∨ j = 1 ∨ j = 2 by omega) with rfl | rfl | rfl
    · rw [show ∀ A B C : Option β, gg_k3 (nI 0) A B C = A from fun _ _ _ => rfl]
      by_cases q : z 0 = -1
      · rw [if_pos q, if_neg (by simp [q]), nI_1]
      · rw [if_neg q, if_pos (by simp [q]), nI_1, nI_1]
    · rw [show ∀ A B C : Option β, gg_k3 (nI 1) A B C = B from fun _ _ _ => rfl]
      by_cases q : z 1 = -1
      · rw [if_pos q, if_neg (by simp [q]), nI_1]
      · rw [if_neg q, if_pos (by simp [q]), nI_1, nI_1]
    · rw [show ∀ A B C : Option β, gg_k3 (nI 2) A B C = C from fun _ _ _ => rfl]
      by_cases q : z 2 = -1
      · rw [if_pos q, if_neg (by simp [q]), nI_1]
      · rw [if_neg q, if_pos (by simp [q]), nI_1, nI_1]
theorem rl_kp {s t : ll_S} (h : rl_fr s t) : kp_ (s.2.2.1 25) (t.2.2.1 14) (t.2.2.1 15) ∧ s.1 18 = t.1 8 := by
  obtain ⟨N, kd, wd, f0, cs, D, hN, ok0, hd0, hN0, e6, e10, eT2, kw1, kw2, kwt, fl0, flD, arD, e18, eT8, lg, kp⟩ := h
  refine ⟨fun q hq => ?_, e18.trans eT8.symm⟩
  rcases kp q hq with ⟨a, b⟩ | ⟨-, a, ks, E, b, c, -, d⟩
  · exact Or.inl ⟨a, b⟩
  · exact Or.inr ⟨a, E, d.1, b, c⟩
theorem ct_eq {N : Nat} {kd wd : Nat → Nat} {f : FS_} {s t : ll_S} (h : Rl_ s t) (nw : nw_ N kd wd f s t) {w : Nat} (hw : w ≤ 10) : ∃ v, f_X8_count (nI w) (s.2.2.1 0) (s.2.2.1 1) (s.1 10) (s.1 11) (s.1 12) (s.2.2.1 11) (s.2.2.1 12) (s.2.2.1 13) (s.2.2.1 15) (s.1 18) (s.2.2.1 25) = some v ∧ f_X9_counted (nI w) (t.1 2) (t.1 8) (t.2.2.1 1) (t.2.2.1 4) (t.2.2.1 6) (t.2.2.1 8) (t.2.2.1 14) = some v := by
  obtain ⟨hN, e10, eT2, kw, kt, fl, ar, ok, due⟩ := id nw
  obtain ⟨kp, e18⟩ := rl_kp h.2.2.2.2.2
  obtain ⟨F, hF, hF2⟩ : ∃ F, F = gg_fuel ∧ 50000 ≤ F := ⟨_, rfl, pu_F⟩
  have hz6 := h.2.2.2.1.2.1
  have hz4 := h.2.2.2.2.1.2.1
  have hb := fr_fl_b fl ok
  have hh : fl_h N f.2.2.1 (s.2.2.1 12) := fun j hj => ⟨(fl.2.2 j hj).1, (ok.2.1 j hj).1⟩
  have hs : fl_s N f.2.2.2.1 (s.2.2.1 13) := fun j hj => ⟨(fl.2.2 j hj).2.1, by have := (ok.2.1 j hj).2.1; omega⟩
  rw [e10, eT2]
  unfold f_X9_counted f_X8_count f_X2_strengthThere f_X2_atHomeBits f_X2_howManyGuards f_X6_howMany_s6 f_X6_howMany_s4 f_X8_howManyKept f_X9_strongOf f_X9_homeOf
  rw [← hF]
  have z0 : (0 : Int32) = nI (m_ct (fun x => decide (kd x = 3 ∨ kd x = 5)) 0) := rfl
  by_cases q7 : w = 7
  · subst q7
    refine ⟨nI (m_ct (fun x => decide (kd x = 3 ∨ kd x = 5)) N), ?_, ?_⟩
    · exact congrArg (fun o => Option.bind o _) (fl_gu hN kw (fun x => some x) N 0 F (by omega) (by omega))
    · refine (ct_4y hN kt _ N 0 F (by omega) (by omega)).trans ?_
      refine (ct_54n (by decide) _ 6 0 F _ (by omega) (by omega)).trans ?_
      refine (ct_91n (by decide) _ 4 0 F _ (by omega) (by omega)).trans ?_
      refine (ct_127n (by decide) _ 3 0 F _ (by omega) (by omega)).trans ?_
      rfl
  · have n7 : ¬ nI w = 7 := fun z => q7 ((nI_eq (b := 7) (by omega) (by omega)).1 z)
    by_cases q8 : w = 8
    · subst q8
      refine ⟨nI (m_ct (fun x => decide (s.2.2.1 0 x ≠ -1)) 6), ?_, ?_⟩
      · exact congrArg (fun o => Option.bind o _) (hm_6 hz6 (fun x => some x) 6 0 F (by omega) (by omega))
      · refine (ct_4n n7 hN _ N 0 F _ (by omega) (by omega)).trans ?_
        refine (ct_54y hz6 _ 6 0 F (by omega) (by omega)).trans ?_
        refine (ct_91n (by decide) _ 4 0 F _ (by omega) (by omega)).trans ?_
        refine (ct_127n (by decide) _ 3 0 F _ (by omega) (by omega)).trans ?_
        rfl
    · have n8 : ¬ nI w = 8 := fun z => q8 ((nI_eq (b := 8) (by omega) (by omega)).1 z)
      by_cases q9 : w = 9
      · subst q9
        refine ⟨nI (m_ct (fun x => decide (s.2.2.1 1 x ≠ -1)) 4), ?_, ?_⟩
        · exact congrArg (fun o => Option.bind o _) (hm_4 hz4 (fun x => some x) 4 0 F (by omega) (by omega))
        · refine (ct_4n n7 hN _ N 0 F _ (by omega) (by omega)).trans ?_
          refine (ct_54n n8 _ 6 0 F _ (by omega) (by omega)).trans ?_
          refine (ct_91y hz4 _ 4 0 F (by omega) (by omega)).trans ?_
          refine (ct_127n (by decide) _ 3 0 F _ (by omega) (by omega)).trans ?_
          rfl
      · have n9 : ¬ nI w = 9 := fun z => q9 ((nI_eq (b := 9) (by omega) (by omega)).1 z)
        by_cases q10 : w = 10
        · subst q10
          refine ⟨nI (m_ct (fun x => decide (s.2.2.1 25 x ≠ -1)) 3), ?_, ?_⟩
          · exact congrArg (fun o => Option.bind o _) (hm_kp (fun x => some x) 3 0 F (by omega) (by omega))
          · refine (ct_4n n7 hN _ N 0 F _ (by omega) (by omega)).trans ?_
            refine (ct_54n n8 _ 6 0 F _ (by omega) (by omega)).trans ?_
            refine (ct_91n n9 _ 4 0 F _ (by omega) (by omega)).trans ?_
            refine (ct_127y kp _ 3 0 F (by omega) (by omega)).trans ?_
            rfl
        · have n10 : ¬ nI w = 10 := fun z => q10 ((nI_eq (b := 10) (by omega) (by omega)).1 z)
          have e : ∀ B : Int32 → Option Int32, (lp_X9_counted_4 (nI w) (nI N) (t.2.2.1 6) (fun (x2_52 : Int32) => (lp_X9_counted_54 (nI w) (t.2.2.1 1) (fun (x2_89 : Int32) => (lp_X9_counted_91 (nI w) (t.2.2.1 4) (fun (x2_125 : Int32) => (lp_X9_counted_127 (nI w) (t.2.2.1 14) B F x2_125 (0 : Int32))) F x2_89 (0 : Int32))) F x2_52 (0 : Int32))) F (0 : Int32) (0 : Int32)) = B 0 := by
            intro B
            refine (ct_4n n7 hN _ N 0 F _ (by omega) (by omega)).trans ?_
            refine (ct_54n n8 _ 6 0 F _ (by omega) (by omega)).trans ?_
            refine (ct_91n n9 _ 4 0 F _ (by omega) (by omega)).trans ?_
            exact ct_127n n10 _ 3 0 F _ (by omega) (by omega)
          rw [e]
          rcases (show w = 0 ∨ w = 1 ∨ w = 2 ∨ w = 3 ∨ w = 4 ∨ w = 5 ∨ w = 6 by omega) with rfl | rfl | rfl | rfl | rfl | rfl | rfl
          · exact ⟨nI N, rfl, rfl⟩
          · refine ⟨s.1 12, rfl, ?_⟩
            rw [fl.2.1]
            exact congrArg some ar.1
          · refine ⟨s.1 18, rfl, ?_⟩
            rw [e18]
            rfl
          · refine ⟨s.1 11, rfl, ?_⟩
            rw [fl.1]
            exact congrArg some ar.2.1
          · refine ⟨nI (w_set N f.2.2.2.2.2), ?_, ?_⟩
            · exact congrArg (fun o => Option.bind o _) (fl_there hN hb)
            · exact congrArg (fun o => Option.bind o _) (ar_there hN (fr_ar_b ar ok))
          · refine ⟨nI (m_sum (fun x => if f.2.2.2.2.2 x = 10 then 0 else f.2.2.2.1 x) N), ?_, ?_⟩
            · exact congrArg (fun o => Option.bind o _) (fl_str hN hs hb (fun x => some x) N 0 F (by omega) (by omega))
            · exact congrArg (fun o => Option.bind o _) (ar_str hN ar ok (fun x => some x) N 0 F (by omega) (by omega))
          · refine ⟨nI (m_bits (fun x => decide (f.2.2.2.2.2 x = f.2.2.1 x)) N), ?_, ?_⟩
            · exact congrArg (fun o => Option.bind o _) (fl_home hN hh hb (fun x => some x) N 0 F (by omega) (by omega))
            · exact congrArg (fun o => Option.bind o _) (ar_home hN ar ok (fun x => some x) N 0 F (by omega) (by omega))
theorem sm_count : sim_count Rl_ := by
  intro s t h a0
  obtain ⟨N, kd, wd, f, nw⟩ := rl_nw h.2.2.2.2.2
  unfold f_X9_count
  rcases pu_rng a0 10 10 (by omega) rfl with ⟨q1, q2⟩ | ⟨w, hw, rfl, q1, q2⟩
  · have hne : ∀ n, n ≤ 10 → ¬ a0 = nI n := by
      intro n hn z
      subst z
      rw [pu_inI (by rw [nx_l0, nx_ltI (by omega) (by omega)]; omega) (by rw [nx_l10, nx_ltI (by omega) (by omega)]; omega)] at q1
      exact absurd q1 (by decide)
    refine ⟨-1, -1, ?_, by rw [q1]; rfl, rfl, h⟩
    unfold f_X8_count
    rw [if_neg (show ¬ a0 = (0 : Int32) from hne 0 (by omega)), if_neg (show ¬ a0 = (1 : Int32) from hne 1 (by omega)), if_neg (show ¬ a0 = (2 : Int32) from hne 2 (by omega)), if_neg (show ¬ a0 = (3 : Int32) from hne 3 (by omega)), if_neg (show ¬ a0 = (4 : Int32) from hne 4 (by omega)), if_neg (show ¬ a0 = (5 : Int32) from hne 5 (by omega)), if_neg (show ¬ a0 = (6 : Int32) from hne 6 (by omega)), if_neg (show ¬ a0 = (7 : Int32) from hne 7 (by omega)), if_neg (show ¬ a0 = (8 : Int32) from hne 8 (by omega)), if_neg (show ¬ a0 = (9 : Int32) from hne 9 (by omega)), if_neg (show ¬ a0 = (10 : Int32) from hne 10 (by omega))]
  · obtain ⟨v, v1, v2⟩ := ct_eq h nw hw
    rw [q1, v1, v2]
    exact ⟨v, v, rfl, rfl, rfl, h⟩
