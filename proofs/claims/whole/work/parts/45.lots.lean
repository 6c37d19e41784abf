theorem lt_rm {x : Nat} (h : x < 2147483648) : (48271 : Int64) * lN x - (48271 : Int64) * lN x / (2147483647 : Int64) * (2147483647 : Int64) = lN (48271 * x % 2147483647) := by
  rw [show (48271 : Int64) = lN 48271 from rfl, show (2147483647 : Int64) = lN 2147483647 from rfl, lN_mul, pk_lRem (by omega) (by omega) (by omega)]
theorem lt_m3 {y : Nat} (h : y < 2147483648) : (lg_cmp (lN y - lN y / (3 : Int64) * (3 : Int64)) (0 : Int64) = (0 : Int32)) ↔ (y % 3 = 0) := by
  rw [show (3 : Int64) = lN 3 from rfl, show (0 : Int64) = lN 0 from rfl, pk_lRem (by omega) (by omega) (by omega)]
  exact (lg_cmp_eq _ _).trans (pk_lEQ (by omega) (by omega))
theorem lt_ix {y N : Nat} (h : y < 2147483648) (h0 : N ≠ 0) (hN : N ≤ 6) : ((lN y / (8 : Int64)) - (lN y / (8 : Int64)) / ((nI N).toInt64) * ((nI N).toInt64)).toInt32 = nI (y / 8 % N) := by
  rw [nI_l (by omega), show (8 : Int64) = lN 8 from rfl, pk_lDiv (by omega) (by omega) (by omega), pk_lRem (by omega) (by omega) (by omega), lN_i]
theorem lt_z {N : Nat} (h0 : N ≠ 0) (hN : N ≤ 6) : (!decide ((nI N).toInt64 = 0)) = true := by
  rw [nI_l (by omega), show (0 : Int64) = lN 0 from rfl, decide_eq_false (fun z => h0 ((lN_eq (by omega) (by omega)).1 z))]
  rfl
theorem fl_can {N : Nat} (hN : N ≤ 6) {f : FS_} (ok : fr_ok N f) {food due : Int32} {home strength brown brick : Nat → Int32} (hf : fr_fl N f food due home strength brown brick) {i : Nat} (hi : i < N) : f_X2_canBeFed (nI i) (nI N) food brick = some (if f.2.2.2.2.2 i ≠ 10 ∧ 0 < f.1 then nI 1 else nI 0) := by
  obtain ⟨h1, h2, h3⟩ := ok
  have hb : fl_b N f.2.2.2.2.2 brick := fr_fl_b hf ⟨h1, h2, h3⟩
  obtain ⟨e1, e2, e3⟩ := hf
  subst e1
  unfold f_X2_canBeFed
  rw [fl_th hi hN (hb i hi).2 (hb i hi).1]
  by_cases q : f.2.2.2.2.2 i = 10
  · simp (disch := omega) only [nx_chk, nx_let, nx_b2, nx_b3, nx_b4, nx_b5, nx_b7, nx_b8, Option.bind_some, nx_l0, nx_l1, nx_l2, nx_l3, nx_l4, nx_l5, nx_l6, nx_l7, nx_l8, nx_l9, nx_l10, nx_l11, nx_l12, nx_l14, nx_l20, nx_l26, nx_l40, nx_l60, nx_l100, nx_l1000, nI_add, nx_sub, nx_m1, nx_in, nx_cl, nx_le, nx_ltI, nx_eq, nx_isb0, nx_isb1, nx_n9, nx_n9', nx_b9, nx_b9', nx_m1', Nat.reduceEqDiff, Nat.reduceLeDiff, Nat.reduceLT, Nat.reduceAdd, Nat.reduceSub, Nat.reduceMul, Nat.reduceDiv, Nat.reduceMod, Bool.false_eq_true, reduceIte, ite_true, ite_false, if_true, if_false, q, ne_eq, not_true_eq_false, false_and]
  · by_cases q2 : 0 < f.1
    · simp (disch := omega) only [nx_chk, nx_let, nx_b2, nx_b3, nx_b4, nx_b5, nx_b7, nx_b8, Option.bind_some, nx_l0, nx_l1, nx_l2, nx_l3, nx_l4, nx_l5, nx_l6, nx_l7, nx_l8, nx_l9, nx_l10, nx_l11, nx_l12, nx_l14, nx_l20, nx_l26, nx_l40, nx_l60, nx_l100, nx_l1000, nI_add, nx_sub, nx_m1, nx_in, nx_cl, nx_le, nx_ltI, nx_eq, nx_isb0, nx_isb1, nx_n9, nx_n9', nx_b9, nx_b9', nx_m1', Nat.reduceEqDiff, Nat.reduceLeDiff, Nat.reduceLT, Nat.reduceAdd, Nat.reduceSub, Nat.reduceMul, Nat.reduceDiv, Nat.reduceMod, Bool.false_eq_true, reduceIte, ite_true, ite_false, if_true, if_false, q, q2, show ¬ f.1 ≤ 0 by omega, ne_eq, not_false_eq_true, and_self]
    · simp (disch := omega) only [nx_chk, nx_let, nx_b2, nx_b3, nx_b4, nx_b5, nx_b7, nx_b8, Option.bind_some, nx_l0, nx_l1, nx_l2, nx_l3, nx_l4, nx_l5, nx_l6, nx_l7, nx_l8, nx_l9, nx_l10, nx_l11, nx_l12, nx_l14, nx_l20, nx_l26, nx_l40, nx_l60, nx_l100, nx_l1000, nI_add, nx_sub, nx_m1, nx_in, nx_cl, nx_le, nx_ltI, nx_eq, nx_isb0, nx_isb1, nx_n9, nx_n9', nx_b9, nx_b9', nx_m1', Nat.reduceEqDiff, Nat.reduceLeDiff, Nat.reduceLT, Nat.reduceAdd, Nat.reduceSub, Nat.reduceMul, Nat.reduceDiv, Nat.reduceMod, Bool.false_eq_true, reduceIte, ite_true, ite_false, if_true, if_false, q, q2, show f.1 ≤ 0 by omega, ne_eq, and_false]
def cl_ (N y : Nat) (f : FS_) : Nat := if y % 3 = 0 ∧ f.2.2.2.2.2 (y / 8 % N) ≠ 10 ∧ 0 < f.1 then 100 + 10 * (y / 8 % N) else 0
theorem cl_8 {N : Nat} (hN : N ≤ 6) (h0 : N ≠ 0) {f : FS_} (ok : fr_ok N f) {food due : Int32} {home strength brown brick : Nat → Int32} (hf : fr_fl N f food due home strength brown brick) {y : Nat} (hy : y < 2147483648) : f_X8_codeByLot (lN y) (nI N) food brick = some (nI (cl_ N y f)) := by
  have z0 : ¬ nI N = 0 := fun z => h0 ((nI_eq (b := 0) (by omega) (by omega)).1 z)
  have c0 : f_X4_code (0 : Int32) (0 : Int32) (0 : Int32) = some (nI 0) := fl_code (d := 0) (i := 0) (j := 0) (e := 0) rfl
  have hi : y / 8 % N < N := Nat.mod_lt _ (by omega)
  have c1 : f_X4_code (1 : Int32) (nI (y / 8 % N)) (0 : Int32) = some (nI (100 + 10 * (y / 8 % N))) := fl_code (d := 1) (i := y / 8 % N) (j := 0) (e := 100 + 10 * (y / 8 % N)) (by omega)
  unfold f_X8_codeByLot cl_
  rw [nx_let, if_neg z0, lt_z h0 hN, nx_chk, lt_ix hy h0 hN]
  dsimp only
  rw [nx_let, c0, Option.bind_some, c1, Option.bind_some, fl_can hN ok hf hi, Option.bind_some]
  by_cases q : y % 3 = 0
  · rw [if_pos ((lt_m3 hy).2 q)]
    by_cases q2 : f.2.2.2.2.2 (y / 8 % N) ≠ 10 ∧ 0 < f.1
    · rw [if_pos q2, if_neg (show ¬ nI 1 = 0 by decide), if_pos ⟨q, q2⟩]
    · rw [if_neg q2, if_pos (show nI 0 = 0 from rfl), if_neg (fun z => q2 z.2)]
  · rw [if_neg (fun z => q ((lt_m3 hy).1 z)), if_neg (fun z => q z.1)]
theorem cl_cv {N : Nat} (h0 : N ≠ 0) (y : Nat) (f : FS_) : fr_cv N (cl_ N y f) := by
  unfold cl_
  split
  · exact Or.inr (Or.inl ⟨y / 8 % N, Nat.mod_lt _ (by omega), rfl⟩)
  · exact Or.inl rfl
theorem lo_ {β γ : Type} {N : Nat} (hN : N ≤ 6) (h0 : N ≠ 0) {kd wd : Nat → Nat} {kind winds kind9 winds9 : Nat → Int32} (hk : fr_kw N kd wd kind winds) (hk9 : fr_kw N kd wd kind9 winds9) {f0 : FS_} (ok0 : fr_ok N f0) (hd0 : f0.2.1 = 0) {n : Nat} (hn : n ≤ 20) (k8 : Int32 → Int32 → Int32 → (Nat → Int32) → (Nat → Int32) → (Nat → Int32) → (Nat → Int32) → (Nat → Int32) → Int32 → (Nat → Int32) → Option β) (k9 : Int32 → Int32 → (Nat → Int32) → (Nat → Int32) → (Nat → Int32) → Option γ) : ∀ (m j fuel x : Nat) (cs : Nat → Nat) (D : Nat) (food due backs : Int32) (home st br bk ba lc : Nat → Int32) (bm : Int32) (now ba9 ml : Nat → Int32), j + m = n → m < fuel → x < 2147483648 → D + m ≤ 40 → fr_cur N kd wd f0 cs D food due home st br bk lc now ml → ∃ (cs' : Nat → Nat) (food' due' backs' : Int32) (home' st' br' bk' ba' lc' : Nat → Int32) (bm' : Int32) (now' ba9' ml' : Nat → Int32), lp_X8_lots_56 (nI n) (nI N) winds kind k8 fuel (lN x) (nI j) food due backs home st br bk ba (nI D) lc = k8 food' due' backs' home' st' br' bk' ba' (nI (D + m)) lc' ∧ lp_X9_lots_58 (nI n) (nI N) kind9 winds9 k9 fuel (lN x) (nI j) bm (nI D) now ba9 ml = k9 bm' (nI (D + m)) now' ba9' ml' ∧ fr_cur N kd wd f0 cs' (D + m) food' due' home' st' br' bk' lc' now' ml'
  | 0, j, fuel + 1, x, cs, D, food, due, backs, home, st, br, bk, ba, lc, bm, now, ba9, ml, hj, hf, hx, hD, hc => by
    refine ⟨cs, food, due, backs, home, st, br, bk, ba, lc, bm, now, ba9, ml, ?_, ?_, hc⟩
    · rw [lp_X8_lots_56, if_pos (nI_le (by omega) (by omega))]
      rfl
    · rw [lp_X9_lots_58, if_pos (nI_le (by omega) (by omega))]
      rfl
  | m + 1, j, fuel + 1, x, cs, D, food, due, backs, home, st, br, bk, ba, lc, bm, now, ba9, ml, hj, hf, hx, hD, hc => by
    obtain ⟨y, hy⟩ : ∃ y, y = 48271 * x % 2147483647 := ⟨_, rfl⟩
    have hy2 : y < 2147483648 := by omega
    obtain ⟨flD, arD, lg⟩ := id hc
    obtain ⟨okD, dueD⟩ := fr_ch_ok (wd := wd) hN (fun i hi => (hk.1 i hi).1) ok0 hd0 D (fun e he => (lg.2.1 e he).2)
    obtain ⟨f, hff⟩ : ∃ f, f = fr_ch N kd wd f0 cs D := ⟨_, rfl⟩
    rw [← hff] at flD arD okD dueD
    have hi : y / 8 % N < N := Nat.mod_lt _ (by omega)
    have hcv := cl_cv h0 y f
    have hcl := cl_8 hN h0 okD flD hy2
    obtain ⟨b1, b2, b3, b4, b5, b6, b7, b8, e, r⟩ := fl_act hN hk okD (by omega) hcv flD backs ba lc (show D < 40 by omega)
    obtain ⟨w', m1, m2, m3⟩ := rm_ (show D < 40 by omega) now ml
    have H9 : ∃ bm' now' ba9', lp_X9_lots_58 (nI n) (nI N) kind9 winds9 k9 (fuel + 1) (lN x) (nI j) bm (nI D) now ba9 ml = lp_X9_lots_58 (nI n) (nI N) kind9 winds9 k9 fuel (lN y) (nI (j + 1)) bm' (nI (D + 1)) now' ba9' w' ∧ fr_ar N (fr_deed N kd wd (cl_ N y f) f) now' := by
      obtain ⟨k', a', p1, p2, -⟩ := ar_winter hN hk9 (fr_bd_of okD (by omega)) arD bm ba9
      have t9 := ar_th hi hN (fr_ar_b arD okD _ hi).2 (fr_ar_b arD okD _ hi).1
      have a1 : now 1 = nI f.1 := arD.2.1
      have f40 := okD.1
      have hst : lp_X9_lots_58 (nI n) (nI N) kind9 winds9 k9 (fuel + 1) (lN x) (nI j) bm (nI D) now ba9 ml = if (lg_cmp (lN y - lN y / (3 : Int64) * (3 : Int64)) (0 : Int64) = (0 : Int32)) then (if (if f.2.2.2.2.2 (y / 8 % N) = 10 then nI 0 else nI 1) = 0 then lp_X9_lots_58 (nI n) (nI N) kind9 winds9 k9 fuel (lN y) (nI (j + 1)) (nI (w_fly N kd wd f).2.2.2.length) (nI (D + 1)) a' k' w' else (if nI f.1 ≤ 0 then lp_X9_lots_58 (nI n) (nI N) kind9 winds9 k9 fuel (lN y) (nI (j + 1)) (nI (w_fly N kd wd f).2.2.2.length) (nI (D + 1)) a' k' w' else (f_X9_fed (nI (y / 8 % N)) now).bind (fun v6 => lp_X9_lots_58 (nI n) (nI N) kind9 winds9 k9 fuel (lN y) (nI (j + 1)) bm (nI (D + 1)) v6 ba9 w'))) else lp_X9_lots_58 (nI n) (nI N) kind9 winds9 k9 fuel (lN y) (nI (j + 1)) (nI (w_fly N kd wd f).2.2.2.length) (nI (D + 1)) a' k' w' := by
        rw [lp_X9_lots_58, if_neg (nI_ge (by omega) (by omega)), lt_z h0 hN, nx_chk, m1, nx_b2, nx_let, p1, nx_b3, nx_let, lt_rm hx, ← hy, lt_ix hy2 h0 hN, t9, Option.bind_some, nI_1, show gg_in (1 : Int32) 26 = true by decide, nx_chk, show (1 : Int32).toNatClampNeg = 1 by decide, a1]
      by_cases q : y % 3 = 0 ∧ f.2.2.2.2.2 (y / 8 % N) ≠ 10 ∧ 0 < f.1
      · obtain ⟨a'', p1', p2'⟩ := ar_fed hN okD arD hi q.2.2
        refine ⟨bm, a'', ba9, ?_, ?_⟩
        · rw [hst, if_pos ((lt_m3 hy2).2 q.1), if_neg q.2.1, if_neg (show ¬ nI 1 = 0 by decide), if_neg (show ¬ nI f.1 ≤ 0 from (nI_ge q.2.2 (by omega) : ¬ nI f.1 ≤ nI 0)), p1', Option.bind_some]
        · have ec : cl_ N y f = 100 + 10 * (y / 8 % N) := by unfold cl_; rw [if_pos q]
          rw [ec, fr_d1 (by omega), if_pos q.2]
          exact p2'
      · refine ⟨nI (w_fly N kd wd f).2.2.2.length, a', k', ?_, ?_⟩
        · rw [hst]
          by_cases q1 : y % 3 = 0
          · rw [if_pos ((lt_m3 hy2).2 q1)]
            by_cases q2 : f.2.2.2.2.2 (y / 8 % N) = 10
            · rw [if_pos q2, if_pos (show nI 0 = 0 from rfl)]
            · rw [if_neg q2, if_neg (show ¬ nI 1 = 0 by decide), if_pos (show nI f.1 ≤ 0 from (nI_le (by
                have : ¬ 0 < f.1 := fun z => q ⟨q1, q2, z⟩
                omega) (by omega) : nI f.1 ≤ nI 0))]
          · rw [if_neg (fun z => q1 ((lt_m3 hy2).1 z))]
        · have ec : cl_ N y f = 0 := by unfold cl_; rw [if_neg q]
          rw [ec]
          exact p2
    obtain ⟨bm', now', ba9', s9, ar'⟩ := H9
    subst hff
    have hcur := fr_next hc (show D < 40 by omega) hcv r ar' hN m2 m3
    obtain ⟨cs', c1, c2, c3, c4, c5, c6, c7, c8, c9, c10, c11, c12, c13, g1, g2, g3⟩ := lo_ hN h0 hk hk9 ok0 hd0 hn k8 k9 m (j + 1) fuel y (gg_up cs D (cl_ N y (fr_ch N kd wd f0 cs D))) (D + 1) b1 b2 b3 b4 b5 b6 b7 b8 (upd lc D (nI (cl_ N y (fr_ch N kd wd f0 cs D)))) bm' now' ba9' w' (by omega) (by omega) hy2 (by omega) hcur
    rw [show D + 1 + m = D + (m + 1) by omega] at g1 g2 g3
    refine ⟨cs', c1, c2, c3, c4, c5, c6, c7, c8, c9, c10, c11, c12, c13, ?_, s9.trans g2, g3⟩
    rw [lp_X8_lots_56, if_neg (nI_ge (by omega) (by omega)), lt_rm hx, ← hy, hcl, Option.bind_some, e, nx_b10, nI_1]
    exact g1
theorem pu_rng2 (x : Int32) : (f_X9_in x 1 2147483646 = some (nI 0) ∧ f_X8_within x 1 2147483646 = some (nI 0)) ∨ ∃ j, j < 2147483648 ∧ x = nI j ∧ f_X9_in x 1 2147483646 = some (nI 1) ∧ f_X8_within x 1 2147483646 = some (nI 1) := by
  by_cases h1 : x < 1
  · exact Or.inl ⟨pu_inO (Or.inl h1), pu_wiO (Or.inl h1)⟩
  · by_cases h2 : 2147483646 < x
    · exact Or.inl ⟨pu_inO (Or.inr h2), pu_wiO (Or.inr h2)⟩
    · right
      have e0 : (0 : Int32).toInt = 0 := by decide
      have e1 : (1 : Int32).toInt = 1 := by decide
      have n0 : ¬ x < 0 := by
        rw [Int32.lt_iff_toInt_lt] at h1 ⊢
        omega
      obtain ⟨j, hj, e⟩ := nI_of2 (M := 2147483646) (n := 2147483646) (by decide) n0 (i_nlt h2)
      exact ⟨j, by omega, e, pu_inI h1 h2, pu_wiI h1 h2⟩
theorem sm_lots : sim_lots Rl_ := by
  intro s t h a0 a1
  obtain ⟨hfd, ht, hu, hrw, htx, N, kd, wd, f0, cs, D, hfr⟩ := id h
  obtain ⟨hN, ok0, hd0, hN0, e6, e10, eT2, kw1, kw2, kwt, fl0, flD, arD, e18, eT8, lg, kp⟩ := id hfr
  have hD := lg.1
  obtain ⟨F, hF, hF2⟩ : ∃ F, F = gg_fuel ∧ 50000 ≤ F := ⟨_, rfl, pu_F⟩
  have hsa : Rl_ (nH_lots s (s.1 11) (s.1 12) (s.1 13) (s.2.2.1 12) (s.2.2.1 13) (s.2.2.1 14) (s.2.2.1 15) (s.2.2.1 16) (nI D) (s.2.2.1 24)) (nR_lots t (t.1 7) (nI D) (t.2.2.1 8) (t.2.2.1 12) (t.2.2.1 13)) := ⟨hfd, ht, hu, hrw, htx, ⟨N, kd, wd, f0, cs, D, hN, ok0, hd0, hN0, e6, e10, eT2, kw1, kw2, kwt, fl0, flD, arD, rfl, rfl, lg, kp⟩⟩
  unfold f_X8_lots f_X9_lots
  rw [e10, eT2, e18, eT8, ← hF]
  rcases pu_rng1 a0 20 20 (by omega) rfl with ⟨q1, q2⟩ | ⟨n, hn1, hn, rfl, q1, q2⟩
  · rw [q1, q2]
    refine ⟨-1, s.1 11, s.1 12, s.1 13, s.2.2.1 12, s.2.2.1 13, s.2.2.1 14, s.2.2.1 15, s.2.2.1 16, nI D, s.2.2.1 24, -1, t.1 7, nI D, t.2.2.1 8, t.2.2.1 12, t.2.2.1 13, ?_, ?_, rfl, hsa⟩ <;> rfl
  · rcases pu_rng2 a1 with ⟨p1, p2⟩ | ⟨x, hx, rfl, p1, p2⟩
    · rw [q1, q2, p1, p2]
      refine ⟨-1, s.1 11, s.1 12, s.1 13, s.2.2.1 12, s.2.2.1 13, s.2.2.1 14, s.2.2.1 15, s.2.2.1 16, nI D, s.2.2.1 24, -1, t.1 7, nI D, t.2.2.1 8, t.2.2.1 12, t.2.2.1 13, ?_, ?_, rfl, hsa⟩ <;> rfl
    · rw [q1, q2, p1, p2, Option.bind_some, nx_let, if_neg (show ¬ nI 1 = 0 by decide), Option.bind_some, if_neg (show ¬ nI 1 = 0 by decide), Option.bind_some, nx_let, nx_let, if_neg (show ¬ nI 1 = 0 by decide), Option.bind_some, if_neg (show ¬ nI 1 = 0 by decide)]
      by_cases q0 : N = 0
      · subst q0
        refine ⟨-4, s.1 11, s.1 12, s.1 13, s.2.2.1 12, s.2.2.1 13, s.2.2.1 14, s.2.2.1 15, s.2.2.1 16, nI D, s.2.2.1 24, -4, t.1 7, nI D, t.2.2.1 8, t.2.2.1 12, t.2.2.1 13, ?_, ?_, rfl, hsa⟩ <;> rfl
      · have z0 : ¬ nI N = 0 := fun z => q0 ((nI_eq (b := 0) (by omega) (by omega)).1 z)
        dsimp only
        rw [if_neg z0, fl_lacks hD hn, Option.bind_some, nd_9 q0 hN, Option.bind_some, if_pos (show (0 : Int32) ≤ 0 by decide), nI_add]
        by_cases qD : D + n ≤ 40
        · obtain ⟨cs', c1, c2, c3, c4, c5, c6, c7, c8, c9, c10, c11, c12, c13, g1, g2, g3⟩ := lo_ hN q0 kw2 kwt ok0 hd0 hn (fun (c_now_food_87 : Int32) (c_now_due_87 : Int32) (c_now_backs_87 : Int32) (c_now_home_87 : Nat → Int32) (c_now_strength_87 : Nat → Int32) (c_now_brown_87 : Nat → Int32) (c_now_brick_87 : Nat → Int32) (c_now_back_87 : Nat → Int32) (c_log_size_87 : Int32) (c_log_codes_87 : Nat → Int32) => (f_X2_howManyThere (nI N) c_now_brick_87).bind (fun v6 => (some (v6, c_now_food_87, c_now_due_87, c_now_backs_87, c_now_home_87, c_now_strength_87, c_now_brown_87, c_now_brick_87, c_now_back_87, c_log_size_87, c_log_codes_87)))) (fun (c_backMany_150 : Int32) (c_deedMany_150 : Int32) (c_now_150 : Nat → Int32) (c_back_150 : Nat → Int32) (c_log_150 : Nat → Int32) => (f_X9_there_a26 (nI N) c_now_150).bind (fun v7 => (f_X9_bits v7).bind (fun v8 => (some (v8, c_backMany_150, c_deedMany_150, c_now_150, c_back_150, c_log_150))))) n 0 F x cs D (s.1 11) (s.1 12) (s.1 13) (s.2.2.1 12) (s.2.2.1 13) (s.2.2.1 14) (s.2.2.1 15) (s.2.2.1 16) (s.2.2.1 24) (t.1 7) (t.2.2.1 8) (t.2.2.1 12) (t.2.2.1 13) (by omega) (by omega) hx qD ⟨flD, arD, lg⟩
          obtain ⟨okE, -⟩ := fr_ch_ok (wd := wd) hN (fun i hi => (kw1.1 i hi).1) ok0 hd0 (D + n) (fun e he => (g3.2.2.2.1 e he).2)
          have hm := fl_many hN (fr_fl_b g3.1 okE)
          have ht9 := ar_there hN (fr_ar_b g3.2.1 okE)
          have hbb := ar_bits (w_set_64 hN (fr_ch N kd wd f0 cs' (D + n)).2.2.2.2.2)
          obtain ⟨V, hV⟩ : ∃ V, V = w_set N (fr_ch N kd wd f0 cs' (D + n)).2.2.2.2.2 := ⟨_, rfl⟩
          rw [← hV] at hm ht9 hbb
          rw [if_pos qD, if_pos (show nI 0 = 0 from rfl), if_pos (show nI (D + n) ≤ 40 from (nI_le qD (by omega) : nI (D + n) ≤ nI 40)), nI_l (by omega)]
          refine ⟨nI (m_pc V), c1, c2, c3, c4, c5, c6, c7, c8, nI (D + n), c9, nI (m_pc V), c10, nI (D + n), c11, c12, c13, ?_, ?_, rfl, ⟨hfd, ht, hu, hrw, htx, ?_⟩⟩
          · refine Eq.trans g1 ?_
            rw [hm]
            rfl
          · refine Eq.trans g2 ?_
            rw [ht9, Option.bind_some, hbb]
            rfl
          · exact rl_cur (D' := D + n) (cs' := cs') hfr ⟨⟨rfl, rfl, rfl, rfl, rfl⟩, ⟨rfl, rfl, rfl, rfl, rfl, rfl, rfl, rfl, rfl⟩, rfl, ⟨rfl, rfl, rfl, rfl, rfl, rfl⟩⟩ (fun z => absurd z q0) rfl rfl g3
        · rw [if_neg qD, if_neg (show ¬ nI 1 = 0 by decide), if_neg (show ¬ nI (D + n) ≤ 40 from (nI_ge (by omega) (by omega) : ¬ nI (D + n) ≤ nI 40))]
          exact ⟨-2, s.1 11, s.1 12, s.1 13, s.2.2.1 12, s.2.2.1 13, s.2.2.1 14, s.2.2.1 15, s.2.2.1 16, nI D, s.2.2.1 24, -2, t.1 7, nI D, t.2.2.1 8, t.2.2.1 12, t.2.2.1 13, rfl, rfl, rfl, hsa⟩
