theorem fr_d1 {N : Nat} {kd wd : Nat → Nat} {i : Nat} {f : FS_} (hi : i < 6) : fr_deed N kd wd (100 + 10 * i) f = (if f.2.2.2.2.2 i ≠ 10 ∧ 0 < f.1 then w_feed i f else f) := by
  unfold fr_deed
  rw [show (100 + 10 * i) / 100 = 1 by omega, show (100 + 10 * i) / 10 % 10 = i by omega, if_neg (show ¬ 1 = 0 by omega), if_pos rfl]
theorem fr_d2 {N : Nat} {kd wd : Nat → Nat} {i j : Nat} {f : FS_} (hi : i < 6) (hj : j < 6) : fr_deed N kd wd (200 + 10 * i + j) f = w_sell i j f := by
  unfold fr_deed
  rw [show (200 + 10 * i + j) / 100 = 2 by omega, show (200 + 10 * i + j) / 10 % 10 = i by omega, show (200 + 10 * i + j) % 10 = j by omega, if_neg (show ¬ 2 = 0 by omega), if_neg (show ¬ 2 = 1 by omega), if_pos rfl]
theorem fr_d3 {N : Nat} {kd wd : Nat → Nat} {i : Nat} {f : FS_} (hi : i < 6) : fr_deed N kd wd (300 + 10 * i) f = w_lose i f := by
  unfold fr_deed
  rw [show (300 + 10 * i) / 100 = 3 by omega, show (300 + 10 * i) / 10 % 10 = i by omega, if_neg (show ¬ 3 = 0 by omega), if_neg (show ¬ 3 = 1 by omega), if_neg (show ¬ 3 = 2 by omega)]
theorem fl_code {d i j e : Nat} (he : e = d * 100 + i * 10 + j) : f_X4_code (nI d) (nI i) (nI j) = some (nI e) := by
  unfold f_X4_code
  rw [nx_l100, nx_l10, pk_mul, pk_mul, nI_add, nI_add, he]
theorem sm_feed : sim_feed Rl_ := by
  intro s t h a0
  obtain ⟨hfd, ht, hu, hrw, htx, N, kd, wd, f0, cs, D, hfr⟩ := id h
  obtain ⟨hN, ok0, hd0, hN0, e6, e10, eT2, kw1, kw2, kwt, fl0, flD, arD, e18, eT8, lg, kp⟩ := id hfr
  obtain ⟨okD, dueD⟩ := fr_ch_ok (wd := wd) hN (fun i hi => (kw1.1 i hi).1) ok0 hd0 D (fun e he => (lg.2.1 e he).2)
  have hD := lg.1
  have hsa : Rl_ (nH_feed s (s.1 11) (s.1 12) (s.1 13) (s.2.2.1 12) (s.2.2.1 13) (s.2.2.1 14) (s.2.2.1 15) (s.2.2.1 16) (nI D) (s.2.2.1 24)) (nR_feed t (nI D) (t.2.2.1 8) (t.2.2.1 13)) := ⟨hfd, ht, hu, hrw, htx, ⟨N, kd, wd, f0, cs, D, hN, ok0, hd0, hN0, e6, e10, eT2, kw1, kw2, kwt, fl0, flD, arD, rfl, rfl, lg, kp⟩⟩
  unfold f_X8_feed f_X9_feed
  rw [e10, eT2, e18, eT8]
  rcases pu_ix a0 N (by omega) with q | ⟨i, hi, rfl⟩
  · rw [fl_knO q, ar_hutO hN q]
    refine ⟨-1, s.1 11, s.1 12, s.1 13, s.2.2.1 12, s.2.2.1 13, s.2.2.1 14, s.2.2.1 15, s.2.2.1 16, nI D, s.2.2.1 24, -1, nI D, t.2.2.1 8, t.2.2.1 13, ?_, ?_, rfl, hsa⟩ <;> rfl
  · have hth8 := fl_th hi hN (fr_fl_b flD okD i hi).2 (fr_fl_b flD okD i hi).1
    have hth9 := ar_th hi hN (fr_ar_b arD okD i hi).2 (fr_ar_b arD okD i hi).1
    rw [fl_kn hi hN, ar_hut hi hN, hth8, hth9]
    have a1 : t.2.2.1 8 1 = nI (fr_ch N kd wd f0 cs D).1 := arD.2.1
    have f1 : s.1 11 = nI (fr_ch N kd wd f0 cs D).1 := flD.1
    have f4 := okD.1
    by_cases qt : (fr_ch N kd wd f0 cs D).2.2.2.2.2 i = 10
    · refine ⟨-4, s.1 11, s.1 12, s.1 13, s.2.2.1 12, s.2.2.1 13, s.2.2.1 14, s.2.2.1 15, s.2.2.1 16, nI D, s.2.2.1 24, -4, nI D, t.2.2.1 8, t.2.2.1 13, ?_, ?_, rfl, hsa⟩
      · simp (disch := omega) only [nx_chk, nx_let, nx_b2, nx_b3, nx_b4, nx_b5, nx_b7, nx_b8, Option.bind_some, nx_l0, nx_l1, nx_l2, nx_l3, nx_l4, nx_l5, nx_l6, nx_l7, nx_l8, nx_l9, nx_l10, nx_l11, nx_l12, nx_l14, nx_l20, nx_l26, nx_l40, nx_l60, nx_l100, nx_l1000, nI_add, nx_sub, nx_m1, nx_in, nx_cl, nx_le, nx_ltI, nx_eq, nx_isb0, nx_isb1, nx_n9, nx_n9', nx_b9, nx_b9', nx_m1', Nat.reduceEqDiff, Nat.reduceLeDiff, Nat.reduceLT, Nat.reduceAdd, Nat.reduceSub, Nat.reduceMul, Nat.reduceDiv, Nat.reduceMod, Bool.false_eq_true, reduceIte, ite_true, ite_false, if_true, if_false, qt]
      · simp (disch := omega) only [nx_chk, nx_let, nx_b2, nx_b3, nx_b4, nx_b5, nx_b7, nx_b8, Option.bind_some, nx_l0, nx_l1, nx_l2, nx_l3, nx_l4, nx_l5, nx_l6, nx_l7, nx_l8, nx_l9, nx_l10, nx_l11, nx_l12, nx_l14, nx_l20, nx_l26, nx_l40, nx_l60, nx_l100, nx_l1000, nI_add, nx_sub, nx_m1, nx_in, nx_cl, nx_le, nx_ltI, nx_eq, nx_isb0, nx_isb1, nx_n9, nx_n9', nx_b9, nx_b9', nx_m1', Nat.reduceEqDiff, Nat.reduceLeDiff, Nat.reduceLT, Nat.reduceAdd, Nat.reduceSub, Nat.reduceMul, Nat.reduceDiv, Nat.reduceMod, Bool.false_eq_true, reduceIte, ite_true, ite_false, if_true, if_false, qt]
    · by_cases qf : (fr_ch N kd wd f0 cs D).1 = 0
      · refine ⟨-6, s.1 11, s.1 12, s.1 13, s.2.2.1 12, s.2.2.1 13, s.2.2.1 14, s.2.2.1 15, s.2.2.1 16, nI D, s.2.2.1 24, -6, nI D, t.2.2.1 8, t.2.2.1 13, ?_, ?_, rfl, hsa⟩
        · simp (disch := omega) only [nx_chk, nx_let, nx_b2, nx_b3, nx_b4, nx_b5, nx_b7, nx_b8, Option.bind_some, nx_l0, nx_l1, nx_l2, nx_l3, nx_l4, nx_l5, nx_l6, nx_l7, nx_l8, nx_l9, nx_l10, nx_l11, nx_l12, nx_l14, nx_l20, nx_l26, nx_l40, nx_l60, nx_l100, nx_l1000, nI_add, nx_sub, nx_m1, nx_in, nx_cl, nx_le, nx_ltI, nx_eq, nx_isb0, nx_isb1, nx_n9, nx_n9', nx_b9, nx_b9', nx_m1', Nat.reduceEqDiff, Nat.reduceLeDiff, Nat.reduceLT, Nat.reduceAdd, Nat.reduceSub, Nat.reduceMul, Nat.reduceDiv, Nat.reduceMod, Bool.false_eq_true, reduceIte, ite_true, ite_false, if_true, if_false, qt, f1, qf]
        · simp (disch := omega) only [nx_chk, nx_let, nx_b2, nx_b3, nx_b4, nx_b5, nx_b7, nx_b8, Option.bind_some, nx_l0, nx_l1, nx_l2, nx_l3, nx_l4, nx_l5, nx_l6, nx_l7, nx_l8, nx_l9, nx_l10, nx_l11, nx_l12, nx_l14, nx_l20, nx_l26, nx_l40, nx_l60, nx_l100, nx_l1000, nI_add, nx_sub, nx_m1, nx_in, nx_cl, nx_le, nx_ltI, nx_eq, nx_isb0, nx_isb1, nx_n9, nx_n9', nx_b9, nx_b9', nx_m1', Nat.reduceEqDiff, Nat.reduceLeDiff, Nat.reduceLT, Nat.reduceAdd, Nat.reduceSub, Nat.reduceMul, Nat.reduceDiv, Nat.reduceMod, Bool.false_eq_true, reduceIte, ite_true, ite_false, if_true, if_false, qt, a1, qf]
      · by_cases qD : D = 40
        · subst qD
          refine ⟨-2, s.1 11, s.1 12, s.1 13, s.2.2.1 12, s.2.2.1 13, s.2.2.1 14, s.2.2.1 15, s.2.2.1 16, nI 40, s.2.2.1 24, -2, nI 40, t.2.2.1 8, t.2.2.1 13, ?_, ?_, rfl, hsa⟩
          · have hl := fl_lacks (D := 40) (n := 1) (by omega) (by omega)
            simp (disch := omega) only [nx_chk, nx_let, nx_b2, nx_b3, nx_b4, nx_b5, nx_b7, nx_b8, Option.bind_some, nx_l0, nx_l1, nx_l2, nx_l3, nx_l4, nx_l5, nx_l6, nx_l7, nx_l8, nx_l9, nx_l10, nx_l11, nx_l12, nx_l14, nx_l20, nx_l26, nx_l40, nx_l60, nx_l100, nx_l1000, nI_add, nx_sub, nx_m1, nx_in, nx_cl, nx_le, nx_ltI, nx_eq, nx_isb0, nx_isb1, nx_n9, nx_n9', nx_b9, nx_b9', nx_m1', Nat.reduceEqDiff, Nat.reduceLeDiff, Nat.reduceLT, Nat.reduceAdd, Nat.reduceSub, Nat.reduceMul, Nat.reduceDiv, Nat.reduceMod, Bool.false_eq_true, reduceIte, ite_true, ite_false, if_true, if_false, qt, f1, show 0 < (fr_ch N kd wd f0 cs 40).1 by omega, hl]
          · simp (disch := omega) only [nx_chk, nx_let, nx_b2, nx_b3, nx_b4, nx_b5, nx_b7, nx_b8, Option.bind_some, nx_l0, nx_l1, nx_l2, nx_l3, nx_l4, nx_l5, nx_l6, nx_l7, nx_l8, nx_l9, nx_l10, nx_l11, nx_l12, nx_l14, nx_l20, nx_l26, nx_l40, nx_l60, nx_l100, nx_l1000, nI_add, nx_sub, nx_m1, nx_in, nx_cl, nx_le, nx_ltI, nx_eq, nx_isb0, nx_isb1, nx_n9, nx_n9', nx_b9, nx_b9', nx_m1', Nat.reduceEqDiff, Nat.reduceLeDiff, Nat.reduceLT, Nat.reduceAdd, Nat.reduceSub, Nat.reduceMul, Nat.reduceDiv, Nat.reduceMod, Bool.false_eq_true, reduceIte, ite_true, ite_false, if_true, if_false, qt, a1, qf]
        · have hc : fr_cv N (100 + 10 * i) := Or.inr (Or.inl ⟨i, hi, rfl⟩)
          have ed : fr_deed N kd wd (100 + 10 * i) (fr_ch N kd wd f0 cs D) = w_feed i (fr_ch N kd wd f0 cs D) := by
            rw [fr_d1 (by omega), if_pos ⟨qt, by omega⟩]
          obtain ⟨b1, b2, b3, b4, b5, b6, b7, b8, e, r⟩ := fl_act hN kw2 okD (by omega) hc flD (s.1 13) (s.2.2.1 16) (s.2.2.1 24) (show D < 40 by omega)
          obtain ⟨w', m1, m2, m3⟩ := rm_ (show D < 40 by omega) (t.2.2.1 8) (t.2.2.1 13)
          obtain ⟨a', p1, p2⟩ := ar_fed hN okD arD hi (by omega)
          rw [← ed] at p2
          have hcur := fr_next ⟨flD, arD, lg⟩ (by omega) hc r p2 hN m2 m3
          have v1 := (r.2.2 i hi).2.1
          have v2 := (p2.2.2 i hi).2.1
          have hl := fl_lacks (D := D) (n := 1) (by omega) (by omega)
          have hcd := fl_code (d := 1) (i := i) (j := 0) (e := 100 + 10 * i) (by omega)
          refine ⟨b5 i, b1, b2, b3, b4, b5, b6, b7, b8, nI (D + 1), upd (s.2.2.1 24) D (nI (100 + 10 * i)), a' (8 + i), nI (D + 1), a', w', ?_, ?_, v1.trans v2.symm, ⟨hfd, ht, hu, hrw, htx, ?_⟩⟩
          · simp (disch := omega) only [nx_chk, nx_let, nx_b2, nx_b3, nx_b4, nx_b5, nx_b7, nx_b8, Option.bind_some, nx_l0, nx_l1, nx_l2, nx_l3, nx_l4, nx_l5, nx_l6, nx_l7, nx_l8, nx_l9, nx_l10, nx_l11, nx_l12, nx_l14, nx_l20, nx_l26, nx_l40, nx_l60, nx_l100, nx_l1000, nI_add, nx_sub, nx_m1, nx_in, nx_cl, nx_le, nx_ltI, nx_eq, nx_isb0, nx_isb1, nx_n9, nx_n9', nx_b9, nx_b9', nx_m1', Nat.reduceEqDiff, Nat.reduceLeDiff, Nat.reduceLT, Nat.reduceAdd, Nat.reduceSub, Nat.reduceMul, Nat.reduceDiv, Nat.reduceMod, Bool.false_eq_true, reduceIte, ite_true, ite_false, if_true, if_false, qt, f1, show 0 < (fr_ch N kd wd f0 cs D).1 by omega, hl, show D + 1 ≤ 40 by omega, hcd]
            rw [← f1, e]
            simp (disch := omega) only [nx_chk, nx_let, nx_b2, nx_b3, nx_b4, nx_b5, nx_b7, nx_b8, Option.bind_some, nx_l0, nx_l1, nx_l2, nx_l3, nx_l4, nx_l5, nx_l6, nx_l7, nx_l8, nx_l9, nx_l10, nx_l11, nx_l12, nx_l14, nx_l20, nx_l26, nx_l40, nx_l60, nx_l100, nx_l1000, nI_add, nx_sub, nx_m1, nx_in, nx_cl, nx_le, nx_ltI, nx_eq, nx_isb0, nx_isb1, nx_n9, nx_n9', nx_b9, nx_b9', nx_m1', Nat.reduceEqDiff, Nat.reduceLeDiff, Nat.reduceLT, Nat.reduceAdd, Nat.reduceSub, Nat.reduceMul, Nat.reduceDiv, Nat.reduceMod, Bool.false_eq_true, reduceIte, ite_true, ite_false, if_true, if_false, nx_b10]
          · simp (disch := omega) only [nx_chk, nx_let, nx_b2, nx_b3, nx_b4, nx_b5, nx_b7, nx_b8, Option.bind_some, nx_l0, nx_l1, nx_l2, nx_l3, nx_l4, nx_l5, nx_l6, nx_l7, nx_l8, nx_l9, nx_l10, nx_l11, nx_l12, nx_l14, nx_l20, nx_l26, nx_l40, nx_l60, nx_l100, nx_l1000, nI_add, nx_sub, nx_m1, nx_in, nx_cl, nx_le, nx_ltI, nx_eq, nx_isb0, nx_isb1, nx_n9, nx_n9', nx_b9, nx_b9', nx_m1', Nat.reduceEqDiff, Nat.reduceLeDiff, Nat.reduceLT, Nat.reduceAdd, Nat.reduceSub, Nat.reduceMul, Nat.reduceDiv, Nat.reduceMod, Bool.false_eq_true, reduceIte, ite_true, ite_false, if_true, if_false, qt, a1, qf, qD, m1, p1]
          · exact rl_cur (D' := D + 1) (cs' := gg_up cs D (100 + 10 * i)) hfr ⟨⟨rfl, rfl, rfl, rfl, rfl⟩, ⟨rfl, rfl, rfl, rfl, rfl, rfl, rfl, rfl, rfl⟩, rfl, ⟨rfl, rfl, rfl, rfl, rfl, rfl⟩⟩ (fun z => by omega) rfl rfl hcur
theorem sm_storm : sim_storm Rl_ := by
  intro s t h a0
  obtain ⟨hfd, ht, hu, hrw, htx, N, kd, wd, f0, cs, D, hfr⟩ := id h
  obtain ⟨hN, ok0, hd0, hN0, e6, e10, eT2, kw1, kw2, kwt, fl0, flD, arD, e18, eT8, lg, kp⟩ := id hfr
  obtain ⟨okD, dueD⟩ := fr_ch_ok (wd := wd) hN (fun i hi => (kw1.1 i hi).1) ok0 hd0 D (fun e he => (lg.2.1 e he).2)
  have hD := lg.1
  have hsa : Rl_ (nH_storm s (s.1 11) (s.1 12) (s.1 13) (s.2.2.1 12) (s.2.2.1 13) (s.2.2.1 14) (s.2.2.1 15) (s.2.2.1 16) (nI D) (s.2.2.1 24)) (nR_storm t (nI D) (t.2.2.1 8) (t.2.2.1 13)) := ⟨hfd, ht, hu, hrw, htx, ⟨N, kd, wd, f0, cs, D, hN, ok0, hd0, hN0, e6, e10, eT2, kw1, kw2, kwt, fl0, flD, arD, rfl, rfl, lg, kp⟩⟩
  unfold f_X8_storm f_X9_storm
  rw [e10, eT2, e18, eT8]
  rcases pu_ix a0 N (by omega) with q | ⟨i, hi, rfl⟩
  · rw [fl_knO q, ar_hutO hN q]
    refine ⟨-1, s.1 11, s.1 12, s.1 13, s.2.2.1 12, s.2.2.1 13, s.2.2.1 14, s.2.2.1 15, s.2.2.1 16, nI D, s.2.2.1 24, -1, nI D, t.2.2.1 8, t.2.2.1 13, ?_, ?_, rfl, hsa⟩ <;> rfl
  · have hth8 := fl_th hi hN (fr_fl_b flD okD i hi).2 (fr_fl_b flD okD i hi).1
    have hth9 := ar_th hi hN (fr_ar_b arD okD i hi).2 (fr_ar_b arD okD i hi).1
    rw [fl_kn hi hN, ar_hut hi hN, hth8, hth9]
    by_cases qt : (fr_ch N kd wd f0 cs D).2.2.2.2.2 i = 10
    · refine ⟨-4, s.1 11, s.1 12, s.1 13, s.2.2.1 12, s.2.2.1 13, s.2.2.1 14, s.2.2.1 15, s.2.2.1 16, nI D, s.2.2.1 24, -4, nI D, t.2.2.1 8, t.2.2.1 13, ?_, ?_, rfl, hsa⟩
      · simp (disch := omega) only [nx_chk, nx_let, nx_b2, nx_b3, nx_b4, nx_b5, nx_b7, nx_b8, Option.bind_some, nx_l0, nx_l1, nx_l2, nx_l3, nx_l4, nx_l5, nx_l6, nx_l7, nx_l8, nx_l9, nx_l10, nx_l11, nx_l12, nx_l14, nx_l20, nx_l26, nx_l40, nx_l60, nx_l100, nx_l1000, nI_add, nx_sub, nx_m1, nx_in, nx_cl, nx_le, nx_ltI, nx_eq, nx_isb0, nx_isb1, nx_n9, nx_n9', nx_b9, nx_b9', nx_m1', Nat.reduceEqDiff, Nat.reduceLeDiff, Nat.reduceLT, Nat.reduceAdd, Nat.reduceSub, Nat.reduceMul, Nat.reduceDiv, Nat.reduceMod, Bool.false_eq_true, reduceIte, ite_true, ite_false, if_true, if_false, qt]
      · simp (disch := omega) only [nx_chk, nx_let, nx_b2, nx_b3, nx_b4, nx_b5, nx_b7, nx_b8, Option.bind_some, nx_l0, nx_l1, nx_l2, nx_l3, nx_l4, nx_l5, nx_l6, nx_l7, nx_l8, nx_l9, nx_l10, nx_l11, nx_l12, nx_l14, nx_l20, nx_l26, nx_l40, nx_l60, nx_l100, nx_l1000, nI_add, nx_sub, nx_m1, nx_in, nx_cl, nx_le, nx_ltI, nx_eq, nx_isb0, nx_isb1, nx_n9, nx_n9', nx_b9, nx_b9', nx_m1', Nat.reduceEqDiff, Nat.reduceLeDiff, Nat.reduceLT, Nat.reduceAdd, Nat.reduceSub, Nat.reduceMul, Nat.reduceDiv, Nat.reduceMod, Bool.false_eq_true, reduceIte, ite_true, ite_false, if_true, if_false, qt]
    · by_cases qD : D = 40
      · subst qD
        refine ⟨-2, s.1 11, s.1 12, s.1 13, s.2.2.1 12, s.2.2.1 13, s.2.2.1 14, s.2.2.1 15, s.2.2.1 16, nI 40, s.2.2.1 24, -2, nI 40, t.2.2.1 8, t.2.2.1 13, ?_, ?_, rfl, hsa⟩
        · have hl := fl_lacks (D := 40) (n := 1) (by omega) (by omega)
          simp (disch := omega) only [nx_chk, nx_let, nx_b2, nx_b3, nx_b4, nx_b5, nx_b7, nx_b8, Option.bind_some, nx_l0, nx_l1, nx_l2, nx_l3, nx_l4, nx_l5, nx_l6, nx_l7, nx_l8, nx_l9, nx_l10, nx_l11, nx_l12, nx_l14, nx_l20, nx_l26, nx_l40, nx_l60, nx_l100, nx_l1000, nI_add, nx_sub, nx_m1, nx_in, nx_cl, nx_le, nx_ltI, nx_eq, nx_isb0, nx_isb1, nx_n9, nx_n9', nx_b9, nx_b9', nx_m1', Nat.reduceEqDiff, Nat.reduceLeDiff, Nat.reduceLT, Nat.reduceAdd, Nat.reduceSub, Nat.reduceMul, Nat.reduceDiv, Nat.reduceMod, Bool.false_eq_true, reduceIte, ite_true, ite_false, if_true, if_false, qt, hl]
        · simp (disch := omega) only [nx_chk, nx_let, nx_b2, nx_b3, nx_b4, nx_b5, nx_b7, nx_b8, Option.bind_some, nx_l0, nx_l1, nx_l2, nx_l3, nx_l4, nx_l5, nx_l6, nx_l7, nx_l8, nx_l9, nx_l10, nx_l11, nx_l12, nx_l14, nx_l20, nx_l26, nx_l40, nx_l60, nx_l100, nx_l1000, nI_add, nx_sub, nx_m1, nx_in, nx_cl, nx_le, nx_ltI, nx_eq, nx_isb0, nx_isb1, nx_n9, nx_n9', nx_b9, nx_b9', nx_m1', Nat.reduceEqDiff, Nat.reduceLeDiff, Nat.reduceLT, Nat.reduceAdd, Nat.reduceSub, Nat.reduceMul, Nat.reduceDiv, Nat.reduceMod, Bool.false_eq_true, reduceIte, ite_true, ite_false, if_true, if_false, qt]
      · have hc : fr_cv N (300 + 10 * i) := Or.inr (Or.inr (Or.inr ⟨i, hi, rfl⟩))
        have ed : fr_deed N kd wd (300 + 10 * i) (fr_ch N kd wd f0 cs D) = w_lose i (fr_ch N kd wd f0 cs D) := fr_d3 (by omega)
        obtain ⟨b1, b2, b3, b4, b5, b6, b7, b8, e, r⟩ := fl_act hN kw2 okD (by omega) hc flD (s.1 13) (s.2.2.1 16) (s.2.2.1 24) (show D < 40 by omega)
        obtain ⟨w', m1, m2, m3⟩ := rm_ (show D < 40 by omega) (t.2.2.1 8) (t.2.2.1 13)
        obtain ⟨okE, -⟩ := fr_deed_ok (wd := wd) hN (fun i hi => (kw1.1 i hi).1) hc okD
        have p2 : fr_ar N (fr_deed N kd wd (300 + 10 * i) (fr_ch N kd wd f0 cs D)) (upd (t.2.2.1 8) (20 + i) (-9)) := by
          rw [ed]
          exact ar_bk (bk' := gg_up (fr_ch N kd wd f0 cs D).2.2.2.2.2 i 10) hN (show fr_ar N ((fr_ch N kd wd f0 cs D).1, (fr_ch N kd wd f0 cs D).2.1, (fr_ch N kd wd f0 cs D).2.2.1, (fr_ch N kd wd f0 cs D).2.2.2.1, (fr_ch N kd wd f0 cs D).2.2.2.2.1, (fr_ch N kd wd f0 cs D).2.2.2.2.2) (t.2.2.1 8) from arD) hi (by rw [nx_upn, if_pos rfl]; rfl) (fun j hj => by rw [nx_upn, if_neg hj])
        have hcur := fr_next ⟨flD, arD, lg⟩ (by omega) hc r p2 hN m2 m3
        have hm := fl_many hN (fr_fl_b r okE)
        have ht9 := ar_there hN (fr_ar_b p2 okE)
        have hl := fl_lacks (D := D) (n := 1) (by omega) (by omega)
        have hcd := fl_code (d := 3) (i := i) (j := 0) (e := 300 + 10 * i) (by omega)
        have hbb := ar_bits (w_set_64 hN (fr_deed N kd wd (300 + 10 * i) (fr_ch N kd wd f0 cs D)).2.2.2.2.2)
        obtain ⟨V, hV⟩ : ∃ V, V = w_set N (fr_deed N kd wd (300 + 10 * i) (fr_ch N kd wd f0 cs D)).2.2.2.2.2 := ⟨_, rfl⟩
        rw [← hV] at hm ht9 hbb
        rw [show (20 : Int32) + nI i = nI (20 + i) from nI_add 20 i]
        refine ⟨nI (m_pc V), b1, b2, b3, b4, b5, b6, b7, b8, nI (D + 1), upd (s.2.2.1 24) D (nI (300 + 10 * i)), nI (m_pc V), nI (D + 1), upd (t.2.2.1 8) (20 + i) (-9), w', ?_, ?_, rfl, ⟨hfd, ht, hu, hrw, htx, ?_⟩⟩
        · simp (disch := omega) only [nx_chk, nx_let, nx_b2, nx_b3, nx_b4, nx_b5, nx_b7, nx_b8, Option.bind_some, nx_l0, nx_l1, nx_l2, nx_l3, nx_l4, nx_l5, nx_l6, nx_l7, nx_l8, nx_l9, nx_l10, nx_l11, nx_l12, nx_l14, nx_l20, nx_l26, nx_l40, nx_l60, nx_l100, nx_l1000, nI_add, nx_sub, nx_m1, nx_in, nx_cl, nx_le, nx_ltI, nx_eq, nx_isb0, nx_isb1, nx_n9, nx_n9', nx_b9, nx_b9', nx_m1', Nat.reduceEqDiff, Nat.reduceLeDiff, Nat.reduceLT, Nat.reduceAdd, Nat.reduceSub, Nat.reduceMul, Nat.reduceDiv, Nat.reduceMod, Bool.false_eq_true, reduceIte, ite_true, ite_false, if_true, if_false, qt, hl, show D + 1 ≤ 40 by omega, hcd, e, nx_b10, hm]
        · rw [nx_in (show 20 + i < 26 by omega) (by omega), nx_cl (by omega), ht9]
          simp (disch := omega) only [nx_chk, nx_let, nx_b2, nx_b3, nx_b4, nx_b5, nx_b7, nx_b8, Option.bind_some, nx_l0, nx_l1, nx_l2, nx_l3, nx_l4, nx_l5, nx_l6, nx_l7, nx_l8, nx_l9, nx_l10, nx_l11, nx_l12, nx_l14, nx_l20, nx_l26, nx_l40, nx_l60, nx_l100, nx_l1000, nI_add, nx_sub, nx_m1, nx_in, nx_cl, nx_le, nx_ltI, nx_eq, nx_isb0, nx_isb1, nx_n9, nx_n9', nx_b9, nx_b9', nx_m1', Nat.reduceEqDiff, Nat.reduceLeDiff, Nat.reduceLT, Nat.reduceAdd, Nat.reduceSub, Nat.reduceMul, Nat.reduceDiv, Nat.reduceMod, Bool.false_eq_true, reduceIte, ite_true, ite_false, if_true, if_false, qt, qD, m1, hbb]
        · exact rl_cur (D' := D + 1) (cs' := gg_up cs D (300 + 10 * i)) hfr ⟨⟨rfl, rfl, rfl, rfl, rfl⟩, ⟨rfl, rfl, rfl, rfl, rfl, rfl, rfl, rfl, rfl⟩, rfl, ⟨rfl, rfl, rfl, rfl, rfl, rfl⟩⟩ (fun z => by omega) rfl rfl hcur
theorem sm_sell : sim_sell Rl_ := by
  intro s t h a0 a1
  obtain ⟨hfd, ht, hu, hrw, htx, N, kd, wd, f0, cs, D, hfr⟩ := id h
  obtain ⟨hN, ok0, hd0, hN0, e6, e10, eT2, kw1, kw2, kwt, fl0, flD, arD, e18, eT8, lg, kp⟩ := id hfr
  obtain ⟨okD, dueD⟩ := fr_ch_ok (wd := wd) hN (fun i hi => (kw1.1 i hi).1) ok0 hd0 D (fun e he => (lg.2.1 e he).2)
  have hD := lg.1
  have hsa : Rl_ (nH_sell s (s.1 11) (s.1 12) (s.1 13) (s.2.2.1 12) (s.2.2.1 13) (s.2.2.1 14) (s.2.2.1 15) (s.2.2.1 16) (nI D) (s.2.2.1 24)) (nR_sell t (nI D) (t.2.2.1 8) (t.2.2.1 13)) := ⟨hfd, ht, hu, hrw, htx, ⟨N, kd, wd, f0, cs, D, hN, ok0, hd0, hN0, e6, e10, eT2, kw1, kw2, kwt, fl0, flD, arD, rfl, rfl, lg, kp⟩⟩
  unfold f_X8_sell f_X9_sell
  rw [e10, eT2, e18, eT8]
  rcases pu_ix a0 N (by omega) with q | ⟨i, hi, rfl⟩
  · rw [fl_knO q, ar_hutO hN q]
    refine ⟨-1, s.1 11, s.1 12, s.1 13, s.2.2.1 12, s.2.2.1 13, s.2.2.1 14, s.2.2.1 15, s.2.2.1 16, nI D, s.2.2.1 24, -1, nI D, t.2.2.1 8, t.2.2.1 13, ?_, ?_, rfl, hsa⟩ <;> rfl
  · rw [fl_kn hi hN, ar_hut hi hN]
    rcases pu_ix a1 N (by omega) with q | ⟨j, hj, rfl⟩
    · rw [fl_knO q, ar_hutO hN q]
      refine ⟨-1, s.1 11, s.1 12, s.1 13, s.2.2.1 12, s.2.2.1 13, s.2.2.1 14, s.2.2.1 15, s.2.2.1 16, nI D, s.2.2.1 24, -1, nI D, t.2.2.1 8, t.2.2.1 13, ?_, ?_, rfl, hsa⟩ <;> rfl
    · rw [fl_kn hj hN, ar_hut hj hN]
      by_cases qe : i = j
      · subst qe
        refine ⟨-1, s.1 11, s.1 12, s.1 13, s.2.2.1 12, s.2.2.1 13, s.2.2.1 14, s.2.2.1 15, s.2.2.1 16, nI D, s.2.2.1 24, -1, nI D, t.2.2.1 8, t.2.2.1 13, ?_, ?_, rfl, hsa⟩
        · simp (disch := omega) only [nx_chk, nx_let, nx_b2, nx_b3, nx_b4, nx_b5, nx_b7, nx_b8, Option.bind_some, nx_l0, nx_l1, nx_l2, nx_l3, nx_l4, nx_l5, nx_l6, nx_l7, nx_l8, nx_l9, nx_l10, nx_l11, nx_l12, nx_l14, nx_l20, nx_l26, nx_l40, nx_l60, nx_l100, nx_l1000, nI_add, nx_sub, nx_m1, nx_in, nx_cl, nx_le, nx_ltI, nx_eq, nx_isb0, nx_isb1, nx_n9, nx_n9', nx_b9, nx_b9', nx_m1', Nat.reduceEqDiff, Nat.reduceLeDiff, Nat.reduceLT, Nat.reduceAdd, Nat.reduceSub, Nat.reduceMul, Nat.reduceDiv, Nat.reduceMod, Bool.false_eq_true, reduceIte, ite_true, ite_false, if_true, if_false]
        · simp (disch := omega) only [nx_chk, nx_let, nx_b2, nx_b3, nx_b4, nx_b5, nx_b7, nx_b8, Option.bind_some, nx_l0, nx_l1, nx_l2, nx_l3, nx_l4, nx_l5, nx_l6, nx_l7, nx_l8, nx_l9, nx_l10, nx_l11, nx_l12, nx_l14, nx_l20, nx_l26, nx_l40, nx_l60, nx_l100, nx_l1000, nI_add, nx_sub, nx_m1, nx_in, nx_cl, nx_le, nx_ltI, nx_eq, nx_isb0, nx_isb1, nx_n9, nx_n9', nx_b9, nx_b9', nx_m1', Nat.reduceEqDiff, Nat.reduceLeDiff, Nat.reduceLT, Nat.reduceAdd, Nat.reduceSub, Nat.reduceMul, Nat.reduceDiv, Nat.reduceMod, Bool.false_eq_true, reduceIte, ite_true, ite_false, if_true, if_false]
      · have hth8 := fl_th hi hN (fr_fl_b flD okD i hi).2 (fr_fl_b flD okD i hi).1
        have hth9 := ar_th hi hN (fr_ar_b arD okD i hi).2 (fr_ar_b arD okD i hi).1
        have htj8 := fl_th hj hN (fr_fl_b flD okD j hj).2 (fr_fl_b flD okD j hj).1
        have htj9 := ar_th hj hN (fr_ar_b arD okD j hj).2 (fr_ar_b arD okD j hj).1
        rw [hth8, hth9, htj8, htj9]
        by_cases qt : (fr_ch N kd wd f0 cs D).2.2.2.2.2 i = 10
        · refine ⟨-4, s.1 11, s.1 12, s.1 13, s.2.2.1 12, s.2.2.1 13, s.2.2.1 14, s.2.2.1 15, s.2.2.1 16, nI D, s.2.2.1 24, -4, nI D, t.2.2.1 8, t.2.2.1 13, ?_, ?_, rfl, hsa⟩
          · simp (disch := omega) only [nx_chk, nx_let, nx_b2, nx_b3, nx_b4, nx_b5, nx_b7, nx_b8, Option.bind_some, nx_l0, nx_l1, nx_l2, nx_l3, nx_l4, nx_l5, nx_l6, nx_l7, nx_l8, nx_l9, nx_l10, nx_l11, nx_l12, nx_l14, nx_l20, nx_l26, nx_l40, nx_l60, nx_l100, nx_l1000, nI_add, nx_sub, nx_m1, nx_in, nx_cl, nx_le, nx_ltI, nx_eq, nx_isb0, nx_isb1, nx_n9, nx_n9', nx_b9, nx_b9', nx_m1', Nat.reduceEqDiff, Nat.reduceLeDiff, Nat.reduceLT, Nat.reduceAdd, Nat.reduceSub, Nat.reduceMul, Nat.reduceDiv, Nat.reduceMod, Bool.false_eq_true, reduceIte, ite_true, ite_false, if_true, if_false, qe, qt]
          · simp (disch := omega) only [nx_chk, nx_let, nx_b2, nx_b3, nx_b4, nx_b5, nx_b7, nx_b8, Option.bind_some, nx_l0, nx_l1, nx_l2, nx_l3, nx_l4, nx_l5, nx_l6, nx_l7, nx_l8, nx_l9, nx_l10, nx_l11, nx_l12, nx_l14, nx_l20, nx_l26, nx_l40, nx_l60, nx_l100, nx_l1000, nI_add, nx_sub, nx_m1, nx_in, nx_cl, nx_le, nx_ltI, nx_eq, nx_isb0, nx_isb1, nx_n9, nx_n9', nx_b9, nx_b9', nx_m1', Nat.reduceEqDiff, Nat.reduceLeDiff, Nat.reduceLT, Nat.reduceAdd, Nat.reduceSub, Nat.reduceMul, Nat.reduceDiv, Nat.reduceMod, Bool.false_eq_true, reduceIte, ite_true, ite_false, if_true, if_false, qe, qt]
        · by_cases qu : (fr_ch N kd wd f0 cs D).2.2.2.2.2 j = 10
          · refine ⟨-4, s.1 11, s.1 12, s.1 13, s.2.2.1 12, s.2.2.1 13, s.2.2.1 14, s.2.2.1 15, s.2.2.1 16, nI D, s.2.2.1 24, -4, nI D, t.2.2.1 8, t.2.2.1 13, ?_, ?_, rfl, hsa⟩
            · simp (disch := omega) only [nx_chk, nx_let, nx_b2, nx_b3, nx_b4, nx_b5, nx_b7, nx_b8, Option.bind_some, nx_l0, nx_l1, nx_l2, nx_l3, nx_l4, nx_l5, nx_l6, nx_l7, nx_l8, nx_l9, nx_l10, nx_l11, nx_l12, nx_l14, nx_l20, nx_l26, nx_l40, nx_l60, nx_l100, nx_l1000, nI_add, nx_sub, nx_m1, nx_in, nx_cl, nx_le, nx_ltI, nx_eq, nx_isb0, nx_isb1, nx_n9, nx_n9', nx_b9, nx_b9', nx_m1', Nat.reduceEqDiff, Nat.reduceLeDiff, Nat.reduceLT, Nat.reduceAdd, Nat.reduceSub, Nat.reduceMul, Nat.reduceDiv, Nat.reduceMod, Bool.false_eq_true, reduceIte, ite_true, ite_false, if_true, if_false, qe, qt, qu]
            · simp (disch := omega) only [nx_chk, nx_let, nx_b2, nx_b3, nx_b4, nx_b5, nx_b7, nx_b8, Option.bind_some, nx_l0, nx_l1, nx_l2, nx_l3, nx_l4, nx_l5, nx_l6, nx_l7, nx_l8, nx_l9, nx_l10, nx_l11, nx_l12, nx_l14, nx_l20, nx_l26, nx_l40, nx_l60, nx_l100, nx_l1000, nI_add, nx_sub, nx_m1, nx_in, nx_cl, nx_le, nx_ltI, nx_eq, nx_isb0, nx_isb1, nx_n9, nx_n9', nx_b9, nx_b9', nx_m1', Nat.reduceEqDiff, Nat.reduceLeDiff, Nat.reduceLT, Nat.reduceAdd, Nat.reduceSub, Nat.reduceMul, Nat.reduceDiv, Nat.reduceMod, Bool.false_eq_true, reduceIte, ite_true, ite_false, if_true, if_false, qe, qt, qu]
          · by_cases qD : D = 40
            · subst qD
              refine ⟨-2, s.1 11, s.1 12, s.1 13, s.2.2.1 12, s.2.2.1 13, s.2.2.1 14, s.2.2.1 15, s.2.2.1 16, nI 40, s.2.2.1 24, -2, nI 40, t.2.2.1 8, t.2.2.1 13, ?_, ?_, rfl, hsa⟩
              · have hl := fl_lacks (D := 40) (n := 1) (by omega) (by omega)
                simp (disch := omega) only [nx_chk, nx_let, nx_b2, nx_b3, nx_b4, nx_b5, nx_b7, nx_b8, Option.bind_some, nx_l0, nx_l1, nx_l2, nx_l3, nx_l4, nx_l5, nx_l6, nx_l7, nx_l8, nx_l9, nx_l10, nx_l11, nx_l12, nx_l14, nx_l20, nx_l26, nx_l40, nx_l60, nx_l100, nx_l1000, nI_add, nx_sub, nx_m1, nx_in, nx_cl, nx_le, nx_ltI, nx_eq, nx_isb0, nx_isb1, nx_n9, nx_n9', nx_b9, nx_b9', nx_m1', Nat.reduceEqDiff, Nat.reduceLeDiff, Nat.reduceLT, Nat.reduceAdd, Nat.reduceSub, Nat.reduceMul, Nat.reduceDiv, Nat.reduceMod, Bool.false_eq_true, reduceIte, ite_true, ite_false, if_true, if_false, qe, qt, qu, hl]
              · simp (disch := omega) only [nx_chk, nx_let, nx_b2, nx_b3, nx_b4, nx_b5, nx_b7, nx_b8, Option.bind_some, nx_l0, nx_l1, nx_l2, nx_l3, nx_l4, nx_l5, nx_l6, nx_l7, nx_l8, nx_l9, nx_l10, nx_l11, nx_l12, nx_l14, nx_l20, nx_l26, nx_l40, nx_l60, nx_l100, nx_l1000, nI_add, nx_sub, nx_m1, nx_in, nx_cl, nx_le, nx_ltI, nx_eq, nx_isb0, nx_isb1, nx_n9, nx_n9', nx_b9, nx_b9', nx_m1', Nat.reduceEqDiff, Nat.reduceLeDiff, Nat.reduceLT, Nat.reduceAdd, Nat.reduceSub, Nat.reduceMul, Nat.reduceDiv, Nat.reduceMod, Bool.false_eq_true, reduceIte, ite_true, ite_false, if_true, if_false, qe, qt, qu]
            · have hc : fr_cv N (200 + 10 * i + j) := Or.inr (Or.inr (Or.inl ⟨i, j, hi, hj, qe, rfl⟩))
              have ed : fr_deed N kd wd (200 + 10 * i + j) (fr_ch N kd wd f0 cs D) = w_sell i j (fr_ch N kd wd f0 cs D) := fr_d2 (by omega) (by omega)
              obtain ⟨b1, b2, b3, b4, b5, b6, b7, b8, e, r⟩ := fl_act hN kw2 okD (by omega) hc flD (s.1 13) (s.2.2.1 16) (s.2.2.1 24) (show D < 40 by omega)
              obtain ⟨w', m1, m2, m3⟩ := rm_ (show D < 40 by omega) (t.2.2.1 8) (t.2.2.1 13)
              have p2 : fr_ar N (fr_deed N kd wd (200 + 10 * i + j) (fr_ch N kd wd f0 cs D)) (upd (upd (t.2.2.1 8) (2 + i) (t.2.2.1 8 (2 + j))) (2 + j) (t.2.2.1 8 (2 + i))) := by
                rw [ed]
                have h1 := ar_hm (hm' := gg_up (fr_ch N kd wd f0 cs D).2.2.1 i ((fr_ch N kd wd f0 cs D).2.2.1 j)) hN (show fr_ar N ((fr_ch N kd wd f0 cs D).1, (fr_ch N kd wd f0 cs D).2.1, (fr_ch N kd wd f0 cs D).2.2.1, (fr_ch N kd wd f0 cs D).2.2.2.1, (fr_ch N kd wd f0 cs D).2.2.2.2.1, (fr_ch N kd wd f0 cs D).2.2.2.2.2) (t.2.2.1 8) from arD) hi (v := t.2.2.1 8 (2 + j)) (by rw [nx_upn, if_pos rfl]; exact (arD.2.2 j hj).1) (fun j hj => by rw [nx_upn, if_neg hj])
                exact ar_hm (hm' := gg_up (gg_up (fr_ch N kd wd f0 cs D).2.2.1 i ((fr_ch N kd wd f0 cs D).2.2.1 j)) j ((fr_ch N kd wd f0 cs D).2.2.1 i)) hN h1 hj (by rw [nx_upn, if_pos rfl]; exact (arD.2.2 i hi).1) (fun j hj => by rw [nx_upn, if_neg hj])
              have hcur := fr_next ⟨flD, arD, lg⟩ (by omega) hc r p2 hN m2 m3
              have v1 := (r.2.2 i hi).1
              have v2 := (p2.2.2 i hi).1
              have hl := fl_lacks (D := D) (n := 1) (by omega) (by omega)
              have hcd := fl_code (d := 2) (i := i) (j := j) (e := 200 + 10 * i + j) (by omega)
              rw [show (2 : Int32) + nI i = nI (2 + i) from nI_add 2 i, show (2 : Int32) + nI j = nI (2 + j) from nI_add 2 j]
              refine ⟨b4 i, b1, b2, b3, b4, b5, b6, b7, b8, nI (D + 1), upd (s.2.2.1 24) D (nI (200 + 10 * i + j)), _, nI (D + 1), upd (upd (t.2.2.1 8) (2 + i) (t.2.2.1 8 (2 + j))) (2 + j) (t.2.2.1 8 (2 + i)), w', ?_, ?_, v1.trans v2.symm, ⟨hfd, ht, hu, hrw, htx, ?_⟩⟩
              · simp (disch := omega) only [nx_chk, nx_let, nx_b2, nx_b3, nx_b4, nx_b5, nx_b7, nx_b8, Option.bind_some, nx_l0, nx_l1, nx_l2, nx_l3, nx_l4, nx_l5, nx_l6, nx_l7, nx_l8, nx_l9, nx_l10, nx_l11, nx_l12, nx_l14, nx_l20, nx_l26, nx_l40, nx_l60, nx_l100, nx_l1000, nI_add, nx_sub, nx_m1, nx_in, nx_cl, nx_le, nx_ltI, nx_eq, nx_isb0, nx_isb1, nx_n9, nx_n9', nx_b9, nx_b9', nx_m1', Nat.reduceEqDiff, Nat.reduceLeDiff, Nat.reduceLT, Nat.reduceAdd, Nat.reduceSub, Nat.reduceMul, Nat.reduceDiv, Nat.reduceMod, Bool.false_eq_true, reduceIte, ite_true, ite_false, if_true, if_false, qe, qt, qu, hl, show D + 1 ≤ 40 by omega, hcd, e, nx_b10]
              · simp (disch := omega) only [nx_chk, nx_let, nx_b2, nx_b3, nx_b4, nx_b5, nx_b7, nx_b8, Option.bind_some, nx_l0, nx_l1, nx_l2, nx_l3, nx_l4, nx_l5, nx_l6, nx_l7, nx_l8, nx_l9, nx_l10, nx_l11, nx_l12, nx_l14, nx_l20, nx_l26, nx_l40, nx_l60, nx_l100, nx_l1000, nI_add, nx_sub, nx_m1, nx_in, nx_cl, nx_le, nx_ltI, nx_eq, nx_isb0, nx_isb1, nx_n9, nx_n9', nx_b9, nx_b9', nx_m1', Nat.reduceEqDiff, Nat.reduceLeDiff, Nat.reduceLT, Nat.reduceAdd, Nat.reduceSub, Nat.reduceMul, Nat.reduceDiv, Nat.reduceMod, Bool.false_eq_true, reduceIte, ite_true, ite_false, if_true, if_false, qe, qt, qu, qD, m1]
              · exact rl_cur (D' := D + 1) (cs' := gg_up cs D (200 + 10 * i + j)) hfr ⟨⟨rfl, rfl, rfl, rfl, rfl⟩, ⟨rfl, rfl, rfl, rfl, rfl, rfl, rfl, rfl, rfl⟩, rfl, ⟨rfl, rfl, rfl, rfl, rfl, rfl⟩⟩ (fun z => by omega) rfl rfl hcur
