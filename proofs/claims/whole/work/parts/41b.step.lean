def fr_cur (N : Nat) (kd wd : Nat → Nat) (f0 : FS_) (cs : Nat → Nat) (D : Nat) (food due : Int32) (home strength brown brick lc now ml : Nat → Int32) : Prop := fr_fl N (fr_ch N kd wd f0 cs D) food due home strength brown brick ∧ fr_ar N (fr_ch N kd wd f0 cs D) now ∧ fr_lg N kd wd f0 cs D lc ml
def fr_ss (s t s' t' : ll_S) : Prop := (s'.1 6 = s.1 6 ∧ s'.1 7 = s.1 7 ∧ s'.1 8 = s.1 8 ∧ s'.1 10 = s.1 10 ∧ t'.1 2 = t.1 2) ∧ (s'.2.2.1 3 = s.2.2.1 3 ∧ s'.2.2.1 4 = s.2.2.1 4 ∧ s'.2.2.1 5 = s.2.2.1 5 ∧ s'.2.2.1 6 = s.2.2.1 6 ∧ s'.2.2.1 7 = s.2.2.1 7 ∧ s'.2.2.1 8 = s.2.2.1 8 ∧ s'.2.2.1 10 = s.2.2.1 10 ∧ s'.2.2.1 11 = s.2.2.1 11 ∧ s'.2.2.1 25 = s.2.2.1 25) ∧ s'.2.2.2 2 = s.2.2.2 2 ∧ (t'.2.2.1 6 = t.2.2.1 6 ∧ t'.2.2.1 7 = t.2.2.1 7 ∧ t'.2.2.1 14 = t.2.2.1 14 ∧ t'.2.2.1 15 = t.2.2.1 15 ∧ t'.2.2.1 16 = t.2.2.1 16 ∧ t'.2.2.1 17 = t.2.2.1 17)
theorem rl_cur {N : Nat} {kd wd : Nat → Nat} {f0 : FS_} {cs cs' : Nat → Nat} {D D' : Nat} {s t s' t' : ll_S} (h : fr_all N kd wd f0 cs D s t) (hss : fr_ss s t s' t') (hN0 : N = 0 → D' = 0) (hd : s'.1 18 = nI D') (hd2 : t'.1 8 = nI D') (hc : fr_cur N kd wd f0 cs' D' (s'.1 11) (s'.1 12) (s'.2.2.1 12) (s'.2.2.1 13) (s'.2.2.1 14) (s'.2.2.1 15) (s'.2.2.1 24) (t'.2.2.1 8) (t'.2.2.1 13)) : rl_fr s' t' := by
  obtain ⟨hN, ok0, hd0, -, e6, e10, eT2, kw1, kw2, kwt, fl0, -, -, -, -, -, kp⟩ := h
  obtain ⟨⟨a1, a2, a3, a4, a5⟩, ⟨b1, b2, b3, b4, b5, b6, b7, b8, b9⟩, c1, ⟨d1, d2, d3, d4, d5, d6⟩⟩ := hss
  refine ⟨N, kd, wd, f0, cs', D', hN, ok0, hd0, hN0, ?_, ?_, ?_, ?_, ?_, ?_, ?_, hc.1, hc.2.1, hd, hd2, hc.2.2, ?_⟩
  · rw [a1]; exact e6
  · rw [a4]; exact e10
  · rw [a5]; exact eT2
  · rw [b1, b2]; exact kw1
  · rw [b7, b8]; exact kw2
  · rw [d1, d2]; exact kwt
  · rw [a2, a3, b3, b4, b5, b6]; exact fl0
  · rw [b9, c1, d3, d4, d5, d6]; exact kp
theorem fr_next {N : Nat} {kd wd : Nat → Nat} {f0 : FS_} {cs : Nat → Nat} {D : Nat} {food due : Int32} {home strength brown brick lc now ml : Nat → Int32} (h : fr_cur N kd wd f0 cs D food due home strength brown brick lc now ml) (hD : D < 40) {c : Nat} (hc : fr_cv N c) {food' due' : Int32} {home' strength' brown' brick' now' ml' : Nat → Int32} (FL : fr_fl N (fr_deed N kd wd c (fr_ch N kd wd f0 cs D)) food' due' home' strength' brown' brick') (AR : fr_ar N (fr_deed N kd wd c (fr_ch N kd wd f0 cs D)) now') (hN : N ≤ 6) (hm1 : ∀ x, x < 26 * D → ml' x = ml x) (hm2 : ∀ k, k < 26 → ml' (26 * D + k) = now k) : fr_cur N kd wd f0 (gg_up cs D c) (D + 1) food' due' home' strength' brown' brick' (upd lc D (nI c)) now' ml' := by
  obtain ⟨-, h2, h3, h4, h5⟩ := h
  have ec : ∀ d, d ≤ D → fr_ch N kd wd f0 (gg_up cs D c) d = fr_ch N kd wd f0 cs d := fun d hd => fr_ch_c (fun e he => by rw [nx_upn, if_neg (by omega)])
  have eD : fr_ch N kd wd f0 (gg_up cs D c) (D + 1) = fr_deed N kd wd c (fr_ch N kd wd f0 cs D) := by
    rw [fr_ch, ec D (by omega), nx_upn, if_pos rfl]
  refine ⟨by rw [eD]; exact FL, by rw [eD]; exact AR, by omega, ?_, ?_⟩
  · intro d hd
    by_cases q : d = D
    · subst q
      rw [pk_us, nx_upn, if_pos rfl]
      exact ⟨rfl, hc⟩
    · rw [pk_un q, nx_upn, if_neg q]
      exact h4 d (by omega)
  · intro d hd
    rw [ec d (by omega)]
    by_cases q : d = D
    · subst q
      exact fr_ar_c hN h2 hm2
    · exact fr_ar_c hN (h5 d (by omega)) (fun k hk => hm1 (26 * d + k) (by omega))
theorem fl_lacks {D n : Nat} (hD : D ≤ 40) (hn : n ≤ 20) : f_X4_lacks (nI n) (nI D) = some (if D + n ≤ 40 then nI 0 else nI 1) := by
  unfold f_X4_lacks
  by_cases q : D + n ≤ 40
  · simp (disch := omega) only [nx_chk, nx_let, nx_b2, nx_b3, nx_b4, nx_b5, nx_b7, nx_b8, Option.bind_some, nx_l0, nx_l1, nx_l2, nx_l3, nx_l4, nx_l5, nx_l6, nx_l7, nx_l8, nx_l9, nx_l10, nx_l11, nx_l12, nx_l14, nx_l20, nx_l26, nx_l40, nx_l60, nx_l100, nx_l1000, nI_add, nx_sub, nx_m1, nx_in, nx_cl, nx_le, nx_ltI, nx_eq, nx_isb0, nx_isb1, nx_n9, nx_n9', nx_b9, nx_b9', nx_m1', Nat.reduceEqDiff, Nat.reduceLeDiff, Nat.reduceLT, Nat.reduceAdd, Nat.reduceSub, Nat.reduceMul, Nat.reduceDiv, Nat.reduceMod, Bool.false_eq_true, reduceIte, ite_true, ite_false, if_true, if_false, q]
  · simp (disch := omega) only [nx_chk, nx_let, nx_b2, nx_b3, nx_b4, nx_b5, nx_b7, nx_b8, Option.bind_some, nx_l0, nx_l1, nx_l2, nx_l3, nx_l4, nx_l5, nx_l6, nx_l7, nx_l8, nx_l9, nx_l10, nx_l11, nx_l12, nx_l14, nx_l20, nx_l26, nx_l40, nx_l60, nx_l100, nx_l1000, nI_add, nx_sub, nx_m1, nx_in, nx_cl, nx_le, nx_ltI, nx_eq, nx_isb0, nx_isb1, nx_n9, nx_n9', nx_b9, nx_b9', nx_m1', Nat.reduceEqDiff, Nat.reduceLeDiff, Nat.reduceLT, Nat.reduceAdd, Nat.reduceSub, Nat.reduceMul, Nat.reduceDiv, Nat.reduceMod, Bool.false_eq_true, reduceIte, ite_true, ite_false, if_true, if_false, q]
theorem fl_act {N : Nat} (hN : N ≤ 6) {kd wd : Nat → Nat} {kind winds : Nat → Int32} (hk : fr_kw N kd wd kind winds) {f : FS_} (ok : fr_ok N f) (hd : f.2.1 < 99) {c : Nat} (hc : fr_cv N c) {food due : Int32} {home strength brown brick : Nat → Int32} (hf : fr_fl N f food due home strength brown brick) (backs : Int32) (back lc : Nat → Int32) {D : Nat} (hD : D < 40) :
    ∃ food' due' backs' home' strength' brown' brick' back', f_X8_act (nI c) (nI N) food due backs winds kind home strength brown brick back (nI D) lc = some (food', due', backs', home', strength', brown', brick', back', nI (D + 1), upd lc D (nI c)) ∧ fr_fl N (fr_deed N kd wd c f) food' due' home' strength' brown' brick' := by
  obtain ⟨a1, a2, a3, a4, a5, a6, a7, a8, e, r⟩ := fl_doTo hN hk ok hd hc hf backs back
  refine ⟨a1, a2, a3, a4, a5, a6, a7, a8, ?_, r⟩
  unfold f_X8_act f_X4_add
  rw [e]
  simp (disch := omega) only [nx_chk, nx_let, nx_b2, nx_b3, nx_b4, nx_b5, nx_b7, nx_b8, Option.bind_some, nx_l0, nx_l1, nx_l2, nx_l3, nx_l4, nx_l5, nx_l6, nx_l7, nx_l8, nx_l9, nx_l10, nx_l11, nx_l12, nx_l14, nx_l20, nx_l26, nx_l40, nx_l60, nx_l100, nx_l1000, nI_add, nx_sub, nx_m1, nx_in, nx_cl, nx_le, nx_ltI, nx_eq, nx_isb0, nx_isb1, nx_n9, nx_n9', nx_b9, nx_b9', nx_m1', Nat.reduceEqDiff, Nat.reduceLeDiff, Nat.reduceLT, Nat.reduceAdd, Nat.reduceSub, Nat.reduceMul, Nat.reduceDiv, Nat.reduceMod, Bool.false_eq_true, reduceIte, ite_true, ite_false, if_true, if_false, show ¬ D < 0 by omega, show ¬ 40 ≤ D by omega]
theorem ar_fed {N : Nat} (hN : N ≤ 6) {f : FS_} (ok : fr_ok N f) {a : Nat → Int32} (ha : fr_ar N f a) {i : Nat} (hi : i < N) (h0 : 0 < f.1) : ∃ a', f_X9_fed (nI i) a = some a' ∧ fr_ar N (w_feed i f) a' := by
  have a1 : a 1 = nI f.1 := ha.2.1
  have a8 : a (8 + i) = nI (f.2.2.2.1 i) := (ha.2.2 i hi).2.1
  have hs := (ok.2.1 i hi).2.1
  have hf4 := ok.1
  have n1 : ¬ (8 + i = 1) := by omega
  refine ⟨upd (upd (upd a 1 (nI (f.1 - 1))) (8 + i) (nI (f.2.2.2.1 i + 2))) (8 + i) (nI (min (f.2.2.2.1 i + 2) 9)), ?_, ?_⟩
  · unfold f_X9_fed
    by_cases q : f.2.2.2.1 i + 2 ≤ 9
    · rw [Nat.min_eq_left q]
      simp (disch := omega) only [nx_chk, nx_let, nx_b2, nx_b3, nx_b4, nx_b5, nx_b7, nx_b8, Option.bind_some, nx_l0, nx_l1, nx_l2, nx_l3, nx_l4, nx_l5, nx_l6, nx_l7, nx_l8, nx_l9, nx_l10, nx_l11, nx_l12, nx_l14, nx_l20, nx_l26, nx_l40, nx_l60, nx_l100, nx_l1000, nI_add, nx_sub, nx_m1, nx_in, nx_cl, nx_le, nx_ltI, nx_eq, nx_isb0, nx_isb1, nx_n9, nx_n9', nx_b9, nx_b9', nx_m1', Nat.reduceEqDiff, Nat.reduceLeDiff, Nat.reduceLT, Nat.reduceAdd, Nat.reduceSub, Nat.reduceMul, Nat.reduceDiv, Nat.reduceMod, Bool.false_eq_true, reduceIte, ite_true, ite_false, if_true, if_false, a1, a8, nx_upd, n1, q]
    · rw [Nat.min_eq_right (show 9 ≤ f.2.2.2.1 i + 2 by omega)]
      simp (disch := omega) only [nx_chk, nx_let, nx_b2, nx_b3, nx_b4, nx_b5, nx_b7, nx_b8, Option.bind_some, nx_l0, nx_l1, nx_l2, nx_l3, nx_l4, nx_l5, nx_l6, nx_l7, nx_l8, nx_l9, nx_l10, nx_l11, nx_l12, nx_l14, nx_l20, nx_l26, nx_l40, nx_l60, nx_l100, nx_l1000, nI_add, nx_sub, nx_m1, nx_in, nx_cl, nx_le, nx_ltI, nx_eq, nx_isb0, nx_isb1, nx_n9, nx_n9', nx_b9, nx_b9', nx_m1', Nat.reduceEqDiff, Nat.reduceLeDiff, Nat.reduceLT, Nat.reduceAdd, Nat.reduceSub, Nat.reduceMul, Nat.reduceDiv, Nat.reduceMod, Bool.false_eq_true, reduceIte, ite_true, ite_false, if_true, if_false, a1, a8, nx_upd, n1, q]
  · have ha' : fr_ar N (f.1, f.2.1, f.2.2.1, f.2.2.2.1, f.2.2.2.2.1, f.2.2.2.2.2) a := ha
    have h1 := ar_fd (fd' := f.1 - 1) ha' rfl
    have h2 := ar_st (st' := gg_up f.2.2.2.1 i (f.2.2.2.1 i + 2)) hN h1 hi (v := nI (f.2.2.2.1 i + 2)) (by rw [nx_upn, if_pos rfl]) (fun j hj => by rw [nx_upn, if_neg hj])
    exact ar_st (st' := gg_up f.2.2.2.1 i (min (f.2.2.2.1 i + 2) 9)) hN h2 hi (by rw [nx_upn, if_pos rfl]) (fun j hj => by rw [nx_upn, if_neg hj, nx_upn, if_neg hj])
theorem sm_winter : sim_winter Rl_ := by
  intro s t h
  obtain ⟨hfd, ht, hu, hrw, htx, N, kd, wd, f0, cs, D, hfr⟩ := id h
  obtain ⟨hN, ok0, hd0, hN0, e6, e10, eT2, kw1, kw2, kwt, fl0, flD, arD, e18, eT8, lg, kp⟩ := id hfr
  obtain ⟨okD, dueD⟩ := fr_ch_ok (wd := wd) hN (fun i hi => (kw1.1 i hi).1) ok0 hd0 D (fun e he => (lg.2.1 e he).2)
  have hD := lg.1
  have hsa : Rl_ (nH_winter s (s.1 11) (s.1 12) (s.1 13) (s.2.2.1 12) (s.2.2.1 13) (s.2.2.1 14) (s.2.2.1 15) (s.2.2.1 16) (nI D) (s.2.2.1 24)) (nR_winter t (t.1 7) (nI D) (t.2.2.1 8) (t.2.2.1 12) (t.2.2.1 13)) := ⟨hfd, ht, hu, hrw, htx, ⟨N, kd, wd, f0, cs, D, hN, ok0, hd0, hN0, e6, e10, eT2, kw1, kw2, kwt, fl0, flD, arD, rfl, rfl, lg, kp⟩⟩
  unfold f_X8_winter f_X9_winter
  rw [e10, eT2, e18, eT8]
  by_cases q0 : N = 0
  · subst q0
    exact ⟨-4, s.1 11, s.1 12, s.1 13, s.2.2.1 12, s.2.2.1 13, s.2.2.1 14, s.2.2.1 15, s.2.2.1 16, nI D, s.2.2.1 24, -4, t.1 7, nI D, t.2.2.1 8, t.2.2.1 12, t.2.2.1 13, rfl, rfl, rfl, hsa⟩
  · have z0 : ¬ nI N = 0 := fun z => q0 ((nI_eq (b := 0) (by omega) (by omega)).1 z)
    rw [if_neg z0, if_neg z0, show (1 : Int32) = nI 1 from rfl, fl_lacks hD (by omega)]
    by_cases qD : D = 40
    · subst qD
      exact ⟨-2, s.1 11, s.1 12, s.1 13, s.2.2.1 12, s.2.2.1 13, s.2.2.1 14, s.2.2.1 15, s.2.2.1 16, nI 40, s.2.2.1 24, -2, t.1 7, nI 40, t.2.2.1 8, t.2.2.1 12, t.2.2.1 13, rfl, rfl, rfl, hsa⟩
    · have zD : ¬ nI D = 40 := fun z => qD ((nI_eq (b := 40) (by omega) (by omega)).1 z)
      have hc : fr_cv N 0 := Or.inl rfl
      obtain ⟨b1, b2, b3, b4, b5, b6, b7, b8, e, r⟩ := fl_act hN kw2 okD (by omega) hc flD (s.1 13) (s.2.2.1 16) (s.2.2.1 24) (show D < 40 by omega)
      obtain ⟨w', m1, m2, m3⟩ := rm_ (show D < 40 by omega) (t.2.2.1 8) (t.2.2.1 13)
      obtain ⟨k', a', p1, p2, p3⟩ := ar_winter hN kwt (fr_bd_of okD (by omega)) arD (t.1 7) (t.2.2.1 12)
      obtain ⟨okE, -⟩ := fr_deed_ok (wd := wd) hN (fun i hi => (kw1.1 i hi).1) hc okD
      have hm := fl_many hN (fr_fl_b r okE)
      have ht9 := ar_there hN (fr_ar_b (a := a') (f := fr_deed N kd wd 0 (fr_ch N kd wd f0 cs D)) p2 okE)
      have hcur := fr_next (c := 0) ⟨flD, arD, lg⟩ (by omega) hc r p2 hN m2 m3
      rw [if_pos (show D + 1 ≤ 40 by omega), if_neg zD, m1, p1]
      refine ⟨nI (m_pc (w_set N (fr_deed N kd wd 0 (fr_ch N kd wd f0 cs D)).2.2.2.2.2)), b1, b2, b3, b4, b5, b6, b7, b8, nI (D + 1), upd (s.2.2.1 24) D (nI 0), nI (m_pc (w_set N (fr_deed N kd wd 0 (fr_ch N kd wd f0 cs D)).2.2.2.2.2)), nI (w_fly N kd wd (fr_ch N kd wd f0 cs D)).2.2.2.length, nI (D + 1), a', k', w', ?_, ?_, rfl, ⟨hfd, ht, hu, hrw, htx, ?_⟩⟩
      · rw [Option.bind_some, if_pos (show nI 0 = 0 from rfl)]
        show (some ((0 : Int32) * 100 + 0 * 10 + 0)).bind _ = _
        rw [Option.bind_some, show (0 : Int32) * 100 + 0 * 10 + 0 = nI 0 from by decide, e, nx_b10, hm]
        rfl
      · rw [nx_b2, nx_b3, ht9, Option.bind_some, ar_bits (w_set_64 hN _)]
        rfl
      · exact rl_cur (D' := D + 1) (cs' := gg_up cs D 0) hfr ⟨⟨rfl, rfl, rfl, rfl, rfl⟩, ⟨rfl, rfl, rfl, rfl, rfl, rfl, rfl, rfl, rfl⟩, rfl, ⟨rfl, rfl, rfl, rfl, rfl, rfl⟩⟩ (fun z => absurd z q0) rfl rfl hcur
