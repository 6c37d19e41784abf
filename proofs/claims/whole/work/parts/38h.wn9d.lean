theorem nx_shb {r : Nat} (h : r ≤ 10) : nI 1 <<< (k_bI r &&& 31) = nI (2 ^ (if r = 10 then 23 else r)) := by
  by_cases q : r = 10
  · subst q
    exact nx_shm9
  · rw [if_neg q, nx_bI q]
    exact nx_sh1n (by omega)
theorem w_free_up {h r b : Nat} {bk : Nat → Nat} (hb : bk h = 10) (hb10 : b < 10) : ∀ {N : Nat}, h < N → w_free N (gg_up bk h r) b = (w_free N bk b && (r != b))
  | 0, hN => by omega
  | n + 1, hN => by
    rw [w_free_s, w_free_s]
    by_cases q : h = n
    · subst q
      rw [w_free_c (f := gg_up bk h r) (g := bk) (fun j hj => by rw [nx_upn, if_neg (by omega)]), nx_upn, if_pos rfl, hb]
      have : (10 != b) = true := by rw [bne_iff_ne]; omega
      rw [this, Bool.and_true]
    · rw [w_free_up hb hb10 (show h < n by omega), nx_upn, if_neg (fun z => q z.symm)]
      cases w_free n bk b <;> cases (r != b) <;> cases (bk n != b) <;> rfl
theorem ar_wanted {N : Nat} (hN : N ≤ 6) {kd wd : Nat → Nat} {kind winds a : Nat → Int32} (hk : fr_kw N kd wd kind winds) {f : FS_} (ha : fr_ar N f a) (hh : ∀ j, j < N → f.2.2.1 j < 10) {i : Nat} (hi : i < N) : f_X9_wanted_a26 (nI i) kind a = some (nI (k_want (kd i) (f.2.2.1 i))) := by
  unfold f_X9_wanted_a26 k_want
  have h1 := hh i hi
  have h2 := (hk.1 i hi).1
  have a2 := (ha.2.2 i hi).1
  by_cases q : kd i = 4
  · by_cases q2 : f.2.2.1 i < 9
    · simp (disch := omega) only [nx_chk, nx_let, nx_b2, nx_b3, nx_b4, nx_b5, nx_b7, nx_b8, Option.bind_some, nx_l0, nx_l1, nx_l2, nx_l3, nx_l4, nx_l5, nx_l6, nx_l7, nx_l8, nx_l9, nx_l10, nx_l11, nx_l12, nx_l14, nx_l20, nx_l26, nx_l40, nx_l60, nx_l100, nx_l1000, nI_add, nx_sub, nx_m1, nx_in, nx_cl, nx_le, nx_ltI, nx_eq, nx_isb0, nx_isb1, nx_n9, nx_n9', nx_b9, nx_b9', nx_m1', Nat.reduceEqDiff, Nat.reduceLeDiff, Nat.reduceLT, Nat.reduceAdd, Nat.reduceSub, Nat.reduceMul, Nat.reduceDiv, Nat.reduceMod, Bool.false_eq_true, reduceIte, ite_true, ite_false, if_true, if_false, (hk.1 i hi).2, q, a2, nx_div, pk_mul, nx_mod, q2]
      rw [show (f.2.2.1 i + 1) % 10 = f.2.2.1 i + 1 by omega]
    · simp (disch := omega) only [nx_chk, nx_let, nx_b2, nx_b3, nx_b4, nx_b5, nx_b7, nx_b8, Option.bind_some, nx_l0, nx_l1, nx_l2, nx_l3, nx_l4, nx_l5, nx_l6, nx_l7, nx_l8, nx_l9, nx_l10, nx_l11, nx_l12, nx_l14, nx_l20, nx_l26, nx_l40, nx_l60, nx_l100, nx_l1000, nI_add, nx_sub, nx_m1, nx_in, nx_cl, nx_le, nx_ltI, nx_eq, nx_isb0, nx_isb1, nx_n9, nx_n9', nx_b9, nx_b9', nx_m1', Nat.reduceEqDiff, Nat.reduceLeDiff, Nat.reduceLT, Nat.reduceAdd, Nat.reduceSub, Nat.reduceMul, Nat.reduceDiv, Nat.reduceMod, Bool.false_eq_true, reduceIte, ite_true, ite_false, if_true, if_false, (hk.1 i hi).2, q, a2, nx_div, pk_mul, nx_mod, q2]
      rw [show (f.2.2.1 i + 1) % 10 = 0 by omega]
  · simp (disch := omega) only [nx_chk, nx_let, nx_b2, nx_b3, nx_b4, nx_b5, nx_b7, nx_b8, Option.bind_some, nx_l0, nx_l1, nx_l2, nx_l3, nx_l4, nx_l5, nx_l6, nx_l7, nx_l8, nx_l9, nx_l10, nx_l11, nx_l12, nx_l14, nx_l20, nx_l26, nx_l40, nx_l60, nx_l100, nx_l1000, nI_add, nx_sub, nx_m1, nx_in, nx_cl, nx_le, nx_ltI, nx_eq, nx_isb0, nx_isb1, nx_n9, nx_n9', nx_b9, nx_b9', nx_m1', Nat.reduceEqDiff, Nat.reduceLeDiff, Nat.reduceLT, Nat.reduceAdd, Nat.reduceSub, Nat.reduceMul, Nat.reduceDiv, Nat.reduceMod, Bool.false_eq_true, reduceIte, ite_true, ite_false, if_true, if_false, (hk.1 i hi).2, q, a2]
theorem w_mask0 {G : Nat} (h : ∀ x, G.testBit x = false) : G = 0 := Nat.eq_of_testBit_eq (fun i => by rw [h i, Nat.zero_testBit])
theorem ar_p2 {β : Type} {N : Nat} (hN : N ≤ 6) {kd wd : Nat → Nat} {kind winds : Nat → Int32} (hk : fr_kw N kd wd kind winds) {fd d : Nat} {hm st : Nat → Nat} (hh : ∀ j, j < N → hm j < 10) (hs : ∀ j, j < N → st j < 1000) {L : List Nat} (hL : L.length ≤ 6) (k : Int32 → (Nat → Int32) → (Nat → Int32) → Option β) :
    ∀ (l pre : List Nat) (fuel T G : Nat) (br bk : Nat → Nat) (back a : Nat → Int32), L = pre ++ l → l.length < fuel → (∀ x, x ∈ l → x < N ∧ bk x = 10) → l.Pairwise (w_bef kd st) → T < 16777216 → (∀ b, b < 10 → T.testBit b = !(w_free N bk b)) → G < 64 → (∀ x, G.testBit x = decide (x ∈ l)) → fr_ar N (fd, d, hm, st, br, bk) a → (∀ j, j < N → br j ≤ 9) → (∀ p, p < pre.length → back p = nI (L.getD p 0)) →
    ∃ back' a', lp_X9_passes_a26_209 (nI N) kind k fuel (nI T) (nI G) (nI pre.length) back a = k (nI L.length) back' a' ∧ fr_ar N (fd, d, hm, st, (w_p2 N kd hm l br bk).1, (w_p2 N kd hm l br bk).2) a' ∧ (∀ p, p < L.length → back' p = nI (L.getD p 0))
  | [], pre, fuel + 1, T, G, br, bk, back, a, hL2, hf, hm1, hp, hT, hT2, hG, hG2, ha, hb9, hB => by
    have e0 : G = 0 := w_mask0 (fun x => by rw [hG2]; simp)
    have hlen : L.length = pre.length := by rw [hL2]; simp
    subst e0
    refine ⟨back, a, ?_, ha, by rw [hlen]; exact hB⟩
    rw [lp_X9_passes_a26_209, hlen]
    simp (disch := omega) only [nx_chk, nx_let, nx_b2, nx_b3, nx_b4, nx_b5, nx_b7, nx_b8, Option.bind_some, nx_l0, nx_l1, nx_l2, nx_l3, nx_l4, nx_l5, nx_l6, nx_l7, nx_l8, nx_l9, nx_l10, nx_l11, nx_l12, nx_l14, nx_l20, nx_l26, nx_l40, nx_l60, nx_l100, nx_l1000, nI_add, nx_sub, nx_m1, nx_in, nx_cl, nx_le, nx_ltI, nx_eq, nx_isb0, nx_isb1, nx_n9, nx_n9', nx_b9, nx_b9', nx_m1', Nat.reduceEqDiff, Nat.reduceLeDiff, Nat.reduceLT, Nat.reduceAdd, Nat.reduceSub, Nat.reduceMul, Nat.reduceDiv, Nat.reduceMod, Bool.false_eq_true, reduceIte, ite_true, ite_false, if_true, if_false]
  | h :: t, pre, fuel + 1, T, G, br, bk, back, a, hL2, hf, hm1, hp, hT, hT2, hG, hG2, ha, hb9, hB => by
    have hlen : L.length = pre.length + (t.length + 1) := by rw [hL2]; simp
    have hget : L.getD pre.length 0 = h := by rw [hL2]; simp
    have hhN : h < N := (hm1 h (List.mem_cons_self ..)).1
    have hbk : bk h = 10 := (hm1 h (List.mem_cons_self ..)).2
    have hG0 : ¬ G = 0 := by
      intro z
      have := hG2 h
      rw [z, Nat.zero_testBit] at this
      simp at this
    rw [List.pairwise_cons] at hp
    have hnt : h ∉ t := fun z => by have := hp.1 h z; unfold w_bef at this; omega
    have hb9h := hb9 h hhN
    have hhh := hh h hhN
    have hwl := k_want_lt (kd h) (hk.1 h hhN).1 (hm h) hhh
    have hscan : w_scan kd st G N 0 none = some h := w_scan2 hp.1 hG2 N 0 none (by omega) (by omega) (fun b hb => by cases hb)
    have hr10 : w_near (w_free N bk) (k_want (kd h) (hm h)) 10 0 ≤ 10 := w_near_le _ hwl 10 0
    have hnear : w_near (fun b => !T.testBit b) (k_want (kd h) (hm h)) 10 0 = w_near (w_free N bk) (k_want (kd h) (hm h)) 10 0 := w_near_c (fun b hb => by rw [hT2 b hb, Bool.not_not]) hwl 10 0
    obtain ⟨F, hF, hF2⟩ : ∃ F, F = gg_fuel ∧ 50000 ≤ F := ⟨_, rfl, pu_F⟩
    obtain ⟨back', a', e, r⟩ := ar_p2 (d := d) (fd := fd) hN hk hh hs hL k t (pre ++ [h]) fuel (T ||| 2 ^ (if w_near (w_free N bk) (k_want (kd h) (hm h)) 10 0 = 10 then 23 else w_near (w_free N bk) (k_want (kd h) (hm h)) 10 0)) (nx_clr G h) (gg_up br h (min (br h + 1) 9)) (gg_up bk h (w_near (w_free N bk) (k_want (kd h) (hm h)) 10 0)) (upd back pre.length (nI h)) (upd (upd a (20 + h) (k_bI (w_near (w_free N bk) (k_want (kd h) (hm h)) 10 0))) (14 + h) (nI (min (br h + 1) 9))) (by rw [hL2]; simp) (by simp at hf; omega) (fun x hx => ⟨(hm1 x (List.mem_cons_of_mem _ hx)).1, by
        rw [nx_upn, if_neg (fun z => hnt (by rw [← z]; exact hx))]
        exact (hm1 x (List.mem_cons_of_mem _ hx)).2⟩) hp.2 (nx_or_lt (n := 24) hT (by split <;> omega)) (fun b hb => by
        rw [nx_orB, hT2 b hb, w_free_up hbk hb hhN]
        by_cases z : w_near (w_free N bk) (k_want (kd h) (hm h)) 10 0 = 10
        · rw [if_pos z, z]
          have h1 : ¬ 23 = b := by omega
          have h2 : (10 != b) = true := by rw [bne_iff_ne]; omega
          simp [h1, h2]
        · rw [if_neg z]
          by_cases z2 : w_near (w_free N bk) (k_want (kd h) (hm h)) 10 0 = b
          · simp [z2]
          · have h2 : (w_near (w_free N bk) (k_want (kd h) (hm h)) 10 0 != b) = true := by rw [bne_iff_ne]; exact z2
            simp [z2, h2]) (nx_clr_lt (n := 6) hG) (fun x => by
        rw [nx_clrB, hG2]
        by_cases z : x = h
        · subst z
          simp [hnt]
        · simp [z]) (ar_br hN (ar_bk hN ha hhN (by rw [nx_upn, if_pos rfl]) (fun j hj => by rw [nx_upn, if_neg hj])) hhN (by rw [nx_upn, if_pos rfl]) (fun j hj => by rw [nx_upn, if_neg hj])) (fun j hj => by
        rw [nx_upn]
        split
        · omega
        · exact hb9 j hj) (fun p hp => by
        rw [nx_upd]
        by_cases z : p = pre.length
        · rw [if_pos z, z, hget]
        · rw [if_neg z]
          exact hB p (by simp at hp; omega))
    refine ⟨back', a', ?_, r⟩
    rw [← e, lp_X9_passes_a26_209, if_neg (by simp (disch := omega) only [nx_chk, nx_let, nx_b2, nx_b3, nx_b4, nx_b5, nx_b7, nx_b8, Option.bind_some, nx_l0, nx_l1, nx_l2, nx_l3, nx_l4, nx_l5, nx_l6, nx_l7, nx_l8, nx_l9, nx_l10, nx_l11, nx_l12, nx_l14, nx_l20, nx_l26, nx_l40, nx_l60, nx_l100, nx_l1000, nI_add, nx_sub, nx_m1, nx_in, nx_cl, nx_le, nx_ltI, nx_eq, nx_isb0, nx_isb1, nx_n9, nx_n9', nx_b9, nx_b9', nx_m1', Nat.reduceEqDiff, Nat.reduceLeDiff, Nat.reduceLT, Nat.reduceAdd, Nat.reduceSub, Nat.reduceMul, Nat.reduceDiv, Nat.reduceMod, Bool.false_eq_true, reduceIte, ite_true, ite_false, if_true, if_false]; exact hG0), ← hF, show (-9 : Int32) = w_oI none from rfl, nx_l0, ar_scan hN hk ha hs hG _ N 0 F none (by omega) (by omega) (fun b hb => by cases hb), hscan, show w_oI (some h) = nI h from rfl, ar_wanted hN hk ha hh hhN, Option.bind_some, ar_landing hwl (by omega), Option.bind_some]
    show _ = _
    rw [hnear]
    have n1 : ¬ 14 + h = 20 + h := by omega
    have a14 : a (14 + h) = nI (br h) := (ha.2.2 h hhN).2.2.1
    have el : (pre ++ [h]).length = pre.length + 1 := by simp
    have em : 9 ≤ br h → br h = min (br h + 1) 9 := fun z => by omega
    have em2 : ¬ 9 ≤ br h → br h + 1 = min (br h + 1) 9 := fun z => by omega
    have e2 : nI G &&& (nI (2 ^ h) ^^^ (-nI 1)) = nI (nx_clr G h) := nx_not (by omega) (by omega)
    by_cases q9 : 9 ≤ br h
    · rw [← em q9, el]
      simp (disch := omega) only [nx_chk, nx_let, nx_b2, nx_b3, nx_b4, nx_b5, nx_b7, nx_b8, Option.bind_some, nx_l0, nx_l1, nx_l2, nx_l3, nx_l4, nx_l5, nx_l6, nx_l7, nx_l8, nx_l9, nx_l10, nx_l11, nx_l12, nx_l14, nx_l20, nx_l26, nx_l40, nx_l60, nx_l100, nx_l1000, nI_add, nx_sub, nx_m1, nx_in, nx_cl, nx_le, nx_ltI, nx_eq, nx_isb0, nx_isb1, nx_n9, nx_n9', nx_b9, nx_b9', nx_m1', Nat.reduceEqDiff, Nat.reduceLeDiff, Nat.reduceLT, Nat.reduceAdd, Nat.reduceSub, Nat.reduceMul, Nat.reduceDiv, Nat.reduceMod, Bool.false_eq_true, reduceIte, ite_true, ite_false, if_true, if_false, nx_upd, n1, a14, q9, nx_shb, nx_or, nx_sh1n, e2, Nat.add_zero]
    · rw [← em2 q9, el]
      simp (disch := omega) only [nx_chk, nx_let, nx_b2, nx_b3, nx_b4, nx_b5, nx_b7, nx_b8, Option.bind_some, nx_l0, nx_l1, nx_l2, nx_l3, nx_l4, nx_l5, nx_l6, nx_l7, nx_l8, nx_l9, nx_l10, nx_l11, nx_l12, nx_l14, nx_l20, nx_l26, nx_l40, nx_l60, nx_l100, nx_l1000, nI_add, nx_sub, nx_m1, nx_in, nx_cl, nx_le, nx_ltI, nx_eq, nx_isb0, nx_isb1, nx_n9, nx_n9', nx_b9, nx_b9', nx_m1', Nat.reduceEqDiff, Nat.reduceLeDiff, Nat.reduceLT, Nat.reduceAdd, Nat.reduceSub, Nat.reduceMul, Nat.reduceDiv, Nat.reduceMod, Bool.false_eq_true, reduceIte, ite_true, ite_false, if_true, if_false, nx_upd, n1, a14, q9, nx_shb, nx_or, nx_sh1n, e2]
theorem ar_wd {N : Nat} {kd wd : Nat → Nat} {kind winds a : Nat → Int32} (hk : fr_kw N kd wd kind winds) {d : Nat} (hd : d < 1000) (ha : a 0 = nI d) : f_X9_windOf_a26 winds a = some (nI (wd (d % 4))) := by
  unfold f_X9_windOf_a26
  have h2 : d / 4 * 4 ≤ d := by omega
  simp (disch := omega) only [nx_chk, nx_let, nx_b2, nx_b3, nx_b4, nx_b5, nx_b7, nx_b8, Option.bind_some, nx_l0, nx_l1, nx_l2, nx_l3, nx_l4, nx_l5, nx_l6, nx_l7, nx_l8, nx_l9, nx_l10, nx_l11, nx_l12, nx_l14, nx_l20, nx_l26, nx_l40, nx_l60, nx_l100, nx_l1000, nI_add, nx_sub, nx_m1, nx_in, nx_cl, nx_le, nx_ltI, nx_eq, nx_isb0, nx_isb1, nx_n9, nx_n9', nx_b9, nx_b9', nx_m1', Nat.reduceEqDiff, Nat.reduceLeDiff, Nat.reduceLT, Nat.reduceAdd, Nat.reduceSub, Nat.reduceMul, Nat.reduceDiv, Nat.reduceMod, Bool.false_eq_true, reduceIte, ite_true, ite_false, if_true, if_false, ha, nx_div, pk_mul, nx_mod, (hk.2 (d % 4) (by omega)).2]
theorem ar_winter {N : Nat} (hN : N ≤ 6) {kd wd : Nat → Nat} {kind winds : Nat → Int32} (hk : fr_kw N kd wd kind winds) {f : FS_} (hb : fr_bd N f) {a : Nat → Int32} (ha : fr_ar N f a) (bm : Int32) (back : Nat → Int32) :
    ∃ back' a', f_X9_passes_a26 (nI N) bm kind winds back a = some (nI (w_fly N kd wd f).2.2.2.length, back', a') ∧ fr_ar N (w_win N kd wd f) a' ∧ (∀ p, p < (w_fly N kd wd f).2.2.2.length → back' p = nI ((w_fly N kd wd f).2.2.2.reverse.getD p 0)) := by
  obtain ⟨bf, bd, bi⟩ := hb
  have hw := (hk.2 (f.2.1 % 4) (by omega)).1
  obtain ⟨F, hF, hF2⟩ : ∃ F, F = gg_fuel ∧ 50000 ≤ F := ⟨_, rfl, pu_F⟩
  have ha' : fr_ar N (f.1, f.2.1, f.2.2.1, f.2.2.2.1, f.2.2.2.2.1, f.2.2.2.2.2) a := ha
  obtain ⟨T', G', a1, e, h1, h2, h3, h4, h5⟩ := ar_p1 (d := f.2.1) (hm := f.2.2.1) (br := f.2.2.2.2.1) hN hk hw (fun (x3_204 : Int32) (x4_204 : Int32) (c_p1_a_204 : Nat → Int32) => (lp_X9_passes_a26_209 (nI N) kind (fun (c_backMany_365 : Int32) (c_back_365 : Nat → Int32) (c_p1_a_365 : Nat → Int32) => gg_chk (gg_in (0 : Int32) 26) (gg_chk (gg_in (0 : Int32) 26) ((some (c_backMany_365, c_back_365, (upd c_p1_a_365 (0 : Int32).toNatClampNeg ((c_p1_a_365 (0 : Int32).toNatClampNeg) + (1 : Int32)))))))) F x3_204 x4_204 (0 : Int32) back c_p1_a_204)) N 0 F 0 0 f.1 f.2.2.2.1 f.2.2.2.2.2 [] a (by omega) (by omega) bf (fun j hj => (bi j hj).2.1) (fun j hj => (bi j hj).2.2.2) ha' (by omega) (fun b hb => by rw [Nat.zero_testBit]; rfl) (by omega) (fun x => by rw [Nat.zero_testBit]; simp)
  obtain ⟨g1, g2⟩ := w_p1_ok (kd := kd) (w := wd (f.2.1 % 4)) N 0 f.1 f.2.2.2.1 f.2.2.2.2.2 [] (fun x hx => absurd hx (by simp)) List.Pairwise.nil
  have hst : ∀ j, j < N → (w_fly N kd wd f).2.1 j < 1000 ∧ (w_fly N kd wd f).2.2.2.length ≤ N := by
    intro j hj
    obtain ⟨_, _, _, _, _, q1, _, _, q2, _⟩ := fl_p1 hN hk hw (fun _ _ _ _ _ => some (0 : Int32)) N 0 F f.1 f.2.2.2.1 f.2.2.2.2.2 [] (fun j => nI (f.2.2.2.1 j)) (fun j => k_bI (f.2.2.2.2.2 j)) back (by omega) (by omega) bf (fun j hj => ⟨rfl, (bi j hj).2.1⟩) (fun j hj => ⟨rfl, (bi j hj).2.2.2⟩) trivial (by simp) (fun x hx => absurd hx (by simp))
    exact ⟨(q1 j hj).2, q2⟩
  have hfw : w_p1 kd (wd (f.2.1 % 4)) N 0 f.1 f.2.2.2.1 f.2.2.2.2.2 [] = w_fly N kd wd f := rfl
  rw [hfw] at h1 h3 h5 g1 g2
  have hlen6 : (w_fly N kd wd f).2.2.2.length ≤ 6 := by
    by_cases z : N = 0
    · subst z
      show ([] : List Nat).length ≤ 6
      simp
    · have := (hst 0 (by omega)).2
      omega
  obtain ⟨back', a2, e2, h6, h7⟩ := ar_p2 (L := (w_fly N kd wd f).2.2.2.reverse) hN hk (fun j hj => (bi j hj).1) (fun j hj => (hst j hj).1) (by rw [List.length_reverse]; exact hlen6) (fun (c_backMany_365 : Int32) (c_back_365 : Nat → Int32) (c_p1_a_365 : Nat → Int32) => gg_chk (gg_in (0 : Int32) 26) (gg_chk (gg_in (0 : Int32) 26) ((some (c_backMany_365, c_back_365, (upd c_p1_a_365 (0 : Int32).toNatClampNeg ((c_p1_a_365 (0 : Int32).toNatClampNeg) + (1 : Int32)))))))) (w_fly N kd wd f).2.2.2.reverse [] F T' G' f.2.2.2.2.1 (w_fly N kd wd f).2.2.1 back a1 rfl (by rw [List.length_reverse]; omega) (fun x hx => by have := g1 x (List.mem_reverse.1 hx); exact ⟨by omega, this.2⟩) (List.pairwise_reverse.2 g2) (by omega) h3 h4 (fun x => by rw [h5 x]; simp) h1 (fun j hj => (bi j hj).2.2.1) (fun p hp => absurd hp (by simp))
  refine ⟨back', upd a2 0 (nI (f.2.1 + 1)), ?_, ar_du h6 rfl, fun p hp => h7 p (by rw [List.length_reverse]; exact hp)⟩
  unfold f_X9_passes_a26
  rw [ar_wd hk (by omega) ha.1, Option.bind_some, ← hF]
  refine e.trans ?_
  refine e2.trans ?_
  rw [List.length_reverse]
  have h0 : a2 0 = nI f.2.1 := h6.1
  simp (disch := omega) only [nx_chk, nx_let, nx_b2, nx_b3, nx_b4, nx_b5, nx_b7, nx_b8, Option.bind_some, nx_l0, nx_l1, nx_l2, nx_l3, nx_l4, nx_l5, nx_l6, nx_l7, nx_l8, nx_l9, nx_l10, nx_l11, nx_l12, nx_l14, nx_l20, nx_l26, nx_l40, nx_l60, nx_l100, nx_l1000, nI_add, nx_sub, nx_m1, nx_in, nx_cl, nx_le, nx_ltI, nx_eq, nx_isb0, nx_isb1, nx_n9, nx_n9', nx_b9, nx_b9', nx_m1', Nat.reduceEqDiff, Nat.reduceLeDiff, Nat.reduceLT, Nat.reduceAdd, Nat.reduceSub, Nat.reduceMul, Nat.reduceDiv, Nat.reduceMod, Bool.false_eq_true, reduceIte, ite_true, ite_false, if_true, if_false, h0]
