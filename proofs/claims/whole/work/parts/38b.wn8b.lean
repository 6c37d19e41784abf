theorem fl_max {a : Nat} (h : a < 1000) : f_J9_max_7cf53 (nI a - nI 1) (nI 0) = some (nI (a - 1)) := by
  unfold f_J9_max_7cf53
  by_cases q : a = 0
  · subst q
    rfl
  · simp (disch := omega) only [nx_chk, nx_let, nx_b2, nx_b3, nx_b4, nx_b5, nx_b7, nx_b8, Option.bind_some, nx_l0, nx_l1, nx_l2, nx_l3, nx_l4, nx_l5, nx_l6, nx_l7, nx_l8, nx_l9, nx_l10, nx_l11, nx_l12, nx_l14, nx_l20, nx_l26, nx_l40, nx_l60, nx_l100, nx_l1000, nI_add, nx_sub, nx_m1, nx_in, nx_cl, nx_le, nx_ltI, nx_eq, nx_isb0, nx_isb1, nx_n9, nx_n9', nx_b9, nx_b9', nx_m1', Nat.reduceEqDiff, Nat.reduceLeDiff, Nat.reduceLT, Nat.reduceAdd, Nat.reduceSub, Nat.reduceMul, Nat.reduceDiv, Nat.reduceMod, Bool.false_eq_true, reduceIte, ite_true, ite_false, if_true, if_false, show ¬ (a - 1 < 0) by omega, show (0 ≤ a - 1) by omega]
theorem fl_min {a b : Nat} (h : a < 2000) (hb : b < 2000) : f_J9_min_7cf53 (nI a) (nI b) = some (nI (min a b)) := by
  unfold f_J9_min_7cf53
  by_cases q : a ≤ b
  · simp (disch := omega) only [nx_chk, nx_let, nx_b2, nx_b3, nx_b4, nx_b5, nx_b7, nx_b8, Option.bind_some, nx_l0, nx_l1, nx_l2, nx_l3, nx_l4, nx_l5, nx_l6, nx_l7, nx_l8, nx_l9, nx_l10, nx_l11, nx_l12, nx_l14, nx_l20, nx_l26, nx_l40, nx_l60, nx_l100, nx_l1000, nI_add, nx_sub, nx_m1, nx_in, nx_cl, nx_le, nx_ltI, nx_eq, nx_isb0, nx_isb1, nx_n9, nx_n9', nx_b9, nx_b9', nx_m1', Nat.reduceEqDiff, Nat.reduceLeDiff, Nat.reduceLT, Nat.reduceAdd, Nat.reduceSub, Nat.reduceMul, Nat.reduceDiv, Nat.reduceMod, Bool.false_eq_true, reduceIte, ite_true, ite_false, if_true, if_false, show ¬ b < a by omega, Nat.min_eq_left q]
  · simp (disch := omega) only [nx_chk, nx_let, nx_b2, nx_b3, nx_b4, nx_b5, nx_b7, nx_b8, Option.bind_some, nx_l0, nx_l1, nx_l2, nx_l3, nx_l4, nx_l5, nx_l6, nx_l7, nx_l8, nx_l9, nx_l10, nx_l11, nx_l12, nx_l14, nx_l20, nx_l26, nx_l40, nx_l60, nx_l100, nx_l1000, nI_add, nx_sub, nx_m1, nx_in, nx_cl, nx_le, nx_ltI, nx_eq, nx_isb0, nx_isb1, nx_n9, nx_n9', nx_b9, nx_b9', nx_m1', Nat.reduceEqDiff, Nat.reduceLeDiff, Nat.reduceLT, Nat.reduceAdd, Nat.reduceSub, Nat.reduceMul, Nat.reduceDiv, Nat.reduceMod, Bool.false_eq_true, reduceIte, ite_true, ite_false, if_true, if_false, show b < a by omega, Nat.min_eq_right (show b ≤ a by omega)]
def fl_s (N : Nat) (st : Nat → Nat) (a : Nat → Int32) : Prop := ∀ j, j < N → a j = nI (st j) ∧ st j < 1000
def fl_b (N : Nat) (bk : Nat → Nat) (a : Nat → Int32) : Prop := ∀ j, j < N → a j = k_bI (bk j) ∧ bk j ≤ 10
theorem fl_s_up {N : Nat} {st : Nat → Nat} {a : Nat → Int32} (h : fl_s N st a) (i : Nat) {v : Nat} (hv : v < 1000) : fl_s N (gg_up st i v) (upd a i (nI v)) := by
  intro j hj
  rw [nx_upd, nx_upn]
  by_cases q : j = i
  · simp only [q, if_true]
    exact ⟨trivial, hv⟩
  · simp only [q, if_false]
    exact h j hj
theorem fl_b_up {N : Nat} {st : Nat → Nat} {a : Nat → Int32} (h : fl_b N st a) (i : Nat) {v : Nat} (hv : v ≤ 10) : fl_b N (gg_up st i v) (upd a i (k_bI v)) := by
  intro j hj
  rw [nx_upd, nx_upn]
  by_cases q : j = i
  · simp only [q, if_true]
    exact ⟨trivial, hv⟩
  · simp only [q, if_false]
    exact h j hj
theorem k_tire_b (k w : Nat) (hk : k < 6) (hw : w < 10) : k_tire k w < 1000 := Nat.lt_of_le_of_lt (k_tire_le k hk w hw) (by omega)
theorem fl_p1 {β : Type} {N : Nat} (hN : N ≤ 6) {kd wd : Nat → Nat} {kind winds : Nat → Int32} (hk : fr_kw N kd wd kind winds) {w : Nat} (hw : w < 10) (k : Int32 → Int32 → (Nat → Int32) → (Nat → Int32) → (Nat → Int32) → Option β) :
    ∀ (m i fuel fd : Nat) (st bk : Nat → Nat) (fl : List Nat) (strength brick back : Nat → Int32), i + m = N → m < fuel → fd < 1000 → fl_s N st strength → fl_b N bk brick → fl_arr back fl → fl.length ≤ i → (∀ x, x ∈ fl → x < i) →
    ∃ strength' brick' back', lp_X2_passWinter_12 (nI w) (nI N) kind k fuel (nI i) (nI fd) (nI fl.length) strength brick back = k (nI (w_p1 kd w m i fd st bk fl).1) (nI (w_p1 kd w m i fd st bk fl).2.2.2.length) strength' brick' back' ∧ (w_p1 kd w m i fd st bk fl).1 ≤ fd ∧ fl_s N (w_p1 kd w m i fd st bk fl).2.1 strength' ∧ fl_b N (w_p1 kd w m i fd st bk fl).2.2.1 brick' ∧ fl_arr back' (w_p1 kd w m i fd st bk fl).2.2.2 ∧ (w_p1 kd w m i fd st bk fl).2.2.2.length ≤ N ∧ (∀ x, x ∈ (w_p1 kd w m i fd st bk fl).2.2.2 → x < N)
  | 0, i, fuel + 1, fd, st, bk, fl, strength, brick, back, hi, hf, hd, hs, hb, ha, hl, hm => by
    refine ⟨strength, brick, back, ?_, Nat.le_refl _, hs, hb, ha, by show fl.length ≤ N; omega, fun x hx => by have := hm x hx; omega⟩
    rw [lp_X2_passWinter_12]
    simp (disch := omega) only [nx_chk, nx_let, nx_b2, nx_b3, nx_b4, nx_b5, nx_b7, nx_b8, Option.bind_some, nx_l0, nx_l1, nx_l2, nx_l3, nx_l4, nx_l5, nx_l6, nx_l7, nx_l8, nx_l9, nx_l10, nx_l11, nx_l12, nx_l14, nx_l20, nx_l26, nx_l40, nx_l60, nx_l100, nx_l1000, nI_add, nx_sub, nx_m1, nx_in, nx_cl, nx_le, nx_ltI, nx_eq, nx_isb0, nx_isb1, nx_n9, nx_n9', nx_b9, nx_b9', nx_m1', Nat.reduceEqDiff, Nat.reduceLeDiff, Nat.reduceLT, Nat.reduceAdd, Nat.reduceSub, Nat.reduceMul, Nat.reduceDiv, Nat.reduceMod, Bool.false_eq_true, reduceIte, ite_true, ite_false, if_true, if_false, show N ≤ i by omega]
    rfl
  | m + 1, i, fuel + 1, fd, st, bk, fl, strength, brick, back, hi, hf, hd, hs, hb, ha, hl, hm => by
    have hiN : i < N := by omega
    have hw2 := k_tire_b (kd i) w (hk.1 i hiN).1 hw
    have hsi := (hs i hiN).2
    rw [lp_X2_passWinter_12]
    unfold w_p1
    by_cases q : bk i = 10
    · obtain ⟨s', b', k', e, r⟩ := fl_p1 hN hk hw k m (i + 1) fuel fd st bk fl strength brick back (by omega) (by omega) hd hs hb ha (by omega) (fun x hx => by have := hm x hx; omega)
      rw [if_pos q]
      refine ⟨s', b', k', ?_, r⟩
      rw [← e]
      simp (disch := omega) only [nx_chk, nx_let, nx_b2, nx_b3, nx_b4, nx_b5, nx_b7, nx_b8, Option.bind_some, nx_l0, nx_l1, nx_l2, nx_l3, nx_l4, nx_l5, nx_l6, nx_l7, nx_l8, nx_l9, nx_l10, nx_l11, nx_l12, nx_l14, nx_l20, nx_l26, nx_l40, nx_l60, nx_l100, nx_l1000, nI_add, nx_sub, nx_m1, nx_in, nx_cl, nx_le, nx_ltI, nx_eq, nx_isb0, nx_isb1, nx_n9, nx_n9', nx_b9, nx_b9', nx_m1', Nat.reduceEqDiff, Nat.reduceLeDiff, Nat.reduceLT, Nat.reduceAdd, Nat.reduceSub, Nat.reduceMul, Nat.reduceDiv, Nat.reduceMod, Bool.false_eq_true, reduceIte, ite_true, ite_false, if_true, if_false, show ¬ N ≤ i by omega, fl_th hiN hN (hb i hiN).2 (hb i hiN).1, q]
    · rw [if_neg q]
      by_cases q2 : k_stay (kd i) w = true
      · rw [if_pos q2]
        by_cases q3 : 0 < fd
        · obtain ⟨s', b', k', e, h1, r⟩ := fl_p1 hN hk hw k m (i + 1) fuel (fd - 1) st bk fl strength brick back (by omega) (by omega) (by omega) hs hb ha (by omega) (fun x hx => by have := hm x hx; omega)
          rw [if_pos q3]
          refine ⟨s', b', k', ?_, by omega, r⟩
          rw [← e]
          unfold f_X2_stay
          simp (disch := omega) only [nx_chk, nx_let, nx_b2, nx_b3, nx_b4, nx_b5, nx_b7, nx_b8, Option.bind_some, nx_l0, nx_l1, nx_l2, nx_l3, nx_l4, nx_l5, nx_l6, nx_l7, nx_l8, nx_l9, nx_l10, nx_l11, nx_l12, nx_l14, nx_l20, nx_l26, nx_l40, nx_l60, nx_l100, nx_l1000, nI_add, nx_sub, nx_m1, nx_in, nx_cl, nx_le, nx_ltI, nx_eq, nx_isb0, nx_isb1, nx_n9, nx_n9', nx_b9, nx_b9', nx_m1', Nat.reduceEqDiff, Nat.reduceLeDiff, Nat.reduceLT, Nat.reduceAdd, Nat.reduceSub, Nat.reduceMul, Nat.reduceDiv, Nat.reduceMod, Bool.false_eq_true, reduceIte, ite_true, ite_false, if_true, if_false, show ¬ N ≤ i by omega, show ¬ fd ≤ 0 by omega, fl_th hiN hN (hb i hiN).2 (hb i hiN).1, q, (hk.1 i hiN).2, e_stay8 (kd i) (hk.1 i hiN).1 w hw, q2]
        · obtain ⟨s', b', k', e, h1, r⟩ := fl_p1 hN hk hw k m (i + 1) fuel fd (gg_up st i (st i - 1)) bk fl (upd strength i (nI (st i - 1))) brick back (by omega) (by omega) (by omega) (fl_s_up hs i (by omega)) hb ha (by omega) (fun x hx => by have := hm x hx; omega)
          rw [if_neg q3]
          refine ⟨s', b', k', ?_, by omega, r⟩
          rw [← e]
          unfold f_X2_stay
          simp (disch := omega) only [nx_chk, nx_let, nx_b2, nx_b3, nx_b4, nx_b5, nx_b7, nx_b8, Option.bind_some, nx_l0, nx_l1, nx_l2, nx_l3, nx_l4, nx_l5, nx_l6, nx_l7, nx_l8, nx_l9, nx_l10, nx_l11, nx_l12, nx_l14, nx_l20, nx_l26, nx_l40, nx_l60, nx_l100, nx_l1000, nI_add, nx_sub, nx_m1, nx_in, nx_cl, nx_le, nx_ltI, nx_eq, nx_isb0, nx_isb1, nx_n9, nx_n9', nx_b9, nx_b9', nx_m1', Nat.reduceEqDiff, Nat.reduceLeDiff, Nat.reduceLT, Nat.reduceAdd, Nat.reduceSub, Nat.reduceMul, Nat.reduceDiv, Nat.reduceMod, Bool.false_eq_true, reduceIte, ite_true, ite_false, if_true, if_false, show ¬ N ≤ i by omega, show fd ≤ 0 by omega, fl_th hiN hN (hb i hiN).2 (hb i hiN).1, q, (hk.1 i hiN).2, e_stay8 (kd i) (hk.1 i hiN).1 w hw, q2, (hs i hiN).1]
          simp (disch := omega) only [fl_max, Option.bind_some, nx_b2]
      · rw [if_neg q2]
        by_cases q3 : st i < k_tire (kd i) w
        · obtain ⟨s', b', k', e, h1, r⟩ := fl_p1 hN hk hw k m (i + 1) fuel fd st (gg_up bk i 10) fl strength (upd brick i (k_bI 10)) back (by omega) (by omega) (by omega) hs (fl_b_up hb i (by omega)) ha (by omega) (fun x hx => by have := hm x hx; omega)
          rw [if_pos q3]
          refine ⟨s', b', k', ?_, by omega, r⟩
          rw [← e]
          unfold f_X2_go
          simp (disch := omega) only [nx_chk, nx_let, nx_b2, nx_b3, nx_b4, nx_b5, nx_b7, nx_b8, Option.bind_some, nx_l0, nx_l1, nx_l2, nx_l3, nx_l4, nx_l5, nx_l6, nx_l7, nx_l8, nx_l9, nx_l10, nx_l11, nx_l12, nx_l14, nx_l20, nx_l26, nx_l40, nx_l60, nx_l100, nx_l1000, nI_add, nx_sub, nx_m1, nx_in, nx_cl, nx_le, nx_ltI, nx_eq, nx_isb0, nx_isb1, nx_n9, nx_n9', nx_b9, nx_b9', nx_m1', Nat.reduceEqDiff, Nat.reduceLeDiff, Nat.reduceLT, Nat.reduceAdd, Nat.reduceSub, Nat.reduceMul, Nat.reduceDiv, Nat.reduceMod, Bool.false_eq_true, reduceIte, ite_true, ite_false, if_true, if_false, show ¬ N ≤ i by omega, fl_th hiN hN (hb i hiN).2 (hb i hiN).1, q, (hk.1 i hiN).2, e_stay8 (kd i) (hk.1 i hiN).1 w hw, q2, (hs i hiN).1, e_tire8 (kd i) (hk.1 i hiN).1 w hw, show ¬ k_tire (kd i) w ≤ st i by omega]
          rfl
        · rw [if_neg q3]
          have hs2 : fl_s N (gg_up st i (st i - k_tire (kd i) w)) (upd strength i (nI (st i - k_tire (kd i) w))) := fl_s_up hs i (by omega)
          obtain ⟨F, hF, hF2⟩ : ∃ F, F = gg_fuel ∧ 50000 ≤ F := ⟨_, rfl, pu_F⟩
          obtain ⟨b, a', e0, hb0, har, hap⟩ := fl_go hN hk hs2 hiN (fun (x4_94 : Int32) (c_back_94 : Nat → Int32) => gg_chk (gg_in x4_94 6) ((some ((nI fl.length + (1 : Int32)), (upd strength i (nI (st i - k_tire (kd i) w))), (upd brick i (-9 : Int32)), (upd c_back_94 x4_94.toNatClampNeg (nI i)))))) fl F back (fun x hx => by have := hm x hx; omega) ha (by omega) (by omega)
          obtain ⟨s', b', k', e, h1, r⟩ := fl_p1 hN hk hw k m (i + 1) fuel fd (gg_up st i (st i - k_tire (kd i) w)) (gg_up bk i 10) (w_ins kd (gg_up st i (st i - k_tire (kd i) w)) i fl) (upd strength i (nI (st i - k_tire (kd i) w))) (upd brick i (k_bI 10)) (upd a' b (nI i)) (by omega) (by omega) (by omega) hs2 (fl_b_up hb i (by omega)) har (by rw [w_ins_len]; omega) (fun x hx => by
              rcases (w_ins_mem _ _ _ _ _).1 hx with rfl | hx
              · omega
              · have := hm x hx; omega)
          refine ⟨s', b', k', ?_, by omega, r⟩
          rw [← e]
          unfold f_X2_go
          rw [← hF]
          rw [w_ins_len]
          have hmin : min fl.length 5 = fl.length := Nat.min_eq_left (by omega)
          simp (disch := omega) only [nx_chk, nx_let, nx_b2, nx_b3, nx_b4, nx_b5, nx_b7, nx_b8, Option.bind_some, nx_l0, nx_l1, nx_l2, nx_l3, nx_l4, nx_l5, nx_l6, nx_l7, nx_l8, nx_l9, nx_l10, nx_l11, nx_l12, nx_l14, nx_l20, nx_l26, nx_l40, nx_l60, nx_l100, nx_l1000, nI_add, nx_sub, nx_m1, nx_in, nx_cl, nx_le, nx_ltI, nx_eq, nx_isb0, nx_isb1, nx_n9, nx_n9', nx_b9, nx_b9', nx_m1', Nat.reduceEqDiff, Nat.reduceLeDiff, Nat.reduceLT, Nat.reduceAdd, Nat.reduceSub, Nat.reduceMul, Nat.reduceDiv, Nat.reduceMod, Bool.false_eq_true, reduceIte, ite_true, ite_false, if_true, if_false] at e0
          simp (disch := omega) only [nx_chk, nx_let, nx_b2, nx_b3, nx_b4, nx_b5, nx_b7, nx_b8, Option.bind_some, nx_l0, nx_l1, nx_l2, nx_l3, nx_l4, nx_l5, nx_l6, nx_l7, nx_l8, nx_l9, nx_l10, nx_l11, nx_l12, nx_l14, nx_l20, nx_l26, nx_l40, nx_l60, nx_l100, nx_l1000, nI_add, nx_sub, nx_m1, nx_in, nx_cl, nx_le, nx_ltI, nx_eq, nx_isb0, nx_isb1, nx_n9, nx_n9', nx_b9, nx_b9', nx_m1', Nat.reduceEqDiff, Nat.reduceLeDiff, Nat.reduceLT, Nat.reduceAdd, Nat.reduceSub, Nat.reduceMul, Nat.reduceDiv, Nat.reduceMod, Bool.false_eq_true, reduceIte, ite_true, ite_false, if_true, if_false, show ¬ N ≤ i by omega, fl_th hiN hN (hb i hiN).2 (hb i hiN).1, q, (hk.1 i hiN).2, e_stay8 (kd i) (hk.1 i hiN).1 w hw, q2, (hs i hiN).1, e_tire8 (kd i) (hk.1 i hiN).1 w hw, show k_tire (kd i) w ≤ st i by omega, fl_min, hmin, e0]
          rfl
