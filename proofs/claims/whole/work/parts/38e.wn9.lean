theorem ar_st {N d fd i : Nat} (hN : N ≤ 6) {hm st br bk st' : Nat → Nat} {a : Nat → Int32} (h : fr_ar N (fd, d, hm, st, br, bk) a) (hi : i < N) {v : Int32} (hv : v = nI (st' i)) (ho : ∀ j, j ≠ i → st' j = st j) : fr_ar N (fd, d, hm, st', br, bk) (upd a (8 + i) v) := by
  obtain ⟨h1, h2, h3⟩ := h
  refine ⟨?_, ?_, fun j hj => ⟨?_, ?_, ?_, ?_⟩⟩
  · rw [nx_upd, if_neg (by omega)]; exact h1
  · rw [nx_upd, if_neg (by omega)]; exact h2
  · rw [nx_upd, if_neg (by omega)]; exact (h3 j hj).1
  · rw [nx_upd]
    by_cases q : j = i
    · subst q
      rw [if_pos rfl]; exact hv
    · rw [if_neg (by omega)]
      show _ = nI (st' j)
      rw [ho j q]
      exact (h3 j hj).2.1
  · rw [nx_upd, if_neg (by omega)]; exact (h3 j hj).2.2.1
  · rw [nx_upd, if_neg (by omega)]; exact (h3 j hj).2.2.2
theorem ar_br {N d fd i : Nat} (hN : N ≤ 6) {hm st br bk br' : Nat → Nat} {a : Nat → Int32} (h : fr_ar N (fd, d, hm, st, br, bk) a) (hi : i < N) {v : Int32} (hv : v = nI (br' i)) (ho : ∀ j, j ≠ i → br' j = br j) : fr_ar N (fd, d, hm, st, br', bk) (upd a (14 + i) v) := by
  obtain ⟨h1, h2, h3⟩ := h
  refine ⟨?_, ?_, fun j hj => ⟨?_, ?_, ?_, ?_⟩⟩
  · rw [nx_upd, if_neg (by omega)]; exact h1
  · rw [nx_upd, if_neg (by omega)]; exact h2
  · rw [nx_upd, if_neg (by omega)]; exact (h3 j hj).1
  · rw [nx_upd, if_neg (by omega)]; exact (h3 j hj).2.1
  · rw [nx_upd]
    by_cases q : j = i
    · subst q
      rw [if_pos rfl]; exact hv
    · rw [if_neg (by omega)]
      show _ = nI (br' j)
      rw [ho j q]
      exact (h3 j hj).2.2.1
  · rw [nx_upd, if_neg (by omega)]; exact (h3 j hj).2.2.2
theorem ar_bk {N d fd i : Nat} (hN : N ≤ 6) {hm st br bk bk' : Nat → Nat} {a : Nat → Int32} (h : fr_ar N (fd, d, hm, st, br, bk) a) (hi : i < N) {v : Int32} (hv : v = k_bI (bk' i)) (ho : ∀ j, j ≠ i → bk' j = bk j) : fr_ar N (fd, d, hm, st, br, bk') (upd a (20 + i) v) := by
  obtain ⟨h1, h2, h3⟩ := h
  refine ⟨?_, ?_, fun j hj => ⟨?_, ?_, ?_, ?_⟩⟩
  · rw [nx_upd, if_neg (by omega)]; exact h1
  · rw [nx_upd, if_neg (by omega)]; exact h2
  · rw [nx_upd, if_neg (by omega)]; exact (h3 j hj).1
  · rw [nx_upd, if_neg (by omega)]; exact (h3 j hj).2.1
  · rw [nx_upd, if_neg (by omega)]; exact (h3 j hj).2.2.1
  · rw [nx_upd]
    by_cases q : j = i
    · subst q
      rw [if_pos rfl]; exact hv
    · rw [if_neg (by omega)]
      show _ = k_bI (bk' j)
      rw [ho j q]
      exact (h3 j hj).2.2.2
theorem ar_hm {N d fd i : Nat} (hN : N ≤ 6) {hm st br bk hm' : Nat → Nat} {a : Nat → Int32} (h : fr_ar N (fd, d, hm, st, br, bk) a) (hi : i < N) {v : Int32} (hv : v = nI (hm' i)) (ho : ∀ j, j ≠ i → hm' j = hm j) : fr_ar N (fd, d, hm', st, br, bk) (upd a (2 + i) v) := by
  obtain ⟨h1, h2, h3⟩ := h
  refine ⟨?_, ?_, fun j hj => ⟨?_, ?_, ?_, ?_⟩⟩
  · rw [nx_upd, if_neg (by omega)]; exact h1
  · rw [nx_upd, if_neg (by omega)]; exact h2
  · rw [nx_upd]
    by_cases q : j = i
    · subst q
      rw [if_pos rfl]; exact hv
    · rw [if_neg (by omega)]
      show _ = nI (hm' j)
      rw [ho j q]
      exact (h3 j hj).1
  · rw [nx_upd, if_neg (by omega)]; exact (h3 j hj).2.1
  · rw [nx_upd, if_neg (by omega)]; exact (h3 j hj).2.2.1
  · rw [nx_upd, if_neg (by omega)]; exact (h3 j hj).2.2.2
theorem ar_fd {N d fd fd' : Nat} {hm st br bk : Nat → Nat} {a : Nat → Int32} (h : fr_ar N (fd, d, hm, st, br, bk) a) {v : Int32} (hv : v = nI fd') : fr_ar N (fd', d, hm, st, br, bk) (upd a 1 v) := by
  obtain ⟨h1, h2, h3⟩ := h
  refine ⟨?_, ?_, fun j hj => ⟨?_, ?_, ?_, ?_⟩⟩
  · rw [nx_upd, if_neg (by omega)]; exact h1
  · rw [nx_upd, if_pos rfl]; exact hv
  · rw [nx_upd, if_neg (by omega)]; exact (h3 j hj).1
  · rw [nx_upd, if_neg (by omega)]; exact (h3 j hj).2.1
  · rw [nx_upd, if_neg (by omega)]; exact (h3 j hj).2.2.1
  · rw [nx_upd, if_neg (by omega)]; exact (h3 j hj).2.2.2
theorem ar_du {N d fd d' : Nat} {hm st br bk : Nat → Nat} {a : Nat → Int32} (h : fr_ar N (fd, d, hm, st, br, bk) a) {v : Int32} (hv : v = nI d') : fr_ar N (fd, d', hm, st, br, bk) (upd a 0 v) := by
  obtain ⟨h1, h2, h3⟩ := h
  refine ⟨?_, ?_, fun j hj => ⟨?_, ?_, ?_, ?_⟩⟩
  · rw [nx_upd, if_pos rfl]; exact hv
  · rw [nx_upd, if_neg (by omega)]; exact h2
  · rw [nx_upd, if_neg (by omega)]; exact (h3 j hj).1
  · rw [nx_upd, if_neg (by omega)]; exact (h3 j hj).2.1
  · rw [nx_upd, if_neg (by omega)]; exact (h3 j hj).2.2.1
  · rw [nx_upd, if_neg (by omega)]; exact (h3 j hj).2.2.2
theorem ar_th {i N : Nat} (h : i < N) (hN : N ≤ 6) {a : Nat → Int32} {x : Nat} (hx : x ≤ 10) (hb : a (20 + i) = k_bI x) : f_X9_isThere_a26 (nI i) a = some (if x = 10 then nI 0 else nI 1) := by
  unfold f_X9_isThere_a26
  by_cases q : x = 10
  · simp (disch := omega) only [nx_chk, nx_let, nx_b2, nx_b3, nx_b4, nx_b5, nx_b7, nx_b8, Option.bind_some, nx_l0, nx_l1, nx_l2, nx_l3, nx_l4, nx_l5, nx_l6, nx_l7, nx_l8, nx_l9, nx_l10, nx_l11, nx_l12, nx_l14, nx_l20, nx_l26, nx_l40, nx_l60, nx_l100, nx_l1000, nI_add, nx_sub, nx_m1, nx_in, nx_cl, nx_le, nx_ltI, nx_eq, nx_isb0, nx_isb1, nx_n9, nx_n9', nx_b9, nx_b9', nx_m1', Nat.reduceEqDiff, Nat.reduceLeDiff, Nat.reduceLT, Nat.reduceAdd, Nat.reduceSub, Nat.reduceMul, Nat.reduceDiv, Nat.reduceMod, Bool.false_eq_true, reduceIte, ite_true, ite_false, if_true, if_false, hb, q]
  · simp (disch := omega) only [nx_chk, nx_let, nx_b2, nx_b3, nx_b4, nx_b5, nx_b7, nx_b8, Option.bind_some, nx_l0, nx_l1, nx_l2, nx_l3, nx_l4, nx_l5, nx_l6, nx_l7, nx_l8, nx_l9, nx_l10, nx_l11, nx_l12, nx_l14, nx_l20, nx_l26, nx_l40, nx_l60, nx_l100, nx_l1000, nI_add, nx_sub, nx_m1, nx_in, nx_cl, nx_le, nx_ltI, nx_eq, nx_isb0, nx_isb1, nx_n9, nx_n9', nx_b9, nx_b9', nx_m1', Nat.reduceEqDiff, Nat.reduceLeDiff, Nat.reduceLT, Nat.reduceAdd, Nat.reduceSub, Nat.reduceMul, Nat.reduceDiv, Nat.reduceMod, Bool.false_eq_true, reduceIte, ite_true, ite_false, if_true, if_false, hb, q]
theorem w_free_s {i : Nat} {bk : Nat → Nat} {b : Nat} : w_free (i + 1) bk b = (w_free i bk b && (bk i != b)) := by
  unfold w_free
  rw [List.range_succ, List.all_append]
  simp
theorem w_free_c {N : Nat} {f g : Nat → Nat} {b : Nat} (h : ∀ j, j < N → f j = g j) : w_free N f b = w_free N g b := by
  induction N with
  | zero => rfl
  | succ n ih => rw [w_free_s, w_free_s, ih (fun j hj => h j (by omega)), h n (by omega)]
theorem ar_p1 {β : Type} {N : Nat} (hN : N ≤ 6) {kd wd : Nat → Nat} {kind winds : Nat → Int32} (hk : fr_kw N kd wd kind winds) {w : Nat} (hw : w < 10) {d : Nat} {hm br : Nat → Nat} (k : Int32 → Int32 → (Nat → Int32) → Option β) :
    ∀ (m i fuel T G fd : Nat) (st bk : Nat → Nat) (fl : List Nat) (a : Nat → Int32), i + m = N → m < fuel → fd < 1000 → (∀ j, j < N → st j < 1000) → (∀ j, j < N → bk j ≤ 10) → fr_ar N (fd, d, hm, st, br, bk) a → T < 1024 → (∀ b, b < 10 → T.testBit b = !(w_free i bk b)) → G < 64 → (∀ x, G.testBit x = decide (x ∈ fl)) →
    ∃ T' G' a', lp_X9_passes_a26_14 (nI w) (nI N) kind k fuel (nI T) (nI G) (nI i) a = k (nI T') (nI G') a' ∧ fr_ar N ((w_p1 kd w m i fd st bk fl).1, d, hm, (w_p1 kd w m i fd st bk fl).2.1, br, (w_p1 kd w m i fd st bk fl).2.2.1) a' ∧ T' < 1024 ∧ (∀ b, b < 10 → T'.testBit b = !(w_free N (w_p1 kd w m i fd st bk fl).2.2.1 b)) ∧ G' < 64 ∧ (∀ x, G'.testBit x = decide (x ∈ (w_p1 kd w m i fd st bk fl).2.2.2))
  | 0, i, fuel + 1, T, G, fd, st, bk, fl, a, hi, hf, hd, hs, hb, ha, hT, hT2, hG, hG2 => by
    have : i = N := by omega
    subst this
    refine ⟨T, G, a, ?_, ha, hT, hT2, hG, hG2⟩
    rw [lp_X9_passes_a26_14]
    simp (disch := omega) only [nx_chk, nx_let, nx_b2, nx_b3, nx_b4, nx_b5, nx_b7, nx_b8, Option.bind_some, nx_l0, nx_l1, nx_l2, nx_l3, nx_l4, nx_l5, nx_l6, nx_l7, nx_l8, nx_l9, nx_l10, nx_l11, nx_l12, nx_l14, nx_l20, nx_l26, nx_l40, nx_l60, nx_l100, nx_l1000, nI_add, nx_sub, nx_m1, nx_in, nx_cl, nx_le, nx_ltI, nx_eq, nx_isb0, nx_isb1, nx_n9, nx_n9', nx_b9, nx_b9', nx_m1', Nat.reduceEqDiff, Nat.reduceLeDiff, Nat.reduceLT, Nat.reduceAdd, Nat.reduceSub, Nat.reduceMul, Nat.reduceDiv, Nat.reduceMod, Bool.false_eq_true, reduceIte, ite_true, ite_false, if_true, if_false, Nat.le_refl]
  | m + 1, i, fuel + 1, T, G, fd, st, bk, fl, a, hi, hf, hd, hs, hb, ha, hT, hT2, hG, hG2 => by
    have hiN : i < N := by omega
    have hw2 := k_tire_b (kd i) w (hk.1 i hiN).1 hw
    have hsi := hs i hiN
    have hbi := hb i hiN
    have a1 : a 1 = nI fd := ha.2.1
    have a8 : a (8 + i) = nI (st i) := (ha.2.2 i hiN).2.1
    have a20 : a (20 + i) = k_bI (bk i) := (ha.2.2 i hiN).2.2.2
    have n1 : ¬ (1 = 8 + i) := by omega
    have n2 : ¬ (20 + i = 8 + i) := by omega
    have n3 : ¬ (20 + i = 1) := by omega
    rw [lp_X9_passes_a26_14]
    unfold w_p1
    by_cases q : bk i = 10
    · obtain ⟨T', G', a', e, r⟩ := ar_p1 hN hk hw k m (i + 1) fuel T G fd st bk fl a (by omega) (by omega) hd hs hb ha hT (fun b hb10 => by
        rw [hT2 b hb10, w_free_s]
        have : (bk i != b) = true := by rw [bne_iff_ne]; omega
        rw [this, Bool.and_true]) hG hG2
      rw [if_pos q]
      refine ⟨T', G', a', ?_, r⟩
      rw [← e]
      simp (disch := omega) only [nx_chk, nx_let, nx_b2, nx_b3, nx_b4, nx_b5, nx_b7, nx_b8, Option.bind_some, nx_l0, nx_l1, nx_l2, nx_l3, nx_l4, nx_l5, nx_l6, nx_l7, nx_l8, nx_l9, nx_l10, nx_l11, nx_l12, nx_l14, nx_l20, nx_l26, nx_l40, nx_l60, nx_l100, nx_l1000, nI_add, nx_sub, nx_m1, nx_in, nx_cl, nx_le, nx_ltI, nx_eq, nx_isb0, nx_isb1, nx_n9, nx_n9', nx_b9, nx_b9', nx_m1', Nat.reduceEqDiff, Nat.reduceLeDiff, Nat.reduceLT, Nat.reduceAdd, Nat.reduceSub, Nat.reduceMul, Nat.reduceDiv, Nat.reduceMod, Bool.false_eq_true, reduceIte, ite_true, ite_false, if_true, if_false, show ¬ N ≤ i by omega, ar_th hiN hN (hb i hiN) a20, q]
    · rw [if_neg q]
      by_cases q2 : k_stay (kd i) w = true
      · rw [if_pos q2]
        have hTn : ∀ b, b < 10 → (T ||| 2 ^ bk i).testBit b = !(w_free (i + 1) bk b) := by
          intro b hb10
          rw [nx_orB, hT2 b hb10, w_free_s]
          by_cases z : bk i = b
          · simp [z]
          · have : (bk i != b) = true := by rw [bne_iff_ne]; exact z
            simp [z, this]
        have hTl : T ||| 2 ^ bk i < 1024 := nx_or_lt (n := 10) hT (by omega)
        by_cases q3 : 0 < fd
        · obtain ⟨T', G', a', e, r⟩ := ar_p1 hN hk hw k m (i + 1) fuel (T ||| 2 ^ bk i) G (fd - 1) st bk fl (upd (upd a (8 + i) (nI (st i))) 1 (nI (fd - 1))) (by omega) (by omega) (by omega) hs hb (ar_fd (ar_st hN ha hiN rfl (fun _ _ => rfl)) rfl) hTl hTn hG hG2
          rw [if_pos q3]
          refine ⟨T', G', a', ?_, r⟩
          rw [← e]
          simp (disch := omega) only [nx_chk, nx_let, nx_b2, nx_b3, nx_b4, nx_b5, nx_b7, nx_b8, Option.bind_some, nx_l0, nx_l1, nx_l2, nx_l3, nx_l4, nx_l5, nx_l6, nx_l7, nx_l8, nx_l9, nx_l10, nx_l11, nx_l12, nx_l14, nx_l20, nx_l26, nx_l40, nx_l60, nx_l100, nx_l1000, nI_add, nx_sub, nx_m1, nx_in, nx_cl, nx_le, nx_ltI, nx_eq, nx_isb0, nx_isb1, nx_n9, nx_n9', nx_b9, nx_b9', nx_m1', Nat.reduceEqDiff, Nat.reduceLeDiff, Nat.reduceLT, Nat.reduceAdd, Nat.reduceSub, Nat.reduceMul, Nat.reduceDiv, Nat.reduceMod, Bool.false_eq_true, reduceIte, ite_true, ite_false, if_true, if_false, show ¬ N ≤ i by omega, ar_th hiN hN (hb i hiN) a20, q, (hk.1 i hiN).2, e_stay9 (kd i) (hk.1 i hiN).1 w hw, q2, a1, a8, a20, show ¬ fd = 0 by omega, show ¬ fd ≤ 0 by omega, nx_upd, n1, n2, n3, Nat.sub_zero, nx_bI, nx_sh1n, nx_or]
        · have hfd : fd = 0 := by omega
          subst hfd
          obtain ⟨T', G', a', e, r⟩ := ar_p1 hN hk hw k m (i + 1) fuel (T ||| 2 ^ bk i) G 0 (gg_up st i (st i - 1)) bk fl (upd (upd a (8 + i) (nI (st i - 1))) 1 (nI 0)) (by omega) (by omega) (by omega) (fun j hj => by rw [nx_upn]; split; omega; exact hs j hj) hb (ar_fd (ar_st hN ha hiN (by rw [nx_upn, if_pos rfl]) (fun j hj => by rw [nx_upn, if_neg hj])) rfl) hTl hTn hG hG2
          rw [if_neg q3]
          refine ⟨T', G', a', ?_, r⟩
          rw [← e]
          by_cases q4 : st i = 0
          · simp (disch := omega) only [nx_chk, nx_let, nx_b2, nx_b3, nx_b4, nx_b5, nx_b7, nx_b8, Option.bind_some, nx_l0, nx_l1, nx_l2, nx_l3, nx_l4, nx_l5, nx_l6, nx_l7, nx_l8, nx_l9, nx_l10, nx_l11, nx_l12, nx_l14, nx_l20, nx_l26, nx_l40, nx_l60, nx_l100, nx_l1000, nI_add, nx_sub, nx_m1, nx_in, nx_cl, nx_le, nx_ltI, nx_eq, nx_isb0, nx_isb1, nx_n9, nx_n9', nx_b9, nx_b9', nx_m1', Nat.reduceEqDiff, Nat.reduceLeDiff, Nat.reduceLT, Nat.reduceAdd, Nat.reduceSub, Nat.reduceMul, Nat.reduceDiv, Nat.reduceMod, Bool.false_eq_true, reduceIte, ite_true, ite_false, if_true, if_false, show ¬ N ≤ i by omega, ar_th hiN hN (hb i hiN) a20, q, (hk.1 i hiN).2, e_stay9 (kd i) (hk.1 i hiN).1 w hw, q2, a1, a8, a20, q4, Nat.le_refl, nx_upd, n1, n2, n3, Nat.sub_zero, nx_bI, nx_sh1n, nx_or]
          · simp (disch := omega) only [nx_chk, nx_let, nx_b2, nx_b3, nx_b4, nx_b5, nx_b7, nx_b8, Option.bind_some, nx_l0, nx_l1, nx_l2, nx_l3, nx_l4, nx_l5, nx_l6, nx_l7, nx_l8, nx_l9, nx_l10, nx_l11, nx_l12, nx_l14, nx_l20, nx_l26, nx_l40, nx_l60, nx_l100, nx_l1000, nI_add, nx_sub, nx_m1, nx_in, nx_cl, nx_le, nx_ltI, nx_eq, nx_isb0, nx_isb1, nx_n9, nx_n9', nx_b9, nx_b9', nx_m1', Nat.reduceEqDiff, Nat.reduceLeDiff, Nat.reduceLT, Nat.reduceAdd, Nat.reduceSub, Nat.reduceMul, Nat.reduceDiv, Nat.reduceMod, Bool.false_eq_true, reduceIte, ite_true, ite_false, if_true, if_false, show ¬ N ≤ i by omega, ar_th hiN hN (hb i hiN) a20, q, (hk.1 i hiN).2, e_stay9 (kd i) (hk.1 i hiN).1 w hw, q2, a1, a8, a20, show ¬ st i ≤ 0 by omega, Nat.le_refl, nx_upd, n1, n2, n3, Nat.sub_zero, nx_bI, nx_sh1n, nx_or]
      · rw [if_neg q2]
        by_cases q3 : st i < k_tire (kd i) w
        · obtain ⟨T', G', a', e, r⟩ := ar_p1 hN hk hw k m (i + 1) fuel T G fd st (gg_up bk i 10) fl (upd (upd a (8 + i) (nI (st i))) (20 + i) (k_bI 10)) (by omega) (by omega) hd hs (fun j hj => by rw [nx_upn]; split; omega; exact hb j hj) (ar_bk hN (ar_st hN ha hiN rfl (fun _ _ => rfl)) hiN (by rw [nx_upn, if_pos rfl]) (fun j hj => by rw [nx_upn, if_neg hj])) hT (fun b hb10 => by
            rw [hT2 b hb10, w_free_s, nx_upn, if_pos rfl]
            have : (10 != b) = true := by rw [bne_iff_ne]; omega
            rw [this, Bool.and_true, w_free_c (f := gg_up bk i 10) (g := bk) (fun j hj => by rw [nx_upn, if_neg (by omega)])]) hG hG2
          rw [if_pos q3]
          refine ⟨T', G', a', ?_, r⟩
          rw [← e]
          simp (disch := omega) only [nx_chk, nx_let, nx_b2, nx_b3, nx_b4, nx_b5, nx_b7, nx_b8, Option.bind_some, nx_l0, nx_l1, nx_l2, nx_l3, nx_l4, nx_l5, nx_l6, nx_l7, nx_l8, nx_l9, nx_l10, nx_l11, nx_l12, nx_l14, nx_l20, nx_l26, nx_l40, nx_l60, nx_l100, nx_l1000, nI_add, nx_sub, nx_m1, nx_in, nx_cl, nx_le, nx_ltI, nx_eq, nx_isb0, nx_isb1, nx_n9, nx_n9', nx_b9, nx_b9', nx_m1', Nat.reduceEqDiff, Nat.reduceLeDiff, Nat.reduceLT, Nat.reduceAdd, Nat.reduceSub, Nat.reduceMul, Nat.reduceDiv, Nat.reduceMod, Bool.false_eq_true, reduceIte, ite_true, ite_false, if_true, if_false, show ¬ N ≤ i by omega, ar_th hiN hN (hb i hiN) a20, q, (hk.1 i hiN).2, e_stay9 (kd i) (hk.1 i hiN).1 w hw, q2, e_tire9 (kd i) (hk.1 i hiN).1 w hw, a8, show ¬ k_tire (kd i) w ≤ st i by omega, Nat.sub_zero, nx_or, Nat.or_zero]
          rfl
        · rw [if_neg q3]
          obtain ⟨T', G', a', e, r⟩ := ar_p1 hN hk hw k m (i + 1) fuel T (G ||| 2 ^ i) fd (gg_up st i (st i - k_tire (kd i) w)) (gg_up bk i 10) (w_ins kd (gg_up st i (st i - k_tire (kd i) w)) i fl) (upd (upd a (8 + i) (nI (st i - k_tire (kd i) w))) (20 + i) (k_bI 10)) (by omega) (by omega) hd (fun j hj => by rw [nx_upn]; split; omega; exact hs j hj) (fun j hj => by rw [nx_upn]; split; omega; exact hb j hj) (ar_bk hN (ar_st hN ha hiN (by rw [nx_upn, if_pos rfl]) (fun j hj => by rw [nx_upn, if_neg hj])) hiN (by rw [nx_upn, if_pos rfl]) (fun j hj => by rw [nx_upn, if_neg hj])) hT (fun b hb10 => by
            rw [hT2 b hb10, w_free_s, nx_upn, if_pos rfl]
            have : (10 != b) = true := by rw [bne_iff_ne]; omega
            rw [this, Bool.and_true, w_free_c (f := gg_up bk i 10) (g := bk) (fun j hj => by rw [nx_upn, if_neg (by omega)])]) (nx_or_lt (n := 6) hG (by omega)) (fun x => by
            rw [nx_orB, hG2]
            by_cases z : i = x
            · subst z
              simp [w_ins_mem]
            · have : ¬ x = i := fun y => z y.symm
              simp [w_ins_mem, z, this])
          refine ⟨T', G', a', ?_, r⟩
          rw [← e]
          simp (disch := omega) only [nx_chk, nx_let, nx_b2, nx_b3, nx_b4, nx_b5, nx_b7, nx_b8, Option.bind_some, nx_l0, nx_l1, nx_l2, nx_l3, nx_l4, nx_l5, nx_l6, nx_l7, nx_l8, nx_l9, nx_l10, nx_l11, nx_l12, nx_l14, nx_l20, nx_l26, nx_l40, nx_l60, nx_l100, nx_l1000, nI_add, nx_sub, nx_m1, nx_in, nx_cl, nx_le, nx_ltI, nx_eq, nx_isb0, nx_isb1, nx_n9, nx_n9', nx_b9, nx_b9', nx_m1', Nat.reduceEqDiff, Nat.reduceLeDiff, Nat.reduceLT, Nat.reduceAdd, Nat.reduceSub, Nat.reduceMul, Nat.reduceDiv, Nat.reduceMod, Bool.false_eq_true, reduceIte, ite_true, ite_false, if_true, if_false, show ¬ N ≤ i by omega, ar_th hiN hN (hb i hiN) a20, q, (hk.1 i hiN).2, e_stay9 (kd i) (hk.1 i hiN).1 w hw, q2, e_tire9 (kd i) (hk.1 i hiN).1 w hw, a8, show k_tire (kd i) w ≤ st i by omega, nx_sh1n, nx_or]
          rfl
