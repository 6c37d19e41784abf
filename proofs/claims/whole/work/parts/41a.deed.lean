theorem be_w {β : Type} {W : Nat → Int32} (k : (Nat → Int32) → Option β) : ∀ (m j fuel : Nat) (w : Nat → Int32), j + m = 4 → m < fuel → ∃ w', lp_X2_become_31 W k fuel (nI j) w = k w' ∧ (∀ x, x < j → w' x = w x) ∧ ∀ x, j ≤ x → x < 4 → w' x = W x
  | 0, j, fuel + 1, w, hj, hf => by
    refine ⟨w, ?_, fun _ _ => rfl, fun x h1 h2 => by omega⟩
    rw [lp_X2_become_31, if_pos (show (4 : Int32) ≤ nI j from (nI_leI (a := 4) (by omega) (by omega)).2 (by omega))]
  | m + 1, j, fuel + 1, w, hj, hf => by
    obtain ⟨w', e, h1, h2⟩ := be_w k m (j + 1) fuel (upd w j (W j)) (by omega) (by omega)
    refine ⟨w', ?_, ?_, ?_⟩
    · rw [lp_X2_become_31, if_neg (show ¬ (4 : Int32) ≤ nI j from fun z => absurd ((nI_leI (a := 4) (by omega) (by omega)).1 z) (by omega)), nx_in (show j < 4 by omega) (by omega), nx_cl (by omega), nx_chk, nx_chk, nI_1]
      exact e
    · intro x hx
      rw [h1 x (by omega), pk_un (by omega)]
    · intro x h3 h4
      by_cases q : x = j
      · subst q
        rw [h1 x (by omega), pk_us]
      · exact h2 x (by omega) h4
theorem be_a {β : Type} {K H S B C : Nat → Int32} (k : (Nat → Int32) → (Nat → Int32) → (Nat → Int32) → (Nat → Int32) → (Nat → Int32) → Option β) : ∀ (m j fuel : Nat) (a b c d e : Nat → Int32), j + m = 6 → m < fuel → ∃ a' b' c' d' e', lp_X2_become_60 K H S B C k fuel (nI j) a b c d e = k a' b' c' d' e' ∧ (∀ x, x < j → a' x = a x ∧ b' x = b x ∧ c' x = c x ∧ d' x = d x ∧ e' x = e x) ∧ ∀ x, j ≤ x → x < 6 → a' x = K x ∧ b' x = H x ∧ c' x = S x ∧ d' x = B x ∧ e' x = C x
  | 0, j, fuel + 1, a, b, c, d, e, hj, hf => by
    refine ⟨a, b, c, d, e, ?_, fun _ _ => ⟨rfl, rfl, rfl, rfl, rfl⟩, fun x h1 h2 => by omega⟩
    rw [lp_X2_become_60, if_pos (show (6 : Int32) ≤ nI j from (nI_leI (a := 6) (by omega) (by omega)).2 (by omega))]
  | m + 1, j, fuel + 1, a, b, c, d, e, hj, hf => by
    obtain ⟨a', b', c', d', e', ee, h1, h2⟩ := be_a k m (j + 1) fuel (upd a j (K j)) (upd b j (H j)) (upd c j (S j)) (upd d j (B j)) (upd e j (C j)) (by omega) (by omega)
    refine ⟨a', b', c', d', e', ?_, ?_, ?_⟩
    · rw [lp_X2_become_60, if_neg (show ¬ (6 : Int32) ≤ nI j from fun z => absurd ((nI_leI (a := 6) (by omega) (by omega)).1 z) (by omega)), nx_in (show j < 6 by omega) (by omega), nx_cl (by omega)]
      simp only [nx_chk, nI_1]
      exact ee
    · intro x hx
      have := h1 x (by omega)
      rw [pk_un (by omega), pk_un (by omega), pk_un (by omega), pk_un (by omega), pk_un (by omega)] at this
      exact this
    · intro x h3 h4
      by_cases q : x = j
      · subst q
        have := h1 x (by omega)
        rw [pk_us, pk_us, pk_us, pk_us, pk_us] at this
        exact this
      · exact h2 x (by omega) h4
theorem be_come (huts food due backs : Int32) (winds kind home strength brown brick : Nat → Int32) (H Fd D : Int32) (W K Hm S Bn Bk : Nat → Int32) : ∃ w' k' h' s' n' b', f_X2_become huts food due backs winds kind home strength brown brick H Fd D W K Hm S Bn Bk = some (H, Fd, D, 0, w', k', h', s', n', b') ∧ (∀ j, j < 4 → w' j = W j) ∧ ∀ j, j < 6 → k' j = K j ∧ h' j = Hm j ∧ s' j = S j ∧ n' j = Bn j ∧ b' j = Bk j := by
  obtain ⟨F, hF, hF2⟩ : ∃ F, F = gg_fuel ∧ 50000 ≤ F := ⟨_, rfl, pu_F⟩
  obtain ⟨w', e1, -, h1⟩ := be_w (W := W) (fun (c_winds_58 : Nat → Int32) => (lp_X2_become_60 K Hm S Bn Bk (fun (c_kind_132 : Nat → Int32) (c_home_132 : Nat → Int32) (c_strength_132 : Nat → Int32) (c_brown_132 : Nat → Int32) (c_brick_132 : Nat → Int32) => (some (H, Fd, D, (0 : Int32), c_winds_58, c_kind_132, c_home_132, c_strength_132, c_brown_132, c_brick_132))) F (0 : Int32) kind home strength brown brick)) 4 0 F winds (by omega) (by omega)
  obtain ⟨a', b', c', d', f', e2, -, h2⟩ := be_a (K := K) (H := Hm) (S := S) (B := Bn) (C := Bk) (fun (c_kind_132 : Nat → Int32) (c_home_132 : Nat → Int32) (c_strength_132 : Nat → Int32) (c_brown_132 : Nat → Int32) (c_brick_132 : Nat → Int32) => (some (H, Fd, D, (0 : Int32), w', c_kind_132, c_home_132, c_strength_132, c_brown_132, c_brick_132))) 6 0 F kind home strength brown brick (by omega) (by omega)
  refine ⟨w', a', b', c', d', f', ?_, fun j hj => h1 j (by omega) hj, fun j hj => h2 j (by omega) hj⟩
  unfold f_X2_become
  rw [← hF]
  exact e1.trans e2
theorem fr_kw_c {N : Nat} (hN : N ≤ 6) {kd wd : Nat → Nat} {kind winds kind' winds' : Nat → Int32} (h : fr_kw N kd wd kind winds) (h1 : ∀ j, j < 6 → kind' j = kind j) (h2 : ∀ j, j < 4 → winds' j = winds j) : fr_kw N kd wd kind' winds' := ⟨fun i hi => ⟨(h.1 i hi).1, by rw [h1 i (by omega)]; exact (h.1 i hi).2⟩, fun j hj => ⟨(h.2 j hj).1, by rw [h2 j hj]; exact (h.2 j hj).2⟩⟩
theorem fr_fl_c {N : Nat} (hN : N ≤ 6) {f : FS_} {food due : Int32} {home strength brown brick home' strength' brown' brick' : Nat → Int32} (h : fr_fl N f food due home strength brown brick) (h1 : ∀ j, j < 6 → home' j = home j ∧ strength' j = strength j ∧ brown' j = brown j ∧ brick' j = brick j) : fr_fl N f food due home' strength' brown' brick' := ⟨h.1, h.2.1, fun i hi => by
  obtain ⟨a, b, c, d⟩ := h1 i (by omega)
  rw [a, b, c, d]
  exact h.2.2 i hi⟩
theorem fr_ar_c {N : Nat} (hN : N ≤ 6) {f : FS_} {a b : Nat → Int32} (h : fr_ar N f a) (hab : ∀ k, k < 26 → b k = a k) : fr_ar N f b := ⟨by rw [hab 0 (by omega)]; exact h.1, by rw [hab 1 (by omega)]; exact h.2.1, fun i hi => by
  rw [hab (2 + i) (by omega), hab (8 + i) (by omega), hab (14 + i) (by omega), hab (20 + i) (by omega)]
  exact h.2.2 i hi⟩
theorem cn_1 {β : Type} {a : Nat → Int32} (k : (Nat → Int32) → Option β) : ∀ (m j fuel : Nat) (w : Nat → Int32), j + m = 26 → m < fuel → ∃ w', lp_X9_copyNow_2 a k fuel (nI j) w = k w' ∧ (∀ x, x < j → w' x = w x) ∧ ∀ x, j ≤ x → x < 26 → w' x = a x
  | 0, j, fuel + 1, w, hj, hf => by
    refine ⟨w, ?_, fun _ _ => rfl, fun x h1 h2 => by omega⟩
    rw [lp_X9_copyNow_2, if_pos (show (26 : Int32) ≤ nI j from (nI_leI (a := 26) (by omega) (by omega)).2 (by omega))]
  | m + 1, j, fuel + 1, w, hj, hf => by
    obtain ⟨w', e, h1, h2⟩ := cn_1 k m (j + 1) fuel (upd w j (a j)) (by omega) (by omega)
    refine ⟨w', ?_, ?_, ?_⟩
    · rw [lp_X9_copyNow_2, if_neg (show ¬ (26 : Int32) ≤ nI j from fun z => absurd ((nI_leI (a := 26) (by omega) (by omega)).1 z) (by omega)), nx_in (show j < 26 by omega) (by omega), nx_cl (by omega), nx_chk, nx_chk, nI_1]
      exact e
    · intro x hx
      rw [h1 x (by omega), pk_un (by omega)]
    · intro x h3 h4
      by_cases q : x = j
      · subst q
        rw [h1 x (by omega), pk_us]
      · exact h2 x (by omega) h4
theorem cn_ (a b : Nat → Int32) : ∃ b', f_X9_copyNow a b = some b' ∧ ∀ k, k < 26 → b' k = a k := by
  obtain ⟨F, hF, hF2⟩ : ∃ F, F = gg_fuel ∧ 50000 ≤ F := ⟨_, rfl, pu_F⟩
  unfold f_X9_copyNow
  rw [← hF]
  obtain ⟨w', e, -, h⟩ := cn_1 (a := a) (fun x => some x) 26 0 F b (by omega) (by omega)
  exact ⟨w', e, fun k hk => h k (by omega) hk⟩
theorem rm_1 {β : Type} {D : Nat} (hD : D < 40) {a : Nat → Int32} (k : (Nat → Int32) → Option β) : ∀ (m j fuel : Nat) (w : Nat → Int32), j + m = 26 → m < fuel → ∃ w', lp_X9_remember_2 (nI D) a k fuel (nI j) w = k w' ∧ (∀ x, x < 26 * D + j → w' x = w x) ∧ ∀ x, j ≤ x → x < 26 → w' (26 * D + x) = a x
  | 0, j, fuel + 1, w, hj, hf => by
    refine ⟨w, ?_, fun _ _ => rfl, fun x h1 h2 => by omega⟩
    rw [lp_X9_remember_2, if_pos (show (26 : Int32) ≤ nI j from (nI_leI (a := 26) (by omega) (by omega)).2 (by omega))]
  | m + 1, j, fuel + 1, w, hj, hf => by
    obtain ⟨w', e, h1, h2⟩ := rm_1 hD k m (j + 1) fuel (upd w (26 * D + j) (a j)) (by omega) (by omega)
    have hx : (26 : Int32) * nI D + nI j = nI (26 * D + j) := by rw [nx_l26, pk_mul, nI_add]
    refine ⟨w', ?_, ?_, ?_⟩
    · rw [lp_X9_remember_2, if_neg (show ¬ (26 : Int32) ≤ nI j from fun z => absurd ((nI_leI (a := 26) (by omega) (by omega)).1 z) (by omega)), hx, nx_in (show j < 26 by omega) (by omega), nx_in (show 26 * D + j < 1040 by omega) (by omega), nx_cl (show j < 2147483648 by omega), nx_cl (show 26 * D + j < 2147483648 by omega), nx_chk, nx_chk, nI_1]
      exact e
    · intro x hx
      rw [h1 x (by omega), pk_un (by omega)]
    · intro x h3 h4
      by_cases q : x = j
      · subst q
        rw [h1 (26 * D + x) (by omega), pk_us]
      · exact h2 x (by omega) h4
theorem rm_ {D : Nat} (hD : D < 40) (a w : Nat → Int32) : ∃ w', f_X9_remember (nI D) a w = some (nI (D + 1), w') ∧ (∀ x, x < 26 * D → w' x = w x) ∧ ∀ k, k < 26 → w' (26 * D + k) = a k := by
  obtain ⟨F, hF, hF2⟩ : ∃ F, F = gg_fuel ∧ 50000 ≤ F := ⟨_, rfl, pu_F⟩
  unfold f_X9_remember
  rw [← hF, nI_1]
  obtain ⟨w', e, h1, h⟩ := rm_1 hD (a := a) (fun x => some (nI (D + 1), x)) 26 0 F w (by omega) (by omega)
  exact ⟨w', e, fun x hx => h1 x (by omega), fun k hk => h k (by omega) hk⟩
theorem fl_beFed {N : Nat} (hN : N ≤ 6) {f : FS_} (ok : fr_ok N f) {food due : Int32} {home strength brown brick : Nat → Int32} (hf : fr_fl N f food due home strength brown brick) {i : Nat} (hi : i < N) : f_X2_beFed (nI i) (nI N) food strength brick = some (if f.2.2.2.2.2 i ≠ 10 ∧ 0 < f.1 then (nI (f.1 - 1), upd strength i (nI (min (f.2.2.2.1 i + 2) 9))) else (food, strength)) := by
  obtain ⟨h1, h2, h3⟩ := ok
  have hb : fl_b N f.2.2.2.2.2 brick := fr_fl_b hf ⟨h1, h2, h3⟩
  have hs := (h2 i hi).2.1
  obtain ⟨e1, e2, e3⟩ := hf
  subst e1
  unfold f_X2_beFed f_X2_canBeFed
  rw [fl_th hi hN (hb i hi).2 (hb i hi).1]
  by_cases q : f.2.2.2.2.2 i = 10
  · simp (disch := omega) only [nx_chk, nx_let, nx_b2, nx_b3, nx_b4, nx_b5, nx_b7, nx_b8, Option.bind_some, nx_l0, nx_l1, nx_l2, nx_l3, nx_l4, nx_l5, nx_l6, nx_l7, nx_l8, nx_l9, nx_l10, nx_l11, nx_l12, nx_l14, nx_l20, nx_l26, nx_l40, nx_l60, nx_l100, nx_l1000, nI_add, nx_sub, nx_m1, nx_in, nx_cl, nx_le, nx_ltI, nx_eq, nx_isb0, nx_isb1, nx_n9, nx_n9', nx_b9, nx_b9', nx_m1', Nat.reduceEqDiff, Nat.reduceLeDiff, Nat.reduceLT, Nat.reduceAdd, Nat.reduceSub, Nat.reduceMul, Nat.reduceDiv, Nat.reduceMod, Bool.false_eq_true, reduceIte, ite_true, ite_false, if_true, if_false, q, ne_eq, not_true_eq_false, false_and]
  · by_cases q2 : 0 < f.1
    · simp (disch := omega) only [nx_chk, nx_let, nx_b2, nx_b3, nx_b4, nx_b5, nx_b7, nx_b8, Option.bind_some, nx_l0, nx_l1, nx_l2, nx_l3, nx_l4, nx_l5, nx_l6, nx_l7, nx_l8, nx_l9, nx_l10, nx_l11, nx_l12, nx_l14, nx_l20, nx_l26, nx_l40, nx_l60, nx_l100, nx_l1000, nI_add, nx_sub, nx_m1, nx_in, nx_cl, nx_le, nx_ltI, nx_eq, nx_isb0, nx_isb1, nx_n9, nx_n9', nx_b9, nx_b9', nx_m1', Nat.reduceEqDiff, Nat.reduceLeDiff, Nat.reduceLT, Nat.reduceAdd, Nat.reduceSub, Nat.reduceMul, Nat.reduceDiv, Nat.reduceMod, Bool.false_eq_true, reduceIte, ite_true, ite_false, if_true, if_false, q, q2, show ¬ f.1 ≤ 0 by omega, ne_eq, not_false_eq_true, and_self, (e3 i hi).2.1, fl_min]
    · simp (disch := omega) only [nx_chk, nx_let, nx_b2, nx_b3, nx_b4, nx_b5, nx_b7, nx_b8, Option.bind_some, nx_l0, nx_l1, nx_l2, nx_l3, nx_l4, nx_l5, nx_l6, nx_l7, nx_l8, nx_l9, nx_l10, nx_l11, nx_l12, nx_l14, nx_l20, nx_l26, nx_l40, nx_l60, nx_l100, nx_l1000, nI_add, nx_sub, nx_m1, nx_in, nx_cl, nx_le, nx_ltI, nx_eq, nx_isb0, nx_isb1, nx_n9, nx_n9', nx_b9, nx_b9', nx_m1', Nat.reduceEqDiff, Nat.reduceLeDiff, Nat.reduceLT, Nat.reduceAdd, Nat.reduceSub, Nat.reduceMul, Nat.reduceDiv, Nat.reduceMod, Bool.false_eq_true, reduceIte, ite_true, ite_false, if_true, if_false, q, q2, show f.1 ≤ 0 by omega, ne_eq, and_false]
theorem fl_doTo {N : Nat} (hN : N ≤ 6) {kd wd : Nat → Nat} {kind winds : Nat → Int32} (hk : fr_kw N kd wd kind winds) {f : FS_} (ok : fr_ok N f) (hd : f.2.1 < 99) {c : Nat} (hc : fr_cv N c) {food due : Int32} {home strength brown brick : Nat → Int32} (hf : fr_fl N f food due home strength brown brick) (backs : Int32) (back : Nat → Int32) :
    ∃ food' due' backs' home' strength' brown' brick' back', f_X4_doTo (nI c) (nI N) food due backs winds kind home strength brown brick back = some (food', due', backs', home', strength', brown', brick', back') ∧ fr_fl N (fr_deed N kd wd c f) food' due' home' strength' brown' brick' := by
  unfold f_X4_doTo
  rcases fr_dl (kd := kd) (wd := wd) (f := f) hN hc with ⟨ec, e⟩ | ⟨i, hi, ec, e⟩ | ⟨i, j, hi, hj, ne, ec, e⟩ | ⟨i, hi, ec, e⟩
  · subst ec
    rw [e]
    obtain ⟨s', n', b', k', e1, e2, -⟩ := fl_winter hN hk (fr_bd_of ok hd) hf backs back
    refine ⟨nI (w_win N kd wd f).1, nI (w_win N kd wd f).2.1, nI (w_fly N kd wd f).2.2.2.length, home, s', n', b', k', ?_, e2⟩
    simp only [nx_let]
    rw [if_pos (show nI 0 / 100 = 0 by decide), e1, nx_b7]
  · subst ec
    rw [e]
    have q1 : nI (100 + 10 * i) / 100 = nI 1 := by rw [nx_l100, nx_div (by omega) (by omega) (by omega)]; congr 1; omega
    have q2 : nI (100 + 10 * i) / 10 - nI (100 + 10 * i) / 10 / 10 * 10 = nI i := by
      rw [nx_l10, nx_div (by omega) (by omega) (by omega), nx_div (by omega) (by omega) (by omega), pk_mul, nx_sub (by omega)]; congr 1; omega
    rw [q1, q2, fl_beFed hN ok hf hi]
    simp only [nx_let]
    rw [if_neg (show ¬ nI 1 = 0 by decide), if_pos (show nI 1 = 1 by decide)]
    by_cases q : f.2.2.2.2.2 i ≠ 10 ∧ 0 < f.1
    · rw [if_pos q, if_pos q, nx_b2]
      refine ⟨_, _, _, _, _, _, _, _, rfl, rfl, hf.2.1, fun a ha => ?_⟩
      obtain ⟨h1, h2, h3, h4⟩ := hf.2.2 a ha
      refine ⟨h1, ?_, h3, h4⟩
      show upd strength i _ a = nI (gg_up f.2.2.2.1 i (min (f.2.2.2.1 i + 2) 9) a)
      rw [nx_upd, nx_upn]
      split
      · rfl
      · exact h2
    · rw [if_neg q, if_neg q, nx_b2]
      exact ⟨_, _, _, _, _, _, _, _, rfl, hf⟩
  · subst ec
    rw [e]
    have q1 : nI (200 + 10 * i + j) / 100 = nI 2 := by rw [nx_l100, nx_div (by omega) (by omega) (by omega)]; congr 1; omega
    have q2 : nI (200 + 10 * i + j) / 10 - nI (200 + 10 * i + j) / 10 / 10 * 10 = nI i := by
      rw [nx_l10, nx_div (by omega) (by omega) (by omega), nx_div (by omega) (by omega) (by omega), pk_mul, nx_sub (by omega)]; congr 1; omega
    have q3 : nI (200 + 10 * i + j) - nI (200 + 10 * i + j) / 10 * 10 = nI j := by
      rw [nx_l10, nx_div (by omega) (by omega) (by omega), pk_mul, nx_sub (by omega)]; congr 1; omega
    rw [q1, q2, q3]
    unfold f_X2_changeHomes
    rw [fl_kn hi hN, fl_kn hj hN]
    refine ⟨food, due, backs, upd (upd home i (home j)) j (home i), strength, brown, brick, back, ?_, hf.1, hf.2.1, fun a ha => ?_⟩
    · simp (disch := omega) only [nx_chk, nx_let, nx_b2, nx_b3, nx_b4, nx_b5, nx_b7, nx_b8, Option.bind_some, nx_l0, nx_l1, nx_l2, nx_l3, nx_l4, nx_l5, nx_l6, nx_l7, nx_l8, nx_l9, nx_l10, nx_l11, nx_l12, nx_l14, nx_l20, nx_l26, nx_l40, nx_l60, nx_l100, nx_l1000, nI_add, nx_sub, nx_m1, nx_in, nx_cl, nx_le, nx_ltI, nx_eq, nx_isb0, nx_isb1, nx_n9, nx_n9', nx_b9, nx_b9', nx_m1', Nat.reduceEqDiff, Nat.reduceLeDiff, Nat.reduceLT, Nat.reduceAdd, Nat.reduceSub, Nat.reduceMul, Nat.reduceDiv, Nat.reduceMod, Bool.false_eq_true, reduceIte, ite_true, ite_false, if_true, if_false]
    · obtain ⟨h1, h2, h3, h4⟩ := hf.2.2 a ha
      refine ⟨?_, h2, h3, h4⟩
      show upd (upd home i (home j)) j (home i) a = nI (gg_up (gg_up f.2.2.1 i (f.2.2.1 j)) j (f.2.2.1 i) a)
      rw [nx_upd, nx_upn, nx_upd, nx_upn]
      split
      · exact (hf.2.2 i hi).1
      · split
        · exact (hf.2.2 j hj).1
        · exact h1
  · subst ec
    rw [e]
    have q1 : nI (300 + 10 * i) / 100 = nI 3 := by rw [nx_l100, nx_div (by omega) (by omega) (by omega)]; congr 1; omega
    have q2 : nI (300 + 10 * i) / 10 - nI (300 + 10 * i) / 10 / 10 * 10 = nI i := by
      rw [nx_l10, nx_div (by omega) (by omega) (by omega), nx_div (by omega) (by omega) (by omega), pk_mul, nx_sub (by omega)]; congr 1; omega
    rw [q1, q2]
    unfold f_X2_lose
    rw [fl_kn hi hN]
    refine ⟨food, due, backs, home, strength, brown, upd brick i (-9), back, ?_, hf.1, hf.2.1, fun a ha => ?_⟩
    · simp (disch := omega) only [nx_chk, nx_let, nx_b2, nx_b3, nx_b4, nx_b5, nx_b7, nx_b8, Option.bind_some, nx_l0, nx_l1, nx_l2, nx_l3, nx_l4, nx_l5, nx_l6, nx_l7, nx_l8, nx_l9, nx_l10, nx_l11, nx_l12, nx_l14, nx_l20, nx_l26, nx_l40, nx_l60, nx_l100, nx_l1000, nI_add, nx_sub, nx_m1, nx_in, nx_cl, nx_le, nx_ltI, nx_eq, nx_isb0, nx_isb1, nx_n9, nx_n9', nx_b9, nx_b9', nx_m1', Nat.reduceEqDiff, Nat.reduceLeDiff, Nat.reduceLT, Nat.reduceAdd, Nat.reduceSub, Nat.reduceMul, Nat.reduceDiv, Nat.reduceMod, Bool.false_eq_true, reduceIte, ite_true, ite_false, if_true, if_false]
    · obtain ⟨h1, h2, h3, h4⟩ := hf.2.2 a ha
      refine ⟨h1, h2, h3, ?_⟩
      show upd brick i (-9) a = k_bI (gg_up f.2.2.2.2.2 i 10 a)
      rw [nx_upd, nx_upn]
      split
      · rfl
      · exact h4
