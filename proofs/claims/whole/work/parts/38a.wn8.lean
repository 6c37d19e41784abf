def fr_bd (N : Nat) (f : FS_) : Prop := f.1 < 1000 ∧ f.2.1 < 99 ∧ (∀ i, i < N → f.2.2.1 i < 10 ∧ f.2.2.2.1 i < 1000 ∧ f.2.2.2.2.1 i ≤ 9 ∧ f.2.2.2.2.2 i ≤ 10)
theorem fl_kn {i N : Nat} (h : i < N) (hN : N ≤ 6) : f_X2_knows (nI i) (nI N) = some (nI 1) := by
  unfold f_X2_knows
  simp (disch := omega) only [nx_chk, nx_let, nx_b2, nx_b3, nx_b4, nx_b5, nx_b7, nx_b8, Option.bind_some, nx_l0, nx_l1, nx_l2, nx_l3, nx_l4, nx_l5, nx_l6, nx_l7, nx_l8, nx_l9, nx_l10, nx_l11, nx_l12, nx_l14, nx_l20, nx_l26, nx_l40, nx_l60, nx_l100, nx_l1000, nI_add, nx_sub, nx_m1, nx_in, nx_cl, nx_le, nx_ltI, nx_eq, nx_isb0, nx_isb1, nx_n9, nx_n9', nx_b9, nx_b9', nx_m1', Nat.reduceEqDiff, Nat.reduceLeDiff, Nat.reduceLT, Nat.reduceAdd, Nat.reduceSub, Nat.reduceMul, Nat.reduceDiv, Nat.reduceMod, Bool.false_eq_true, reduceIte, ite_true, ite_false, if_true, if_false, show ¬ i < 0 by omega, show ¬ N ≤ i by omega]
theorem fl_knO {a : Int32} {N : Nat} (h : a < 0 ∨ nI N ≤ a) : f_X2_knows a (nI N) = some (nI 0) := by
  unfold f_X2_knows
  simp only [nx_let]
  by_cases q : a < 0
  · rw [if_pos q]; rfl
  · rw [if_neg q, if_pos (h.resolve_left q)]; rfl
theorem fl_th {i N : Nat} (h : i < N) (hN : N ≤ 6) {brick : Nat → Int32} {x : Nat} (hx : x ≤ 10) (hb : brick i = k_bI x) : f_X2_isThere (nI i) (nI N) brick = some (if x = 10 then nI 0 else nI 1) := by
  unfold f_X2_isThere
  rw [fl_kn h hN]
  by_cases q : x = 10
  · simp (disch := omega) only [nx_chk, nx_let, nx_b2, nx_b3, nx_b4, nx_b5, nx_b7, nx_b8, Option.bind_some, nx_l0, nx_l1, nx_l2, nx_l3, nx_l4, nx_l5, nx_l6, nx_l7, nx_l8, nx_l9, nx_l10, nx_l11, nx_l12, nx_l14, nx_l20, nx_l26, nx_l40, nx_l60, nx_l100, nx_l1000, nI_add, nx_sub, nx_m1, nx_in, nx_cl, nx_le, nx_ltI, nx_eq, nx_isb0, nx_isb1, nx_n9, nx_n9', nx_b9, nx_b9', nx_m1', Nat.reduceEqDiff, Nat.reduceLeDiff, Nat.reduceLT, Nat.reduceAdd, Nat.reduceSub, Nat.reduceMul, Nat.reduceDiv, Nat.reduceMod, Bool.false_eq_true, reduceIte, ite_true, ite_false, if_true, if_false, hb, nx_b9, q]
  · simp (disch := omega) only [nx_chk, nx_let, nx_b2, nx_b3, nx_b4, nx_b5, nx_b7, nx_b8, Option.bind_some, nx_l0, nx_l1, nx_l2, nx_l3, nx_l4, nx_l5, nx_l6, nx_l7, nx_l8, nx_l9, nx_l10, nx_l11, nx_l12, nx_l14, nx_l20, nx_l26, nx_l40, nx_l60, nx_l100, nx_l1000, nI_add, nx_sub, nx_m1, nx_in, nx_cl, nx_le, nx_ltI, nx_eq, nx_isb0, nx_isb1, nx_n9, nx_n9', nx_b9, nx_b9', nx_m1', Nat.reduceEqDiff, Nat.reduceLeDiff, Nat.reduceLT, Nat.reduceAdd, Nat.reduceSub, Nat.reduceMul, Nat.reduceDiv, Nat.reduceMod, Bool.false_eq_true, reduceIte, ite_true, ite_false, if_true, if_false, hb, nx_b9, q]
theorem fl_wd {N : Nat} {kd wd : Nat → Nat} {kind winds : Nat → Int32} (hk : fr_kw N kd wd kind winds) {d : Nat} (hd : d < 100) : f_X2_windDue (nI d) winds = some (nI (wd (d % 4))) := by
  unfold f_X2_windDue
  rw [e_floorMod d hd]
  simp (disch := omega) only [nx_chk, nx_let, nx_b2, nx_b3, nx_b4, nx_b5, nx_b7, nx_b8, Option.bind_some, nx_l0, nx_l1, nx_l2, nx_l3, nx_l4, nx_l5, nx_l6, nx_l7, nx_l8, nx_l9, nx_l10, nx_l11, nx_l12, nx_l14, nx_l20, nx_l26, nx_l40, nx_l60, nx_l100, nx_l1000, nI_add, nx_sub, nx_m1, nx_in, nx_cl, nx_le, nx_ltI, nx_eq, nx_isb0, nx_isb1, nx_n9, nx_n9', nx_b9, nx_b9', nx_m1', Nat.reduceEqDiff, Nat.reduceLeDiff, Nat.reduceLT, Nat.reduceAdd, Nat.reduceSub, Nat.reduceMul, Nat.reduceDiv, Nat.reduceMod, Bool.false_eq_true, reduceIte, ite_true, ite_false, if_true, if_false, (hk.2 (d % 4) (by omega)).2]
theorem fl_ahead {N : Nat} (hN : N ≤ 6) {kd wd st : Nat → Nat} {kind winds strength : Nat → Int32} (hk : fr_kw N kd wd kind winds) (hs : ∀ j, j < N → strength j = nI (st j) ∧ st j < 1000) {i x : Nat} (hi : i < N) (hx : x < N) : f_X2_isAheadOf (nI i) (nI x) kind strength = some (if w_ahead kd st i x = true then nI 1 else nI 0) := by
  unfold f_X2_isAheadOf
  have h1 : k_late (kd i) < 1000 := by unfold k_late; split <;> (try split) <;> (try split) <;> omega
  have h2 : k_late (kd x) < 1000 := by unfold k_late; split <;> (try split) <;> (try split) <;> omega
  have h3 := (hs i hi).2
  have h4 := (hs x hx).2
  simp (disch := omega) only [nx_chk, nx_let, nx_b2, nx_b3, nx_b4, nx_b5, nx_b7, nx_b8, Option.bind_some, nx_l0, nx_l1, nx_l2, nx_l3, nx_l4, nx_l5, nx_l6, nx_l7, nx_l8, nx_l9, nx_l10, nx_l11, nx_l12, nx_l14, nx_l20, nx_l26, nx_l40, nx_l60, nx_l100, nx_l1000, nI_add, nx_sub, nx_m1, nx_in, nx_cl, nx_le, nx_ltI, nx_eq, nx_isb0, nx_isb1, nx_n9, nx_n9', nx_b9, nx_b9', nx_m1', Nat.reduceEqDiff, Nat.reduceLeDiff, Nat.reduceLT, Nat.reduceAdd, Nat.reduceSub, Nat.reduceMul, Nat.reduceDiv, Nat.reduceMod, Bool.false_eq_true, reduceIte, ite_true, ite_false, if_true, if_false, (hk.1 i hi).2, (hk.1 x hx).2, e_late8 (kd i) (hk.1 i hi).1, e_late8 (kd x) (hk.1 x hx).1, (hs i hi).1, (hs x hx).1]
  unfold w_ahead
  by_cases q : k_late (kd i) = k_late (kd x)
  · by_cases q2 : st i ≤ st x
    · simp only [q, q2, if_true, show ¬ st x < st i by omega]
      rfl
    · simp only [q, q2, if_true, if_false, show st x < st i by omega]
      rfl
  · by_cases q2 : k_late (kd x) ≤ k_late (kd i)
    · simp only [q, q2, if_true, if_false, show ¬ k_late (kd i) < k_late (kd x) by omega]
      rfl
    · simp only [q, q2, if_true, if_false, show k_late (kd i) < k_late (kd x) by omega]
      rfl
def fl_arr (a : Nat → Int32) : List Nat → Prop
  | [] => True
  | x :: xs => a xs.length = nI x ∧ fl_arr a xs
theorem fl_arr_c {a b : Nat → Int32} : ∀ {l : List Nat}, (∀ j, j < l.length → a j = b j) → fl_arr a l → fl_arr b l
  | [], _, _ => trivial
  | x :: xs, h, q => ⟨by rw [← h xs.length (by simp)]; exact q.1, fl_arr_c (fun j hj => h j (by simp; omega)) q.2⟩
theorem fl_arr_f {a : Nat → Int32} : ∀ {l : List Nat}, fl_arr a l → ∀ p, p < l.length → a p = nI (l.reverse.getD p 0)
  | [], _, p, hp => absurd hp (by simp)
  | x :: xs, q, p, hp => by
    by_cases h : p = xs.length
    · subst h
      rw [q.1]
      simp
    · have hp' : p < xs.length := by simp at hp; omega
      rw [fl_arr_f q.2 p hp', List.reverse_cons, List.getD_eq_getElem?_getD, List.getD_eq_getElem?_getD, List.getElem?_append_left (by simp; exact hp')]
theorem w_ins_len (kd st : Nat → Nat) (i : Nat) : ∀ l, (w_ins kd st i l).length = l.length + 1
  | [] => rfl
  | x :: xs => by
    unfold w_ins
    split
    · simp [w_ins_len kd st i xs]
    · simp
theorem w_ins_mem (kd st : Nat → Nat) (i : Nat) : ∀ l j, j ∈ w_ins kd st i l ↔ j = i ∨ j ∈ l
  | [], j => by simp [w_ins]
  | x :: xs, j => by
    unfold w_ins
    split
    · rw [List.mem_cons, w_ins_mem kd st i xs j, List.mem_cons]
      constructor
      · rintro (h | h | h)
        · exact Or.inr (Or.inl h)
        · exact Or.inl h
        · exact Or.inr (Or.inr h)
      · rintro (h | h | h)
        · exact Or.inr (Or.inl h)
        · exact Or.inl h
        · exact Or.inr (Or.inr h)
    · rw [List.mem_cons]
theorem fl_go {β : Type} {N : Nat} (hN : N ≤ 6) {kd wd st : Nat → Nat} {kind winds strength : Nat → Int32} (hk : fr_kw N kd wd kind winds) (hs : ∀ j, j < N → strength j = nI (st j) ∧ st j < 1000) {i : Nat} (hi : i < N) (k : Int32 → (Nat → Int32) → Option β) : ∀ (l : List Nat) (fuel : Nat) (a : Nat → Int32), (∀ x, x ∈ l → x < N) → fl_arr a l → l.length < fuel → l.length < 6 → ∃ b a', lp_X2_go_50 (nI i) kind strength k fuel (nI l.length) a = k (nI b) a' ∧ b ≤ l.length ∧ fl_arr (upd a' b (nI i)) (w_ins kd st i l) ∧ ∀ p, l.length < p → a' p = a p
  | [], fuel + 1, a, hm, ha, hf, h6 => by
    refine ⟨0, a, ?_, by simp, ?_, fun _ _ => rfl⟩
    · rw [lp_X2_go_50]
      simp (disch := omega) only [nx_chk, nx_let, nx_b2, nx_b3, nx_b4, nx_b5, nx_b7, nx_b8, Option.bind_some, nx_l0, nx_l1, nx_l2, nx_l3, nx_l4, nx_l5, nx_l6, nx_l7, nx_l8, nx_l9, nx_l10, nx_l11, nx_l12, nx_l14, nx_l20, nx_l26, nx_l40, nx_l60, nx_l100, nx_l1000, nI_add, nx_sub, nx_m1, nx_in, nx_cl, nx_le, nx_ltI, nx_eq, nx_isb0, nx_isb1, nx_n9, nx_n9', nx_b9, nx_b9', nx_m1', Nat.reduceEqDiff, Nat.reduceLeDiff, Nat.reduceLT, Nat.reduceAdd, Nat.reduceSub, Nat.reduceMul, Nat.reduceDiv, Nat.reduceMod, Bool.false_eq_true, reduceIte, ite_true, ite_false, if_true, if_false, List.length_nil, Nat.le_refl]
    · exact ⟨by simp [pk_us], trivial⟩
  | x :: xs, fuel + 1, a, hm, ha, hf, h6 => by
    have hl : xs.length + 1 < 6 := by simpa using h6
    by_cases q : w_ahead kd st i x = true
    · obtain ⟨b, a', e, hb, hr, hp⟩ := fl_go hN hk hs hi k xs fuel (upd a (xs.length + 1) (nI x)) (fun y hy => hm y (List.mem_cons_of_mem _ hy)) (fl_arr_c (fun j hj => by rw [pk_un (by omega)]) ha.2) (by simp at hf; omega) (by omega)
      refine ⟨b, a', ?_, by simp; omega, ?_, ?_⟩
      · rw [lp_X2_go_50]
        simp (disch := omega) only [nx_chk, nx_let, nx_b2, nx_b3, nx_b4, nx_b5, nx_b7, nx_b8, Option.bind_some, nx_l0, nx_l1, nx_l2, nx_l3, nx_l4, nx_l5, nx_l6, nx_l7, nx_l8, nx_l9, nx_l10, nx_l11, nx_l12, nx_l14, nx_l20, nx_l26, nx_l40, nx_l60, nx_l100, nx_l1000, nI_add, nx_sub, nx_m1, nx_in, nx_cl, nx_le, nx_ltI, nx_eq, nx_isb0, nx_isb1, nx_n9, nx_n9', nx_b9, nx_b9', nx_m1', Nat.reduceEqDiff, Nat.reduceLeDiff, Nat.reduceLT, Nat.reduceAdd, Nat.reduceSub, Nat.reduceMul, Nat.reduceDiv, Nat.reduceMod, Bool.false_eq_true, reduceIte, ite_true, ite_false, if_true, if_false, List.length_cons, show ¬ xs.length + 1 ≤ 0 by omega, Nat.add_sub_cancel, ha.1, fl_ahead hN hk hs hi (hm x (List.mem_cons_self ..)), q, show ¬ (1 = 0) by omega]
        exact e
      · unfold w_ins
        rw [if_pos q]
        refine ⟨?_, hr⟩
        rw [w_ins_len, pk_un (by omega), hp _ (by omega), pk_us]
      · intro p hp2
        rw [hp p (by simp at hp2; omega), pk_un (by simp at hp2; omega)]
    · refine ⟨xs.length + 1, a, ?_, by simp, ?_, fun _ _ => rfl⟩
      · rw [lp_X2_go_50]
        simp (disch := omega) only [nx_chk, nx_let, nx_b2, nx_b3, nx_b4, nx_b5, nx_b7, nx_b8, Option.bind_some, nx_l0, nx_l1, nx_l2, nx_l3, nx_l4, nx_l5, nx_l6, nx_l7, nx_l8, nx_l9, nx_l10, nx_l11, nx_l12, nx_l14, nx_l20, nx_l26, nx_l40, nx_l60, nx_l100, nx_l1000, nI_add, nx_sub, nx_m1, nx_in, nx_cl, nx_le, nx_ltI, nx_eq, nx_isb0, nx_isb1, nx_n9, nx_n9', nx_b9, nx_b9', nx_m1', Nat.reduceEqDiff, Nat.reduceLeDiff, Nat.reduceLT, Nat.reduceAdd, Nat.reduceSub, Nat.reduceMul, Nat.reduceDiv, Nat.reduceMod, Bool.false_eq_true, reduceIte, ite_true, ite_false, if_true, if_false, List.length_cons, show ¬ xs.length + 1 ≤ 0 by omega, Nat.add_sub_cancel, ha.1, fl_ahead hN hk hs hi (hm x (List.mem_cons_self ..)), q]
      · unfold w_ins
        rw [if_neg q]
        refine ⟨by simp [pk_us], ?_⟩
        exact ⟨by rw [pk_un (by omega)]; exact ha.1, fl_arr_c (fun j hj => by rw [pk_un (by omega)]) ha.2⟩
