def w_d (a b : Nat) : Nat := if b ≤ a then a - b else b - a
theorem ar_apart {a b : Nat} (ha : a < 1000) (hb : b < 1000) : f_X9_apart (nI a) (nI b) = some (nI (w_d a b)) := by
  unfold f_X9_apart w_d
  by_cases q : b ≤ a
  · simp (disch := omega) only [nx_chk, nx_let, nx_b2, nx_b3, nx_b4, nx_b5, nx_b7, nx_b8, Option.bind_some, nx_l0, nx_l1, nx_l2, nx_l3, nx_l4, nx_l5, nx_l6, nx_l7, nx_l8, nx_l9, nx_l10, nx_l11, nx_l12, nx_l14, nx_l20, nx_l26, nx_l40, nx_l60, nx_l100, nx_l1000, nI_add, nx_sub, nx_m1, nx_in, nx_cl, nx_le, nx_ltI, nx_eq, nx_isb0, nx_isb1, nx_n9, nx_n9', nx_b9, nx_b9', nx_m1', Nat.reduceEqDiff, Nat.reduceLeDiff, Nat.reduceLT, Nat.reduceAdd, Nat.reduceSub, Nat.reduceMul, Nat.reduceDiv, Nat.reduceMod, Bool.false_eq_true, reduceIte, ite_true, ite_false, if_true, if_false, q]
  · simp (disch := omega) only [nx_chk, nx_let, nx_b2, nx_b3, nx_b4, nx_b5, nx_b7, nx_b8, Option.bind_some, nx_l0, nx_l1, nx_l2, nx_l3, nx_l4, nx_l5, nx_l6, nx_l7, nx_l8, nx_l9, nx_l10, nx_l11, nx_l12, nx_l14, nx_l20, nx_l26, nx_l40, nx_l60, nx_l100, nx_l1000, nI_add, nx_sub, nx_m1, nx_in, nx_cl, nx_le, nx_ltI, nx_eq, nx_isb0, nx_isb1, nx_n9, nx_n9', nx_b9, nx_b9', nx_m1', Nat.reduceEqDiff, Nat.reduceLeDiff, Nat.reduceLT, Nat.reduceAdd, Nat.reduceSub, Nat.reduceMul, Nat.reduceDiv, Nat.reduceMod, Bool.false_eq_true, reduceIte, ite_true, ite_false, if_true, if_false, q]
def w_land (T p : Nat) : Nat → Nat → Nat
  | 0, best => best
  | b + 1, best => w_land T p b (if T.testBit b = false ∧ (best = 10 ∨ w_d b p ≤ w_d best p) then b else best)
theorem w_land_eq : ∀ p, p < 10 → ∀ T, T < 1024 → w_land T p 10 10 = w_near (fun b => !T.testBit b) p 10 0 := by decide +kernel
theorem w_land_c {T S p : Nat} : ∀ (m best : Nat), (∀ b, b < m → T.testBit b = S.testBit b) → w_land T p m best = w_land S p m best
  | 0, _, _ => rfl
  | m + 1, best, h => by
    unfold w_land
    rw [h m (by omega)]
    exact w_land_c m _ (fun b hb => h b (by omega))
theorem ar_landing1 {p T : Nat} (hp : p < 10) (hT : T < 2147483648) : ∀ (m fuel best : Nat), m ≤ 10 → m < fuel → best ≤ 10 → lp_X9_landing_6 (nI p) (nI T) (fun (x2_61 : Int32) => (some x2_61)) fuel (k_bI best) (nI m + (-1)) = some (k_bI (w_land T p m best))
  | 0, fuel + 1, best, hm, hf, hb => by
    rw [lp_X9_landing_6]
    rfl
  | m + 1, fuel + 1, best, hm, hf, hb => by
    rw [pk_m1, lp_X9_landing_6]
    unfold w_land
    have ih := fun best hb => ar_landing1 (p := p) (T := T) hp hT m fuel best (by omega) (by omega) hb
    rw [if_neg (by simp (disch := omega) only [nx_chk, nx_let, nx_b2, nx_b3, nx_b4, nx_b5, nx_b7, nx_b8, Option.bind_some, nx_l0, nx_l1, nx_l2, nx_l3, nx_l4, nx_l5, nx_l6, nx_l7, nx_l8, nx_l9, nx_l10, nx_l11, nx_l12, nx_l14, nx_l20, nx_l26, nx_l40, nx_l60, nx_l100, nx_l1000, nI_add, nx_sub, nx_m1, nx_in, nx_cl, nx_le, nx_ltI, nx_eq, nx_isb0, nx_isb1, nx_n9, nx_n9', nx_b9, nx_b9', nx_m1', Nat.reduceEqDiff, Nat.reduceLeDiff, Nat.reduceLT, Nat.reduceAdd, Nat.reduceSub, Nat.reduceMul, Nat.reduceDiv, Nat.reduceMod, Bool.false_eq_true, reduceIte, ite_true, ite_false, if_true, if_false]; omega)]
    simp only [nx_let]
    by_cases q : best = 10
    · subst q
      rw [if_pos (by decide), nx_has hT (by omega), Option.bind_some]
      by_cases q2 : T.testBit m = true
      · rw [if_pos q2, if_neg (by decide), if_neg (fun z => by rw [q2] at z; exact absurd z.1 (by decide)), ih 10 (by omega)]
      · rw [if_neg q2, if_pos (by decide), if_neg (by decide), if_pos ⟨by simpa using q2, Or.inl rfl⟩, ← ih m (by omega), nx_bI (by omega)]
    · rw [if_neg (fun z => q (by rw [nx_b9 hb] at z; exact z)), nx_bI q, ar_apart (by omega) (by omega), Option.bind_some, ar_apart (by omega) (by omega), Option.bind_some, nx_has hT (by omega), Option.bind_some, Option.bind_some, ← nx_bI q]
      have hd1 : w_d m p < 1000 := by unfold w_d; split <;> omega
      have hd2 : w_d best p < 1000 := by unfold w_d; split <;> omega
      by_cases q3 : w_d m p ≤ w_d best p
      · rw [if_neg (by simp (disch := omega) only [nx_chk, nx_let, nx_b2, nx_b3, nx_b4, nx_b5, nx_b7, nx_b8, Option.bind_some, nx_l0, nx_l1, nx_l2, nx_l3, nx_l4, nx_l5, nx_l6, nx_l7, nx_l8, nx_l9, nx_l10, nx_l11, nx_l12, nx_l14, nx_l20, nx_l26, nx_l40, nx_l60, nx_l100, nx_l1000, nI_add, nx_sub, nx_m1, nx_in, nx_cl, nx_le, nx_ltI, nx_eq, nx_isb0, nx_isb1, nx_n9, nx_n9', nx_b9, nx_b9', nx_m1', Nat.reduceEqDiff, Nat.reduceLeDiff, Nat.reduceLT, Nat.reduceAdd, Nat.reduceSub, Nat.reduceMul, Nat.reduceDiv, Nat.reduceMod, Bool.false_eq_true, reduceIte, ite_true, ite_false, if_true, if_false]; omega)]
        by_cases q2 : T.testBit m = true
        · rw [if_pos q2, if_neg (by decide), if_neg (fun z => by rw [q2] at z; exact absurd z.1 (by decide)), ih best hb]
        · rw [if_neg q2, if_pos (by decide), if_neg (by decide), if_pos ⟨by simpa using q2, Or.inr q3⟩, ← ih m (by omega), nx_bI (by omega)]
      · rw [if_pos (by simp (disch := omega) only [nx_chk, nx_let, nx_b2, nx_b3, nx_b4, nx_b5, nx_b7, nx_b8, Option.bind_some, nx_l0, nx_l1, nx_l2, nx_l3, nx_l4, nx_l5, nx_l6, nx_l7, nx_l8, nx_l9, nx_l10, nx_l11, nx_l12, nx_l14, nx_l20, nx_l26, nx_l40, nx_l60, nx_l100, nx_l1000, nI_add, nx_sub, nx_m1, nx_in, nx_cl, nx_le, nx_ltI, nx_eq, nx_isb0, nx_isb1, nx_n9, nx_n9', nx_b9, nx_b9', nx_m1', Nat.reduceEqDiff, Nat.reduceLeDiff, Nat.reduceLT, Nat.reduceAdd, Nat.reduceSub, Nat.reduceMul, Nat.reduceDiv, Nat.reduceMod, Bool.false_eq_true, reduceIte, ite_true, ite_false, if_true, if_false]; omega), if_neg (c := T.testBit m = false ∧ _) (fun z => q3 (z.2.resolve_left q)), ← ih best hb]
        by_cases q2 : T.testBit m = true
        · rw [if_pos q2, if_neg (by decide)]
        · rw [if_neg q2, if_pos (by decide), if_pos (by decide)]
theorem ar_landing {p T : Nat} (hp : p < 10) (hT : T < 2147483648) : f_X9_landing (nI p) (nI T) = some (k_bI (w_near (fun b => !T.testBit b) p 10 0)) := by
  unfold f_X9_landing
  obtain ⟨F, hF, hF2⟩ : ∃ F, F = gg_fuel ∧ 50000 ≤ F := ⟨_, rfl, pu_F⟩
  rw [← hF]
  have h := ar_landing1 hp hT 10 F 10 (by omega) (by omega) (by omega)
  have h2 : w_land T p 10 10 = w_near (fun b => !T.testBit b) p 10 0 := by
    rw [w_land_c (S := T % 1024) 10 10 (fun b hb => by rw [show 1024 = 2 ^ 10 from rfl, Nat.testBit_mod_two_pow]; simp [hb]), w_land_eq p hp (T % 1024) (by omega)]
    exact w_near_c (fun b hb => by rw [show 1024 = 2 ^ 10 from rfl, Nat.testBit_mod_two_pow]; simp [hb]) hp 10 0
  rw [← h2]
  exact h
