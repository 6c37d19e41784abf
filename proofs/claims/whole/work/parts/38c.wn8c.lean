theorem fl_free {β : Type} {N : Nat} (hN : N ≤ 6) {bk : Nat → Nat} {brick : Nat → Int32} (hb : fl_b N bk brick) (k : Int32 → Option β) :
    ∀ (m i fuel M : Nat), i + m = N → m < fuel → M < 1024 → (∀ b, b < 10 → M.testBit b = w_free i bk b) → ∃ M', lp_X2_freeBits_6 (nI N) brick k fuel (nI M) (nI i) = k (nI M') ∧ M' < 1024 ∧ ∀ b, b < 10 → M'.testBit b = w_free N bk b
  | 0, i, fuel + 1, M, hi, hf, hM, hp => by
    have : i = N := by omega
    subst this
    refine ⟨M, ?_, hM, hp⟩
    rw [lp_X2_freeBits_6]
    simp (disch := omega) only [nx_chk, nx_let, nx_b2, nx_b3, nx_b4, nx_b5, nx_b7, nx_b8, Option.bind_some, nx_l0, nx_l1, nx_l2, nx_l3, nx_l4, nx_l5, nx_l6, nx_l7, nx_l8, nx_l9, nx_l10, nx_l11, nx_l12, nx_l14, nx_l20, nx_l26, nx_l40, nx_l60, nx_l100, nx_l1000, nI_add, nx_sub, nx_m1, nx_in, nx_cl, nx_le, nx_ltI, nx_eq, nx_isb0, nx_isb1, nx_n9, nx_n9', nx_b9, nx_b9', nx_m1', Nat.reduceEqDiff, Nat.reduceLeDiff, Nat.reduceLT, Nat.reduceAdd, Nat.reduceSub, Nat.reduceMul, Nat.reduceDiv, Nat.reduceMod, Bool.false_eq_true, reduceIte, ite_true, ite_false, if_true, if_false, Nat.le_refl]
  | m + 1, i, fuel + 1, M, hi, hf, hM, hp => by
    have hiN : i < N := by omega
    have hbi := (hb i hiN).2
    rw [lp_X2_freeBits_6]
    by_cases q : bk i = 10
    · obtain ⟨M', e, r⟩ := fl_free hN hb k m (i + 1) fuel M (by omega) (by omega) hM (fun b hb10 => by
        rw [hp b hb10]
        unfold w_free
        rw [List.range_succ, List.all_append]
        have : (bk i != b) = true := by rw [bne_iff_ne]; omega
        simp [this])
      refine ⟨M', ?_, r⟩
      rw [← e]
      simp (disch := omega) only [nx_chk, nx_let, nx_b2, nx_b3, nx_b4, nx_b5, nx_b7, nx_b8, Option.bind_some, nx_l0, nx_l1, nx_l2, nx_l3, nx_l4, nx_l5, nx_l6, nx_l7, nx_l8, nx_l9, nx_l10, nx_l11, nx_l12, nx_l14, nx_l20, nx_l26, nx_l40, nx_l60, nx_l100, nx_l1000, nI_add, nx_sub, nx_m1, nx_in, nx_cl, nx_le, nx_ltI, nx_eq, nx_isb0, nx_isb1, nx_n9, nx_n9', nx_b9, nx_b9', nx_m1', Nat.reduceEqDiff, Nat.reduceLeDiff, Nat.reduceLT, Nat.reduceAdd, Nat.reduceSub, Nat.reduceMul, Nat.reduceDiv, Nat.reduceMod, Bool.false_eq_true, reduceIte, ite_true, ite_false, if_true, if_false, show ¬ N ≤ i by omega, (hb i hiN).1, q]
    · have hlt : nx_clr M (bk i) < 1024 := nx_clr_lt (n := 10) hM
      obtain ⟨M', e, r⟩ := fl_free hN hb k m (i + 1) fuel (nx_clr M (bk i)) (by omega) (by omega) hlt (fun b hb10 => by
        rw [nx_clrB, hp b hb10]
        unfold w_free
        rw [List.range_succ, List.all_append]
        by_cases z : b = bk i
        · simp [z]
        · have : (bk i != b) = true := by rw [bne_iff_ne]; exact fun y => z y.symm
          simp [z, this])
      refine ⟨M', ?_, r⟩
      rw [← e]
      have e1 : (1 : Int32) <<< (nI (bk i) &&& 31) = nI (2 ^ bk i) := nx_sh1 _ (by omega)
      have e2 : nI M &&& (nI (2 ^ bk i) ^^^ (-1 : Int32)) = nI (nx_clr M (bk i)) := nx_not (by omega) (by omega)
      rw [if_neg (by simp (disch := omega) only [nx_chk, nx_let, nx_b2, nx_b3, nx_b4, nx_b5, nx_b7, nx_b8, Option.bind_some, nx_l0, nx_l1, nx_l2, nx_l3, nx_l4, nx_l5, nx_l6, nx_l7, nx_l8, nx_l9, nx_l10, nx_l11, nx_l12, nx_l14, nx_l20, nx_l26, nx_l40, nx_l60, nx_l100, nx_l1000, nI_add, nx_sub, nx_m1, nx_in, nx_cl, nx_le, nx_ltI, nx_eq, nx_isb0, nx_isb1, nx_n9, nx_n9', nx_b9, nx_b9', nx_m1', Nat.reduceEqDiff, Nat.reduceLeDiff, Nat.reduceLT, Nat.reduceAdd, Nat.reduceSub, Nat.reduceMul, Nat.reduceDiv, Nat.reduceMod, Bool.false_eq_true, reduceIte, ite_true, ite_false, if_true, if_false]; omega)]
      simp (disch := omega) only [nx_chk, nx_in, nx_let, nx_cl, (hb i hiN).1, nx_n9, q, if_false, nx_bI, e1, e2, nI_1]
theorem fl_freeBits {N : Nat} (hN : N ≤ 6) {bk : Nat → Nat} {brick : Nat → Int32} (hb : fl_b N bk brick) : ∃ M, f_X2_freeBits (nI N) brick = some (nI M) ∧ M < 1024 ∧ ∀ b, b < 10 → M.testBit b = w_free N bk b := by
  unfold f_X2_freeBits
  obtain ⟨F, hF, hF2⟩ : ∃ F, F = gg_fuel ∧ 50000 ≤ F := ⟨_, rfl, pu_F⟩
  rw [← hF]
  obtain ⟨M, e, r⟩ := fl_free hN hb (fun x => some x) N 0 F 1023 (by omega) (by omega) (by omega) (fun b hb10 => by
    have h : ∀ b, b < 10 → (1023 : Nat).testBit b = true := by decide
    rw [h b hb10]
    rfl)
  exact ⟨M, e, r⟩
theorem fl_near {p M : Nat} (hp : p < 10) (hM : M < 1024) : ∀ (m far fuel : Nat), far + m = 10 → m < fuel → lp_X2_nearestFree_7 (nI p) (nI M) (fun (x3_30 : Int32) => (some (nI p - x3_30))) (fun (x3_53 : Int32) => (some (nI p + x3_53))) ((some (-9 : Int32))) fuel (nI far) = some (k_bI (w_near (fun b => M.testBit b) p m far))
  | 0, far, fuel + 1, hm, hf => by
    rw [lp_X2_nearestFree_7]
    have : far = 10 := by omega
    subst this
    rfl
  | m + 1, far, fuel + 1, hm, hf => by
    rw [lp_X2_nearestFree_7]
    have ih := fl_near hp hM m (far + 1) fuel (by omega) (by omega)
    rw [if_neg (by simp (disch := omega) only [nx_chk, nx_let, nx_b2, nx_b3, nx_b4, nx_b5, nx_b7, nx_b8, Option.bind_some, nx_l0, nx_l1, nx_l2, nx_l3, nx_l4, nx_l5, nx_l6, nx_l7, nx_l8, nx_l9, nx_l10, nx_l11, nx_l12, nx_l14, nx_l20, nx_l26, nx_l40, nx_l60, nx_l100, nx_l1000, nI_add, nx_sub, nx_m1, nx_in, nx_cl, nx_le, nx_ltI, nx_eq, nx_isb0, nx_isb1, nx_n9, nx_n9', nx_b9, nx_b9', nx_m1', Nat.reduceEqDiff, Nat.reduceLeDiff, Nat.reduceLT, Nat.reduceAdd, Nat.reduceSub, Nat.reduceMul, Nat.reduceDiv, Nat.reduceMod, Bool.false_eq_true, reduceIte, ite_true, ite_false, if_true, if_false]; omega)]
    simp only [nx_let]
    unfold w_near
    have hB : (if (10 : Int32) ≤ nI p + nI far then lp_X2_nearestFree_7 (nI p) (nI M) (fun (x3_30 : Int32) => (some (nI p - x3_30))) (fun (x3_53 : Int32) => (some (nI p + x3_53))) ((some (-9 : Int32))) fuel (nI far + 1) else if (nI M >>> ((nI p + nI far) &&& 31)) &&& (1 : Int32) = 1 then some (nI p + nI far) else lp_X2_nearestFree_7 (nI p) (nI M) (fun (x3_30 : Int32) => (some (nI p - x3_30))) (fun (x3_53 : Int32) => (some (nI p + x3_53))) ((some (-9 : Int32))) fuel (nI far + 1)) = some (k_bI (if p + far < 10 ∧ M.testBit (p + far) = true then p + far else w_near (fun b => M.testBit b) p m (far + 1))) := by
      rw [nI_1, ih, nI_add]
      by_cases q : p + far < 10
      · rw [if_neg (by simp (disch := omega) only [nx_chk, nx_let, nx_b2, nx_b3, nx_b4, nx_b5, nx_b7, nx_b8, Option.bind_some, nx_l0, nx_l1, nx_l2, nx_l3, nx_l4, nx_l5, nx_l6, nx_l7, nx_l8, nx_l9, nx_l10, nx_l11, nx_l12, nx_l14, nx_l20, nx_l26, nx_l40, nx_l60, nx_l100, nx_l1000, nI_add, nx_sub, nx_m1, nx_in, nx_cl, nx_le, nx_ltI, nx_eq, nx_isb0, nx_isb1, nx_n9, nx_n9', nx_b9, nx_b9', nx_m1', Nat.reduceEqDiff, Nat.reduceLeDiff, Nat.reduceLT, Nat.reduceAdd, Nat.reduceSub, Nat.reduceMul, Nat.reduceDiv, Nat.reduceMod, Bool.false_eq_true, reduceIte, ite_true, ite_false, if_true, if_false]; omega)]
        by_cases q2 : M.testBit (p + far) = true
        · rw [if_pos ((nx_oneI (by omega) (by omega)).2 q2), if_pos ⟨q, q2⟩, nx_bI (by omega)]
        · rw [if_neg (fun z => q2 ((nx_oneI (by omega) (by omega)).1 z)), if_neg (fun z => q2 z.2)]
      · rw [if_pos (by simp (disch := omega) only [nx_chk, nx_let, nx_b2, nx_b3, nx_b4, nx_b5, nx_b7, nx_b8, Option.bind_some, nx_l0, nx_l1, nx_l2, nx_l3, nx_l4, nx_l5, nx_l6, nx_l7, nx_l8, nx_l9, nx_l10, nx_l11, nx_l12, nx_l14, nx_l20, nx_l26, nx_l40, nx_l60, nx_l100, nx_l1000, nI_add, nx_sub, nx_m1, nx_in, nx_cl, nx_le, nx_ltI, nx_eq, nx_isb0, nx_isb1, nx_n9, nx_n9', nx_b9, nx_b9', nx_m1', Nat.reduceEqDiff, Nat.reduceLeDiff, Nat.reduceLT, Nat.reduceAdd, Nat.reduceSub, Nat.reduceMul, Nat.reduceDiv, Nat.reduceMod, Bool.false_eq_true, reduceIte, ite_true, ite_false, if_true, if_false]; omega), if_neg (fun z => q z.1)]
    by_cases q : far ≤ p
    · rw [nx_sub q, if_neg (by simp (disch := omega) only [nx_chk, nx_let, nx_b2, nx_b3, nx_b4, nx_b5, nx_b7, nx_b8, Option.bind_some, nx_l0, nx_l1, nx_l2, nx_l3, nx_l4, nx_l5, nx_l6, nx_l7, nx_l8, nx_l9, nx_l10, nx_l11, nx_l12, nx_l14, nx_l20, nx_l26, nx_l40, nx_l60, nx_l100, nx_l1000, nI_add, nx_sub, nx_m1, nx_in, nx_cl, nx_le, nx_ltI, nx_eq, nx_isb0, nx_isb1, nx_n9, nx_n9', nx_b9, nx_b9', nx_m1', Nat.reduceEqDiff, Nat.reduceLeDiff, Nat.reduceLT, Nat.reduceAdd, Nat.reduceSub, Nat.reduceMul, Nat.reduceDiv, Nat.reduceMod, Bool.false_eq_true, reduceIte, ite_true, ite_false, if_true, if_false]; omega)]
      by_cases q2 : M.testBit (p - far) = true
      · rw [if_pos ((nx_oneI (by omega) (by omega)).2 q2), if_pos ⟨q, q2⟩, nx_bI (by omega)]
      · rw [if_neg (fun z => q2 ((nx_oneI (by omega) (by omega)).1 z)), hB, if_neg (c := far ≤ p ∧ _) (fun z => q2 z.2)]
    · have hn : nI p - nI far < 0 := by
        rw [Int32.lt_iff_toInt_lt, pk_sub_toInt (by omega) (by omega)]
        have : (0 : Int32).toInt = 0 := by decide
        omega
      rw [if_pos hn, hB, if_neg (c := far ≤ p ∧ _) (fun z => q z.1)]
theorem w_near_c {f g : Nat → Bool} (h : ∀ b, b < 10 → f b = g b) {p : Nat} (hp : p < 10) : ∀ m far, w_near f p m far = w_near g p m far
  | 0, _ => rfl
  | m + 1, far => by
    unfold w_near
    rw [w_near_c h hp m (far + 1)]
    by_cases q : far ≤ p
    · rw [h (p - far) (by omega)]
      by_cases q2 : p + far < 10
      · rw [h _ q2]
      · simp only [q2, false_and, if_false]
    · simp only [q, false_and, if_false]
      by_cases q2 : p + far < 10
      · rw [h _ q2]
      · simp only [q2, false_and, if_false]
theorem w_near_le (f : Nat → Bool) {p : Nat} (hp : p < 10) : ∀ m far, w_near f p m far ≤ 10
  | 0, _ => Nat.le_refl _
  | m + 1, far => by
    unfold w_near
    split
    · omega
    · split
      · omega
      · exact w_near_le f hp m (far + 1)
theorem fl_nearest {N : Nat} (hN : N ≤ 6) {bk : Nat → Nat} {brick : Nat → Int32} (hb : fl_b N bk brick) {p : Nat} (hp : p < 10) : f_X2_nearestFree (nI p) (nI N) brick = some (k_bI (w_near (w_free N bk) p 10 0)) := by
  unfold f_X2_nearestFree
  obtain ⟨M, e, hM, hb2⟩ := fl_freeBits hN hb
  rw [e]
  obtain ⟨F, hF, hF2⟩ : ∃ F, F = gg_fuel ∧ 50000 ≤ F := ⟨_, rfl, pu_F⟩
  rw [← hF]
  rw [← w_near_c hb2 hp]
  exact fl_near hp hM 10 0 F (by omega) (by omega)
def fl_n (N : Nat) (br : Nat → Nat) (a : Nat → Int32) : Prop := ∀ j, j < N → a j = nI (br j) ∧ br j ≤ 9
def fl_h (N : Nat) (hm : Nat → Nat) (a : Nat → Int32) : Prop := ∀ j, j < N → a j = nI (hm j) ∧ hm j < 10
theorem fl_land {N : Nat} (hN : N ≤ 6) {kd wd hm br bk : Nat → Nat} {kind winds home brown brick : Nat → Int32} (hk : fr_kw N kd wd kind winds) (hh : fl_h N hm home) (hb : fl_b N bk brick) (hn : fl_n N br brown) {i : Nat} (hi : i < N) :
    f_X2_land (nI i) (nI N) kind home brown brick = some (upd brown i (nI (min (br i + 1) 9)), upd brick i (k_bI (w_near (w_free N bk) (k_want (kd i) (hm i)) 10 0))) := by
  unfold f_X2_land f_X2_wanted
  have h1 := (hn i hi).2
  simp (disch := omega) only [nx_chk, nx_let, nx_b2, nx_b3, nx_b4, nx_b5, nx_b7, nx_b8, Option.bind_some, nx_l0, nx_l1, nx_l2, nx_l3, nx_l4, nx_l5, nx_l6, nx_l7, nx_l8, nx_l9, nx_l10, nx_l11, nx_l12, nx_l14, nx_l20, nx_l26, nx_l40, nx_l60, nx_l100, nx_l1000, nI_add, nx_sub, nx_m1, nx_in, nx_cl, nx_le, nx_ltI, nx_eq, nx_isb0, nx_isb1, nx_n9, nx_n9', nx_b9, nx_b9', nx_m1', Nat.reduceEqDiff, Nat.reduceLeDiff, Nat.reduceLT, Nat.reduceAdd, Nat.reduceSub, Nat.reduceMul, Nat.reduceDiv, Nat.reduceMod, Bool.false_eq_true, reduceIte, ite_true, ite_false, if_true, if_false, (hk.1 i hi).2, (hh i hi).1, e_want8 _ (hk.1 i hi).1 _ (hh i hi).2, fl_nearest hN hb (k_want_lt _ (hk.1 i hi).1 _ (hh i hi).2), (hn i hi).1, fl_min]
theorem fl_p2 {β : Type} {N : Nat} (hN : N ≤ 6) {kd wd hm : Nat → Nat} {kind winds home back : Nat → Int32} (hk : fr_kw N kd wd kind winds) (hh : fl_h N hm home) {L : List Nat} (hL : L.length ≤ 6) (hm' : ∀ x, x ∈ L → x < N) (hB : ∀ p, p < L.length → back p = nI (L.getD p 0)) (k : (Nat → Int32) → (Nat → Int32) → Option β) :
    ∀ (l pre : List Nat) (fuel : Nat) (br bk : Nat → Nat) (brown brick : Nat → Int32), L = pre ++ l → l.length < fuel → fl_n N br brown → fl_b N bk brick →
    ∃ brown' brick', lp_X2_passWinter_66 (nI N) (nI L.length) kind home back k fuel (nI pre.length) brown brick = k brown' brick' ∧ fl_n N (w_p2 N kd hm l br bk).1 brown' ∧ fl_b N (w_p2 N kd hm l br bk).2 brick'
  | [], pre, fuel + 1, br, bk, brown, brick, hL2, hf, hn, hb => by
    refine ⟨brown, brick, ?_, hn, hb⟩
    rw [lp_X2_passWinter_66]
    have : L.length = pre.length := by rw [hL2]; simp
    simp (disch := omega) only [nx_chk, nx_let, nx_b2, nx_b3, nx_b4, nx_b5, nx_b7, nx_b8, Option.bind_some, nx_l0, nx_l1, nx_l2, nx_l3, nx_l4, nx_l5, nx_l6, nx_l7, nx_l8, nx_l9, nx_l10, nx_l11, nx_l12, nx_l14, nx_l20, nx_l26, nx_l40, nx_l60, nx_l100, nx_l1000, nI_add, nx_sub, nx_m1, nx_in, nx_cl, nx_le, nx_ltI, nx_eq, nx_isb0, nx_isb1, nx_n9, nx_n9', nx_b9, nx_b9', nx_m1', Nat.reduceEqDiff, Nat.reduceLeDiff, Nat.reduceLT, Nat.reduceAdd, Nat.reduceSub, Nat.reduceMul, Nat.reduceDiv, Nat.reduceMod, Bool.false_eq_true, reduceIte, ite_true, ite_false, if_true, if_false, show L.length ≤ pre.length by omega]
  | i :: l, pre, fuel + 1, br, bk, brown, brick, hL2, hf, hn, hb => by
    have hlen : L.length = pre.length + (l.length + 1) := by rw [hL2]; simp
    have hi : i < N := hm' i (by rw [hL2]; simp)
    have hget : L.getD pre.length 0 = i := by rw [hL2]; simp
    have hn1 := (hn i hi).2
    have hw := w_near_le (w_free N bk) (k_want_lt (kd i) (hk.1 i hi).1 (hm i) (hh i hi).2) 10 0
    obtain ⟨b', k', e, r⟩ := fl_p2 hN hk hh hL hm' hB k l (pre ++ [i]) fuel (gg_up br i (min (br i + 1) 9)) (gg_up bk i (w_near (w_free N bk) (k_want (kd i) (hm i)) 10 0)) (upd brown i (nI (min (br i + 1) 9))) (upd brick i (k_bI (w_near (w_free N bk) (k_want (kd i) (hm i)) 10 0))) (by rw [hL2]; simp) (by simp at hf; omega) (fun j hj => by
        rw [nx_upd, nx_upn]
        by_cases q : j = i
        · simp only [q, if_true]
          exact ⟨trivial, by omega⟩
        · simp only [q, if_false]
          exact hn j hj) (fl_b_up hb i hw)
    refine ⟨b', k', ?_, r⟩
    rw [← e, lp_X2_passWinter_66]
    simp (disch := omega) only [nx_chk, nx_let, nx_b2, nx_b3, nx_b4, nx_b5, nx_b7, nx_b8, Option.bind_some, nx_l0, nx_l1, nx_l2, nx_l3, nx_l4, nx_l5, nx_l6, nx_l7, nx_l8, nx_l9, nx_l10, nx_l11, nx_l12, nx_l14, nx_l20, nx_l26, nx_l40, nx_l60, nx_l100, nx_l1000, nI_add, nx_sub, nx_m1, nx_in, nx_cl, nx_le, nx_ltI, nx_eq, nx_isb0, nx_isb1, nx_n9, nx_n9', nx_b9, nx_b9', nx_m1', Nat.reduceEqDiff, Nat.reduceLeDiff, Nat.reduceLT, Nat.reduceAdd, Nat.reduceSub, Nat.reduceMul, Nat.reduceDiv, Nat.reduceMod, Bool.false_eq_true, reduceIte, ite_true, ite_false, if_true, if_false, show ¬ L.length ≤ pre.length by omega, hB pre.length (by omega), hget, fl_land hN hk hh hb hn hi, List.length_append, List.length_singleton]
