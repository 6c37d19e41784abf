theorem nx_b10 {α0 α1 α2 α3 α4 α5 α6 α7 α8 α9 β : Type} (a0 : α0) (a1 : α1) (a2 : α2) (a3 : α3) (a4 : α4) (a5 : α5) (a6 : α6) (a7 : α7) (a8 : α8) (a9 : α9) (F : α0 → α1 → α2 → α3 → α4 → α5 → α6 → α7 → α8 → α9 → Option β) : gg_b10 (some (a0, a1, a2, a3, a4, a5, a6, a7, a8, a9)) F = F a0 a1 a2 a3 a4 a5 a6 a7 a8 a9 := rfl
theorem nx_b11 {α0 α1 α2 α3 α4 α5 α6 α7 α8 α9 α10 β : Type} (a0 : α0) (a1 : α1) (a2 : α2) (a3 : α3) (a4 : α4) (a5 : α5) (a6 : α6) (a7 : α7) (a8 : α8) (a9 : α9) (a10 : α10) (F : α0 → α1 → α2 → α3 → α4 → α5 → α6 → α7 → α8 → α9 → α10 → Option β) : gg_b11 (some (a0, a1, a2, a3, a4, a5, a6, a7, a8, a9, a10)) F = F a0 a1 a2 a3 a4 a5 a6 a7 a8 a9 a10 := rfl
def m_bits (p : Nat → Bool) : Nat → Nat
  | 0 => 0
  | n + 1 => m_bits p n ||| (if p n = true then 2 ^ n else 0)
theorem m_bits_lt (p : Nat → Bool) : ∀ n, m_bits p n < 2 ^ n
  | 0 => by simp [m_bits]
  | n + 1 => by
    have h := m_bits_lt p n
    unfold m_bits
    apply Nat.or_lt_two_pow
    · exact Nat.lt_trans h (Nat.pow_lt_pow_right (by omega) (by omega))
    · split
      · exact Nat.pow_lt_pow_right (by omega) (by omega)
      · exact Nat.two_pow_pos _
theorem m_bits_64 (p : Nat → Bool) {N : Nat} (h : N ≤ 6) : m_bits p N < 64 := Nat.lt_of_lt_of_le (m_bits_lt p N) (Nat.pow_le_pow_right (n := 2) (by omega) h)
theorem m_bitsB (p : Nat → Bool) : ∀ n b, (m_bits p n).testBit b = (decide (b < n) && p b)
  | 0, b => by simp [m_bits]
  | n + 1, b => by
    unfold m_bits
    rw [Nat.testBit_or, m_bitsB p n b]
    by_cases q : p n = true
    · rw [if_pos q, Nat.testBit_two_pow]
      by_cases z : n = b
      · subst z
        simp [q]
      · have h1 : (b < n + 1) = (b < n) := propext ⟨fun _ => by omega, fun _ => by omega⟩
        simp [z, h1]
    · rw [if_neg q, Nat.zero_testBit, Bool.or_false]
      by_cases z : n = b
      · subst z
        simp [q]
      · have h1 : (b < n + 1) = (b < n) := propext ⟨fun _ => by omega, fun _ => by omega⟩
        simp [h1]
theorem m_bits_s (p : Nat → Bool) (n : Nat) : m_bits p (n + 1) = if p n = true then m_bits p n ||| 2 ^ n else m_bits p n := by
  rw [m_bits]
  split
  · rfl
  · rw [Nat.or_zero]
theorem m_bits_c {p q : Nat → Bool} : ∀ {n : Nat}, (∀ j, j < n → p j = q j) → m_bits p n = m_bits q n
  | 0, _ => rfl
  | n + 1, h => by rw [m_bits, m_bits, m_bits_c (fun j hj => h j (by omega)), h n (by omega)]
def m_pc (m : Nat) : Nat := m % 2 + m / 2 % 2 + m / 4 % 2 + m / 8 % 2 + m / 16 % 2 + m / 32 % 2
theorem e_bc : ∀ m, m < 64 → f_J6_bitCount_0f7a4 (nI m) = some (nI (m_pc m)) := by decide +kernel
theorem e_b1 : ∀ m, m < 64 → m ≠ 0 → nI m &&& (nI m - 1) = nI (m &&& (m - 1)) ∧ m &&& (m - 1) < m ∧ m_pc m = m_pc (m &&& (m - 1)) + 1 := by decide +kernel
theorem ar_bits1 {β : Type} (k : Int32 → Option β) : ∀ (fuel m c : Nat), m < 64 → m < fuel → lp_X9_bits_4 k fuel (nI c) (nI m) = k (nI (c + m_pc m))
  | fuel + 1, m, c, hm, hf => by
    rw [lp_X9_bits_4]
    by_cases q : m = 0
    · subst q
      rw [if_pos (show nI 0 = 0 from rfl)]
      rfl
    · obtain ⟨h1, h2, h3⟩ := e_b1 m hm q
      have h4 : ¬ nI m = 0 := fun z => q ((nI_eq (b := 0) (by omega) (by omega)).1 z)
      rw [if_neg h4, h1, nI_1, ar_bits1 k fuel _ _ (by omega) (by omega), h3]
      rw [show c + 1 + m_pc (m &&& (m - 1)) = c + (m_pc (m &&& (m - 1)) + 1) by omega]
theorem ar_bits {m : Nat} (hm : m < 64) : f_X9_bits (nI m) = some (nI (m_pc m)) := by
  unfold f_X9_bits
  obtain ⟨F, hF, hF2⟩ : ∃ F, F = gg_fuel ∧ 50000 ≤ F := ⟨_, rfl, pu_F⟩
  rw [← hF]
  have h := ar_bits1 (fun x => some x) F m 0 hm (by omega)
  rw [Nat.zero_add] at h
  exact h
theorem m_pc_le : ∀ m, m < 64 → m_pc m ≤ 6 := by decide +kernel
theorem m_pc_0 : ∀ m, m < 64 → (m_pc m = 0 ↔ m = 0) := by decide +kernel
def w_th (bk : Nat → Nat) (j : Nat) : Bool := decide (bk j ≠ 10)
def w_set (N : Nat) (bk : Nat → Nat) : Nat := m_bits (w_th bk) N
theorem w_set_64 {N : Nat} (h : N ≤ 6) (bk : Nat → Nat) : w_set N bk < 64 := m_bits_64 _ h
theorem fl_bits {β : Type} {N : Nat} (hN : N ≤ 6) {bk : Nat → Nat} {brick : Nat → Int32} (hb : fl_b N bk brick) (k : Int32 → Option β) : ∀ (m i fuel : Nat), i + m = N → m < fuel → lp_X2_thereBits_4 (nI N) brick k fuel (nI (m_bits (w_th bk) i)) (nI i) = k (nI (w_set N bk))
  | 0, i, fuel + 1, hi, hf => by
    have : i = N := by omega
    subst this
    rw [lp_X2_thereBits_4]
    simp (disch := omega) only [nx_chk, nx_let, nx_b2, nx_b3, nx_b4, nx_b5, nx_b7, nx_b8, Option.bind_some, nx_l0, nx_l1, nx_l2, nx_l3, nx_l4, nx_l5, nx_l6, nx_l7, nx_l8, nx_l9, nx_l10, nx_l11, nx_l12, nx_l14, nx_l20, nx_l26, nx_l40, nx_l60, nx_l100, nx_l1000, nI_add, nx_sub, nx_m1, nx_in, nx_cl, nx_le, nx_ltI, nx_eq, nx_isb0, nx_isb1, nx_n9, nx_n9', nx_b9, nx_b9', nx_m1', Nat.reduceEqDiff, Nat.reduceLeDiff, Nat.reduceLT, Nat.reduceAdd, Nat.reduceSub, Nat.reduceMul, Nat.reduceDiv, Nat.reduceMod, Bool.false_eq_true, reduceIte, ite_true, ite_false, if_true, if_false, Nat.le_refl]
    rfl
  | m + 1, i, fuel + 1, hi, hf => by
    have hiN : i < N := by omega
    have ih := fl_bits hN hb k m (i + 1) fuel (by omega) (by omega)
    rw [m_bits_s] at ih
    rw [lp_X2_thereBits_4, ← ih]
    by_cases q : bk i = 10
    · have hw : w_th bk i = false := by unfold w_th; simp [q]
      simp (disch := omega) only [nx_chk, nx_let, nx_b2, nx_b3, nx_b4, nx_b5, nx_b7, nx_b8, Option.bind_some, nx_l0, nx_l1, nx_l2, nx_l3, nx_l4, nx_l5, nx_l6, nx_l7, nx_l8, nx_l9, nx_l10, nx_l11, nx_l12, nx_l14, nx_l20, nx_l26, nx_l40, nx_l60, nx_l100, nx_l1000, nI_add, nx_sub, nx_m1, nx_in, nx_cl, nx_le, nx_ltI, nx_eq, nx_isb0, nx_isb1, nx_n9, nx_n9', nx_b9, nx_b9', nx_m1', Nat.reduceEqDiff, Nat.reduceLeDiff, Nat.reduceLT, Nat.reduceAdd, Nat.reduceSub, Nat.reduceMul, Nat.reduceDiv, Nat.reduceMod, Bool.false_eq_true, reduceIte, ite_true, ite_false, if_true, if_false, show ¬ N ≤ i by omega, fl_th hiN hN (hb i hiN).2 (hb i hiN).1, q, hw]
    · have hw : w_th bk i = true := by unfold w_th; simp [q]
      simp (disch := omega) only [nx_chk, nx_let, nx_b2, nx_b3, nx_b4, nx_b5, nx_b7, nx_b8, Option.bind_some, nx_l0, nx_l1, nx_l2, nx_l3, nx_l4, nx_l5, nx_l6, nx_l7, nx_l8, nx_l9, nx_l10, nx_l11, nx_l12, nx_l14, nx_l20, nx_l26, nx_l40, nx_l60, nx_l100, nx_l1000, nI_add, nx_sub, nx_m1, nx_in, nx_cl, nx_le, nx_ltI, nx_eq, nx_isb0, nx_isb1, nx_n9, nx_n9', nx_b9, nx_b9', nx_m1', Nat.reduceEqDiff, Nat.reduceLeDiff, Nat.reduceLT, Nat.reduceAdd, Nat.reduceSub, Nat.reduceMul, Nat.reduceDiv, Nat.reduceMod, Bool.false_eq_true, reduceIte, ite_true, ite_false, if_true, if_false, show ¬ N ≤ i by omega, fl_th hiN hN (hb i hiN).2 (hb i hiN).1, q, hw, nx_sh1n, nx_or]
theorem fl_there {N : Nat} (hN : N ≤ 6) {bk : Nat → Nat} {brick : Nat → Int32} (hb : fl_b N bk brick) : f_X2_thereBits (nI N) brick = some (nI (w_set N bk)) := by
  unfold f_X2_thereBits
  obtain ⟨F, hF, hF2⟩ : ∃ F, F = gg_fuel ∧ 50000 ≤ F := ⟨_, rfl, pu_F⟩
  rw [← hF]
  exact fl_bits hN hb (fun x => some x) N 0 F (by omega) (by omega)
theorem fl_many {N : Nat} (hN : N ≤ 6) {bk : Nat → Nat} {brick : Nat → Int32} (hb : fl_b N bk brick) : f_X2_howManyThere (nI N) brick = some (nI (m_pc (w_set N bk))) := by
  unfold f_X2_howManyThere
  rw [fl_there hN hb, Option.bind_some, e_bc _ (w_set_64 hN bk)]
  rfl
theorem ar_bitsL {β : Type} {N : Nat} (hN : N ≤ 6) {bk : Nat → Nat} {a : Nat → Int32} (hb : ∀ i, i < N → a (20 + i) = k_bI (bk i) ∧ bk i ≤ 10) (k : Int32 → Option β) : ∀ (m i fuel : Nat), i + m = N → m < fuel → lp_X9_there_a26_4 (nI N) a k fuel (nI (m_bits (w_th bk) i)) (nI i) = k (nI (w_set N bk))
  | 0, i, fuel + 1, hi, hf => by
    have : i = N := by omega
    subst this
    rw [lp_X9_there_a26_4]
    simp (disch := omega) only [nx_chk, nx_let, nx_b2, nx_b3, nx_b4, nx_b5, nx_b7, nx_b8, Option.bind_some, nx_l0, nx_l1, nx_l2, nx_l3, nx_l4, nx_l5, nx_l6, nx_l7, nx_l8, nx_l9, nx_l10, nx_l11, nx_l12, nx_l14, nx_l20, nx_l26, nx_l40, nx_l60, nx_l100, nx_l1000, nI_add, nx_sub, nx_m1, nx_in, nx_cl, nx_le, nx_ltI, nx_eq, nx_isb0, nx_isb1, nx_n9, nx_n9', nx_b9, nx_b9', nx_m1', Nat.reduceEqDiff, Nat.reduceLeDiff, Nat.reduceLT, Nat.reduceAdd, Nat.reduceSub, Nat.reduceMul, Nat.reduceDiv, Nat.reduceMod, Bool.false_eq_true, reduceIte, ite_true, ite_false, if_true, if_false, Nat.le_refl]
    rfl
  | m + 1, i, fuel + 1, hi, hf => by
    have hiN : i < N := by omega
    have ih := ar_bitsL hN hb k m (i + 1) fuel (by omega) (by omega)
    rw [m_bits_s] at ih
    rw [lp_X9_there_a26_4, ← ih]
    by_cases q : bk i = 10
    · have hw : w_th bk i = false := by unfold w_th; simp [q]
      simp (disch := omega) only [nx_chk, nx_let, nx_b2, nx_b3, nx_b4, nx_b5, nx_b7, nx_b8, Option.bind_some, nx_l0, nx_l1, nx_l2, nx_l3, nx_l4, nx_l5, nx_l6, nx_l7, nx_l8, nx_l9, nx_l10, nx_l11, nx_l12, nx_l14, nx_l20, nx_l26, nx_l40, nx_l60, nx_l100, nx_l1000, nI_add, nx_sub, nx_m1, nx_in, nx_cl, nx_le, nx_ltI, nx_eq, nx_isb0, nx_isb1, nx_n9, nx_n9', nx_b9, nx_b9', nx_m1', Nat.reduceEqDiff, Nat.reduceLeDiff, Nat.reduceLT, Nat.reduceAdd, Nat.reduceSub, Nat.reduceMul, Nat.reduceDiv, Nat.reduceMod, Bool.false_eq_true, reduceIte, ite_true, ite_false, if_true, if_false, show ¬ N ≤ i by omega, ar_th hiN hN (hb i hiN).2 (hb i hiN).1, q, hw, nx_or, Nat.or_zero]
    · have hw : w_th bk i = true := by unfold w_th; simp [q]
      simp (disch := omega) only [nx_chk, nx_let, nx_b2, nx_b3, nx_b4, nx_b5, nx_b7, nx_b8, Option.bind_some, nx_l0, nx_l1, nx_l2, nx_l3, nx_l4, nx_l5, nx_l6, nx_l7, nx_l8, nx_l9, nx_l10, nx_l11, nx_l12, nx_l14, nx_l20, nx_l26, nx_l40, nx_l60, nx_l100, nx_l1000, nI_add, nx_sub, nx_m1, nx_in, nx_cl, nx_le, nx_ltI, nx_eq, nx_isb0, nx_isb1, nx_n9, nx_n9', nx_b9, nx_b9', nx_m1', Nat.reduceEqDiff, Nat.reduceLeDiff, Nat.reduceLT, Nat.reduceAdd, Nat.reduceSub, Nat.reduceMul, Nat.reduceDiv, Nat.reduceMod, Bool.false_eq_true, reduceIte, ite_true, ite_false, if_true, if_false, show ¬ N ≤ i by omega, ar_th hiN hN (hb i hiN).2 (hb i hiN).1, q, hw, nx_sh1n, nx_or]
theorem ar_there {N : Nat} (hN : N ≤ 6) {bk : Nat → Nat} {a : Nat → Int32} (hb : ∀ i, i < N → a (20 + i) = k_bI (bk i) ∧ bk i ≤ 10) : f_X9_there_a26 (nI N) a = some (nI (w_set N bk)) := by
  unfold f_X9_there_a26
  obtain ⟨F, hF, hF2⟩ : ∃ F, F = gg_fuel ∧ 50000 ≤ F := ⟨_, rfl, pu_F⟩
  rw [← hF]
  exact ar_bitsL hN hb (fun x => some x) N 0 F (by omega) (by omega)
theorem ar_hut {i N : Nat} (h : i < N) (hN : N ≤ 6) : f_X9_isHut (nI i) (nI N) = some (nI 1) := by
  unfold f_X9_isHut
  have e : nI N - 1 = nI (N - 1) := nx_sub (b := 1) (by omega)
  rw [e, pu_inI (by rw [nx_l0, nx_ltI (by omega) (by omega)]; omega) (by rw [nx_ltI (by omega) (by omega)]; omega)]
  rfl
theorem ar_hutO {a : Int32} {N : Nat} (hN : N ≤ 6) (h : a < 0 ∨ nI N ≤ a) : f_X9_isHut a (nI N) = some (nI 0) := by
  unfold f_X9_isHut
  rw [pu_inO (h.imp id (fun z => (pu_pred (by omega)).2 z))]
  rfl
theorem pu_rng (x : Int32) (n : Nat) (hi : Int32) (hn : n < 1073741824) (hh : hi = nI n) : (f_X9_in x 0 hi = some (nI 0) ∧ f_X8_within x 0 hi = some (nI 0)) ∨ ∃ j, j ≤ n ∧ x = nI j ∧ f_X9_in x 0 hi = some (nI 1) ∧ f_X8_within x 0 hi = some (nI 1) := by
  subst hh
  rcases pu_ix x (n + 1) (by omega) with q | ⟨j, hj, rfl⟩
  · left
    have h : x < 0 ∨ nI n < x := by
      rcases q with q | q
      · exact Or.inl q
      · right
        rw [Int32.le_iff_toInt_le, nI_toInt (by omega)] at q
        rw [Int32.lt_iff_toInt_lt, nI_toInt (by omega)]
        omega
    exact ⟨pu_inO h, pu_wiO h⟩
  · right
    have h1 : ¬ nI j < 0 := by rw [nx_l0, nx_ltI (by omega) (by omega)]; omega
    have h2 : ¬ nI n < nI j := by rw [nx_ltI (by omega) (by omega)]; omega
    exact ⟨j, by omega, rfl, pu_inI h1 h2, pu_wiI h1 h2⟩
