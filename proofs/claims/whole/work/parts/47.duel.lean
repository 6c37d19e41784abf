def iI (y : Int) : Int32 := Int32.ofInt y
theorem iI_add (a b : Int) : iI a + iI b = iI (a + b) := (Int32.ofInt_add a b).symm
theorem iI_neg (a : Int) : -(iI a) = iI (-a) := (Int32.ofInt_neg a).symm
theorem iI_T {y : Int} (h1 : -100000 ≤ y) (h2 : y ≤ 100000) : (iI y).toInt = y := Int32.toInt_ofInt_of_le (by omega) (by omega)
theorem iI_nat {n : Nat} (h : n ≤ 100000) : nI n = iI (n : Int) := by
  apply Int32.toInt_inj.1
  rw [nI_toInt (by omega), iI_T (by omega) (by omega)]
theorem iI_le {a b : Int} (h1 : -100000 ≤ a) (h2 : a ≤ 100000) (h3 : -100000 ≤ b) (h4 : b ≤ 100000) : (iI a ≤ iI b) ↔ a ≤ b := by
  rw [Int32.le_iff_toInt_le, iI_T h1 h2, iI_T h3 h4]
def lm1 (x : Int) : Option Int → Option Int
  | none => some x
  | some y => if x ≤ y then some y else some x
def lm_ (v : Nat → Int) (P : Nat → Bool) : Nat → Nat → Option Int → Option Int
  | 0, _, acc => acc
  | m + 1, j, acc => lm_ v P m (j + 1) (if P j = true then (lm1 (v j) acc) else acc)
theorem lm_sp (v : Nat → Int) (P : Nat → Bool) : ∀ (m j : Nat) (acc : Option Int), (∀ a, acc = some a → ∃ y, lm_ v P m j acc = some y ∧ a ≤ y) ∧ (∀ x, j ≤ x → x < j + m → P x = true → ∃ y, lm_ v P m j acc = some y ∧ v x ≤ y) ∧ (∀ y, lm_ v P m j acc = some y → acc = some y ∨ ∃ x, j ≤ x ∧ x < j + m ∧ P x = true ∧ y = v x)
  | 0, j, acc => ⟨fun a h => ⟨a, h, Int.le_refl a⟩, fun x h1 h2 => by omega, fun y h => Or.inl h⟩
  | m + 1, j, acc => by
    obtain ⟨i1, i2, i3⟩ := lm_sp v P m (j + 1) (if P j = true then (lm1 (v j) acc) else acc)
    rw [lm_]
    have hs : ∃ acc', acc' = (if P j = true then (lm1 (v j) acc) else acc) := ⟨_, rfl⟩
    obtain ⟨acc', ha⟩ := hs
    rw [← ha] at i1 i2 i3 ⊢
    have c1 : ∀ a, acc = some a → ∃ a', acc' = some a' ∧ a ≤ a' := by
      intro a h
      subst h
      by_cases q : P j = true
      · rw [if_pos q] at ha
        by_cases q2 : v j ≤ a
        · exact ⟨a, by rw [ha]; exact if_pos q2, Int.le_refl a⟩
        · exact ⟨v j, by rw [ha]; exact if_neg q2, by omega⟩
      · rw [if_neg q] at ha
        exact ⟨a, ha, Int.le_refl a⟩
    have c2 : P j = true → ∃ a', acc' = some a' ∧ v j ≤ a' := by
      intro q
      rw [if_pos q] at ha
      cases acc with
      | none => exact ⟨v j, ha, Int.le_refl _⟩
      | some a =>
        by_cases q2 : v j ≤ a
        · exact ⟨a, by rw [ha]; exact if_pos q2, q2⟩
        · exact ⟨v j, by rw [ha]; exact if_neg q2, Int.le_refl _⟩
    have c3 : ∀ y, acc' = some y → acc = some y ∨ (P j = true ∧ y = v j) := by
      intro y hy
      by_cases q : P j = true
      · rw [if_pos q] at ha
        cases acc with
        | none =>
          rw [ha] at hy
          exact Or.inr ⟨q, (Option.some.inj hy).symm⟩
        | some a =>
          by_cases q2 : v j ≤ a
          · rw [ha] at hy
            have hy : (if v j ≤ a then some a else some (v j)) = some y := hy
            rw [if_pos q2] at hy
            exact Or.inl hy
          · rw [ha] at hy
            have hy : (if v j ≤ a then some a else some (v j)) = some y := hy
            rw [if_neg q2] at hy
            exact Or.inr ⟨q, (Option.some.inj hy).symm⟩
      · rw [if_neg q] at ha
        rw [ha] at hy
        exact Or.inl hy
    refine ⟨fun a h => ?_, fun x h1 h2 h3 => ?_, fun y h => ?_⟩
    · obtain ⟨a', e, l⟩ := c1 a h
      obtain ⟨y, e2, l2⟩ := i1 a' e
      exact ⟨y, e2, by omega⟩
    · by_cases q : x = j
      · subst q
        obtain ⟨a', e, l⟩ := c2 h3
        obtain ⟨y, e2, l2⟩ := i1 a' e
        exact ⟨y, e2, by omega⟩
      · exact i2 x (by omega) (by omega) h3
    · rcases i3 y h with z | ⟨x, z1, z2, z3, z4⟩
      · rcases c3 y z with w | ⟨w1, w2⟩
        · exact Or.inl w
        · exact Or.inr ⟨j, by omega, by omega, w1, w2⟩
      · exact Or.inr ⟨x, by omega, by omega, z3, z4⟩
def u_ (st : Nat → Nat) (N : Nat) : Nat → Nat → Int
  | 0, _ => 0
  | R + 1, S => (lm_ (fun i => (st i : Int) - u_ st N R (nx_clr S i)) (fun i => S.testBit i) N 0 none).getD 0
theorem u_ge {st : Nat → Nat} {N R S x : Nat} (hx : x < N) (hb : S.testBit x = true) : (st x : Int) - u_ st N R (nx_clr S x) ≤ u_ st N (R + 1) S := by
  obtain ⟨-, i2, -⟩ := lm_sp (fun i => (st i : Int) - u_ st N R (nx_clr S i)) (fun i => S.testBit i) N 0 none
  obtain ⟨y, e, l⟩ := i2 x (by omega) (by omega) hb
  rw [u_, e]
  exact l
theorem u_at {st : Nat → Nat} {N R S x : Nat} (hx : x < N) (hb : S.testBit x = true) : ∃ z, z < N ∧ S.testBit z = true ∧ u_ st N (R + 1) S = (st z : Int) - u_ st N R (nx_clr S z) := by
  obtain ⟨-, i2, i3⟩ := lm_sp (fun i => (st i : Int) - u_ st N R (nx_clr S i)) (fun i => S.testBit i) N 0 none
  obtain ⟨y, e, l⟩ := i2 x (by omega) (by omega) hb
  rcases i3 y e with z | ⟨z, z1, z2, z3, z4⟩
  · exact absurd z (by simp)
  · refine ⟨z, by omega, z3, ?_⟩
    rw [u_, e]
    exact z4
theorem u_0 {st : Nat → Nat} {N S : Nat} (h : ∀ x, x < N → S.testBit x = false) : ∀ R, u_ st N R S = 0
  | 0 => rfl
  | R + 1 => by
    obtain ⟨-, -, i3⟩ := lm_sp (fun i => (st i : Int) - u_ st N R (nx_clr S i)) (fun i => S.testBit i) N 0 none
    rw [u_]
    cases e : lm_ (fun i => (st i : Int) - u_ st N R (nx_clr S i)) (fun i => S.testBit i) N 0 none with
    | none => rfl
    | some y =>
      exfalso
      rcases i3 y e with z | ⟨z, z1, z2, z3, z4⟩
      · exact absurd z (by simp)
      · have := h z (by omega)
        rw [this] at z3
        exact absurd z3 (by decide)
theorem u_bd {st : Nat → Nat} {N : Nat} (hst : ∀ i, i < N → st i ≤ 9) : ∀ (R S : Nat), -(9 * (R : Int)) ≤ u_ st N R S ∧ u_ st N R S ≤ 9 * (R : Int)
  | 0, S => by
    show -(9 * ((0 : Nat) : Int)) ≤ 0 ∧ (0 : Int) ≤ 9 * ((0 : Nat) : Int)
    omega
  | R + 1, S => by
    by_cases q : ∃ x, x < N ∧ S.testBit x = true
    · obtain ⟨x, hx, hb⟩ := q
      obtain ⟨z, hz, zb, e⟩ := u_at (st := st) (R := R) hx hb
      have h1 := u_bd hst R (nx_clr S z)
      have h2 := hst z hz
      rw [e]
      omega
    · have : ∀ x, x < N → S.testBit x = false := by
        intro x hx
        cases h : S.testBit x with
        | false => rfl
        | true => exact absurd ⟨x, hx, h⟩ q
      rw [u_0 this]
      omega
def Sw_ (a b A B : Nat) : Prop := A.testBit a = true ∧ A.testBit b = false ∧ B.testBit a = false ∧ B.testBit b = true ∧ ∀ x, x ≠ a → x ≠ b → A.testBit x = B.testBit x
theorem Sw_s {a b A B : Nat} (h : Sw_ a b A B) : Sw_ b a B A := ⟨h.2.2.2.1, h.2.2.1, h.2.1, h.1, fun x h1 h2 => (h.2.2.2.2 x h2 h1).symm⟩
theorem Sw_e {a b A B : Nat} (h : Sw_ a b A B) : nx_clr A a = nx_clr B b := by
  obtain ⟨h1, h2, h3, h4, h5⟩ := h
  apply Nat.eq_of_testBit_eq
  intro i
  rw [nx_clrB, nx_clrB]
  by_cases qa : i = a
  · subst qa
    rw [h3]
    simp
  · by_cases qb : i = b
    · subst qb
      rw [h2]
      simp
    · rw [h5 i qa qb]
      simp [qa, qb]
theorem Sw_c {a b A B x : Nat} (h : Sw_ a b A B) (ha : x ≠ a) (hb : x ≠ b) : Sw_ a b (nx_clr A x) (nx_clr B x) := by
  obtain ⟨h1, h2, h3, h4, h5⟩ := h
  have ea : a ≠ x := fun z => ha z.symm
  have eb : b ≠ x := fun z => hb z.symm
  refine ⟨?_, ?_, ?_, ?_, fun y hy1 hy2 => ?_⟩
  · rw [nx_clrB, h1, decide_eq_true ea]; rfl
  · rw [nx_clrB, h2]; rfl
  · rw [nx_clrB, h3]; rfl
  · rw [nx_clrB, h4, decide_eq_true eb]; rfl
  · rw [nx_clrB, nx_clrB, h5 y hy1 hy2]
theorem u_half {st : Nat → Nat} {N a b R : Nat} {d : Int} (ha : a < N) (hb : b < N) (hd : (st a : Int) - st b ≤ d) (IH : ∀ A B, Sw_ a b A B → u_ st N R B ≤ u_ st N R A + d) {A B : Nat} (h : Sw_ a b A B) : u_ st N (R + 1) A ≤ u_ st N (R + 1) B + d := by
  obtain ⟨x, hx, xb, e⟩ := u_at (st := st) (R := R) ha h.1
  by_cases q : x = a
  · subst q
    have g := u_ge (st := st) (R := R) hb h.2.2.2.1
    rw [e, Sw_e h]
    omega
  · have qb : x ≠ b := by
      intro z
      subst z
      rw [h.2.1] at xb
      exact absurd xb (by decide)
    have g := u_ge (st := st) (R := R) (S := B) hx (by rw [← h.2.2.2.2 x q qb]; exact xb)
    have i := IH _ _ (Sw_c h q qb)
    rw [e]
    omega
theorem u_sw {st : Nat → Nat} {N a b : Nat} {d : Int} (ha : a < N) (hb : b < N) (hd : (st a : Int) - st b ≤ d) (hd2 : (st b : Int) - st a ≤ d) : ∀ (R A B : Nat), Sw_ a b A B → u_ st N R A ≤ u_ st N R B + d ∧ u_ st N R B ≤ u_ st N R A + d
  | 0, A, B, h => by
    show (0 : Int) ≤ 0 + d ∧ (0 : Int) ≤ 0 + d
    omega
  | R + 1, A, B, h => ⟨u_half ha hb hd (fun A B h => (u_sw ha hb hd hd2 R A B h).2) h, u_half hb ha hd2 (fun A B h => (u_sw ha hb hd hd2 R B A (Sw_s h)).1) (Sw_s h)⟩
theorem u_gr {st : Nat → Nat} {N R S m : Nat} (hm : m < N) (hb : S.testBit m = true) (hx : ∀ x, x < N → S.testBit x = true → st x ≤ st m) : u_ st N (R + 1) S = (st m : Int) - u_ st N R (nx_clr S m) := by
  have g := u_ge (st := st) (R := R) hm hb
  obtain ⟨z, hz, zb, e⟩ := u_at (st := st) (R := R) hm hb
  have l := hx z hz zb
  by_cases q : z = m
  · subst q
    exact e
  · have qm : m ≠ z := fun w => q w.symm
    have sw : Sw_ m z (nx_clr S z) (nx_clr S m) := by
      refine ⟨?_, ?_, ?_, ?_, fun y h1 h2 => ?_⟩
      · rw [nx_clrB, hb, decide_eq_true qm]; rfl
      · rw [nx_clrB]; simp
      · rw [nx_clrB]; simp
      · rw [nx_clrB, zb, decide_eq_true q]; rfl
      · rw [nx_clrB, nx_clrB, decide_eq_true h1, decide_eq_true h2]
    have := (u_sw (st := st) (d := (st m : Int) - st z) hm hz (Int.le_refl _) (by omega) R _ _ sw).2
    rw [e] at g ⊢
    omega
def so1 (st : Nat → Nat) (j : Nat) : Option Nat → Option Nat
  | none => some j
  | some b => if st j ≤ st b then some b else some j
def so_ (st : Nat → Nat) (P : Nat → Bool) : Nat → Nat → Option Nat → Option Nat
  | 0, _, acc => acc
  | m + 1, j, acc => so_ st P m (j + 1) (if P j = true then (so1 st j acc) else acc)
theorem so_sp (st : Nat → Nat) (P : Nat → Bool) : ∀ (m j : Nat) (acc : Option Nat), (∀ a, acc = some a → ∃ y, so_ st P m j acc = some y ∧ st a ≤ st y) ∧ (∀ x, j ≤ x → x < j + m → P x = true → ∃ y, so_ st P m j acc = some y ∧ st x ≤ st y) ∧ (∀ y, so_ st P m j acc = some y → acc = some y ∨ (j ≤ y ∧ y < j + m ∧ P y = true))
  | 0, j, acc => ⟨fun a h => ⟨a, h, Nat.le_refl _⟩, fun x h1 h2 => by omega, fun y h => Or.inl h⟩
  | m + 1, j, acc => by
    obtain ⟨i1, i2, i3⟩ := so_sp st P m (j + 1) (if P j = true then (so1 st j acc) else acc)
    rw [so_]
    have hs : ∃ acc', acc' = (if P j = true then (so1 st j acc) else acc) := ⟨_, rfl⟩
    obtain ⟨acc', ha⟩ := hs
    rw [← ha] at i1 i2 i3 ⊢
    have c1 : ∀ a, acc = some a → ∃ a', acc' = some a' ∧ st a ≤ st a' := by
      intro a h
      subst h
      by_cases q : P j = true
      · rw [if_pos q] at ha
        by_cases q2 : st j ≤ st a
        · exact ⟨a, by rw [ha]; exact if_pos q2, Nat.le_refl _⟩
        · exact ⟨j, by rw [ha]; exact if_neg q2, by omega⟩
      · rw [if_neg q] at ha
        exact ⟨a, ha, Nat.le_refl _⟩
    have c2 : P j = true → ∃ a', acc' = some a' ∧ st j ≤ st a' := by
      intro q
      rw [if_pos q] at ha
      cases acc with
      | none => exact ⟨j, ha, Nat.le_refl _⟩
      | some a =>
        by_cases q2 : st j ≤ st a
        · exact ⟨a, by rw [ha]; exact if_pos q2, q2⟩
        · exact ⟨j, by rw [ha]; exact if_neg q2, Nat.le_refl _⟩
    have c3 : ∀ y, acc' = some y → acc = some y ∨ (P j = true ∧ y = j) := by
      intro y hy
      by_cases q : P j = true
      · rw [if_pos q] at ha
        cases acc with
        | none =>
          rw [ha] at hy
          exact Or.inr ⟨q, (Option.some.inj hy).symm⟩
        | some a =>
          by_cases q2 : st j ≤ st a
          · rw [ha] at hy
            have hy : (if st j ≤ st a then some a else some j) = some y := hy
            rw [if_pos q2] at hy
            exact Or.inl hy
          · rw [ha] at hy
            have hy : (if st j ≤ st a then some a else some j) = some y := hy
            rw [if_neg q2] at hy
            exact Or.inr ⟨q, (Option.some.inj hy).symm⟩
      · rw [if_neg q] at ha
        rw [ha] at hy
        exact Or.inl hy
    refine ⟨fun a h => ?_, fun x h1 h2 h3 => ?_, fun y h => ?_⟩
    · obtain ⟨a', e, l⟩ := c1 a h
      obtain ⟨y, e2, l2⟩ := i1 a' e
      exact ⟨y, e2, by omega⟩
    · by_cases q : x = j
      · subst q
        obtain ⟨a', e, l⟩ := c2 h3
        obtain ⟨y, e2, l2⟩ := i1 a' e
        exact ⟨y, e2, by omega⟩
      · exact i2 x (by omega) (by omega) h3
    · rcases i3 y h with z | ⟨z1, z2, z3⟩
      · rcases c3 y z with w | ⟨w1, w2⟩
        · exact Or.inl w
        · exact Or.inr ⟨by omega, by omega, by rw [w2]; exact w1⟩
      · exact Or.inr ⟨by omega, by omega, z3⟩
theorem so_8 {β : Type} {N : Nat} (hN : N ≤ 6) {st : Nat → Nat} {strength : Nat → Int32} (hs : ∀ i, i < N → strength i = nI (st i) ∧ st i < 1000) {S : Nat} (hS : S < 64) (K : Int32 → Option β) : ∀ (m j fuel : Nat) (acc : Option Nat), j + m = N → m < fuel → (∀ b, acc = some b → b < N) → lp_X2_strongestOf_5 (nI S) (nI N) strength K fuel (o_I acc) (nI j) = K (o_I (so_ st (fun i => S.testBit i) m j acc))
  | 0, j, fuel + 1, acc, h1, _, _ => by
    rw [lp_X2_strongestOf_5, if_pos (nI_le (by omega) (by omega))]
    rfl
  | m + 1, j, fuel + 1, acc, h1, hf, ha => by
    have hj : j < N := by omega
    rw [lp_X2_strongestOf_5, if_neg (nI_ge (by omega) (by omega)), so_]
    simp only [nx_let]
    rw [nI_1]
    by_cases q : S.testBit j = true
    · rw [if_pos ((nx_oneI (by omega) (by omega)).2 q), if_pos q]
      cases acc with
      | none =>
        rw [if_pos (show o_I none = -9 from rfl)]
        exact so_8 hN hs hS K m (j + 1) fuel (some j) (by omega) (by omega) (fun b hb => by have := Option.some.inj hb; omega)
      | some b =>
        have hb := ha b rfl
        have n9 : ¬ o_I (some b) = -9 := by
          show ¬ nI b = -9
          rw [nx_n9 (by omega)]
          exact id
        rw [if_neg n9, show o_I (some b) = nI b from rfl, pu_in (show j < 6 by omega) (by omega), pu_in (show b < 6 by omega) (by omega), nx_chk, nx_chk, nI_clamp (by omega), nI_clamp (by omega), (hs j hj).1, (hs b hb).1]
        have l1 := (hs j hj).2
        have l2 := (hs b hb).2
        show _ = K (o_I (so_ st (fun i => S.testBit i) m (j + 1) (if st j ≤ st b then some b else some j)))
        by_cases q2 : st j ≤ st b
        · rw [if_pos (nI_le q2 (by omega)), if_pos q2]
          exact so_8 hN hs hS K m (j + 1) fuel (some b) (by omega) (by omega) (fun c hc => by have := Option.some.inj hc; omega)
        · rw [if_neg (nI_ge (by omega) (by omega)), if_neg q2]
          exact so_8 hN hs hS K m (j + 1) fuel (some j) (by omega) (by omega) (fun c hc => by have := Option.some.inj hc; omega)
    · rw [if_neg (fun z => q ((nx_oneI (by omega) (by omega)).1 z)), if_neg q]
      exact so_8 hN hs hS K m (j + 1) fuel acc (by omega) (by omega) ha
theorem so_e {N : Nat} (hN : N ≤ 6) {st : Nat → Nat} {strength : Nat → Int32} (hs : ∀ i, i < N → strength i = nI (st i) ∧ st i < 1000) {S : Nat} (hS : S < 64) : (f_X2_strongestOf (nI S) (nI N) strength = some (-9) ∧ ∀ x, x < N → S.testBit x = false) ∨ ∃ b, f_X2_strongestOf (nI S) (nI N) strength = some (nI b) ∧ b < N ∧ S.testBit b = true ∧ ∀ x, x < N → S.testBit x = true → st x ≤ st b := by
  obtain ⟨F, hF, hF2⟩ : ∃ F, F = gg_fuel ∧ 50000 ≤ F := ⟨_, rfl, pu_F⟩
  have e := so_8 hN hs hS (fun x => some x) N 0 F none (by omega) (by omega) (fun b hb => absurd hb (by simp))
  obtain ⟨-, i2, i3⟩ := so_sp st (fun i => S.testBit i) N 0 none
  unfold f_X2_strongestOf
  rw [← hF]
  obtain ⟨O, hO⟩ : ∃ O, O = so_ st (fun i => S.testBit i) N 0 none := ⟨_, rfl⟩
  rw [← hO] at e i2 i3
  cases O with
  | none =>
    left
    refine ⟨e, fun x hx => ?_⟩
    cases h : S.testBit x with
    | false => rfl
    | true =>
      obtain ⟨y, ey, -⟩ := i2 x (by omega) (by omega) h
      exact absurd ey (by simp)
  | some b =>
    right
    rcases i3 b rfl with z | ⟨z1, z2, z3⟩
    · exact absurd z (by simp)
    · refine ⟨b, e, by omega, z3, fun x hx hb => ?_⟩
      obtain ⟨y, ey, l⟩ := i2 x (by omega) (by omega) hb
      have := Option.some.inj ey
      subst this
      exact l
theorem ld_8 {β : Type} {N : Nat} (hN : N ≤ 6) {st : Nat → Nat} {strength : Nat → Int32} (hs : ∀ i, i < N → strength i = nI (st i) ∧ st i ≤ 9) {n : Nat} (hn : n ≤ 6) (K : Int32 → Option β) : ∀ (m j fuel S : Nat) (L : Int), j + m = n → m < fuel → S < 64 → lp_X2_leadByLuring_10 (nI n) (nI N) strength K K fuel (nI S) (iI L) (nI j) = K (iI (L + (if j % 2 = 0 then u_ st N m S else -u_ st N m S)))
  | 0, j, fuel + 1, S, L, h1, _, _ => by
    rw [lp_X2_leadByLuring_10, if_pos (nI_le (by omega) (by omega))]
    congr 2
    show L = L + (if j % 2 = 0 then 0 else -0)
    split <;> omega
  | m + 1, j, fuel + 1, S, L, h1, hf, hS => by
    rw [lp_X2_leadByLuring_10, if_neg (nI_ge (by omega) (by omega))]
    rcases so_e hN (fun i hi => ⟨(hs i hi).1, by have := (hs i hi).2; omega⟩) hS (st := st) (strength := strength) with ⟨e, hz⟩ | ⟨b, e, hb, bb, hx⟩
    · rw [e, Option.bind_some, if_pos rfl, u_0 hz]
      congr 2
      split <;> omega
    · have n9 : ¬ nI b = -9 := by
        rw [nx_n9 (by omega)]
        exact id
      have hc : nx_clr S b < 64 := nx_clr_lt (n := 6) hS
      have ih := fun L' => ld_8 hN hs hn K m (j + 1) fuel (nx_clr S b) L' (by omega) (by omega) hc
      have hsb := (hs b hb).2
      rw [e, Option.bind_some, if_neg n9]
      simp only [nx_let]
      rw [nx_sh1 b (by omega), nx_not (by omega) (by omega), nI_1, md_2 (by omega), pu_in (show b < 6 by omega) (by omega), nx_chk, nx_chk, nI_clamp (by omega), (hs b hb).1, iI_nat (show st b ≤ 100000 by omega), u_gr hb bb hx]
      by_cases q : j % 2 = 0
      · rw [q, if_pos (show nI 0 = 0 from rfl), iI_add, ih, if_neg (show ¬ (j + 1) % 2 = 0 by omega), if_pos rfl]
        congr 2
        omega
      · rw [show j % 2 = 1 by omega, if_neg (show ¬ nI 1 = 0 by decide), iI_neg, iI_add, ih, if_pos (show (j + 1) % 2 = 0 by omega), if_neg (by decide)]
        congr 2
        omega
def sI (b : Bool) (y : Int) : Int32 := iI (if b = true then y else -y)
def rl3 (b : Bool) (acc : Option Int) (x3 x4 : Int32) : Prop := match acc with
  | none => x3 = -9
  | some y => (∃ c, c < 64 ∧ x3 = nI c) ∧ x4 = sI b y
theorem lu_9 {β : Type} {N : Nat} (hN : N ≤ 6) {st : Nat → Nat} {now : Nat → Int32} (hs : ∀ i, i < N → now (8 + i) = nI (st i) ∧ st i ≤ 9) {R S : Nat} (hR : R ≤ 6) (hS : S < 2 ^ N) {more : Nat → Int32} (b : Bool) (hm : ∀ A, A < 2 ^ N → more A = sI (!b) (u_ st N R A)) (K : Int32 → Int32 → Option β) : ∀ (m j fuel : Nat) (acc : Option Int) (x3 x4 : Int32), j + m = N → m < fuel → rl3 b acc x3 x4 → (∀ y, acc = some y → -100 ≤ y ∧ y ≤ 100) → ∃ x3' x4', lp_X9_lured_9 (nI S) (if b = true then 1 else 0) (nI N) now more K fuel x3 x4 (nI j) = K x3' x4' ∧ rl3 b (lm_ (fun i => (st i : Int) - u_ st N R (nx_clr S i)) (fun i => S.testBit i) m j acc) x3' x4'
  | 0, j, fuel + 1, acc, x3, x4, h1, _, hr, _ => by
    refine ⟨x3, x4, ?_, hr⟩
    rw [lp_X9_lured_9, if_pos (nI_le (by omega) (by omega))]
  | m + 1, j, fuel + 1, acc, x3, x4, h1, hf, hr, hbd => by
    have hj : j < N := by omega
    have h64 : 2 ^ N ≤ 64 := Nat.pow_le_pow_right (n := 2) (by omega) hN
    have ub := u_bd (st := st) (N := N) (fun i hi => (hs i hi).2) R (nx_clr S j)
    have sb := (hs j hj).2
    rw [lp_X9_lured_9, if_neg (nI_ge (by omega) (by omega)), nx_has (by omega) (by omega), Option.bind_some, nI_1, lm_]
    by_cases q : S.testBit j = true
    · have hc : nx_clr S j < 2 ^ N := nx_clr_lt hS
      have e8 : (8 : Int32) + nI j = nI (8 + j) := nI_add 8 j
      have key : ∀ (v : Int), v = (st j : Int) - u_ st N R (nx_clr S j) → sI b v = more (nx_clr S j) + (if b = true then nI (st j) else -nI (st j)) := by
        intro v hv
        subst hv
        rw [hm _ hc, iI_nat (show st j ≤ 100000 by omega)]
        cases b with
        | true =>
          show iI _ = iI _ + iI _
          rw [iI_add]
          congr 1
          show (st j : Int) - u_ st N R (nx_clr S j) = -u_ st N R (nx_clr S j) + st j
          omega
        | false =>
          show iI _ = iI _ + -iI _
          rw [iI_neg, iI_add]
          congr 1
          show -((st j : Int) - u_ st N R (nx_clr S j)) = u_ st N R (nx_clr S j) + -(st j : Int)
          omega
      obtain ⟨v, hv⟩ : ∃ v, v = (st j : Int) - u_ st N R (nx_clr S j) := ⟨_, rfl⟩
      have hk := key v hv
      have vb : -100 ≤ v ∧ v ≤ 100 := by omega
      rw [if_pos q, if_pos q, nx_let, if_neg (show ¬ nI 1 = 0 by decide), nx_sh1 j (by omega), nx_not (by omega) (by omega), pu_in (show nx_clr S j < 64 by omega) (by omega), nx_chk, e8, pu_in (show 8 + j < 26 by omega) (by omega), nI_clamp (by omega), nI_clamp (by omega), (hs j hj).1, ← hv]
      simp only [nx_let, nx_chk]
      cases acc with
      | none =>
        have hr : x3 = -9 := hr
        subst hr
        have ih := lu_9 hN hs hR hS b hm K m (j + 1) fuel (some v) (nI j) (sI b v) (by omega) (by omega) ⟨⟨j, by omega, rfl⟩, rfl⟩ (fun y hy => by have := Option.some.inj hy; omega)
        obtain ⟨a1, a2, g1, g2⟩ := ih
        refine ⟨a1, a2, ?_, g2⟩
        rw [hk] at g1
        cases b with
        | true => exact g1
        | false => exact g1
      | some y =>
        obtain ⟨⟨c, hc64, hx3⟩, hx4⟩ : (∃ c, c < 64 ∧ x3 = nI c) ∧ x4 = sI b y := hr
        have n9 : ¬ x3 = -9 := by
          rw [hx3, nx_n9 (by omega)]
          exact id
        have yb := hbd y rfl
        by_cases q2 : v ≤ y
        · have ih := lu_9 hN hs hR hS b hm K m (j + 1) fuel (some y) x3 x4 (by omega) (by omega) ⟨⟨c, hc64, hx3⟩, hx4⟩ (fun z hz => by have := Option.some.inj hz; omega)
          obtain ⟨a1, a2, g1, g2⟩ := ih
          refine ⟨a1, a2, ?_, ?_⟩
          · rw [if_neg n9, if_neg n9]
            cases b with
            | true =>
              have l : more (nx_clr S j) + nI (st j) ≤ x4 := by
                have hk' : sI true v = more (nx_clr S j) + nI (st j) := hk
                rw [← hk', hx4]
                exact (iI_le (by omega) (by omega) (by omega) (by omega)).2 q2
              simp only [if_neg (show ¬ (if true = true then (1 : Int32) else 0) = 0 by decide), if_pos l]
              exact g1
            | false =>
              have l : x4 ≤ more (nx_clr S j) + -nI (st j) := by
                have hk' : sI false v = more (nx_clr S j) + -nI (st j) := hk
                rw [← hk', hx4]
                exact (iI_le (a := -y) (b := -v) (by omega) (by omega) (by omega) (by omega)).2 (by omega)
              simp only [if_pos (show (if false = true then (1 : Int32) else 0) = 0 from rfl), if_pos l]
              exact g1
          · show rl3 b (lm_ _ _ m (j + 1) (if v ≤ y then some y else some v)) a1 a2
            rw [if_pos q2]
            exact g2
        · have ih := lu_9 hN hs hR hS b hm K m (j + 1) fuel (some v) (nI j) (sI b v) (by omega) (by omega) ⟨⟨j, by omega, rfl⟩, rfl⟩ (fun z hz => by have := Option.some.inj hz; omega)
          obtain ⟨a1, a2, g1, g2⟩ := ih
          rw [hk] at g1
          refine ⟨a1, a2, ?_, ?_⟩
          · rw [if_neg n9, if_neg n9]
            cases b with
            | true =>
              have l : ¬ more (nx_clr S j) + nI (st j) ≤ x4 := by
                have hk' : sI true v = more (nx_clr S j) + nI (st j) := hk
                rw [← hk', hx4]
                exact fun z => q2 ((iI_le (by omega) (by omega) (by omega) (by omega)).1 z)
              simp only [if_neg (show ¬ (if true = true then (1 : Int32) else 0) = 0 by decide), if_neg l]
              exact g1
            | false =>
              have l : ¬ x4 ≤ more (nx_clr S j) + -nI (st j) := by
                have hk' : sI false v = more (nx_clr S j) + -nI (st j) := hk
                rw [← hk', hx4]
                exact fun z => q2 (by have := (iI_le (a := -y) (b := -v) (by omega) (by omega) (by omega) (by omega)).1 z; omega)
              simp only [if_pos (show (if false = true then (1 : Int32) else 0) = 0 from rfl), if_neg l]
              exact g1
          · show rl3 b (lm_ _ _ m (j + 1) (if v ≤ y then some y else some v)) a1 a2
            rw [if_neg q2]
            exact g2
    · rw [if_neg q, if_neg q]
      simp only [nx_let]
      rw [if_pos (show nI 0 = 0 from rfl)]
      exact lu_9 hN hs hR hS b hm K m (j + 1) fuel acc x3 x4 (by omega) (by omega) hr hbd
theorem lu_e {N : Nat} (hN : N ≤ 6) {st : Nat → Nat} {now : Nat → Int32} (hs : ∀ i, i < N → now (8 + i) = nI (st i) ∧ st i ≤ 9) {R S : Nat} (hR : R ≤ 6) (hS : S < 2 ^ N) {more : Nat → Int32} (b : Bool) (hm : ∀ A, A < 2 ^ N → more A = sI (!b) (u_ st N R A)) : f_X9_lured (nI S) (if b = true then 1 else 0) (nI N) now more = some (sI b (u_ st N (R + 1) S)) := by
  have h64 : 2 ^ N ≤ 64 := Nat.pow_le_pow_right (n := 2) (by omega) hN
  obtain ⟨F, hF, hF2⟩ : ∃ F, F = gg_fuel ∧ 50000 ≤ F := ⟨_, rfl, pu_F⟩
  obtain ⟨x3, x4, e, r⟩ := lu_9 hN hs hR hS b hm (fun (x3_137 : Int32) (x4_137 : Int32) => gg_lt (fun (s0_154 : Int32) => (some s0_154)) (fun k154 => (if x3_137 = (-9 : Int32) then gg_chk (gg_in (nI S) 64) ((k154 (more (nI S).toNatClampNeg))) else (k154 x4_137)))) N 0 F none (-9) 0 (by omega) (by omega) rfl (fun y hy => absurd hy (by simp))
  unfold f_X9_lured
  rw [← hF]
  refine Eq.trans e ?_
  obtain ⟨-, i2, -⟩ := lm_sp (fun i => (st i : Int) - u_ st N R (nx_clr S i)) (fun i => S.testBit i) N 0 none
  obtain ⟨O, hO⟩ : ∃ O, O = lm_ (fun i => (st i : Int) - u_ st N R (nx_clr S i)) (fun i => S.testBit i) N 0 none := ⟨_, rfl⟩
  have hu : u_ st N (R + 1) S = O.getD 0 := by rw [u_, hO]
  rw [← hO] at r i2
  simp only [nx_let]
  cases O with
  | none =>
    have r : x3 = -9 := r
    have hz : ∀ x, x < N → S.testBit x = false := by
      intro x hx
      cases h : S.testBit x with
      | false => rfl
      | true =>
        obtain ⟨y, ey, -⟩ := i2 x (by omega) (by omega) h
        exact absurd ey (by simp)
    rw [if_pos r, pu_in (show S < 64 by omega) (by omega), nx_chk, nI_clamp (by omega), hm S hS, u_0 hz, u_0 hz]
    cases b <;> rfl
  | some y =>
    obtain ⟨⟨c, hc, hx3⟩, hx4⟩ : (∃ c, c < 64 ∧ x3 = nI c) ∧ x4 = sI b y := r
    rw [if_neg (show ¬ x3 = -9 by rw [hx3, nx_n9 (by omega)]; exact id), hx4, hu]
    rfl
theorem du_28 {β : Type} {N : Nat} (hN : N ≤ 6) (K : (Nat → Int32) → Option β) : ∀ (m j fuel : Nat) (w : Nat → Int32), j + m = 2 ^ N → m < fuel → ∃ w', lp_X9_duel_28 (nI N) K fuel (nI j) w = K w' ∧ (∀ x, x < j → w' x = w x) ∧ ∀ x, j ≤ x → x < 2 ^ N → w' x = 0
  | 0, j, fuel + 1, w, h1, _ => by
    have h64 : 2 ^ N ≤ 64 := Nat.pow_le_pow_right (n := 2) (by omega) hN
    refine ⟨w, ?_, fun _ _ => rfl, fun x h2 h3 => by omega⟩
    rw [lp_X9_duel_28, nx_sh1 N (by omega), if_pos (nI_le (by omega) (by omega))]
  | m + 1, j, fuel + 1, w, h1, hf => by
    have h64 : 2 ^ N ≤ 64 := Nat.pow_le_pow_right (n := 2) (by omega) hN
    obtain ⟨w', e, g1, g2⟩ := du_28 hN K m (j + 1) fuel (upd w j 0) (by omega) (by omega)
    refine ⟨w', ?_, ?_, ?_⟩
    · rw [lp_X9_duel_28, nx_sh1 N (by omega), if_neg (nI_ge (by omega) (by omega)), pu_in (show j < 64 by omega) (by omega), nx_chk, nI_clamp (by omega), nI_1]
      exact e
    · intro x hx
      rw [g1 x (by omega), pk_un (by omega)]
    · intro x h3 h4
      by_cases q : x = j
      · subst q
        rw [g1 x (by omega), pk_us]
      · exact g2 x (by omega) h4
theorem du_101 {β : Type} {N : Nat} (hN : N ≤ 6) {A : Nat → Int32} (K : (Nat → Int32) → Option β) : ∀ (m j fuel : Nat) (w : Nat → Int32), j + m = 2 ^ N → m < fuel → ∃ w', lp_X9_duel_101 (nI N) A K fuel (nI j) w = K w' ∧ (∀ x, x < j → w' x = w x) ∧ ∀ x, j ≤ x → x < 2 ^ N → w' x = A x
  | 0, j, fuel + 1, w, h1, _ => by
    have h64 : 2 ^ N ≤ 64 := Nat.pow_le_pow_right (n := 2) (by omega) hN
    refine ⟨w, ?_, fun _ _ => rfl, fun x h2 h3 => by omega⟩
    rw [lp_X9_duel_101, nx_sh1 N (by omega), if_pos (nI_le (by omega) (by omega))]
  | m + 1, j, fuel + 1, w, h1, hf => by
    have h64 : 2 ^ N ≤ 64 := Nat.pow_le_pow_right (n := 2) (by omega) hN
    obtain ⟨w', e, g1, g2⟩ := du_101 hN K m (j + 1) fuel (upd w j (A j)) (by omega) (by omega)
    refine ⟨w', ?_, ?_, ?_⟩
    · rw [lp_X9_duel_101, nx_sh1 N (by omega), if_neg (nI_ge (by omega) (by omega)), pu_in (show j < 64 by omega) (by omega), nx_chk, nx_chk, nI_clamp (by omega), nI_1]
      exact e
    · intro x hx
      rw [g1 x (by omega), pk_un (by omega)]
    · intro x h3 h4
      by_cases q : x = j
      · subst q
        rw [g1 x (by omega), pk_us]
      · exact g2 x (by omega) h4
theorem du_61 {β : Type} {N : Nat} (hN : N ≤ 6) {st : Nat → Nat} {now : Nat → Int32} (hs : ∀ i, i < N → now (8 + i) = nI (st i) ∧ st i ≤ 9) {R t : Nat} (hR : R ≤ 6) (ht : t ≤ 6) {more : Nat → Int32} (hm : ∀ A, A < 2 ^ N → more A = sI (!decide (t % 2 = 0)) (u_ st N R A)) (K : (Nat → Int32) → Option β) : ∀ (m j fuel : Nat) (w : Nat → Int32), j + m = 2 ^ N → m < fuel → ∃ w', lp_X9_duel_61 (nI t) (nI N) now more K fuel (nI j) w = K w' ∧ (∀ x, x < j → w' x = w x) ∧ ∀ x, j ≤ x → x < 2 ^ N → w' x = sI (decide (t % 2 = 0)) (u_ st N (R + 1) x)
  | 0, j, fuel + 1, w, h1, _ => by
    have h64 : 2 ^ N ≤ 64 := Nat.pow_le_pow_right (n := 2) (by omega) hN
    refine ⟨w, ?_, fun _ _ => rfl, fun x h2 h3 => by omega⟩
    rw [lp_X9_duel_61, nx_sh1 N (by omega), if_pos (nI_le (by omega) (by omega))]
  | m + 1, j, fuel + 1, w, h1, hf => by
    have h64 : 2 ^ N ≤ 64 := Nat.pow_le_pow_right (n := 2) (by omega) hN
    obtain ⟨w', e, g1, g2⟩ := du_61 hN hs hR ht hm K m (j + 1) fuel (upd w j (sI (decide (t % 2 = 0)) (u_ st N (R + 1) j))) (by omega) (by omega)
    have el := lu_e hN hs hR (show j < 2 ^ N by omega) (decide (t % 2 = 0)) hm
    refine ⟨w', ?_, ?_, ?_⟩
    · rw [lp_X9_duel_61, nx_sh1 N (by omega), if_neg (nI_ge (by omega) (by omega)), md_2 (by omega)]
      simp only [nx_let]
      rw [pu_in (show j < 64 by omega) (by omega), nI_clamp (by omega), nI_1]
      by_cases q : t % 2 = 0
      · rw [decide_eq_true q, if_pos rfl] at el
        rw [decide_eq_true q] at e
        rw [q, if_pos (show nI 0 = 0 from rfl), el, Option.bind_some, nx_chk]
        exact e
      · rw [decide_eq_false q, if_neg (by decide)] at el
        rw [decide_eq_false q] at e
        rw [show t % 2 = 1 by omega, if_neg (show ¬ nI 1 = 0 by decide), el, Option.bind_some, nx_chk]
        exact e
    · intro x hx
      rw [g1 x (by omega), pk_un (by omega)]
    · intro x h3 h4
      by_cases q : x = j
      · subst q
        rw [g1 x (by omega), pk_us]
      · exact g2 x (by omega) h4
theorem du_55 {β : Type} {N : Nat} (hN : N ≤ 6) {st : Nat → Nat} {now : Nat → Int32} (hs : ∀ i, i < N → now (8 + i) = nI (st i) ∧ st i ≤ 9) {n : Nat} (hn : n ≤ 6) (K : (Nat → Int32) → (Nat → Int32) → Option β) : ∀ (m fuel : Nat) (more ahead : Nat → Int32), m ≤ n → m < fuel → (∀ A, A < 2 ^ N → more A = sI (decide (m % 2 = 0)) (u_ st N (n - m) A)) → ∃ more' ahead', lp_X9_duel_55 (nI N) now K fuel (nI m + (-1)) more ahead = K more' ahead' ∧ ∀ A, A < 2 ^ N → more' A = iI (u_ st N n A)
  | 0, fuel + 1, more, ahead, h1, _, hm => by
    refine ⟨more, ahead, ?_, fun A hA => hm A hA⟩
    rw [lp_X9_duel_55, if_pos (show nI 0 + (-1) < 0 by decide)]
  | m + 1, fuel + 1, more, ahead, h1, hf, hm => by
    have h64 : 2 ^ N ≤ 64 := Nat.pow_le_pow_right (n := 2) (by omega) hN
    obtain ⟨F, hF, hF2⟩ : ∃ F, F = gg_fuel ∧ 50000 ≤ F := ⟨_, rfl, pu_F⟩
    have hpar : decide ((m + 1) % 2 = 0) = !decide (m % 2 = 0) := by
      by_cases q : m % 2 = 0
      · rw [decide_eq_true q, decide_eq_false (by omega)]; rfl
      · rw [decide_eq_false q, decide_eq_true (by omega)]; rfl
    rw [hpar] at hm
    obtain ⟨w1, e1, -, g1⟩ := du_61 hN hs (R := n - (m + 1)) (t := m) (by omega) (by omega) hm (fun (c_ahead_99 : Nat → Int32) => (lp_X9_duel_101 (nI N) c_ahead_99 (fun (c_more_129 : Nat → Int32) => (lp_X9_duel_55 (nI N) now K fuel (nI m + (-1 : Int32)) c_more_129 c_ahead_99)) F (0 : Int32) more)) (2 ^ N) 0 F ahead (by omega) (by omega)
    obtain ⟨w2, e2, -, g2⟩ := du_101 hN (A := w1) (fun (c_more_129 : Nat → Int32) => (lp_X9_duel_55 (nI N) now K fuel (nI m + (-1 : Int32)) c_more_129 w1)) (2 ^ N) 0 F more (by omega) (by omega)
    obtain ⟨w3, w4, e3, g3⟩ := du_55 hN hs hn K m fuel w2 w1 (by omega) (by omega) (fun A hA => by rw [g2 A (by omega) hA, g1 A (by omega) hA, show n - (m + 1) + 1 = n - m by omega])
    refine ⟨w3, w4, ?_, g3⟩
    rw [nx_m1 (show 0 < m + 1 by omega), show m + 1 - 1 = m from rfl, lp_X9_duel_55, if_neg (nI_pos (by omega)), ← hF]
    exact e1.trans (e2.trans e3)
theorem sm_duel : sim_duel Rl_ := by
  intro s t h a0
  obtain ⟨N, kd, wd, f, nw⟩ := rl_nw h.2.2.2.2.2
  obtain ⟨hN, e10, eT2, kw, kt, fl, ar, ok, due⟩ := id nw
  obtain ⟨F, hF, hF2⟩ : ∃ F, F = gg_fuel ∧ 50000 ≤ F := ⟨_, rfl, pu_F⟩
  have h64 : 2 ^ N ≤ 64 := Nat.pow_le_pow_right (n := 2) (by omega) hN
  unfold f_X8_duel f_X9_duel
  rw [e10, eT2, ← hF]
  rcases pu_rng a0 6 6 (by omega) rfl with ⟨q1, q2⟩ | ⟨n, hn, rfl, q1, q2⟩
  · rw [q1, q2]
    exact ⟨-1, -1, t.2.2.1 22, t.2.2.1 23, rfl, rfl, rfl, h⟩
  · have hV := w_set_64 hN f.2.2.2.2.2
    have hV2 : w_set N f.2.2.2.2.2 < 2 ^ N := m_bits_lt _ N
    have hm := fl_many hN (fr_fl_b fl ok)
    have ht8 := fl_there hN (fr_fl_b fl ok)
    have ht9 := ar_there hN (fr_ar_b ar ok)
    obtain ⟨V, hVe⟩ : ∃ V, V = w_set N f.2.2.2.2.2 := ⟨_, rfl⟩
    rw [← hVe] at hm ht8 ht9 hV hV2
    rw [q1, q2, Option.bind_some, if_neg (show ¬ nI 1 = 0 by decide), Option.bind_some, if_neg (show ¬ nI 1 = 0 by decide), hm, Option.bind_some, ht9, Option.bind_some]
    by_cases q : V = 0
    · subst q
      exact ⟨-4, -4, t.2.2.1 22, t.2.2.1 23, rfl, rfl, rfl, h⟩
    · have hs8 : ∀ i, i < N → s.2.2.1 13 i = nI (f.2.2.2.1 i) ∧ f.2.2.2.1 i ≤ 9 := fun i hi => ⟨(fl.2.2 i hi).2.1, (ok.2.1 i hi).2.1⟩
      have hs9 : ∀ i, i < N → t.2.2.1 8 (8 + i) = nI (f.2.2.2.1 i) ∧ f.2.2.2.1 i ≤ 9 := fun i hi => ⟨(ar.2.2 i hi).2.1, (ok.2.1 i hi).2.1⟩
      have pz : m_pc V ≠ 0 := fun z => q ((m_pc_0 V hV).1 z)
      have pl := m_pc_le V hV
      have e8 := ld_8 hN hs8 hn (fun x => some x) n 0 F V 0 (by omega) (by omega) hV
      rw [if_pos (show 0 % 2 = 0 from rfl), Int.zero_add] at e8
      obtain ⟨w1, d1, -, g1⟩ := du_28 hN (fun (c_more_51 : Nat → Int32) => (lp_X9_duel_55 (nI N) (t.2.2.1 8) (fun (c_more_135 : Nat → Int32) (c_ahead_135 : Nat → Int32) => (some (nI V)).bind (fun v4 => gg_chk (gg_in v4 64) ((some (((c_more_135 v4.toNatClampNeg) + (100 : Int32)), c_more_135, c_ahead_135))))) F (nI n - (1 : Int32)) c_more_51 (t.2.2.1 23))) (2 ^ N) 0 F (t.2.2.1 22) (by omega) (by omega)
      obtain ⟨w2, w3, d2, g2⟩ := du_55 hN hs9 hn (fun (c_more_135 : Nat → Int32) (c_ahead_135 : Nat → Int32) => (some (nI V)).bind (fun v4 => gg_chk (gg_in v4 64) ((some (((c_more_135 v4.toNatClampNeg) + (100 : Int32)), c_more_135, c_ahead_135))))) n F w1 (t.2.2.1 23) (by omega) (by omega) (fun A hA => by
        rw [g1 A (by omega) hA, Nat.sub_self]
        cases decide (n % 2 = 0) <;> rfl)
      rw [if_neg (nI_n0 pz (by omega)), if_neg (nI_n0 q (by omega))]
      refine ⟨iI (u_ f.2.2.2.1 N n V) + 100, iI (u_ f.2.2.2.1 N n V) + 100, w2, w3, ?_, ?_, rfl, h⟩
      · unfold f_X2_leadByLuring
        rw [ht8, Option.bind_some, ← hF]
        have e8' : lp_X2_leadByLuring_10 (nI n) (nI N) (s.2.2.1 13) (fun (x3_30 : Int32) => (some x3_30)) (fun (x3_76 : Int32) => (some x3_76)) F (nI V) (0 : Int32) (0 : Int32) = some (iI (u_ f.2.2.2.1 N n V)) := e8
        rw [e8']
        rfl
      · refine Eq.trans d1 ?_
        rw [show nI n - (1 : Int32) = nI n + (-1) from Int32.sub_eq_add_neg ..]
        refine Eq.trans d2 ?_
        rw [Option.bind_some, pu_in (show V < 64 by omega) (by omega), nx_chk, nI_clamp (by omega), g2 V hV2]
