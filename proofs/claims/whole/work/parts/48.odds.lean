theorem nx_b6 {α0 α1 α2 α3 α4 α5 β : Type} (a0 : α0) (a1 : α1) (a2 : α2) (a3 : α3) (a4 : α4) (a5 : α5) (F : α0 → α1 → α2 → α3 → α4 → α5 → Option β) : gg_b6 (some (a0, a1, a2, a3, a4, a5)) F = F a0 a1 a2 a3 a4 a5 := rfl
theorem nx_b12 {α0 α1 α2 α3 α4 α5 α6 α7 α8 α9 α10 α11 β : Type} (a0 : α0) (a1 : α1) (a2 : α2) (a3 : α3) (a4 : α4) (a5 : α5) (a6 : α6) (a7 : α7) (a8 : α8) (a9 : α9) (a10 : α10) (a11 : α11) (F : α0 → α1 → α2 → α3 → α4 → α5 → α6 → α7 → α8 → α9 → α10 → α11 → Option β) : gg_b12 (some (a0, a1, a2, a3, a4, a5, a6, a7, a8, a9, a10, a11)) F = F a0 a1 a2 a3 a4 a5 a6 a7 a8 a9 a10 a11 := rfl
def wt_ (A V p : Nat) : Nat → Nat
  | 0 => 1
  | n + 1 => wt_ A V p n * (if V.testBit n = true then (if A.testBit n = true then 12 - p else p) else 1)
theorem wt_le {A V p : Nat} (hp : p ≤ 12) : ∀ n, wt_ A V p n ≤ 12 ^ n
  | 0 => Nat.le_refl _
  | n + 1 => by
    rw [wt_, Nat.pow_succ]
    apply Nat.mul_le_mul (wt_le hp n)
    split
    · split <;> omega
    · omega
theorem wt_hi {A V p N : Nat} (h : ∀ i, N ≤ i → V.testBit i = false) : ∀ m, wt_ A V p (N + m) = wt_ A V p N
  | 0 => rfl
  | m + 1 => by
    rw [show N + (m + 1) = N + m + 1 by omega, wt_, h (N + m) (by omega), if_neg (by decide), Nat.mul_one]
    exact wt_hi h m
theorem wt_12 : ∀ V, V < 64 → wt_ V V 0 6 = 12 ^ m_pc V := by decide +kernel
theorem wt_8 {β : Type} {A V p : Nat} (hA : A < 64) (hV : V < 64) (hp : p ≤ 12) (K : Int64 → Option β) : ∀ (m j fuel : Nat), j + m = 6 → m < fuel → lp_X8_weight_5 (nI A) (nI V) (nI p) K fuel (lN (wt_ A V p j)) (nI j) = K (lN (wt_ A V p 6))
  | 0, j, fuel + 1, h1, _ => by
    have : j = 6 := by omega
    subst this
    rw [lp_X8_weight_5, if_pos (show (6 : Int32) ≤ nI 6 by decide)]
  | m + 1, j, fuel + 1, h1, hf => by
    have ih := wt_8 hA hV hp K m (j + 1) fuel (by omega) (by omega)
    rw [wt_] at ih
    rw [lp_X8_weight_5, if_neg (show ¬ (6 : Int32) ≤ nI j from (nI_ge (by omega) (by omega) : ¬ nI 6 ≤ nI j))]
    simp only [nx_let]
    rw [nI_1, ← ih]
    by_cases q : V.testBit j = true
    · rw [if_pos ((nx_oneI (by omega) (by omega)).2 q), if_pos q]
      by_cases q2 : A.testBit j = true
      · rw [if_pos ((nx_oneI (by omega) (by omega)).2 q2), if_pos q2, nx_l12, nx_sub hp, nI_l (by omega), lN_mul]
      · rw [if_neg (fun z => q2 ((nx_oneI (by omega) (by omega)).1 z)), if_neg q2, nI_l (by omega), lN_mul]
    · rw [if_neg (fun z => q ((nx_oneI (by omega) (by omega)).1 z)), if_neg q, Nat.mul_one]
theorem wt_f {A V p : Nat} (hA : A < 64) (hV : V < 64) (hp : p ≤ 12) : f_X8_weight (nI A) (nI V) (nI p) = some (lN (wt_ A V p 6)) := by
  obtain ⟨F, hF, hF2⟩ : ∃ F, F = gg_fuel ∧ 50000 ≤ F := ⟨_, rfl, pu_F⟩
  unfold f_X8_weight
  rw [← hF]
  exact wt_8 hA hV hp (fun x => some x) 6 0 F (by omega) (by omega)
def ms_ (st : Nat → Nat) (A : Nat) : Nat → Nat
  | 0 => 0
  | n + 1 => if A.testBit n = true ∧ ms_ st A n < st n then st n else ms_ st A n
theorem ms_le {st : Nat → Nat} {A : Nat} : ∀ n, (∀ i, i < n → st i ≤ 9) → ms_ st A n ≤ 9
  | 0, _ => by show 0 ≤ 9; omega
  | n + 1, h => by
    have h1 := ms_le (A := A) n (fun i hi => h i (by omega))
    have h2 := h n (by omega)
    rw [ms_]
    split <;> omega
theorem ms_up {st : Nat → Nat} {A : Nat} : ∀ n x, x < n → A.testBit x = true → st x ≤ ms_ st A n
  | 0, x, h, _ => by omega
  | n + 1, x, h, hb => by
    rw [ms_]
    by_cases q : x = n
    · subst q
      by_cases q2 : ms_ st A x < st x
      · rw [if_pos ⟨hb, q2⟩]; omega
      · rw [if_neg (fun z => q2 z.2)]; omega
    · have := ms_up (st := st) n x (by omega) hb
      split <;> omega
theorem ms_at {st : Nat → Nat} {A : Nat} : ∀ n, ms_ st A n = 0 ∨ ∃ x, x < n ∧ A.testBit x = true ∧ ms_ st A n = st x
  | 0 => Or.inl rfl
  | n + 1 => by
    rw [ms_]
    by_cases q : A.testBit n = true ∧ ms_ st A n < st n
    · rw [if_pos q]
      exact Or.inr ⟨n, by omega, q.1, rfl⟩
    · rw [if_neg q]
      rcases ms_at n with z | ⟨x, h1, h2, h3⟩
      · exact Or.inl z
      · exact Or.inr ⟨x, by omega, h2, h3⟩
theorem ms_9 {β : Type} {N : Nat} (hN : N ≤ 6) {A V p : Nat} (hA : A < 64) (hV : V < 64) (hp : p ≤ 12) {st : Nat → Nat} {tr : Nat → Int32} (hs : ∀ i, i < N → tr (8 + i) = nI (st i) ∧ st i ≤ 9) (K : Int64 → Int32 → Option β) : ∀ (m j fuel : Nat), j + m = N → m < fuel → lp_X9_layParts_93 (nI p) (nI V) (nI A) (nI N) tr K fuel (lN (wt_ A V p j)) (nI (ms_ st A j)) (nI j) = K (lN (wt_ A V p N)) (nI (ms_ st A N))
  | 0, j, fuel + 1, h1, _ => by
    have : j = N := by omega
    subst this
    rw [lp_X9_layParts_93, if_pos (nI_le (by omega) (by omega))]
  | m + 1, j, fuel + 1, h1, hf => by
    have ih := ms_9 hN hA hV hp hs K m (j + 1) fuel (by omega) (by omega)
    have hj : j < N := by omega
    have hm := ms_le (st := st) (A := A) j (fun i hi => (hs i (by omega)).2)
    have hsj := (hs j hj).2
    rw [wt_, ms_] at ih
    rw [lp_X9_layParts_93, if_neg (nI_ge (by omega) (by omega)), nx_has (by omega) (by omega), Option.bind_some, nx_has (by omega) (by omega), show (8 : Int32) + nI j = nI (8 + j) from nI_add 8 j, pu_in (show 8 + j < 26 by omega) (by omega), nI_clamp (by omega), (hs j hj).1, nI_1]
    simp only [nx_let, nx_chk, Option.bind_some]
    rw [← ih]
    have e1 : (1 : Int64) = lN 1 := rfl
    have e12 : ((12 : Int32) - nI p).toInt64 = lN (12 - p) := by rw [nx_l12, nx_sub hp, nI_l (by omega)]
    have ep : (nI p).toInt64 = lN p := nI_l (by omega)
    rw [e1, e12, ep]
    have n0 : nI 0 = 0 := rfl
    have n1 : ¬ nI 1 = 0 := by decide
    have l1 : ms_ st A j < st j → ¬ nI (st j) ≤ nI (ms_ st A j) := fun z => nI_ge z (by omega)
    have l2 : ¬ ms_ st A j < st j → nI (st j) ≤ nI (ms_ st A j) := fun z => nI_le (by omega) (by omega)
    by_cases q : V.testBit j = true
    · by_cases q2 : A.testBit j = true
      · by_cases q3 : ms_ st A j < st j
        · simp only [if_pos q, if_pos q2, if_neg n1, if_neg (l1 q3), if_pos (show A.testBit j = true ∧ ms_ st A j < st j from ⟨q2, q3⟩), lN_mul]
        · simp only [if_pos q, if_pos q2, if_neg n1, if_pos (l2 q3), if_neg (show ¬ (A.testBit j = true ∧ ms_ st A j < st j) from fun z => q3 z.2), lN_mul]
      · simp only [if_pos q, if_neg q2, if_neg n1, if_pos n0, if_neg (show ¬ (A.testBit j = true ∧ ms_ st A j < st j) from fun z => q2 z.1), lN_mul]
    · by_cases q2 : A.testBit j = true
      · by_cases q3 : ms_ st A j < st j
        · simp only [if_neg q, if_pos q2, if_neg n1, if_pos n0, if_neg (l1 q3), if_pos (show A.testBit j = true ∧ ms_ st A j < st j from ⟨q2, q3⟩), lN_mul]
        · simp only [if_neg q, if_pos q2, if_neg n1, if_pos n0, if_pos (l2 q3), if_neg (show ¬ (A.testBit j = true ∧ ms_ st A j < st j) from fun z => q3 z.2), lN_mul]
      · simp only [if_neg q, if_neg q2, if_pos n0, if_neg (show ¬ (A.testBit j = true ∧ ms_ st A j < st j) from fun z => q2 z.1), lN_mul]
theorem pt_i : ∀ A, A < 64 → ∀ V, V < 64 → ((nI A &&& (nI V ^^^ (-1 : Int32)) = 0) ↔ (A &&& V = A)) := by decide +kernel
theorem pt_8 {A V : Nat} (hA : A < 64) (hV : V < 64) : f_X8_isPartOf (nI A) (nI V) = some (if A &&& V = A then 1 else 0) := by
  unfold f_X8_isPartOf
  rw [nx_let]
  by_cases q : A &&& V = A
  · rw [if_pos ((pt_i A hA V hV).2 q), if_pos q]
    rfl
  · rw [if_neg (fun z => q ((pt_i A hA V hV).1 z)), if_neg q]
    rfl
def os_ (V p v : Nat) : Nat → Nat
  | 0 => 0
  | A + 1 => os_ V p v A + (if A &&& V = A ∧ v ≤ m_pc A then wt_ A V p 6 else 0)
def ss_ (st : Nat → Nat) (N V p : Nat) : Nat → Nat
  | 0 => 0
  | A + 1 => ss_ st N V p A + (if A &&& V = A then wt_ A V p 6 * ms_ st A N else 0)
theorem wt_6 {A V p : Nat} (hp : p ≤ 12) : wt_ A V p 6 ≤ 2985984 := wt_le hp 6
theorem os_le {V p v c : Nat} (hc : ∀ A, wt_ A V p 6 ≤ c) : ∀ n, os_ V p v n ≤ n * c
  | 0 => Nat.zero_le _
  | A + 1 => by
    have h1 := os_le (v := v) hc A
    have h2 := hc A
    rw [os_, Nat.succ_mul]
    split <;> omega
theorem ss_le {st : Nat → Nat} {N V p c : Nat} (hc : ∀ A, wt_ A V p 6 ≤ c) (hs : ∀ i, i < N → st i ≤ 9) : ∀ n, ss_ st N V p n ≤ n * (c * 9)
  | 0 => Nat.zero_le _
  | A + 1 => by
    have h1 := ss_le hc hs A
    have h2 := Nat.mul_le_mul (hc A) (ms_le (A := A) N hs)
    rw [ss_, Nat.succ_mul]
    split <;> omega
theorem os_lt {V p v : Nat} (hp : p ≤ 12) (hV : V < 64) : os_ V p v (V + 1) < 9223372036854775808 := by
  have h1 := os_le (V := V) (v := v) (fun A => wt_6 (A := A) (V := V) hp) (V + 1)
  have h2 : (V + 1) * 2985984 ≤ 64 * 2985984 := Nat.mul_le_mul_right _ (by omega)
  exact Nat.lt_of_le_of_lt (Nat.le_trans h1 h2) (by decide)
theorem ss_lt {st : Nat → Nat} {N V p : Nat} (hp : p ≤ 12) (hs : ∀ i, i < N → st i ≤ 9) (hV : V < 64) : ss_ st N V p (V + 1) < 9223372036854775808 := by
  have h1 := ss_le (V := V) (fun A => wt_6 (A := A) (V := V) hp) hs (V + 1)
  have h2 : (V + 1) * (2985984 * 9) ≤ 64 * (2985984 * 9) := Nat.mul_le_mul_right _ (by omega)
  exact Nat.lt_of_le_of_lt (Nat.le_trans h1 h2) (by decide)
theorem od_8 {β : Type} {V p v : Nat} (hV : V < 64) (hp : p ≤ 12) (hv : v ≤ 6) (K : Int64 → Option β) : ∀ (m A fuel : Nat), A + m = V + 1 → m < fuel → lp_X8_odds_46 (nI v) (nI p) (nI V) K fuel (lN (os_ V p v A)) (nI A) = K (lN (os_ V p v (V + 1)))
  | 0, A, fuel + 1, h1, _ => by
    have : A = V + 1 := by omega
    subst this
    rw [lp_X8_odds_46, if_pos (nI_lt (by omega) (by omega))]
  | m + 1, A, fuel + 1, h1, hf => by
    have ih := od_8 hV hp hv K m (A + 1) fuel (by omega) (by omega)
    have hA : A < 64 := by omega
    have pl := m_pc_le A hA
    rw [os_] at ih
    rw [lp_X8_odds_46, if_neg (nI_nlt (by omega) (by omega)), pt_8 hA hV, e_bc A hA, wt_f hA hV hp]
    simp only [nx_let, Option.bind_some]
    rw [nI_1, ← ih]
    by_cases q : A &&& V = A
    · rw [if_pos q, if_neg (show ¬ (1 : Int32) = 0 by decide)]
      by_cases q2 : v ≤ m_pc A
      · rw [if_neg (nI_nlt (by omega) (by omega)), if_pos ⟨q, q2⟩, lN_add]
      · rw [if_pos (nI_lt (by omega) (by omega)), if_neg (fun z => q2 z.2)]
        rfl
    · rw [if_neg q, if_pos rfl, if_neg (fun z => q z.1)]
      rfl
theorem mi_8 {β : Type} {N : Nat} (hN : N ≤ 6) {V p : Nat} (hV : V < 2 ^ N) (hp : p ≤ 12) {st : Nat → Nat} {tr : Nat → Int32} (hs : ∀ i, i < N → tr i = nI (st i) ∧ st i ≤ 9) (K : Int64 → Option β) : ∀ (m A fuel : Nat), A + m = V + 1 → m < fuel → lp_X8_mid_35 (nI p) (nI V) (nI N) tr K fuel (lN (ss_ st N V p A)) (nI A) = K (lN (ss_ st N V p (V + 1)))
  | 0, A, fuel + 1, h1, _ => by
    have h64 : 2 ^ N ≤ 64 := Nat.pow_le_pow_right (n := 2) (by omega) hN
    have : A = V + 1 := by omega
    subst this
    rw [lp_X8_mid_35, if_pos (nI_lt (by omega) (by omega))]
  | m + 1, A, fuel + 1, h1, hf => by
    have h64 : 2 ^ N ≤ 64 := Nat.pow_le_pow_right (n := 2) (by omega) hN
    have ih := mi_8 hN hV hp hs K m (A + 1) fuel (by omega) (by omega)
    have hA : A < 64 := by omega
    have hV6 : V < 64 := by omega
    rw [ss_] at ih
    rw [lp_X8_mid_35, if_neg (nI_nlt (by omega) (by omega)), ← ih]
    rcases so_e hN (fun i hi => ⟨(hs i hi).1, by have := (hs i hi).2; omega⟩) hA (st := st) (strength := tr) with ⟨e, hz⟩ | ⟨b, e, hb, bb, hx⟩
    · have hm0 : ms_ st A N = 0 := by
        rcases ms_at (st := st) (A := A) N with z | ⟨x, h1, h2, h3⟩
        · exact z
        · rw [hz x h1] at h2
          exact absurd h2 (by decide)
      rw [e, pt_8 hA hV6]
      simp only [nx_let, Option.bind_some, if_true]
      rw [nI_1, hm0, Nat.mul_zero]
      by_cases q : A &&& V = A
      · rw [if_pos q, if_pos q, if_neg (show ¬ (1 : Int32) = 0 by decide)]
        rfl
      · rw [if_neg q, if_neg q, if_pos rfl]
        rfl
    · have hmb : ms_ st A N = st b := by
        have l1 := ms_up (st := st) (A := A) N b hb bb
        rcases ms_at (st := st) (A := A) N with z | ⟨x, h1, h2, h3⟩
        · omega
        · have := hx x h1 h2
          omega
      have n9 : ¬ nI b = -9 := by
        rw [nx_n9 (by omega)]
        exact id
      have hsb := (hs b hb).2
      rw [e, pt_8 hA hV6, wt_f hA hV6 hp]
      simp only [nx_let, Option.bind_some]
      rw [pu_in (show b < 6 by omega) (by omega), nx_chk, nI_clamp (by omega), (hs b hb).1, nI_1, hmb, nI_l (by omega), lN_mul, lN_add]
      by_cases q : A &&& V = A
      · rw [if_pos q, if_pos q, if_neg (show ¬ (1 : Int32) = 0 by decide), if_neg n9]
      · rw [if_neg q, if_neg q, if_pos rfl]
        rfl
theorem la_39 {β : Type} {V : Nat} (hV : V < 64) (K : Int64 → Option β) : ∀ (m j fuel : Nat), j + m = m_pc V → m < fuel → lp_X9_layParts_39 (nI V) K fuel (nI j) (lN (12 ^ j)) = K (lN (12 ^ m_pc V))
  | 0, j, fuel + 1, h1, _ => by
    have pl := m_pc_le V hV
    rw [lp_X9_layParts_39, ar_bits hV, Option.bind_some, if_pos (nI_le (by omega) (by omega)), show j = m_pc V by omega]
  | m + 1, j, fuel + 1, h1, hf => by
    have pl := m_pc_le V hV
    rw [lp_X9_layParts_39, ar_bits hV, Option.bind_some, if_neg (nI_ge (by omega) (by omega)), show (12 : Int64) = lN 12 from rfl, lN_mul, ← Nat.pow_succ, nI_1]
    exact la_39 hV K m (j + 1) fuel (by omega) (by omega)
theorem la_69 {β : Type} {N : Nat} (hN : N ≤ 6) {V p v : Nat} (hV : V < 2 ^ N) (hp : p ≤ 12) (hv : v ≤ 6) {st : Nat → Nat} {tr : Nat → Int32} (hs : ∀ i, i < N → tr (8 + i) = nI (st i) ∧ st i ≤ 9) (K : Int64 → Int64 → Option β) : ∀ (m A fuel : Nat), A + m = V + 1 → m < fuel → lp_X9_layParts_69 (nI v) (nI p) (nI V) (nI N) tr K fuel (nI A) (lN (os_ V p v A)) (lN (ss_ st N V p A)) = K (lN (os_ V p v (V + 1))) (lN (ss_ st N V p (V + 1)))
  | 0, A, fuel + 1, h1, _ => by
    have h64 : 2 ^ N ≤ 64 := Nat.pow_le_pow_right (n := 2) (by omega) hN
    have : A = V + 1 := by omega
    subst this
    rw [lp_X9_layParts_69, if_pos (nI_lt (by omega) (by omega))]
  | m + 1, A, fuel + 1, h1, hf => by
    have h64 : 2 ^ N ≤ 64 := Nat.pow_le_pow_right (n := 2) (by omega) hN
    obtain ⟨F, hF, hF2⟩ : ∃ F, F = gg_fuel ∧ 50000 ≤ F := ⟨_, rfl, pu_F⟩
    have ih := la_69 hN hV hp hv hs K m (A + 1) fuel (by omega) (by omega)
    have hA : A < 64 := by omega
    have hV6 : V < 64 := by omega
    have pl := m_pc_le A hA
    have hw : wt_ A V p 6 = wt_ A V p N := by
      have := wt_hi (A := A) (p := p) (V := V) (N := N) (fun i hi => Nat.testBit_lt_two_pow (Nat.lt_of_lt_of_le hV (Nat.pow_le_pow_right (by omega) hi))) (6 - N)
      rw [show N + (6 - N) = 6 by omega] at this
      exact this
    have hml := ms_le (st := st) (A := A) N (fun i hi => (hs i hi).2)
    rw [os_, ss_] at ih
    rw [lp_X9_layParts_69, if_neg (nI_nlt (by omega) (by omega)), nx_let, ← hF, nI_1]
    by_cases q : A &&& V = A
    · rw [if_pos ((pt_i A hA V hV6).2 q)]
      rw [if_pos q] at ih
      have e := ms_9 hN hA hV6 hp hs (fun (x5_188 : Int64) (x7_188 : Int32) => (f_X9_bits (nI A)).bind (fun v8 => gg_lt (fun (s2_208 : Int64) => lp_X9_layParts_69 (nI v) (nI p) (nI V) (nI N) tr K fuel (nI (A + 1)) (lN (os_ V p v A) + s2_208) (lN (ss_ st N V p A) + (x5_188 * (x7_188.toInt64)))) (fun k208 => (if v8 < nI v then (k208 (0 : Int64)) else (k208 x5_188))))) N 0 F (by omega) (by omega)
      refine Eq.trans e ?_
      rw [ar_bits hA]
      simp only [nx_let, Option.bind_some]
      rw [← hw, nI_l (show ms_ st A N < 2 ^ 31 by omega), lN_mul, lN_add, show (0 : Int64) = lN 0 from rfl, lN_add, lN_add, ← ih]
      by_cases q2 : v ≤ m_pc A
      · rw [if_neg (nI_nlt (by omega) (by omega)), if_pos ⟨q, q2⟩]
      · rw [if_pos (nI_lt (by omega) (by omega)), if_neg (fun z => q2 z.2)]
    · rw [if_neg (fun z => q ((pt_i A hA V hV6).1 z))]
      rw [if_neg q, if_neg (fun z => q z.1), Nat.add_zero, Nat.add_zero] at ih
      exact ih
theorem eu_m {b r : Nat} (hr : 0 < r) (h : r < b) : 2 * (b % r) < b := by
  have h1 := Nat.div_add_mod b r
  have h2 : 0 < b / r := Nat.div_pos (by omega) hr
  have h3 : r ≤ r * (b / r) := Nat.le_mul_of_pos_right r h2
  have h4 := Nat.mod_lt b hr
  omega
theorem eu_z {b : Nat} (h : b ≠ 0) (hb : b < 9223372036854775808) : (!decide (lN b = 0)) = true := by
  rw [show (0 : Int64) = lN 0 from rfl, decide_eq_false (fun z => h ((pk_lEQ (by omega) (by omega)).1 z))]
  rfl
theorem eu_c {b : Nat} (hb : b < 9223372036854775808) : (lg_cmp (lN b) (0 : Int64) = (0 : Int32)) ↔ b = 0 := by
  rw [show (0 : Int64) = lN 0 from rfl]
  exact (lg_cmp_eq _ _).trans (pk_lEQ (by omega) (by omega))
theorem eu_8 {β : Type} (K : Int64 → Option β) : ∀ (k a b s fuel : Nat), b < 2 ^ k → k ≤ 40 → a < 9223372036854775808 → s + 2 * k < 100 → 2 * k + 1 < fuel → lp_X8_greatestDivisor_3 K fuel (lN a) (lN b) (nI s) = K (lN (Nat.gcd a b))
  | k, a, 0, s, fuel + 1, hb, hk, ha, hs, hf => by
    rw [lp_X8_greatestDivisor_3, if_neg (show ¬ (100 : Int32) ≤ nI s from (nI_ge (by omega) (by omega) : ¬ nI 100 ≤ nI s)), if_pos ((eu_c (by omega)).2 rfl), Nat.gcd_zero_right]
  | 0, a, b + 1, s, fuel + 1, hb, hk, ha, hs, hf => by
    rw [Nat.pow_zero] at hb
    omega
  | k + 1, a, b + 1, s, fuel + 2, hb, hk, ha, hs, hf => by
    have hp : 2 ^ (k + 1) ≤ 2 ^ 40 := Nat.pow_le_pow_right (by omega) hk
    have hb9 : b + 1 < 9223372036854775808 := by omega
    have hr := Nat.mod_lt a (show 0 < b + 1 by omega)
    rw [lp_X8_greatestDivisor_3, if_neg (show ¬ (100 : Int32) ≤ nI s from (nI_ge (by omega) (by omega) : ¬ nI 100 ≤ nI s)), if_neg (fun z => absurd ((eu_c hb9).1 z) (by omega)), eu_z (by omega) hb9, nx_chk, pk_lRem ha (by omega) hb9, nI_1, lp_X8_greatestDivisor_3, if_neg (show ¬ (100 : Int32) ≤ nI (s + 1) from (nI_ge (by omega) (by omega) : ¬ nI 100 ≤ nI (s + 1)))]
    have e1 : Nat.gcd a (b + 1) = Nat.gcd (b + 1) (a % (b + 1)) := by rw [Nat.gcd_comm, Nat.gcd_rec, Nat.gcd_comm]
    by_cases q : a % (b + 1) = 0
    · rw [q, if_pos ((eu_c (by omega)).2 rfl), e1, q, Nat.gcd_zero_right]
    · have hm := eu_m (b := b + 1) (r := a % (b + 1)) (by omega) hr
      have e2 : Nat.gcd (b + 1) (a % (b + 1)) = Nat.gcd (a % (b + 1)) ((b + 1) % (a % (b + 1))) := by rw [Nat.gcd_comm, Nat.gcd_rec, Nat.gcd_comm]
      rw [if_neg (fun z => q ((eu_c (by omega)).1 z)), eu_z q (by omega), nx_chk, pk_lRem (by omega) (by omega) (by omega), nI_1, e1, e2]
      rw [Nat.pow_succ] at hb
      exact eu_8 K k _ _ (s + 1 + 1) fuel (by omega) (by omega) (by omega) (by omega) (by omega)
theorem eu_9 {β : Type} (K : Int64 → Option β) : ∀ (k a b fuel : Nat), b < 2 ^ k → k ≤ 40 → a < 9223372036854775808 → 2 * k + 1 < fuel → lp_X9_fraction_6 K fuel (lN a) (lN b) = K (lN (Nat.gcd a b))
  | k, a, 0, fuel + 1, hb, hk, ha, hf => by
    rw [lp_X9_fraction_6, if_pos ((eu_c (by omega)).2 rfl), Nat.gcd_zero_right]
  | 0, a, b + 1, fuel + 1, hb, hk, ha, hf => by
    rw [Nat.pow_zero] at hb
    omega
  | k + 1, a, b + 1, fuel + 2, hb, hk, ha, hf => by
    have hp : 2 ^ (k + 1) ≤ 2 ^ 40 := Nat.pow_le_pow_right (by omega) hk
    have hb9 : b + 1 < 9223372036854775808 := by omega
    have hr := Nat.mod_lt a (show 0 < b + 1 by omega)
    rw [lp_X9_fraction_6, if_neg (fun z => absurd ((eu_c hb9).1 z) (by omega)), eu_z (by omega) hb9, nx_chk, pk_lRem ha (by omega) hb9, lp_X9_fraction_6]
    have e1 : Nat.gcd a (b + 1) = Nat.gcd (b + 1) (a % (b + 1)) := by rw [Nat.gcd_comm, Nat.gcd_rec, Nat.gcd_comm]
    by_cases q : a % (b + 1) = 0
    · rw [q, if_pos ((eu_c (by omega)).2 rfl), e1, q, Nat.gcd_zero_right]
    · have hm := eu_m (b := b + 1) (r := a % (b + 1)) (by omega) hr
      have e2 : Nat.gcd (b + 1) (a % (b + 1)) = Nat.gcd (a % (b + 1)) ((b + 1) % (a % (b + 1))) := by rw [Nat.gcd_comm, Nat.gcd_rec, Nat.gcd_comm]
      rw [if_neg (fun z => q ((eu_c (by omega)).1 z)), eu_z q (by omega), nx_chk, pk_lRem (by omega) (by omega) (by omega), e1, e2]
      rw [Nat.pow_succ] at hb
      exact eu_9 K k _ _ fuel (by omega) (by omega) (by omega) (by omega)
theorem te_ {a b : Nat} (ha : a < 9223372036854775808) (h0 : b ≠ 0) (hb : b < 16777216) (x y : Int64) : f_X8_tell (lN a) (lN b) x y = some (lN a / lN (Nat.gcd a b), lN b / lN (Nat.gcd a b)) ∧ f_X9_fraction (lN a) (lN b) x y = some (1, lN a / lN (Nat.gcd a b), lN b / lN (Nat.gcd a b)) := by
  obtain ⟨F, hF, hF2⟩ : ∃ F, F = gg_fuel ∧ 50000 ≤ F := ⟨_, rfl, pu_F⟩
  have e8 := eu_8 (fun x => some x) 24 a b 0 F (by omega) (by omega) ha (by omega) (by omega)
  have e9 := eu_9 (fun (x5_31 : Int64) => gg_chk (!decide (x5_31 = 0)) (gg_chk (!decide (x5_31 = 0)) ((some ((1 : Int32), (lN a / x5_31), (lN b / x5_31)))))) 24 a b F (by omega) (by omega) ha (by omega)
  have g0 : Nat.gcd a b ≠ 0 := fun z => h0 (Nat.eq_zero_of_gcd_eq_zero_right z)
  have gl : Nat.gcd a b ≤ b := Nat.le_of_dvd (by omega) (Nat.gcd_dvd_right a b)
  refine ⟨?_, ?_⟩
  · unfold f_X8_tell f_X8_greatestDivisor
    rw [← hF, show (0 : Int32) = nI 0 from rfl, e8, Option.bind_some, eu_z g0 (by omega)]
    simp only [nx_let, nx_chk]
    have hc : ¬ lg_cmp (lN (Nat.gcd a b)) (0 : Int64) = nI 0 := fun z => g0 ((eu_c (by omega)).1 z)
    rw [if_neg hc, if_neg hc]
  · unfold f_X9_fraction
    rw [← hF]
    refine Eq.trans e9 ?_
    rw [eu_z g0 (by omega), nx_chk, nx_chk]
theorem be_hind {N : Nat} {kd wd : Nat → Nat} {f : FS_} {s t : ll_S} (nw : nw_ N kd wd f s t) : ∃ (V : Nat) (st : Nat → Nat) (c1 c2 c3 : Int32) (d1 d2 d3 d4 d5 d6 d7 : Nat → Int32) (bm : Int32) (tr ba b9 : Nat → Int32), V < 2 ^ N ∧ f_X8_thereBehindWinter (nI N) (s.1 11) (s.1 12) (s.2.2.1 10) (s.2.2.1 11) (s.2.2.1 12) (s.2.2.1 13) (s.2.2.1 14) (s.2.2.1 15) (s.1 14) (s.1 15) (s.1 16) (s.1 17) (s.2.2.1 17) (s.2.2.1 18) (s.2.2.1 19) (s.2.2.1 20) (s.2.2.1 21) (s.2.2.1 22) (s.2.2.1 23) = some (nI V, nI N, c1, c2, c3, d1, d2, d3, d4, d5, d6, d7) ∧ (∀ i, i < N → d4 i = nI (st i) ∧ st i ≤ 9) ∧ f_X9_copyNow (t.2.2.1 8) (t.2.2.1 9) = some b9 ∧ f_X9_passes_a26 (nI N) (t.1 7) (t.2.2.1 6) (t.2.2.1 7) (t.2.2.1 12) b9 = some (bm, ba, tr) ∧ f_X9_there_a26 (nI N) tr = some (nI V) ∧ ∀ i, i < N → tr (8 + i) = nI (st i) ∧ st i ≤ 9 := by
  obtain ⟨hN, e10, eT2, kw, kt, fl, ar, ok, due⟩ := id nw
  obtain ⟨w', k', h', s', n', b', be, bw, ba⟩ := be_come (s.1 14) (s.1 15) (s.1 16) (s.1 17) (s.2.2.1 17) (s.2.2.1 18) (s.2.2.1 19) (s.2.2.1 20) (s.2.2.1 21) (s.2.2.1 22) (nI N) (s.1 11) (s.1 12) (s.2.2.1 10) (s.2.2.1 11) (s.2.2.1 12) (s.2.2.1 13) (s.2.2.1 14) (s.2.2.1 15)
  have kwa := fr_kw_c hN kw (fun j hj => (ba j hj).1) bw
  have fla := fr_fl_c hN fl (fun j hj => (ba j hj).2)
  obtain ⟨b9, cn, cn2⟩ := cn_ (t.2.2.1 8) (t.2.2.1 9)
  have ara := fr_ar_c hN ar cn2
  have bd : fr_bd N f := fr_bd_of ok (by omega)
  have okw : fr_ok N (w_win N kd wd f) := w_win_ok (fun i hi => (kw.1 i hi).1) ok
  obtain ⟨x4, x5, x6, x7, y1, y2, -, -, -, -⟩ := fl_winter hN kwa bd fla 0 (s.2.2.1 23)
  obtain ⟨z3, z2, u1, u2, -⟩ := ar_winter hN kt bd ara (t.1 7) (t.2.2.1 12)
  refine ⟨w_set N (w_win N kd wd f).2.2.2.2.2, (w_win N kd wd f).2.2.2.1, nI (w_win N kd wd f).1, nI (w_win N kd wd f).2.1, nI (w_fly N kd wd f).2.2.2.length, w', k', h', x4, x5, x6, x7, nI (w_fly N kd wd f).2.2.2.length, z2, z3, b9, m_bits_lt _ N, ?_, fun i hi => ⟨(y2.2.2 i hi).2.1, (okw.2.1 i hi).2.1⟩, cn, u1, ar_there hN (fr_ar_b u2 okw), fun i hi => ⟨(u2.2.2 i hi).2.1, (okw.2.1 i hi).2.1⟩⟩
  unfold f_X8_thereBehindWinter
  rw [be, nx_b10, y1, nx_b7, fl_there hN (fr_fl_b y2 okw), Option.bind_some]
theorem la_9 {N : Nat} (hN : N ≤ 6) {V p v : Nat} (hV : V < 2 ^ N) (hp : p ≤ 12) (hv : v ≤ 6) {st : Nat → Nat} {now tried back kind winds tr ba b9 : Nat → Int32} {bm0 bm : Int32} {w0 x0 y0 : Int64} (h1 : f_X9_copyNow now tried = some b9) (h2 : f_X9_passes_a26 (nI N) bm0 kind winds back b9 = some (bm, ba, tr)) (h3 : f_X9_there_a26 (nI N) tr = some (nI V)) (hs : ∀ i, i < N → tr (8 + i) = nI (st i) ∧ st i ≤ 9) : f_X9_layParts (nI v) (nI p) (nI N) bm0 w0 x0 y0 kind winds now tried back = some (bm, lN (12 ^ m_pc V), lN (os_ V p v (V + 1)), lN (ss_ st N V p (V + 1)), tr, ba) := by
  obtain ⟨F, hF, hF2⟩ : ∃ F, F = gg_fuel ∧ 50000 ≤ F := ⟨_, rfl, pu_F⟩
  have h64 : 2 ^ N ≤ 64 := Nat.pow_le_pow_right (n := 2) (by omega) hN
  have pl := m_pc_le V (by omega)
  have e1 := la_39 (V := V) (by omega) (fun (c_whole_66 : Int64) => (lp_X9_layParts_69 (nI v) (nI p) (nI V) (nI N) tr (fun (c_wellSum_233 : Int64) (c_strongSum_233 : Int64) => (some (bm, c_whole_66, c_wellSum_233, c_strongSum_233, tr, ba))) F (0 : Int32) (0 : Int64) (0 : Int64))) (m_pc V) 0 F (by omega) (by omega)
  have e2 := la_69 hN hV hp hv hs (fun (c_wellSum_233 : Int64) (c_strongSum_233 : Int64) => (some (bm, lN (12 ^ m_pc V), c_wellSum_233, c_strongSum_233, tr, ba))) (V + 1) 0 F (by omega) (by omega)
  unfold f_X9_layParts
  rw [h1, Option.bind_some, h2, nx_b3, h3, Option.bind_some, ← hF]
  exact e1.trans e2
theorem p12_ {V : Nat} (h : V < 64) : 12 ^ m_pc V ≠ 0 ∧ 12 ^ m_pc V < 16777216 := by
  have h1 : 12 ^ m_pc V ≤ 12 ^ 6 := Nat.pow_le_pow_right (by omega) (m_pc_le V h)
  have h2 : 0 < 12 ^ m_pc V := Nat.pow_pos (by omega)
  omega
theorem nd_9' {N : Nat} (h : N ≠ 0) (hN : N ≤ 6) : f_X9_need (nI 1) (nI N) = some 0 := nd_9 h hN
theorem sm_odds : sim_odds Rl_ := by
  intro s t h a0 a1
  obtain ⟨N, kd, wd, f, nw⟩ := rl_nw h.2.2.2.2.2
  obtain ⟨hN, e10, eT2, kw, kt, fl, ar, ok, due⟩ := id nw
  obtain ⟨F, hF, hF2⟩ : ∃ F, F = gg_fuel ∧ 50000 ≤ F := ⟨_, rfl, pu_F⟩
  have h64 : 2 ^ N ≤ 64 := Nat.pow_le_pow_right (n := 2) (by omega) hN
  unfold f_X8_odds f_X9_odds
  rw [e10, eT2, ← hF]
  rcases pu_rng a0 6 6 (by omega) rfl with ⟨q1, q2⟩ | ⟨v, hv, rfl, q1, q2⟩
  · rw [q1, q2]
    refine ⟨-1, s.2.1 0, s.2.1 1, s.1 14, s.1 15, s.1 16, s.1 17, s.2.2.1 17, s.2.2.1 18, s.2.2.1 19, s.2.2.1 20, s.2.2.1 21, s.2.2.1 22, s.2.2.1 23, -1, t.2.1 0, t.2.1 1, t.1 7, t.2.1 2, t.2.1 3, t.2.1 4, t.2.2.1 9, t.2.2.1 12, ?_, ?_, rfl, ⟨h.1, h.2.1, h.2.2⟩⟩ <;> rfl
  · rcases pu_rng a1 12 12 (by omega) rfl with ⟨p1, p2⟩ | ⟨p, hp, rfl, p1, p2⟩
    · rw [q1, q2, p1, p2]
      refine ⟨-1, s.2.1 0, s.2.1 1, s.1 14, s.1 15, s.1 16, s.1 17, s.2.2.1 17, s.2.2.1 18, s.2.2.1 19, s.2.2.1 20, s.2.2.1 21, s.2.2.1 22, s.2.2.1 23, -1, t.2.1 0, t.2.1 1, t.1 7, t.2.1 2, t.2.1 3, t.2.1 4, t.2.2.1 9, t.2.2.1 12, ?_, ?_, rfl, ⟨h.1, h.2.1, h.2.2⟩⟩ <;> rfl
    · rw [q1, q2, p1, p2, Option.bind_some, nx_let, if_neg (show ¬ nI 1 = 0 by decide), Option.bind_some, if_neg (show ¬ nI 1 = 0 by decide), Option.bind_some, nx_let, nx_let, if_neg (show ¬ nI 1 = 0 by decide), Option.bind_some, if_neg (show ¬ nI 1 = 0 by decide)]
      by_cases q0 : N = 0
      · subst q0
        refine ⟨-4, s.2.1 0, s.2.1 1, s.1 14, s.1 15, s.1 16, s.1 17, s.2.2.1 17, s.2.2.1 18, s.2.2.1 19, s.2.2.1 20, s.2.2.1 21, s.2.2.1 22, s.2.2.1 23, -4, t.2.1 0, t.2.1 1, t.1 7, t.2.1 2, t.2.1 3, t.2.1 4, t.2.2.1 9, t.2.2.1 12, ?_, ?_, rfl, ⟨h.1, h.2.1, h.2.2⟩⟩ <;> rfl
      · obtain ⟨V, st, c1, c2, c3, d1, d2, d3, d4, d5, d6, d7, bm, tr, ba, b9, hV, g8, hs8, g1, g2, g3, hs9⟩ := be_hind nw
        have hV6 : V < 64 := by omega
        have hla := la_9 hN hV hp (v := v) (by omega) (w0 := t.2.1 2) (x0 := t.2.1 3) (y0 := t.2.1 4) g1 g2 g3 hs9
        have hp12 := p12_ hV6
        have hbs : os_ V p v (V + 1) < 9223372036854775808 := os_lt hp hV6
        have hw : f_X8_weight (nI V) (nI V) (0 : Int32) = some (lN (12 ^ m_pc V)) := by
          have := wt_f (A := V) (V := V) (p := 0) hV6 hV6 (by omega)
          rw [wt_12 V hV6] at this
          exact this
        obtain ⟨t8, -⟩ := te_ hbs hp12.1 hp12.2 (s.2.1 0) (s.2.1 1)
        obtain ⟨-, t9⟩ := te_ hbs hp12.1 hp12.2 (t.2.1 0) (t.2.1 1)
        obtain ⟨X, hX⟩ : ∃ X, X = os_ V p v (V + 1) := ⟨_, rfl⟩
        obtain ⟨W, hW⟩ : ∃ W, W = 12 ^ m_pc V := ⟨_, rfl⟩
        have e8 := od_8 hV6 hp hv (fun (x4_88 : Int64) => (f_X8_weight (nI V) (nI V) (0 : Int32)).bind (fun v7 => gg_b2 (f_X8_tell x4_88 v7 (s.2.1 0) (s.2.1 1)) (fun v8_0 v8_1 => (some ((1 : Int32), v8_0, v8_1, nI N, c1, c2, c3, d1, d2, d3, d4, d5, d6, d7))))) (V + 1) 0 F (by omega) (by omega)
        dsimp only
        rw [if_neg (nI_n0 q0 (by omega)), g8, nx_b12]
        refine ⟨1, lN X / lN (Nat.gcd X W), lN W / lN (Nat.gcd X W), nI N, c1, c2, c3, d1, d2, d3, d4, d5, d6, d7, 1, lN X / lN (Nat.gcd X W), lN W / lN (Nat.gcd X W), bm, lN W, lN (os_ V p v (V + 1)), lN (ss_ st N V p (V + 1)), tr, ba, ?_, ?_, rfl, ⟨h.1, h.2.1, ⟨rfl, rfl⟩, h.2.2.2⟩⟩
        · refine Eq.trans e8 ?_
          rw [hw, Option.bind_some, t8, nx_b2, ← hX, ← hW]
        · have hla' : f_X9_layParts (nI v) (nI p) (nI N) (t.1 7) (t.2.1 2) (t.2.1 3) (t.2.1 4) (t.2.2.1 6) (t.2.2.1 7) (t.2.2.1 8) (t.2.2.1 9) (t.2.2.1 12) = _ := hla
          rw [nd_9 q0 hN, Option.bind_some, if_pos (show (0 : Int32) ≤ 0 by decide), hla', nx_b6, t9, nx_b3, ← hX, ← hW]
theorem sm_mid : sim_mid Rl_ := by
  intro s t h a0
  obtain ⟨N, kd, wd, f, nw⟩ := rl_nw h.2.2.2.2.2
  obtain ⟨hN, e10, eT2, kw, kt, fl, ar, ok, due⟩ := id nw
  obtain ⟨F, hF, hF2⟩ : ∃ F, F = gg_fuel ∧ 50000 ≤ F := ⟨_, rfl, pu_F⟩
  have h64 : 2 ^ N ≤ 64 := Nat.pow_le_pow_right (n := 2) (by omega) hN
  unfold f_X8_mid f_X9_mid
  rw [e10, eT2, ← hF]
  rcases pu_rng a0 12 12 (by omega) rfl with ⟨q1, q2⟩ | ⟨p, hp, rfl, q1, q2⟩
  · rw [q1, q2]
    refine ⟨-1, s.2.1 0, s.2.1 1, s.1 14, s.1 15, s.1 16, s.1 17, s.2.2.1 17, s.2.2.1 18, s.2.2.1 19, s.2.2.1 20, s.2.2.1 21, s.2.2.1 22, s.2.2.1 23, -1, t.2.1 0, t.2.1 1, t.1 7, t.2.1 2, t.2.1 3, t.2.1 4, t.2.2.1 9, t.2.2.1 12, ?_, ?_, rfl, ⟨h.1, h.2.1, h.2.2⟩⟩ <;> rfl
  · rw [q1, q2, Option.bind_some, if_neg (show ¬ nI 1 = 0 by decide), Option.bind_some]
    by_cases q0 : N = 0
    · subst q0
      refine ⟨-4, s.2.1 0, s.2.1 1, s.1 14, s.1 15, s.1 16, s.1 17, s.2.2.1 17, s.2.2.1 18, s.2.2.1 19, s.2.2.1 20, s.2.2.1 21, s.2.2.1 22, s.2.2.1 23, -4, t.2.1 0, t.2.1 1, t.1 7, t.2.1 2, t.2.1 3, t.2.1 4, t.2.2.1 9, t.2.2.1 12, ?_, ?_, rfl, ⟨h.1, h.2.1, h.2.2⟩⟩ <;> rfl
    · obtain ⟨V, st, c1, c2, c3, d1, d2, d3, d4, d5, d6, d7, bm, tr, ba, b9, hV, g8, hs8, g1, g2, g3, hs9⟩ := be_hind nw
      have hV6 : V < 64 := by omega
      have hla := la_9 hN hV hp (v := 0) (by omega) (w0 := t.2.1 2) (x0 := t.2.1 3) (y0 := t.2.1 4) g1 g2 g3 hs9
      have hp12 := p12_ hV6
      have hbs : ss_ st N V p (V + 1) < 9223372036854775808 := ss_lt hp (fun i hi => (hs8 i hi).2) hV6
      have hw : f_X8_weight (nI V) (nI V) (0 : Int32) = some (lN (12 ^ m_pc V)) := by
        have := wt_f (A := V) (V := V) (p := 0) hV6 hV6 (by omega)
        rw [wt_12 V hV6] at this
        exact this
      obtain ⟨t8, -⟩ := te_ hbs hp12.1 hp12.2 (s.2.1 0) (s.2.1 1)
      obtain ⟨-, t9⟩ := te_ hbs hp12.1 hp12.2 (t.2.1 0) (t.2.1 1)
      obtain ⟨X, hX⟩ : ∃ X, X = ss_ st N V p (V + 1) := ⟨_, rfl⟩
      obtain ⟨W, hW⟩ : ∃ W, W = 12 ^ m_pc V := ⟨_, rfl⟩
      have e8 := mi_8 hN hV hp hs8 (fun (x4_88 : Int64) => (f_X8_weight (nI V) (nI V) (0 : Int32)).bind (fun v7 => gg_b2 (f_X8_tell x4_88 v7 (s.2.1 0) (s.2.1 1)) (fun v8_0 v8_1 => (some ((1 : Int32), v8_0, v8_1, nI N, c1, c2, c3, d1, d2, d3, d4, d5, d6, d7))))) (V + 1) 0 F (by omega) (by omega)
      rw [if_neg (nI_n0 q0 (by omega)), g8, nx_b12]
      refine ⟨1, lN X / lN (Nat.gcd X W), lN W / lN (Nat.gcd X W), nI N, c1, c2, c3, d1, d2, d3, d4, d5, d6, d7, 1, lN X / lN (Nat.gcd X W), lN W / lN (Nat.gcd X W), bm, lN W, lN (os_ V p 0 (V + 1)), lN (ss_ st N V p (V + 1)), tr, ba, ?_, ?_, rfl, ⟨h.1, h.2.1, ⟨rfl, rfl⟩, h.2.2.2⟩⟩
      · refine Eq.trans e8 ?_
        rw [hw, Option.bind_some, t8, nx_b2, ← hX, ← hW]
      · have hla' : f_X9_layParts (0 : Int32) (nI p) (nI N) (t.1 7) (t.2.1 2) (t.2.1 3) (t.2.1 4) (t.2.2.1 6) (t.2.2.1 7) (t.2.2.1 8) (t.2.2.1 9) (t.2.2.1 12) = _ := hla
        rw [nd_9' q0 hN, Option.bind_some, if_pos (show (0 : Int32) ≤ 0 by decide), hla', nx_b6, t9, nx_b3, ← hX, ← hW]
