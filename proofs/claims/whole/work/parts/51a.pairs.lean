theorem pc_or : ∀ u, u < 64 → ∀ d, d < 6 → m_pc (u ||| 2 ^ d) = m_pc u + (if u.testBit d = true then 0 else 1) ∧ u ||| 2 ^ d < 64 := by decide +kernel
def us_ (s : Nat) : Nat → Nat → Nat → Nat
  | 0, _, u => u
  | w + 1, c, u => us_ s w (c / s) (u ||| 2 ^ (c % s))
def dst_ (s w c : Nat) : Prop := ∀ i j, i < j → j < w → rw_ s w c i ≠ rw_ s w c j
theorem us_sp {s : Nat} (hs : 0 < s) (h6 : s ≤ 6) : ∀ w c u, u < 64 → (m_pc (us_ s w c u) = m_pc u + w ↔ ((∀ k, k < w → u.testBit (rw_ s w c k) = false) ∧ dst_ s w c)) ∧ m_pc (us_ s w c u) ≤ m_pc u + w ∧ us_ s w c u < 64
  | 0, c, u, hu => ⟨⟨fun _ => ⟨fun k hk => by omega, fun i j h1 h2 => by omega⟩, fun _ => rfl⟩, Nat.le_refl _, hu⟩
  | w + 1, c, u, hu => by
    have hd : c % s < s := Nat.mod_lt _ hs
    obtain ⟨p1, p2⟩ := pc_or u hu (c % s) (by omega)
    obtain ⟨i1, i2, i3⟩ := us_sp hs h6 w (c / s) (u ||| 2 ^ (c % s)) p2
    have e : ∀ k, rw_ s (w + 1) c k = if k = w then c % s else rw_ s w (c / s) k := fun k => rfl
    rw [us_]
    refine ⟨?_, ?_, i3⟩
    · by_cases q : u.testBit (c % s) = true
      · rw [if_pos q] at p1
        constructor
        · intro h
          omega
        · intro h
          have := h.1 w (by omega)
          rw [e, if_pos rfl, q] at this
          exact absurd this (by decide)
      · rw [if_neg q] at p1
        have qf : u.testBit (c % s) = false := by simpa using q
        constructor
        · intro h
          obtain ⟨g1, g2⟩ := i1.1 (by omega)
          refine ⟨fun k hk => ?_, fun i j hij hj => ?_⟩
          · rw [e]
            by_cases y : k = w
            · rw [if_pos y]; exact qf
            · rw [if_neg y]
              have := g1 k (by omega)
              rw [nx_orB, Bool.or_eq_false_iff] at this
              exact this.1
          · rw [e, e, if_neg (show ¬ i = w by omega)]
            by_cases y : j = w
            · rw [if_pos y]
              have := g1 i (by omega)
              rw [nx_orB, Bool.or_eq_false_iff] at this
              exact fun z => (of_decide_eq_false this.2) z.symm
            · rw [if_neg y]
              exact g2 i j hij (by omega)
        · intro h
          have := i1.2 ⟨fun k hk => ?_, fun i j hij hj => ?_⟩
          · omega
          · rw [nx_orB, Bool.or_eq_false_iff]
            have a := h.1 k (by omega)
            rw [e, if_neg (by omega)] at a
            refine ⟨a, decide_eq_false ?_⟩
            have b := h.2 k w hk (by omega)
            rw [e, e, if_neg (by omega), if_pos rfl] at b
            exact fun z => b z.symm
          · have a := h.2 i j hij (by omega)
            rw [e, e, if_neg (by omega), if_neg (by omega)] at a
            exact a
    · have : (if u.testBit (c % s) = true then 0 else 1) ≤ 1 := by split <;> omega
      omega
def gn6 (s : Nat) : Nat → Nat → Nat → List Nat
  | 0, _, c => [c]
  | m + 1, u, c => (List.range s).flatMap (fun d => if u.testBit d = true then [] else gn6 s m (u ||| 2 ^ d) (c * s + d))
def cx_ (s : Nat) : Nat → Nat → (Nat → Nat) → Nat
  | 0, c, _ => c
  | m + 1, c, φ => cx_ s m (c * s + φ 0) (fun j => φ (j + 1))
theorem cd_fr (s : Nat) (φ : Nat → Nat) : ∀ m, cd_ s φ (m + 1) = φ 0 * s ^ m + cd_ s (fun j => φ (j + 1)) m
  | 0 => by
    show 0 * s + φ 0 = φ 0 * s ^ 0 + 0
    rw [Nat.pow_zero, Nat.zero_mul, Nat.mul_one, Nat.zero_add, Nat.add_zero]
  | m + 1 => by
    rw [cd_, cd_fr s φ m, cd_, Nat.add_mul, Nat.pow_succ, Nat.mul_assoc, Nat.add_assoc]
theorem cx_e (s : Nat) : ∀ (m c : Nat) (φ : Nat → Nat), cx_ s m c φ = c * s ^ m + cd_ s φ m
  | 0, c, φ => by
    show c = c * s ^ 0 + 0
    rw [Nat.pow_zero, Nat.mul_one, Nat.add_zero]
  | m + 1, c, φ => by
    rw [cx_, cx_e s m, cd_fr, Nat.add_mul, Nat.pow_succ, Nat.mul_comm (s ^ m) s, ← Nat.mul_assoc, Nat.add_assoc]
theorem gn_in (s : Nat) : ∀ (m u c : Nat) (φ : Nat → Nat), (∀ j, j < m → φ j < s ∧ u.testBit (φ j) = false) → (∀ i j, i < j → j < m → φ i ≠ φ j) → cx_ s m c φ ∈ gn6 s m u c
  | 0, u, c, φ, _, _ => by
    show c ∈ [c]
    exact List.mem_cons_self ..
  | m + 1, u, c, φ, h1, h2 => by
    rw [gn6, List.mem_flatMap]
    refine ⟨φ 0, List.mem_range.2 (h1 0 (by omega)).1, ?_⟩
    rw [if_neg (by rw [(h1 0 (by omega)).2]; decide), cx_]
    refine gn_in s m _ _ _ (fun j hj => ⟨(h1 (j + 1) (by omega)).1, ?_⟩) (fun i j hij hj => h2 (i + 1) (j + 1) (by omega) (by omega))
    rw [nx_orB, (h1 (j + 1) (by omega)).2, Bool.false_or]
    exact decide_eq_false (h2 0 (j + 1) (by omega) (by omega))
def tn_ (π : Nat → Nat) : Nat → Option Nat
  | 0 => none
  | m + 1 => if π m ≤ π (m + 1) then some m else tn_ π m
def ls_ (π : Nat → Nat) (t : Nat) : Nat → Nat
  | 0 => 0
  | x + 1 => if x + 1 ≤ t then x + 1 else if π t ≤ π (x + 1) then x + 1 else ls_ π t x
def sp_ (π : Nat → Nat) (a b : Nat) : Nat → Nat := gg_up (gg_up π a (π b)) b (π a)
def rv_ : Nat → Nat → Nat → (Nat → Nat) → Nat → Nat
  | 0, _, _, π => π
  | f + 1, lo, hi, π => if hi ≤ lo then π else rv_ f (lo + 1) (hi - 1) (sp_ π lo hi)
def np_ (s : Nat) (π : Nat → Nat) : Option (Nat → Nat) := match tn_ π (s - 1) with
  | none => none
  | some t => some (rv_ 6 (t + 1) (s - 1) (sp_ π t (ls_ π t (s - 1))))
def nxp (s d : Nat) : Option Nat := match np_ s (rw_ s s d) with
  | none => none
  | some π => some (cd_ s π s)
def chp (s : Nat) : List Nat → Bool
  | [] => true
  | d :: l => decide (nxp s d = l.head?) && chp s l
def inc_ : List Nat → Bool
  | [] => true
  | d :: l => (match l.head? with | none => true | some e => decide (d < e)) && inc_ l
def gdp (s d : Nat) : Bool := decide (m_pc (us_ s s d 0) = s)
def gp6 (s : Nat) : List Nat := gn6 s s 0 0
theorem gp_ch : ∀ s, s < 7 → 1 ≤ s → chp s (gp6 s) = true ∧ inc_ (gp6 s) = true ∧ (gp6 s).all (fun d => gdp s d && decide (d < s ^ s)) = true ∧ (gp6 s).length ≤ 720 ∧ (gp6 s).head? = some (cd_ s (fun k => k) s) := by decide +kernel
theorem inc_p : ∀ l : List Nat, inc_ l = true → l.Pairwise (· < ·)
  | [], _ => List.Pairwise.nil
  | d :: l, h => by
    rw [inc_, Bool.and_eq_true] at h
    have ih := inc_p l h.2
    refine List.pairwise_cons.2 ⟨fun x hx => ?_, ih⟩
    cases l with
    | nil => exact absurd hx (by simp)
    | cons e t =>
      have h1 : d < e := of_decide_eq_true (show decide (d < e) = true from h.1)
      rcases List.mem_cons.1 hx with y | y
      · omega
      · have := (List.pairwise_cons.1 ih).1 x y
        omega
theorem gp_mem {s d : Nat} (h1 : 1 ≤ s) (h6 : s ≤ 6) : d ∈ gp6 s ↔ (d < s ^ s ∧ gdp s d = true) := by
  constructor
  · intro h
    have := (gp_ch s (by omega) h1).2.2.1
    rw [List.all_eq_true] at this
    have := this d h
    rw [Bool.and_eq_true] at this
    exact ⟨of_decide_eq_true this.2, this.1⟩
  · intro h
    have hd : m_pc (us_ s s d 0) = s := of_decide_eq_true h.2
    have g := (us_sp (show 0 < s by omega) h6 s d 0 (by omega)).1.1 (by rw [hd]; show s = 0 + s; omega)
    have m := gn_in s s 0 0 (rw_ s s d) (fun j hj => ⟨rw_lt (by omega) s d j hj, g.1 j hj⟩) g.2
    rw [cx_e, Nat.zero_mul, Nat.zero_add, cd_rw (by omega) s d h.1] at m
    exact m
theorem gd_dst {s d : Nat} (h1 : 1 ≤ s) (h6 : s ≤ 6) : gdp s d = true ↔ dst_ s s d := by
  have g := (us_sp (show 0 < s by omega) h6 s d 0 (by omega)).1
  have z : m_pc 0 + s = s := by show 0 + s = s; omega
  rw [z] at g
  constructor
  · intro h
    exact (g.1 (of_decide_eq_true h)).2
  · intro h
    exact decide_eq_true (g.2 ⟨fun k _ => Nat.zero_testBit _, h⟩)
theorem pm_main {s : Nat} (h1 : 1 ≤ s) (h6 : s ≤ 6) {v : Nat → Nat} (hv : ∀ d, v d < 100000) {d0 : Nat} {rest : List Nat} (hr : gp6 s = d0 :: rest) : (al_ (fun d => -(v d : Int)) rest d0 (-(v d0 : Int))) = am_ (fun c => if gdp s c = true then -(v c : Int) else -1000000) (s ^ s) 0 0 (-1000000) := by
  have hpw : (gp6 s).Pairwise (· < ·) := inc_p _ (gp_ch s (by omega) h1).2.1
  have hmem : ∀ d, d ∈ gp6 s ↔ (d < s ^ s ∧ gdp s d = true) := fun d => gp_mem h1 h6
  rw [hr] at hpw hmem
  have hpw2 := List.pairwise_cons.1 hpw
  obtain ⟨a1, a2, a3⟩ := al_sp (fun d => -(v d : Int)) rest d0 (-(v d0 : Int)) hpw2.2
  obtain ⟨c1, c2, c3⟩ := am_sp (fun c => if gdp s c = true then -(v c : Int) else -1000000) (s ^ s) 0 0 (-1000000)
  obtain ⟨X, hX⟩ : ∃ X, X = al_ (fun d => -(v d : Int)) rest d0 (-(v d0 : Int)) := ⟨_, rfl⟩
  obtain ⟨Y, hY⟩ : ∃ Y, Y = am_ (fun c => if gdp s c = true then -(v c : Int) else -1000000) (s ^ s) 0 0 (-1000000) := ⟨_, rfl⟩
  rw [← hX] at a1 a2 a3
  rw [← hY] at c1 c2 c3
  rw [← hX, ← hY]
  obtain ⟨b, M⟩ := X
  obtain ⟨c, M'⟩ := Y
  have A : b ∈ (d0 :: rest) ∧ -(v b : Int) = M ∧ (∀ d, d ∈ (d0 :: rest) → -(v d : Int) ≤ M) ∧ ∀ d, d ∈ (d0 :: rest) → d < b → -(v d : Int) < M := by
    have hall : ∀ d, d ∈ (d0 :: rest) → -(v d : Int) ≤ M := by
      intro d hd
      rcases List.mem_cons.1 hd with z | z
      · subst z
        exact a1
      · exact a2 d z
    rcases a3 with ⟨z1, z2⟩ | ⟨z1, z2, z3, z4⟩
    · have z1 : b = d0 := z1
      have z2 : M = -(v d0 : Int) := z2
      refine ⟨by rw [z1]; exact List.mem_cons_self .., by rw [z1, z2], hall, fun d hd hl => ?_⟩
      rcases List.mem_cons.1 hd with y | y
      · omega
      · have := hpw2.1 d y
        omega
    · refine ⟨List.mem_cons_of_mem _ z1, z2, hall, fun d hd hl => ?_⟩
      rcases List.mem_cons.1 hd with y | y
      · subst y
        exact z3
      · exact z4 d y hl
  obtain ⟨A1, A2, A3, A4⟩ := A
  have hg : ∀ d, d ∈ (d0 :: rest) → (if gdp s d = true then -(v d : Int) else -1000000) = -(v d : Int) := fun d hd => if_pos ((hmem d).1 hd).2
  have ub : -(v b : Int) ≤ M' := by
    have := c2 b (Nat.zero_le _) (by rw [Nat.zero_add]; exact ((hmem b).1 A1).1)
    rw [hg b A1] at this
    exact this
  have hvb := hv b
  rcases c3 with ⟨z1, z2⟩ | ⟨z1, z2, z3, z4, z5⟩
  · exfalso
    have z2 : M' = -1000000 := z2
    omega
  have z2 : c < 0 + s ^ s := z2
  rw [Nat.zero_add] at z2
  have z3 : (if gdp s c = true then -(v c : Int) else -1000000) = M' := z3
  have z4 : (-1000000 : Int) < M' := z4
  have z5 : ∀ x, 0 ≤ x → x < c → (if gdp s x = true then -(v x : Int) else -1000000) < M' := z5
  have hgc : gdp s c = true := by
    apply Decidable.byContradiction
    intro q
    rw [if_neg q] at z3
    omega
  have hcm : c ∈ (d0 :: rest) := (hmem c).2 ⟨z2, hgc⟩
  rw [if_pos hgc] at z3
  have e1 : M' ≤ M := by rw [← z3]; exact A3 c hcm
  have eM : M = M' := by omega
  have ec : b = c := by
    rcases Nat.lt_trichotomy b c with q | q | q
    · have := z5 b (Nat.zero_le _) q
      rw [hg b A1] at this
      omega
    · exact q
    · have := A4 c hcm q
      omega
  rw [eM, ec]
