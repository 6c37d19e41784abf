def cd_ (b : Nat) (φ : Nat → Nat) : Nat → Nat
  | 0 => 0
  | k + 1 => cd_ b φ k * b + φ k
def rw_ (b : Nat) : Nat → Nat → Nat → Nat
  | 0, _ => fun _ => 0
  | k + 1, c => gg_up (rw_ b k (c / b)) k (c % b)
theorem cd_c {b : Nat} {φ ψ : Nat → Nat} : ∀ k, (∀ j, j < k → φ j = ψ j) → cd_ b φ k = cd_ b ψ k
  | 0, _ => rfl
  | k + 1, h => by rw [cd_, cd_, cd_c k (fun j hj => h j (by omega)), h k (by omega)]
theorem cd_lt {b : Nat} {φ : Nat → Nat} : ∀ k, (∀ j, j < k → φ j < b) → cd_ b φ k < b ^ k
  | 0, _ => by rw [Nat.pow_zero]; exact Nat.zero_lt_one
  | k + 1, h => by
    have h1 := cd_lt k (fun j hj => h j (by omega))
    have h2 := h k (by omega)
    have h3 : (cd_ b φ k + 1) * b ≤ b ^ k * b := Nat.mul_le_mul_right b h1
    rw [Nat.add_mul, Nat.one_mul] at h3
    rw [cd_, Nat.pow_succ]
    omega
theorem cd_rw {b : Nat} (hb : 0 < b) : ∀ k c, c < b ^ k → cd_ b (rw_ b k c) k = c
  | 0, c, h => by
    rw [Nat.pow_zero] at h
    show 0 = c
    omega
  | k + 1, c, h => by
    have h1 : c / b < b ^ k := by
      rw [Nat.pow_succ] at h
      exact Nat.div_lt_of_lt_mul (by rw [Nat.mul_comm]; exact h)
    have h2 := cd_rw hb k (c / b) h1
    have h3 : cd_ b (rw_ b (k + 1) c) k = cd_ b (rw_ b k (c / b)) k := cd_c k (fun j hj => by
      show gg_up (rw_ b k (c / b)) k (c % b) j = _
      rw [nx_upn, if_neg (by omega)])
    have h4 : rw_ b (k + 1) c k = c % b := by
      show gg_up (rw_ b k (c / b)) k (c % b) k = _
      rw [nx_upn, if_pos rfl]
    rw [cd_, h3, h2, h4, Nat.mul_comm]
    exact Nat.div_add_mod c b
theorem rw_cd {b : Nat} {φ : Nat → Nat} (hb : 0 < b) : ∀ k, (∀ j, j < k → φ j < b) → ∀ j, j < k → rw_ b k (cd_ b φ k) j = φ j
  | 0, _, j, hj => by omega
  | k + 1, h, j, hj => by
    have hk := h k (by omega)
    have e1 : cd_ b φ (k + 1) / b = cd_ b φ k := by
      rw [cd_, Nat.mul_comm, Nat.mul_add_div hb, Nat.div_eq_of_lt hk, Nat.add_zero]
    have e2 : cd_ b φ (k + 1) % b = φ k := by
      rw [cd_, Nat.mul_comm, Nat.mul_add_mod, Nat.mod_eq_of_lt hk]
    show gg_up (rw_ b k (cd_ b φ (k + 1) / b)) k (cd_ b φ (k + 1) % b) j = φ j
    rw [e1, e2, nx_upn]
    by_cases q : j = k
    · rw [if_pos q, q]
    · rw [if_neg q]
      exact rw_cd hb k (fun i hi => h i (by omega)) j (by omega)
theorem rw_lt {b : Nat} (hb : 0 < b) : ∀ k c j, j < k → rw_ b k c j < b
  | 0, c, j, hj => by omega
  | k + 1, c, j, hj => by
    show gg_up (rw_ b k (c / b)) k (c % b) j < b
    rw [nx_upn]
    split
    · exact Nat.mod_lt _ hb
    · exact rw_lt hb k (c / b) j (by omega)
theorem cd_in {b : Nat} {φ ψ : Nat → Nat} (hb : 0 < b) {k : Nat} (h1 : ∀ j, j < k → φ j < b) (h2 : ∀ j, j < k → ψ j < b) (e : cd_ b φ k = cd_ b ψ k) : ∀ j, j < k → φ j = ψ j := fun j hj => by rw [← rw_cd hb k h1 j hj, e, rw_cd hb k h2 j hj]
theorem lx_1 {b : Nat} {φ ψ : Nat → Nat} (hb : 0 < b) : ∀ L, (∀ j, j < L → φ j < b) → (∀ j, j < L → ψ j < b) → cd_ b φ L < cd_ b ψ L → ∃ k, k < L ∧ (∀ j, j < k → φ j = ψ j) ∧ φ k < ψ k
  | 0, _, _, h => absurd h (Nat.lt_irrefl _)
  | L + 1, h1, h2, h => by
    rcases Nat.lt_trichotomy (cd_ b φ L) (cd_ b ψ L) with q | q | q
    · obtain ⟨k, a, c, d⟩ := lx_1 hb L (fun j hj => h1 j (by omega)) (fun j hj => h2 j (by omega)) q
      exact ⟨k, by omega, c, d⟩
    · refine ⟨L, by omega, cd_in hb (fun j hj => h1 j (by omega)) (fun j hj => h2 j (by omega)) q, ?_⟩
      rw [cd_, cd_, q] at h
      omega
    · exfalso
      have h3 : (cd_ b ψ L + 1) * b ≤ cd_ b φ L * b := Nat.mul_le_mul_right b q
      rw [Nat.add_mul, Nat.one_mul] at h3
      have h4 := h2 L (by omega)
      rw [cd_, cd_] at h
      omega
theorem lx_up {b : Nat} {φ ψ : Nat → Nat} {k : Nat} (h : cd_ b φ k < cd_ b ψ k) : ∀ m, (∀ j, j < k + m → φ j < b) → cd_ b φ (k + m) < cd_ b ψ (k + m)
  | 0, _ => h
  | m + 1, h1 => by
    have ih := lx_up h m (fun j hj => h1 j (by omega))
    have h3 : (cd_ b φ (k + m) + 1) * b ≤ cd_ b ψ (k + m) * b := Nat.mul_le_mul_right b ih
    rw [Nat.add_mul, Nat.one_mul] at h3
    have h4 := h1 (k + m) (by omega)
    rw [show k + (m + 1) = k + m + 1 by omega, cd_, cd_]
    omega
theorem lx_2 {b : Nat} {φ ψ : Nat → Nat} {L k : Nat} (hk : k < L) (h1 : ∀ j, j < L → φ j < b) (he : ∀ j, j < k → φ j = ψ j) (hl : φ k < ψ k) : cd_ b φ L < cd_ b ψ L := by
  have : cd_ b φ (k + 1) < cd_ b ψ (k + 1) := by
    rw [cd_, cd_, cd_c k he]
    omega
  have r := lx_up this (L - (k + 1)) (fun j hj => h1 j (by omega))
  rw [show k + 1 + (L - (k + 1)) = L by omega] at r
  exact r
def vs_ (s f : Nat) (φ : Nat → Nat) (i : Nat) : Nat → Int
  | 0 => s
  | k + 1 => vs_ s f φ i k - ((if φ k = i then f else f / 2 : Nat) : Int)
theorem vs_c {s f i : Nat} {φ ψ : Nat → Nat} : ∀ k, (∀ j, j < k → (φ j = i ↔ ψ j = i)) → vs_ s f φ i k = vs_ s f ψ i k
  | 0, _ => rfl
  | k + 1, h => by
    have h1 := h k (by omega)
    rw [vs_, vs_, vs_c k (fun j hj => h j (by omega))]
    by_cases q : φ k = i
    · rw [if_pos q, if_pos (h1.1 q)]
    · rw [if_neg q, if_neg (fun z => q (h1.2 z))]
theorem vs_up {s f i : Nat} {φ ψ : Nat → Nat} {k : Nat} (h : vs_ s f φ i k = vs_ s f ψ i k) : ∀ m, (∀ j, k ≤ j → j < k + m → φ j = ψ j) → vs_ s f φ i (k + m) = vs_ s f ψ i (k + m)
  | 0, _ => h
  | m + 1, h1 => by
    rw [show k + (m + 1) = k + m + 1 by omega, vs_, vs_, vs_up h m (fun j a b => h1 j a (by omega)), h1 (k + m) (by omega) (by omega)]
def sw_ (φ : Nat → Nat) (k : Nat) : Nat → Nat := fun j => if j = k then φ (k + 1) else if j = k + 1 then φ k else φ j
theorem vs_sw {s f i : Nat} {φ : Nat → Nat} {k L : Nat} (hk : k + 1 < L) : vs_ s f (sw_ φ k) i L = vs_ s f φ i L := by
  have e0 : vs_ s f (sw_ φ k) i k = vs_ s f φ i k := vs_c k (fun j hj => by unfold sw_; rw [if_neg (by omega), if_neg (by omega)])
  have e2 : vs_ s f (sw_ φ k) i (k + 2) = vs_ s f φ i (k + 2) := by
    have a1 : sw_ φ k k = φ (k + 1) := by unfold sw_; rw [if_pos rfl]
    have a2 : sw_ φ k (k + 1) = φ k := by unfold sw_; rw [if_neg (by omega), if_pos rfl]
    rw [vs_, vs_, vs_, vs_, e0, a1, a2]
    omega
  have r := vs_up e2 (L - (k + 2)) (fun j h1 h2 => by unfold sw_; rw [if_neg (by omega), if_neg (by omega)])
  rw [show k + 2 + (L - (k + 2)) = L by omega] at r
  exact r
theorem vs_bd {s f i : Nat} {φ : Nat → Nat} (hs : s ≤ 9) (hf : f ≤ 11) : ∀ (k : Nat), -(11 * (k : Int)) ≤ vs_ s f φ i k ∧ vs_ s f φ i k ≤ 9
  | 0 => by
    show -(11 * ((0 : Nat) : Int)) ≤ (s : Int) ∧ (s : Int) ≤ 9
    omega
  | k + 1 => by
    have ih := vs_bd (i := i) (φ := φ) hs hf k
    rw [vs_]
    split <;> omega
def mn_ (v : Nat → Int) (T : Nat → Bool) : Nat → Int
  | 0 => 1000000
  | n + 1 => if T n = true ∧ v n < mn_ v T n then v n else mn_ v T n
theorem mn_sp (v : Nat → Int) (T : Nat → Bool) : ∀ n, (∀ i, i < n → T i = true → mn_ v T n ≤ v i) ∧ (mn_ v T n = 1000000 ∨ ∃ i, i < n ∧ T i = true ∧ mn_ v T n = v i)
  | 0 => ⟨fun i hi => by omega, Or.inl rfl⟩
  | n + 1 => by
    obtain ⟨h1, h2⟩ := mn_sp v T n
    rw [mn_]
    by_cases q : T n = true ∧ v n < mn_ v T n
    · rw [if_pos q]
      refine ⟨fun i hi ht => ?_, Or.inr ⟨n, by omega, q.1, rfl⟩⟩
      by_cases z : i = n
      · subst z
        exact Int.le_refl _
      · have := h1 i (by omega) ht
        omega
    · rw [if_neg q]
      refine ⟨fun i hi ht => ?_, ?_⟩
      · by_cases z : i = n
        · subst z
          have : ¬ v i < mn_ v T i := fun w => q ⟨ht, w⟩
          omega
        · exact h1 i (by omega) ht
      · rcases h2 with z | ⟨i, a, b, c⟩
        · exact Or.inl z
        · exact Or.inr ⟨i, by omega, b, c⟩
theorem mn_un {v : Nat → Int} {T : Nat → Bool} {n : Nat} {m : Int} (h1 : ∀ i, i < n → T i = true → m ≤ v i) (h2 : ∃ i, i < n ∧ T i = true ∧ m = v i) (hb : ∀ i, i < n → T i = true → v i ≤ 100) : mn_ v T n = m := by
  obtain ⟨a, b⟩ := mn_sp v T n
  obtain ⟨i, hi, ht, e⟩ := h2
  have c := a i hi ht
  have d := hb i hi ht
  rcases b with z | ⟨j, hj, jt, je⟩
  · omega
  · have := h1 j hj jt
    omega
theorem mn_c {v w : Nat → Int} {T : Nat → Bool} : ∀ n, (∀ i, i < n → T i = true → v i = w i) → mn_ v T n = mn_ w T n
  | 0, _ => rfl
  | n + 1, h => by
    rw [mn_, mn_, mn_c n (fun i hi => h i (by omega))]
    by_cases q : T n = true
    · rw [h n (by omega) q]
    · rw [if_neg (fun z => q z.1), if_neg (fun z => q z.1)]
theorem mn_bd {v : Nat → Int} {T : Nat → Bool} {n : Nat} (hb : ∀ i, i < n → T i = true → -100 ≤ v i ∧ v i ≤ 100) : -100 ≤ mn_ v T n ∧ mn_ v T n ≤ 1000000 := by
  have : ∀ m, m ≤ n → mn_ v T m ≤ 1000000 := by
    intro m
    induction m with
    | zero => intro _; exact Int.le_refl _
    | succ m ih =>
      intro hm
      have := ih (by omega)
      rw [mn_]
      split <;> omega
  refine ⟨?_, this n (Nat.le_refl n)⟩
  rcases (mn_sp v T n).2 with z | ⟨i, hi, ht, e⟩
  · omega
  · have := hb i hi ht
    omega
def ww_ (T : Nat → Bool) : Nat → Nat → Nat
  | 0 => fun _ => 0
  | n + 1 => if T n = true then gg_up (ww_ T n) (m_ct T n) n else ww_ T n
theorem ww_sp (T : Nat → Bool) : ∀ n, (∀ j, j < m_ct T n → ww_ T n j < n ∧ T (ww_ T n j) = true) ∧ (∀ i j, i < j → j < m_ct T n → ww_ T n i < ww_ T n j) ∧ ∀ i, i < n → T i = true → ∃ j, j < m_ct T n ∧ ww_ T n j = i
  | 0 => ⟨fun j hj => absurd hj (by simp [m_ct]), fun i j h1 h2 => absurd h2 (by simp [m_ct]), fun i hi => by omega⟩
  | n + 1 => by
    obtain ⟨h1, h2, h3⟩ := ww_sp T n
    rw [m_ct_s]
    by_cases q : T n = true
    · have e : ww_ T (n + 1) = gg_up (ww_ T n) (m_ct T n) n := by rw [ww_, if_pos q]
      rw [if_pos q, e]
      refine ⟨fun j hj => ?_, fun i j hij hj => ?_, fun i hi ht => ?_⟩
      · rw [nx_upn]
        by_cases z : j = m_ct T n
        · rw [if_pos z]
          exact ⟨by omega, q⟩
        · rw [if_neg z]
          have := h1 j (by omega)
          exact ⟨by omega, this.2⟩
      · rw [nx_upn, nx_upn, if_neg (show ¬ i = m_ct T n by omega)]
        by_cases z : j = m_ct T n
        · rw [if_pos z]
          exact (h1 i (by omega)).1
        · rw [if_neg z]
          exact h2 i j hij (by omega)
      · by_cases z : i = n
        · exact ⟨m_ct T n, by omega, by rw [nx_upn, if_pos rfl, z]⟩
        · obtain ⟨j, a, b⟩ := h3 i (by omega) ht
          exact ⟨j, by omega, by rw [nx_upn, if_neg (by omega)]; exact b⟩
    · have e : ww_ T (n + 1) = ww_ T n := by rw [ww_, if_neg q]
      rw [if_neg q, e]
      refine ⟨fun j hj => ⟨by have := (h1 j hj).1; omega, (h1 j hj).2⟩, h2, fun i hi ht => ?_⟩
      by_cases z : i = n
      · subst z
        exact absurd ht q
      · exact h3 i (by omega) ht
theorem ww_in {T : Nat → Bool} {n a b : Nat} (ha : a < m_ct T n) (hb : b < m_ct T n) : (ww_ T n a = ww_ T n b ↔ a = b) ∧ (ww_ T n a < ww_ T n b ↔ a < b) := by
  obtain ⟨-, h2, -⟩ := ww_sp T n
  rcases Nat.lt_trichotomy a b with q | q | q
  · have := h2 a b q hb
    omega
  · subst q
    omega
  · have := h2 b a q ha
    omega
def am_ (V : Nat → Int) : Nat → Nat → Nat → Int → Nat × Int
  | 0, _, b, M => (b, M)
  | m + 1, c, b, M => if V c ≤ M then am_ V m (c + 1) b M else am_ V m (c + 1) c (V c)
theorem am_sp (V : Nat → Int) : ∀ (m c b : Nat) (M : Int), M ≤ (am_ V m c b M).2 ∧ (∀ x, c ≤ x → x < c + m → V x ≤ (am_ V m c b M).2) ∧ (((am_ V m c b M).1 = b ∧ (am_ V m c b M).2 = M) ∨ (c ≤ (am_ V m c b M).1 ∧ (am_ V m c b M).1 < c + m ∧ V (am_ V m c b M).1 = (am_ V m c b M).2 ∧ M < (am_ V m c b M).2 ∧ ∀ x, c ≤ x → x < (am_ V m c b M).1 → V x < (am_ V m c b M).2))
  | 0, c, b, M => ⟨Int.le_refl _, fun x h1 h2 => by omega, Or.inl ⟨rfl, rfl⟩⟩
  | m + 1, c, b, M => by
    rw [am_]
    by_cases q : V c ≤ M
    · rw [if_pos q]
      obtain ⟨h1, h2, h3⟩ := am_sp V m (c + 1) b M
      refine ⟨h1, fun x a d => ?_, ?_⟩
      · by_cases z : x = c
        · subst z
          omega
        · exact h2 x (by omega) (by omega)
      · rcases h3 with z | ⟨z1, z2, z3, z4, z5⟩
        · exact Or.inl z
        · refine Or.inr ⟨by omega, by omega, z3, z4, fun x a d => ?_⟩
          by_cases y : x = c
          · subst y
            omega
          · exact z5 x (by omega) d
    · rw [if_neg q]
      obtain ⟨h1, h2, h3⟩ := am_sp V m (c + 1) c (V c)
      refine ⟨by omega, fun x a d => ?_, ?_⟩
      · by_cases z : x = c
        · subst z
          exact h1
        · exact h2 x (by omega) (by omega)
      · rcases h3 with ⟨z1, z2⟩ | ⟨z1, z2, z3, z4, z5⟩
        · refine Or.inr ⟨by omega, by omega, by rw [z1, z2], by omega, fun x a d => by omega⟩
        · refine Or.inr ⟨by omega, by omega, z3, by omega, fun x a d => ?_⟩
          by_cases y : x = c
          · subst y
            exact z4
          · exact z5 x (by omega) d
def al_ (V : Nat → Int) : List Nat → Nat → Int → Nat × Int
  | [], b, M => (b, M)
  | c :: l, b, M => if V c ≤ M then al_ V l b M else al_ V l c (V c)
theorem al_sp (V : Nat → Int) : ∀ (l : List Nat) (b : Nat) (M : Int), l.Pairwise (· < ·) → M ≤ (al_ V l b M).2 ∧ (∀ x, x ∈ l → V x ≤ (al_ V l b M).2) ∧ (((al_ V l b M).1 = b ∧ (al_ V l b M).2 = M) ∨ ((al_ V l b M).1 ∈ l ∧ V (al_ V l b M).1 = (al_ V l b M).2 ∧ M < (al_ V l b M).2 ∧ ∀ x, x ∈ l → x < (al_ V l b M).1 → V x < (al_ V l b M).2))
  | [], b, M, _ => ⟨Int.le_refl _, fun x h => absurd h (by simp), Or.inl ⟨rfl, rfl⟩⟩
  | c :: l, b, M, hp => by
    have hp2 := List.pairwise_cons.1 hp
    rw [al_]
    by_cases q : V c ≤ M
    · rw [if_pos q]
      obtain ⟨h1, h2, h3⟩ := al_sp V l b M hp2.2
      refine ⟨h1, fun x hx => ?_, ?_⟩
      · rcases List.mem_cons.1 hx with z | z
        · subst z
          omega
        · exact h2 x z
      · rcases h3 with z | ⟨z1, z2, z3, z4⟩
        · exact Or.inl z
        · refine Or.inr ⟨List.mem_cons_of_mem _ z1, z2, z3, fun x hx hl => ?_⟩
          rcases List.mem_cons.1 hx with y | y
          · subst y
            omega
          · exact z4 x y hl
    · rw [if_neg q]
      obtain ⟨h1, h2, h3⟩ := al_sp V l c (V c) hp2.2
      refine ⟨by omega, fun x hx => ?_, ?_⟩
      · rcases List.mem_cons.1 hx with z | z
        · subst z
          exact h1
        · exact h2 x z
      · rcases h3 with ⟨z1, z2⟩ | ⟨z1, z2, z3, z4⟩
        · refine Or.inr ⟨by rw [z1]; exact List.mem_cons_self .., by rw [z1, z2], by omega, fun x hx hl => ?_⟩
          rw [z1] at hl
          rcases List.mem_cons.1 hx with y | y
          · omega
          · have := hp2.1 x y
            omega
        · refine Or.inr ⟨List.mem_cons_of_mem _ z1, z2, by omega, fun x hx hl => ?_⟩
          rcases List.mem_cons.1 hx with y | y
          · subst y
            exact z3
          · exact z4 x y hl
def rs_ (z L d : Nat) : Bool := m_all (fun k => decide (rw_ 6 L d k < z)) L 0 && m_all (fun k => decide (rw_ 6 L d k ≤ rw_ 6 L d (k + 1))) (L - 1) 0
def gl_ (z : Nat) (φ : Nat → Nat) : Nat → Option Nat
  | 0 => none
  | m + 1 => if z - 1 ≤ φ m then gl_ z φ m else some m
def gn_ (φ : Nat → Nat) (l : Nat) : Nat → Nat := fun k => if l ≤ k then φ l + 1 else φ k
def nx_nx (z L d : Nat) : Option Nat := match gl_ z (rw_ 6 L d) L with
  | none => none
  | some l => some (cd_ 6 (gn_ (rw_ 6 L d) l) L)
def ch_ (z L : Nat) : List Nat → Bool
  | [] => true
  | d :: l => decide (nx_nx z L d = l.head?) && ch_ z L l
def rl_ (z L : Nat) : List Nat := (List.range (6 ^ L)).filter (rs_ z L)
theorem rl_ch : ∀ z, z < 7 → 1 ≤ z → ∀ L, L < 5 → ch_ z L (rl_ z L) = true ∧ (rl_ z L).length ≤ 126 ∧ (rl_ z L).head? = some 0 := by decide +kernel
