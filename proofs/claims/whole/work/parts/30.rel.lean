def rl_fr (s t : ll_S) : Prop := ∃ (N : Nat) (kd wd : Nat → Nat) (f0 : FS_) (cs : Nat → Nat) (D : Nat), fr_all N kd wd f0 cs D s t
def rl_fd (s t : ll_S) : Prop := s.1 0 = t.1 0 ∧ ∀ j, j < 6 → s.2.2.1 32 j = t.2.2.1 0 j
def rl_sz (many most : Nat) (f g : Nat → Int32) : Prop := ∀ r, r < many → f r = g r ∧ (f r = -1 ∨ ∃ n, n ≤ most ∧ f r = nI n)
def rl_ce (many most : Nat) (z : Nat → Int32) (f : Nat → Nat → Int32) (g : Nat → Int32) : Prop := ∀ r i, r < many → i < most → nI i < z r → f r i = g (most * r + i)
def rl_rw (s t : ll_S) : Prop := s.1 2 = nI 40 ∧ rl_sz 6 40 (s.2.2.1 0) (t.2.2.1 1) ∧ rl_ce 6 40 (s.2.2.1 0) (s.2.2.2 0) (t.2.2.1 2)
def rl_tx (s t : ll_S) : Prop := s.1 3 = nI 60 ∧ rl_sz 4 60 (s.2.2.1 1) (t.2.2.1 4) ∧ rl_ce 4 60 (s.2.2.1 1) (s.2.2.2 1) (t.2.2.1 5)
def Rl_ (s t : ll_S) : Prop := rl_fd s t ∧ s.1 1 = t.1 1 ∧ (s.2.1 0 = t.2.1 0 ∧ s.2.1 1 = t.2.1 1) ∧ rl_rw s t ∧ rl_tx s t ∧ rl_fr s t
theorem pu_in {r n : Nat} (h : r < n) (hr : r < 2 ^ 31) : gg_in (nI r) n = true := by
  unfold gg_in
  rw [nI_clamp hr]
  simp only [Bool.and_eq_true, decide_eq_true_eq]
  exact ⟨nI_pos' hr, h⟩
theorem pu_kn6 {r : Nat} (h : r < 6) : f_X6_knows_s6 (nI r) = some 1 := by
  rcases (show r = 0 ∨ r = 1 ∨ r = 2 ∨ r = 3 ∨ r = 4 ∨ r = 5 by omega) with rfl | rfl | rfl | rfl | rfl | rfl <;> rfl
theorem pu_kn6o {a : Int32} (h : a < 0 ∨ nI 6 ≤ a) : f_X6_knows_s6 a = some 0 := by
  unfold f_X6_knows_s6
  simp only [gg_lt]
  rcases h with h | h
  · rw [if_pos h]; rfl
  · by_cases h0 : a < 0
    · rw [if_pos h0]; rfl
    · rw [if_neg h0, if_pos (show (6 : Int32) ≤ a from h)]; rfl
theorem pu_isRow {r : Nat} (h : r < 6) : f_X9_isRow (nI r) = some 1 := by
  rcases (show r = 0 ∨ r = 1 ∨ r = 2 ∨ r = 3 ∨ r = 4 ∨ r = 5 by omega) with rfl | rfl | rfl | rfl | rfl | rfl <;> rfl
theorem pu_mi (x y : Int32) : f_X9_in x y y = some (if x = y then 1 else 0) ∨ True := Or.inr trivial
theorem pu_inO {a l h : Int32} (q : a < l ∨ h < a) : f_X9_in a l h = some 0 := by
  unfold f_X9_in
  simp only [gg_lt]
  by_cases h0 : a < l
  · rw [if_pos h0]; rfl
  · rw [if_neg h0, if_pos (q.resolve_left h0)]; rfl
theorem pu_inI {a l h : Int32} (h0 : ¬ a < l) (h1 : ¬ h < a) : f_X9_in a l h = some 1 := by
  unfold f_X9_in
  simp only [gg_lt]
  rw [if_neg h0, if_neg h1]
  rfl
theorem pu_wiO {a l h : Int32} (q : a < l ∨ h < a) : f_X8_within a l h = some 0 := pu_inO q
theorem pu_wiI {a l h : Int32} (h0 : ¬ a < l) (h1 : ¬ h < a) : f_X8_within a l h = some 1 := pu_inI h0 h1
theorem pu_isRowO {a : Int32} (h : a < 0 ∨ nI 6 ≤ a) : f_X9_isRow a = some 0 := by
  unfold f_X9_isRow
  rw [pu_inO (by
    rcases h with h | h
    · exact Or.inl h
    · right
      rw [Int32.le_iff_toInt_le] at h
      rw [Int32.lt_iff_toInt_lt]
      have h1 : (nI 6).toInt = 6 := nI_toInt (by omega)
      have h2 : (5 : Int32).toInt = 5 := by decide
      omega)]
  rfl
theorem pu_ix (x : Int32) (n : Nat) (hn : n < 2 ^ 31) : (x < 0 ∨ nI n ≤ x) ∨ ∃ j : Nat, j < n ∧ x = nI j := by
  rcases pk_ix x hn with h | h | h
  · exact Or.inl (Or.inl h)
  · exact Or.inl (Or.inr h)
  · exact Or.inr h
theorem sm_asked : sim_asked Rl_ := by
  intro s t h
  exact ⟨_, _, rfl, rfl, h.2.1, h⟩
theorem sm_upper : sim_upper Rl_ := by
  intro s t h
  exact ⟨_, _, rfl, rfl, h.2.2.1.1, h⟩
theorem sm_lower : sim_lower Rl_ := by
  intro s t h
  exact ⟨_, _, rfl, rfl, h.2.2.1.2, h⟩
theorem sm_finding : sim_finding Rl_ := by
  intro s t h
  exact ⟨_, _, rfl, rfl, h.1.1, h⟩
theorem sm_findings : sim_findings Rl_ := by
  intro s t h a0
  by_cases q : a0 < 1 ∨ 5 < a0
  · refine ⟨-1, -1, ?_, ?_, rfl, h⟩
    · unfold f_X8_findings
      rw [pu_wiO q]
      rfl
    · unfold f_X9_findings
      rw [pu_inO q]
      rfl
  · have h1 : ¬ a0 < 1 := fun z => q (Or.inl z)
    have h2 : ¬ 5 < a0 := fun z => q (Or.inr z)
    rcases pu_ix a0 6 (by omega) with z | ⟨j, hj, rfl⟩
    · exfalso
      have e1 : (1 : Int32).toInt = 1 := by decide
      have e5 : (5 : Int32).toInt = 5 := by decide
      have e0 : (0 : Int32).toInt = 0 := by decide
      have e6 : (nI 6).toInt = 6 := nI_toInt (by omega)
      rw [Int32.lt_iff_toInt_lt] at h1 h2 z
      rw [Int32.le_iff_toInt_le] at z
      omega
    · refine ⟨s.2.2.1 32 j, t.2.2.1 0 j, ?_, ?_, h.1.2 j hj, h⟩
      · unfold f_X8_findings
        rw [pu_wiI h1 h2, pu_in hj (by omega), nI_clamp (by omega)]
        rfl
      · unfold f_X9_findings
        rw [pu_inI h1 h2, pu_in hj (by omega), nI_clamp (by omega)]
        rfl
theorem rl_start : Rl_ ll_s0 ll_t0 := by
  refine ⟨⟨rfl, fun j hj => rfl⟩, rfl, ⟨rfl, rfl⟩, ⟨rfl, ?_, ?_⟩, ⟨rfl, ?_, ?_⟩, ?_⟩
  · intro r hr
    rcases (show r = 0 ∨ r = 1 ∨ r = 2 ∨ r = 3 ∨ r = 4 ∨ r = 5 by omega) with rfl | rfl | rfl | rfl | rfl | rfl <;> exact ⟨rfl, Or.inl rfl⟩
  · intro r i hr hi hz
    rfl
  · intro r hr
    rcases (show r = 0 ∨ r = 1 ∨ r = 2 ∨ r = 3 by omega) with rfl | rfl | rfl | rfl <;> exact ⟨rfl, Or.inl rfl⟩
  · intro r i hr hi hz
    rfl
  · refine ⟨0, fun _ => 0, fun _ => 0, (0, 0, fun _ => 0, fun _ => 0, fun _ => 0, fun _ => 0), fun _ => 0, 0, by omega, ⟨by decide, fun i hi => by omega, fun i j hi => by omega⟩, rfl, fun _ => rfl, rfl, rfl, rfl, ⟨fun i hi => by omega, fun j hj => ⟨(by show 0 < 10; omega), rfl⟩⟩, ⟨fun i hi => by omega, fun j hj => ⟨(by show 0 < 10; omega), rfl⟩⟩, ⟨fun i hi => by omega, fun j hj => ⟨(by show 0 < 10; omega), rfl⟩⟩, ⟨rfl, rfl, fun i hi => by omega⟩, ⟨rfl, rfl, fun i hi => by omega⟩, ⟨rfl, rfl, fun i hi => by omega⟩, rfl, rfl, ⟨by omega, fun d hd => by omega, fun d hd => by omega⟩, fun q hq => Or.inl ⟨rfl, rfl⟩⟩
