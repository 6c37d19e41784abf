theorem i_nlt {a b : Int32} (h : ¬ a < b) : b ≤ a := by
  rw [Int32.le_iff_toInt_le]
  rw [Int32.lt_iff_toInt_lt] at h
  omega
theorem i_nle {a b : Int32} (h : ¬ a ≤ b) : b < a := by
  rw [Int32.lt_iff_toInt_lt]
  rw [Int32.le_iff_toInt_le] at h
  omega
theorem i_le_n {a b : Int32} (h : a ≤ b) : ¬ b < a := by
  rw [Int32.lt_iff_toInt_lt]
  rw [Int32.le_iff_toInt_le] at h
  omega
theorem wi_8 (x h : Int32) : f_X8_within x 0 h = some (if decide (0 ≤ x ∧ x ≤ h) = true then 1 else 0) := by
  by_cases q : 0 ≤ x ∧ x ≤ h
  · rw [pu_wiI (i_le_n q.1) (i_le_n q.2), if_pos (decide_eq_true q)]
  · rw [pu_wiO (by
      by_cases q1 : x < 0
      · exact Or.inl q1
      · right
        exact i_nle (fun z => q ⟨i_nlt q1, z⟩)), if_neg (by simpa using q)]
theorem wi_9 (x h : Int32) : f_X9_in x 0 h = some (if decide (0 ≤ x ∧ x ≤ h) = true then 1 else 0) := wi_8 x h
theorem md_2 {j : Nat} (h : j < 1073741824) : nI j - nI j / 2 * 2 = nI (j % 2) := by
  rw [nx_l2, nx_div (by omega) (by omega) (by omega), pk_mul, nx_sub (by omega)]
  congr 1
  omega
def m_all (P : Nat → Bool) : Nat → Nat → Bool
  | 0, _ => true
  | m + 1, j => P j && m_all P m (j + 1)
theorem m_all_c {P Q : Nat → Bool} : ∀ (m j : Nat), (∀ x, j ≤ x → x < j + m → P x = Q x) → m_all P m j = m_all Q m j
  | 0, _, _ => rfl
  | m + 1, j, h => by rw [m_all, m_all, h j (by omega) (by omega), m_all_c m (j + 1) (fun x h1 h2 => h x (by omega) (by omega))]
theorem m_all_1 {P : Nat → Bool} : ∀ (m j : Nat), m_all P m j = true → ∀ x, j ≤ x → x < j + m → P x = true
  | 0, _, _, x, h1, h2 => by omega
  | m + 1, j, h, x, h1, h2 => by
    rw [m_all, Bool.and_eq_true] at h
    by_cases q : x = j
    · subst q
      exact h.1
    · exact m_all_1 m (j + 1) h.2 x (by omega) (by omega)
def sg_ok (c : Nat → Int32) (j : Nat) : Bool := decide (0 ≤ c j ∧ c j ≤ (if j % 2 = 0 then 9 else 11))
theorem rs_8 {β : Type} {r p : Nat} (hr : r < 6) (hp : p ≤ 40) {z : Nat → Int32} {M : Nat → Nat → Int32} (hz : z r = nI p) (k1 k2 : Option β) : ∀ (m j fuel : Nat), j + m = p → m < fuel → lp_X8_refusedSigns_51 (nI r) z M k1 k2 fuel (nI j) = if m_all (sg_ok (M r)) m j = true then k2 else k1
  | 0, j, fuel + 1, h, _ => by
    rw [lp_X8_refusedSigns_51, pu_size6 hr, Option.bind_some, hz, if_pos (nI_le (by omega) (by omega)), m_all, if_pos rfl]
  | m + 1, j, fuel + 1, h, hf => by
    have ih := rs_8 hr hp hz k1 k2 m (j + 1) fuel (by omega) (by omega) (M := M)
    rw [lp_X8_refusedSigns_51, pu_size6 hr, Option.bind_some, hz, if_neg (nI_ge (by omega) (by omega)), pu_get6 hr hp (show j < p by omega) hz, Option.bind_some, nx_let, md_2 (by omega), nI_1, ih, m_all]
    have e : ∀ v : Int32, v = (if j % 2 = 0 then 9 else 11) → (f_X8_within (M r j) (0 : Int32) v).bind (fun v6 => (if v6 = (0 : Int32) then k1 else (if m_all (sg_ok (M r)) m (j + 1) = true then k2 else k1))) = if (sg_ok (M r) j && m_all (sg_ok (M r)) m (j + 1)) = true then k2 else k1 := by
      intro v hv
      subst hv
      rw [wi_8, Option.bind_some]
      show (if (if sg_ok (M r) j = true then (1 : Int32) else 0) = 0 then k1 else _) = _
      cases sg_ok (M r) j with
      | true => rw [if_neg (show ¬ (if true = true then (1 : Int32) else 0) = 0 by decide), Bool.true_and]
      | false => rw [if_pos (show (if false = true then (1 : Int32) else 0) = 0 from rfl), Bool.false_and, if_neg (by decide)]
    by_cases q : j % 2 = 0
    · rw [q, if_pos (show nI 0 = 0 from rfl)]
      exact e 9 (by rw [if_pos q])
    · rw [show j % 2 = 1 by omega, if_neg (show ¬ nI 1 = 0 by decide)]
      exact e 11 (by rw [if_neg q])
theorem np_9 {β : Type} {r h : Nat} (hr : r < 6) (hh : h ≤ 20) {z g : Nat → Int32} (hz : z r = nI (2 * h)) (k : Int32 → Option β) : ∀ (m x fuel : Nat) (b : Bool), x + m = h → m < fuel → lp_X9_needPairs_54 (nI r) z g k fuel (if b = true then 1 else 0) (nI (2 * x)) = k (if (b && m_all (sg_ok (fun j => g (40 * r + j))) (2 * m) (2 * x)) = true then 1 else 0)
  | 0, x, fuel + 1, b, h1, _ => by
    rw [lp_X9_needPairs_54, pu_in hr (by omega), nx_chk, nI_clamp (by omega), hz, if_pos (nI_le (by omega) (by omega)), show m_all (sg_ok (fun j => g (40 * r + j))) (2 * 0) (2 * x) = true from rfl, Bool.and_true]
  | m + 1, x, fuel + 1, b, h1, hf => by
    have ih := fun b => np_9 hr hh hz k m (x + 1) fuel b (by omega) (by omega) (g := g)
    have i1 : (0 : Int32) = if false = true then 1 else 0 := rfl
    have i2 : (1 : Int32) = if true = true then 1 else 0 := rfl
    have e2 : nI (2 * x) + 2 = nI (2 * (x + 1)) := by rw [nx_l2, nI_add]; congr 1
    have P1 : sg_ok (fun j => g (40 * r + j)) (2 * x) = decide (0 ≤ g (40 * r + 2 * x) ∧ g (40 * r + 2 * x) ≤ 9) := by unfold sg_ok; rw [show 2 * x % 2 = 0 by omega]; rfl
    have P2 : sg_ok (fun j => g (40 * r + j)) (2 * x + 1) = decide (0 ≤ g (40 * r + (2 * x + 1)) ∧ g (40 * r + (2 * x + 1)) ≤ 11) := by unfold sg_ok; rw [show (2 * x + 1) % 2 = 1 by omega]; rfl
    rw [lp_X9_needPairs_54, pu_in hr (by omega), nx_chk, nI_clamp (by omega), hz, if_neg (nI_ge (by omega) (by omega)), nx_let, nx_let, e2, nI_1, pu_rowAt hr (by omega), pu_rowAt hr (by omega), show 2 * (m + 1) = 2 * m + 1 + 1 by omega, m_all, m_all, P1, P2, show 2 * x + 1 + 1 = 2 * (x + 1) by omega]
    have i0 : lp_X9_needPairs_54 (nI r) z g k fuel 0 (nI (2 * (x + 1))) = k 0 := by
      have := ih false
      rw [Bool.false_and] at this
      exact this
    have i1 := ih true
    rw [Bool.true_and, if_pos rfl] at i1
    dsimp only
    rw [i0, i1]
    cases b with
    | false => rw [if_pos (show (if false = true then (1 : Int32) else 0) = 0 from rfl), Bool.false_and, if_neg (by decide)]
    | true =>
      rw [if_neg (show ¬ (if true = true then (1 : Int32) else 0) = 0 by decide), Option.bind_some, wi_9, Option.bind_some, Bool.true_and]
      cases decide (0 ≤ g (40 * r + 2 * x) ∧ g (40 * r + 2 * x) ≤ 9) with
      | false => rw [if_pos (show (if false = true then (1 : Int32) else 0) = 0 from rfl), Bool.false_and, if_neg (by decide)]
      | true =>
        rw [if_neg (show ¬ (if true = true then (1 : Int32) else 0) = 0 by decide), Option.bind_some, wi_9, Option.bind_some, Bool.true_and]
        cases decide (0 ≤ g (40 * r + (2 * x + 1)) ∧ g (40 * r + (2 * x + 1)) ≤ 11) with
        | false => rw [if_pos (show (if false = true then (1 : Int32) else 0) = 0 from rfl), Bool.false_and, if_neg (by decide)]
        | true => rw [if_neg (show ¬ (if true = true then (1 : Int32) else 0) = 0 by decide), Bool.true_and]
theorem sg_ {s t : ll_S} (h : Rl_ s t) (a0 a1 : Int32) : (∃ (v l : Int32) (d : Nat → Int32) (l' : Int32) (d' : Nat → Int32), v < 0 ∧ f_X8_refusedSigns a0 a1 (s.1 0) (s.2.2.1 0) (s.2.2.2 0) (s.1 10) (s.2.2.1 32) = some (v, l, d) ∧ f_X9_needPairs a0 a1 (t.1 0) (t.1 2) (t.2.2.1 0) (t.2.2.1 1) (t.2.2.1 2) = some (v, l', d') ∧ l = l' ∧ ∀ j, j < 6 → d j = d' j) ∨ (f_X8_refusedSigns a0 a1 (s.1 0) (s.2.2.1 0) (s.2.2.2 0) (s.1 10) (s.2.2.1 32) = some (0, s.1 0, s.2.2.1 32) ∧ f_X9_needPairs a0 a1 (t.1 0) (t.1 2) (t.2.2.1 0) (t.2.2.1 1) (t.2.2.1 2) = some (0, t.1 0, t.2.2.1 0) ∧ ∃ r hh, r < 6 ∧ a1 = nI r ∧ hh ≤ 20 ∧ s.2.2.1 0 r = nI (2 * hh) ∧ t.2.2.1 1 r = nI (2 * hh) ∧ (∀ j, j < 2 * hh → s.2.2.2 0 r j = t.2.2.1 2 (40 * r + j)) ∧ ∀ x, x < hh → ∃ w, w ≤ 9 ∧ s.2.2.2 0 r (2 * x) = nI w) := by
  obtain ⟨N, kd, wd, f, hN, e10, eT2, -⟩ := rl_nw h.2.2.2.2.2
  obtain ⟨⟨hl, hfd⟩, ht, hu, ⟨hm, hz, hc⟩, htx, hfr⟩ := id h
  obtain ⟨F, hF, hF2⟩ : ∃ F, F = gg_fuel ∧ 50000 ≤ F := ⟨_, rfl, pu_F⟩
  unfold f_X8_refusedSigns f_X9_needPairs
  rw [e10, eT2, ← hF]
  rcases pu_ix a0 N (by omega) with q | ⟨i, hi, rfl⟩
  · rw [fl_knO q, ar_hutO hN q]
    left
    exact ⟨-1, s.1 0, s.2.2.1 32, t.1 0, t.2.2.1 0, by decide, rfl, rfl, hl, hfd⟩
  · rw [fl_kn hi hN, ar_hut hi hN, Option.bind_some, if_neg (show ¬ nI 1 = 0 by decide), Option.bind_some, nx_let, if_neg (show ¬ nI 1 = 0 by decide)]
    rcases pu_ix a1 6 (by omega) with q | ⟨r, hr, rfl⟩
    · rw [pu_rm6o q, pu_isRowO q]
      left
      exact ⟨-1, s.1 0, s.2.2.1 32, t.1 0, t.2.2.1 0, by decide, rfl, rfl, hl, hfd⟩
    · rw [pu_isRow hr, Option.bind_some, if_neg (show ¬ (1 : Int32) = 0 by decide), pu_in hr (by omega), nx_chk, nx_chk, nI_clamp (by omega), ← (hz r hr).1]
      rcases (hz r hr).2 with zq | ⟨p, hp, zq⟩
      · rw [pu_rm6a hr _ _ zq, zq, if_neg (show ¬ (0 : Int32) ≤ -1 by decide), pu_me1]
        left
        exact ⟨-3, 1, upd (s.2.2.1 32) 1 (s.2.2.1 32 1 + 1), 1, upd (t.2.2.1 0) 1 (t.2.2.1 0 1 + 1), by decide, rfl, rfl, rfl, pu_up hfd (by omega)⟩
      · have ne : ¬ s.2.2.1 0 r = -1 := by
          rw [zq]
          exact pu_m1 (by omega)
        rw [pu_rm6b hr _ _ ne, nx_b3, if_pos rfl, pu_size6 hr, Option.bind_some, zq, if_pos (nI_pos' (by omega)), md_2 (by omega)]
        by_cases q2 : p % 2 = 0
        · obtain ⟨hh, rfl⟩ : ∃ hh, p = 2 * hh := ⟨p / 2, by omega⟩
          have zt : t.2.2.1 1 r = nI (2 * hh) := by rw [← (hz r hr).1]; exact zq
          rw [q2, if_pos (show nI 0 = 0 from rfl), if_pos (show nI 0 = 0 from rfl)]
          have A := rs_8 hr hp zq (M := s.2.2.2 0) (gg_b3 (f_X8_find (3 : Int32) (s.1 0) (s.2.2.1 32)) (fun v7_0 v7_1 v7_2 => (some (v7_0, v7_1, v7_2)))) ((some ((0 : Int32), s.1 0, s.2.2.1 32))) (2 * hh) 0 F (by omega) (by omega)
          have B := np_9 hr (show hh ≤ 20 by omega) zt (g := t.2.2.1 2) (fun (x3_115 : Int32) => gg_lt (fun (s0_128 : Int32) (c_latest_128 : Int32) (c_came_128 : Nat → Int32) => (some (s0_128, c_latest_128, c_came_128))) (fun k128 => (if x3_115 = (0 : Int32) then gg_b3 (f_X9_meets (3 : Int32) (t.1 0) (t.2.2.1 0)) (fun v7_0 v7_1 v7_2 => (k128 v7_0 v7_1 v7_2)) else (k128 (0 : Int32) (t.1 0) (t.2.2.1 0))))) hh 0 F true (by omega) (by omega)
          have hcc : ∀ j, j < 2 * hh → s.2.2.2 0 r j = t.2.2.1 2 (40 * r + j) := fun j hj => hc r j hr (by omega) (by rw [zq]; exact nI_lt hj (by omega))
          have E : m_all (sg_ok (s.2.2.2 0 r)) (2 * hh) 0 = m_all (sg_ok (fun j => t.2.2.1 2 (40 * r + j))) (2 * hh) 0 := m_all_c (2 * hh) 0 (fun x _ h2 => by unfold sg_ok; rw [hcc x (by omega)])
          rw [if_pos rfl, Bool.true_and, Nat.mul_zero, ← E] at B
          obtain ⟨b, hb⟩ : ∃ b, b = m_all (sg_ok (s.2.2.2 0 r)) (2 * hh) 0 := ⟨_, rfl⟩
          rw [← hb] at A B
          cases b with
          | false =>
            left
            exact ⟨-3, 3, upd (s.2.2.1 32) 3 (s.2.2.1 32 3 + 1), 3, upd (t.2.2.1 0) 3 (t.2.2.1 0 3 + 1), by decide, A, B, rfl, pu_up hfd (by omega)⟩
          | true =>
            right
            refine ⟨A, B, r, hh, hr, rfl, by omega, zq, zt, hcc, fun x hx => ?_⟩
            have := m_all_1 (2 * hh) 0 hb.symm (2 * x) (by omega) (by omega)
            unfold sg_ok at this
            rw [decide_eq_true_eq, if_pos (show 2 * x % 2 = 0 by omega)] at this
            exact nI_of2 (M := 9) (n := 9) (by decide) (i_le_n this.1) this.2
        · have z1 : ¬ nI (p % 2) = 0 := fun z => q2 ((nI_eq (b := 0) (by omega) (by omega)).1 z)
          rw [if_neg z1, if_neg z1, pu_fi5, pu_me5]
          left
          exact ⟨-3, 5, upd (s.2.2.1 32) 5 (s.2.2.1 32 5 + 1), 5, upd (t.2.2.1 0) 5 (t.2.2.1 0 5 + 1), by decide, rfl, rfl, rfl, pu_up hfd (by omega)⟩
def ft_ (c : Nat → Int32) (k x : Nat) : Bool := decide (nI (k_tire k (c (2 * x)).toNatClampNeg) = c (2 * x + 1))
theorem ft_8 {β : Type} {r h kk : Nat} (hr : r < 6) (hh : h ≤ 20) (hkk : kk < 6) {z : Nat → Int32} {M : Nat → Nat → Int32} (hz : z r = nI (2 * h)) (hv : ∀ x, x < h → ∃ w, w ≤ 9 ∧ M r (2 * x) = nI w) (k1 k2 : Option β) : ∀ (m x fuel : Nat), x + m = h → m < fuel → lp_X8_fits_2 (nI kk) (nI r) z M k1 k2 fuel (nI (2 * x)) = if m_all (ft_ (M r) kk) m x = true then k2 else k1
  | 0, x, fuel + 1, h1, _ => by
    rw [lp_X8_fits_2, pu_size6 hr, Option.bind_some, hz, nI_1, if_pos (nI_le (by omega) (by omega)), m_all, if_pos rfl]
  | m + 1, x, fuel + 1, h1, hf => by
    have ih := ft_8 hr hh hkk hz hv k1 k2 m (x + 1) fuel (by omega) (by omega)
    obtain ⟨w, hw, ew⟩ := hv x (by omega)
    have e2 : nI (2 * x) + 2 = nI (2 * (x + 1)) := by rw [nx_l2, nI_add]; congr 1
    have eP : ft_ (M r) kk x = decide (nI (k_tire kk w) = M r (2 * x + 1)) := by unfold ft_; rw [ew, nI_clamp (by omega)]
    rw [lp_X8_fits_2, pu_size6 hr, Option.bind_some, hz, nI_1, if_neg (nI_ge (by omega) (by omega)), pu_get6 hr (show 2 * h ≤ 40 by omega) (show 2 * x < 2 * h by omega) hz, Option.bind_some, ew, e_tire8 kk hkk w (by omega), Option.bind_some, pu_get6 hr (show 2 * h ≤ 40 by omega) (show 2 * x + 1 < 2 * h by omega) hz, Option.bind_some, e2, ih, m_all, eP]
    by_cases q : nI (k_tire kk w) = M r (2 * x + 1)
    · rw [if_pos q, decide_eq_true q, Bool.true_and]
    · rw [if_neg q, decide_eq_false q, Bool.false_and, if_neg (by decide)]
theorem ft_9 {β : Type} {r h kk : Nat} (hr : r < 6) (hh : h ≤ 20) (hkk : kk < 6) {z g : Nat → Int32} (hz : z r = nI (2 * h)) (hv : ∀ x, x < h → ∃ w, w ≤ 9 ∧ g (40 * r + 2 * x) = nI w) (k : Int32 → Option β) : ∀ (m x fuel : Nat) (b : Bool), x + m = h → m < fuel → lp_X9_kindSet_15 (nI r) (nI kk) z g k fuel (if b = true then 1 else 0) (nI (2 * x)) = k (if (b && m_all (ft_ (fun j => g (40 * r + j)) kk) m x) = true then 1 else 0)
  | 0, x, fuel + 1, b, h1, _ => by
    rw [lp_X9_kindSet_15, pu_in hr (by omega), nx_chk, nI_clamp (by omega), hz, if_pos (nI_le (by omega) (by omega)), m_all, Bool.and_true]
  | m + 1, x, fuel + 1, b, h1, hf => by
    have ih := fun b => ft_9 hr hh hkk hz hv k m (x + 1) fuel b (by omega) (by omega)
    obtain ⟨w, hw, ew⟩ := hv x (by omega)
    have e2 : nI (2 * x) + 2 = nI (2 * (x + 1)) := by rw [nx_l2, nI_add]; congr 1
    have eP : ft_ (fun j => g (40 * r + j)) kk x = decide (nI (k_tire kk w) = g (40 * r + (2 * x + 1))) := by
      show decide (nI (k_tire kk (g (40 * r + 2 * x)).toNatClampNeg) = g (40 * r + (2 * x + 1))) = _
      rw [ew, nI_clamp (by omega)]
    have i0 : lp_X9_kindSet_15 (nI r) (nI kk) z g k fuel 0 (nI (2 * (x + 1))) = k 0 := by
      have := ih false
      rw [Bool.false_and] at this
      exact this
    have i1 := ih true
    rw [Bool.true_and, if_pos rfl] at i1
    rw [lp_X9_kindSet_15, pu_in hr (by omega), nx_chk, nI_clamp (by omega), hz, if_neg (nI_ge (by omega) (by omega)), nx_let, nx_let, e2, nI_1, pu_rowAt hr (by omega), pu_rowAt hr (by omega), Option.bind_some, ew, e_tire9 kk hkk w (by omega), Option.bind_some, Option.bind_some, m_all, eP]
    dsimp only
    rw [i0, i1]
    cases b with
    | false => rw [if_pos (show (if false = true then (1 : Int32) else 0) = 0 from rfl), Bool.false_and, if_neg (by decide)]
    | true =>
      rw [if_neg (show ¬ (if true = true then (1 : Int32) else 0) = 0 by decide), Bool.true_and]
      by_cases q : nI (k_tire kk w) = g (40 * r + (2 * x + 1))
      · rw [if_pos q, decide_eq_true q, Bool.true_and]
      · rw [if_neg q, decide_eq_false q, Bool.false_and, if_neg (by decide)]
theorem ks_8 {β : Type} {r h : Nat} (hr : r < 6) (hh : h ≤ 20) {z : Nat → Int32} {M : Nat → Nat → Int32} (hz : z r = nI (2 * h)) (hv : ∀ x, x < h → ∃ w, w ≤ 9 ∧ M r (2 * x) = nI w) (k : Int32 → Option β) : ∀ (m j fuel : Nat), j + m = 6 → m < fuel → lp_X8_kindsBy_4 (nI r) z M k fuel (nI (m_bits (fun kk => m_all (ft_ (M r) kk) h 0) j)) (nI j) = k (nI (m_bits (fun kk => m_all (ft_ (M r) kk) h 0) 6))
  | 0, j, fuel + 1, h1, _ => by
    have : j = 6 := by omega
    subst this
    rw [lp_X8_kindsBy_4, if_pos (show (6 : Int32) ≤ nI 6 by decide)]
  | m + 1, j, fuel + 1, h1, hf => by
    obtain ⟨F, hF, hF2⟩ : ∃ F, F = gg_fuel ∧ 50000 ≤ F := ⟨_, rfl, pu_F⟩
    have ih := ks_8 hr hh hz hv k m (j + 1) fuel (by omega) (by omega)
    have e := ft_8 hr hh (show j < 6 by omega) hz hv (some (0 : Int32)) (some (1 : Int32)) h 0 F (by omega) (by omega)
    rw [Nat.mul_zero] at e
    have e' : lp_X8_fits_2 (nI j) (nI r) z M (some (0 : Int32)) (some (1 : Int32)) F (0 : Int32) = if m_all (ft_ (M r) j) h 0 = true then some 1 else some 0 := e
    rw [m_bits_s] at ih
    rw [lp_X8_kindsBy_4, if_neg (show ¬ (6 : Int32) ≤ nI j from (nI_ge (by omega) (by omega) : ¬ nI 6 ≤ nI j)), f_X8_fits, ← hF, e', nI_1, ← ih]
    by_cases q : m_all (ft_ (M r) j) h 0 = true
    · rw [if_pos q, if_pos q, Option.bind_some, nx_let, if_neg (show ¬ (1 : Int32) = 0 by decide), nx_sh1 j (by omega), nx_or]
    · rw [if_neg q, if_neg q, Option.bind_some, nx_let, if_pos rfl]
theorem ks_9 {β : Type} {r h : Nat} (hr : r < 6) (hh : h ≤ 20) {z g : Nat → Int32} (hz : z r = nI (2 * h)) (hv : ∀ x, x < h → ∃ w, w ≤ 9 ∧ g (40 * r + 2 * x) = nI w) (k : Int32 → Option β) : ∀ (m j fuel : Nat), j + m = 6 → m < fuel → lp_X9_kindSet_4 (nI r) z g k fuel (nI (m_bits (fun kk => m_all (ft_ (fun j => g (40 * r + j)) kk) h 0) j)) (nI j) = k (nI (m_bits (fun kk => m_all (ft_ (fun j => g (40 * r + j)) kk) h 0) 6))
  | 0, j, fuel + 1, h1, _ => by
    have : j = 6 := by omega
    subst this
    rw [lp_X9_kindSet_4, if_pos (show (5 : Int32) < nI 6 by decide)]
  | m + 1, j, fuel + 1, h1, hf => by
    obtain ⟨F, hF, hF2⟩ : ∃ F, F = gg_fuel ∧ 50000 ≤ F := ⟨_, rfl, pu_F⟩
    have ih := ks_9 hr hh hz hv k m (j + 1) fuel (by omega) (by omega)
    have e := ft_9 hr hh (show j < 6 by omega) hz hv (fun (x4_67 : Int32) => gg_lt (fun (s1_80 : Int32) => (lp_X9_kindSet_4 (nI r) z g k fuel ((nI (m_bits (fun kk => m_all (ft_ (fun j => g (40 * r + j)) kk) h 0) j)) ||| s1_80) (nI (j + 1)))) (fun k80 => (if x4_67 = (0 : Int32) then (k80 (0 : Int32)) else (k80 ((1 : Int32) <<< (nI j &&& 31)))))) h 0 F true (by omega) (by omega)
    rw [Nat.mul_zero, Bool.true_and, if_pos rfl] at e
    rw [m_bits_s] at ih
    rw [lp_X9_kindSet_4, if_neg (show ¬ (5 : Int32) < nI j from (nI_nlt (by omega) (by omega) : ¬ nI 5 < nI j)), ← hF, nI_1]
    refine Eq.trans e ?_
    rw [← ih, nx_let]
    dsimp only
    by_cases q : m_all (ft_ (fun j => g (40 * r + j)) j) h 0 = true
    · rw [if_pos q, if_pos q, if_neg (show ¬ (1 : Int32) = 0 by decide), nx_sh1 j (by omega), nx_or]
    · rw [if_neg q, if_neg q, if_pos rfl, nx_l0, nx_or, Nat.or_zero]
theorem ks_ {s t : ll_S} {r hh : Nat} (hr : r < 6) (h20 : hh ≤ 20) (z1 : s.2.2.1 0 r = nI (2 * hh)) (z2 : t.2.2.1 1 r = nI (2 * hh)) (hc : ∀ j, j < 2 * hh → s.2.2.2 0 r j = t.2.2.1 2 (40 * r + j)) (hv : ∀ x, x < hh → ∃ w, w ≤ 9 ∧ s.2.2.2 0 r (2 * x) = nI w) : ∃ S, S < 64 ∧ f_X8_kindsBy (nI r) (s.2.2.1 0) (s.2.2.2 0) = some (nI S) ∧ f_X9_kindSet (nI r) (t.2.2.1 1) (t.2.2.1 2) = some (nI S) := by
  obtain ⟨F, hF, hF2⟩ : ∃ F, F = gg_fuel ∧ 50000 ≤ F := ⟨_, rfl, pu_F⟩
  refine ⟨m_bits (fun kk => m_all (ft_ (s.2.2.2 0 r) kk) hh 0) 6, m_bits_64 _ (by omega), ?_, ?_⟩
  · unfold f_X8_kindsBy
    rw [← hF]
    exact ks_8 hr h20 z1 hv (fun x => some x) 6 0 F (by omega) (by omega)
  · unfold f_X9_kindSet
    rw [← hF]
    have e := ks_9 hr h20 z2 (g := t.2.2.1 2) (fun x hx => by rw [← hc (2 * x) (by omega)]; exact hv x hx) (fun x => some x) 6 0 F (by omega) (by omega)
    refine Eq.trans e ?_
    have : m_bits (fun kk => m_all (ft_ (fun j => t.2.2.1 2 (40 * r + j)) kk) hh 0) 6 = m_bits (fun kk => m_all (ft_ (s.2.2.2 0 r) kk) hh 0) 6 := m_bits_c (fun kk _ => m_all_c hh 0 (fun x _ h2 => by
      unfold ft_
      rw [hc (2 * x) (by omega), hc (2 * x + 1) (by omega)]))
    rw [this]
theorem sm_kinds : sim_kinds Rl_ := by
  intro s t h a0 a1
  unfold f_X8_kinds f_X9_kinds
  rcases sg_ h a0 a1 with ⟨v, l, d, l', d', hv, e1, e2, el, ed⟩ | ⟨e1, e2, r, hh, hr, rfl, h20, z1, z2, hc, hv⟩
  · rw [e1, e2, nx_b3, nx_b3, nx_let, nx_let, if_neg (fun z => by rw [z] at hv; exact absurd hv (by decide)), if_neg (fun z => i_le_n z hv)]
    exact ⟨v, l, d, v, l', d', rfl, rfl, rfl, ⟨⟨el, ed⟩, h.2⟩⟩
  · obtain ⟨S, hS, k1, k2⟩ := ks_ hr h20 z1 z2 hc hv
    rw [e1, e2, nx_b3, nx_b3, nx_let, nx_let, if_pos rfl, if_pos (show (0 : Int32) ≤ 0 by decide), k1, k2]
    exact ⟨nI S, s.1 0, s.2.2.1 32, nI S, t.1 0, t.2.2.1 0, rfl, rfl, rfl, ⟨h.1, h.2⟩⟩
theorem m_ct_le (p : Nat → Bool) : ∀ n, m_ct p n ≤ n
  | 0 => Nat.le_refl _
  | n + 1 => by
    have := m_ct_le p n
    rw [m_ct_s]
    split <;> omega
def gp_ (S w t : Nat) : Nat := m_ct (fun k => S.testBit k && decide (k_tire k w = t)) 6
def mx_ (S w : Nat) : Nat → Nat
  | 0 => 0
  | t + 1 => max (mx_ S w t) (gp_ S w t)
theorem mx_le (S w : Nat) : ∀ t, mx_ S w t ≤ 6
  | 0 => by show 0 ≤ 6; omega
  | t + 1 => by
    have h1 := mx_le S w t
    have h2 : gp_ S w t ≤ 6 := m_ct_le _ 6
    show max (mx_ S w t) (gp_ S w t) ≤ 6
    omega
theorem gp_8 {β : Type} {S w t : Nat} (hS : S < 64) (hw : w < 10) (ht : t < 12) (k : Int32 → Option β) : ∀ (m j fuel : Nat), j + m = 6 → m < fuel → lp_X3_greatestPart_16 (nI S) (nI w) (nI t) k fuel (nI (m_ct (fun k => S.testBit k && decide (k_tire k w = t)) j)) (nI j) = k (nI (gp_ S w t))
  | 0, j, fuel + 1, h1, _ => by
    have : j = 6 := by omega
    subst this
    rw [lp_X3_greatestPart_16, if_pos (show (6 : Int32) ≤ nI 6 by decide)]
    rfl
  | m + 1, j, fuel + 1, h1, hf => by
    have ih := gp_8 hS hw ht k m (j + 1) fuel (by omega) (by omega)
    have hT := k_tire_le j (by omega) w hw
    rw [m_ct_s] at ih
    rw [lp_X3_greatestPart_16, if_neg (show ¬ (6 : Int32) ≤ nI j from (nI_ge (by omega) (by omega) : ¬ nI 6 ≤ nI j)), nx_let, nI_1, nI_1, e_tire8 j (by omega) w hw, Option.bind_some, ← ih]
    by_cases q : S.testBit j = true
    · rw [if_pos ((nx_oneI (by omega) (by omega)).2 q)]
      by_cases q2 : k_tire j w = t
      · rw [if_pos (show nI (k_tire j w) = nI t by rw [q2]), if_pos (by rw [q, decide_eq_true q2]; rfl)]
      · rw [if_neg (fun z => q2 ((nI_eq (by omega) (by omega)).1 z)), if_neg (by rw [decide_eq_false q2, Bool.and_false]; decide)]
    · rw [if_neg (fun z => q ((nx_oneI (by omega) (by omega)).1 z)), if_neg (by simp [q])]
theorem gp_9 {β : Type} {S w t : Nat} (hS : S < 64) (hw : w < 10) (ht : t < 12) (k : Int32 → Option β) : ∀ (m j fuel : Nat), j + m = 6 → m < fuel → lp_X9_alike_16 (nI S) (nI w) (nI t) k fuel (nI (m_ct (fun k => S.testBit k && decide (k_tire k w = t)) j)) (nI j) = k (nI (gp_ S w t))
  | 0, j, fuel + 1, h1, _ => by
    have : j = 6 := by omega
    subst this
    rw [lp_X9_alike_16, if_pos (show (5 : Int32) < nI 6 by decide)]
    rfl
  | m + 1, j, fuel + 1, h1, hf => by
    have ih := gp_9 hS hw ht k m (j + 1) fuel (by omega) (by omega)
    have hT := k_tire_le j (by omega) w hw
    rw [m_ct_s] at ih
    rw [lp_X9_alike_16, if_neg (show ¬ (5 : Int32) < nI j from (nI_nlt (by omega) (by omega) : ¬ nI 5 < nI j)), nx_has (by omega) (by omega), Option.bind_some, nx_let, nx_let]
    dsimp only
    rw [nI_1, nI_1, e_tire9 j (by omega) w hw, Option.bind_some, ← ih, show (0 : Int32) = nI 0 from rfl, nI_add, Nat.add_zero]
    by_cases q : S.testBit j = true
    · rw [if_pos q, if_neg (show ¬ nI 1 = nI 0 by decide)]
      by_cases q2 : k_tire j w = t
      · rw [if_pos (show nI (k_tire j w) = nI t by rw [q2]), if_pos (by rw [q, decide_eq_true q2]; rfl)]
      · rw [if_neg (fun z => q2 ((nI_eq (by omega) (by omega)).1 z)), if_neg (by rw [decide_eq_false q2, Bool.and_false]; decide)]
    · rw [if_neg q, if_pos rfl, if_neg (by simp [q])]
theorem fl_mx {a b : Nat} (h : a < 2000) (hb : b < 2000) : f_J9_max_7cf53 (nI a) (nI b) = some (nI (max a b)) := by
  unfold f_J9_max_7cf53
  by_cases q : a < b
  · rw [Nat.max_eq_right (by omega)]
    simp (disch := omega) only [nx_chk, nx_let, nx_b2, nx_b3, nx_b4, nx_b5, nx_b7, nx_b8, Option.bind_some, nx_l0, nx_l1, nx_l2, nx_l3, nx_l4, nx_l5, nx_l6, nx_l7, nx_l8, nx_l9, nx_l10, nx_l11, nx_l12, nx_l14, nx_l20, nx_l26, nx_l40, nx_l60, nx_l100, nx_l1000, nI_add, nx_sub, nx_m1, nx_in, nx_cl, nx_le, nx_ltI, nx_eq, nx_isb0, nx_isb1, nx_n9, nx_n9', nx_b9, nx_b9', nx_m1', Nat.reduceEqDiff, Nat.reduceLeDiff, Nat.reduceLT, Nat.reduceAdd, Nat.reduceSub, Nat.reduceMul, Nat.reduceDiv, Nat.reduceMod, Bool.false_eq_true, reduceIte, ite_true, ite_false, if_true, if_false, q, show ¬ b ≤ a by omega]
  · rw [Nat.max_eq_left (by omega)]
    simp (disch := omega) only [nx_chk, nx_let, nx_b2, nx_b3, nx_b4, nx_b5, nx_b7, nx_b8, Option.bind_some, nx_l0, nx_l1, nx_l2, nx_l3, nx_l4, nx_l5, nx_l6, nx_l7, nx_l8, nx_l9, nx_l10, nx_l11, nx_l12, nx_l14, nx_l20, nx_l26, nx_l40, nx_l60, nx_l100, nx_l1000, nI_add, nx_sub, nx_m1, nx_in, nx_cl, nx_le, nx_ltI, nx_eq, nx_isb0, nx_isb1, nx_n9, nx_n9', nx_b9, nx_b9', nx_m1', Nat.reduceEqDiff, Nat.reduceLeDiff, Nat.reduceLT, Nat.reduceAdd, Nat.reduceSub, Nat.reduceMul, Nat.reduceDiv, Nat.reduceMod, Bool.false_eq_true, reduceIte, ite_true, ite_false, if_true, if_false, q, show b ≤ a by omega]
theorem mx_8 {β : Type} {S w : Nat} (hS : S < 64) (hw : w < 10) (k : Int32 → Option β) : ∀ (m t fuel : Nat), t + m = 12 → m < fuel → lp_X3_greatestPart_4 (nI S) (nI w) k fuel (nI (mx_ S w t)) (nI t) = k (nI (mx_ S w 12))
  | 0, t, fuel + 1, h1, _ => by
    have : t = 12 := by omega
    subst this
    rw [lp_X3_greatestPart_4, if_pos (show (11 : Int32) < nI 12 by decide)]
  | m + 1, t, fuel + 1, h1, hf => by
    obtain ⟨F, hF, hF2⟩ : ∃ F, F = gg_fuel ∧ 50000 ≤ F := ⟨_, rfl, pu_F⟩
    have ih := mx_8 hS hw k m (t + 1) fuel (by omega) (by omega)
    have e := gp_8 hS hw (show t < 12 by omega) (fun (x4_52 : Int32) => (f_J9_max_7cf53 (nI (mx_ S w t)) x4_52).bind (fun v2 => (lp_X3_greatestPart_4 (nI S) (nI w) k fuel v2 (nI (t + 1))))) 6 0 F (by omega) (by omega)
    have l1 := mx_le S w t
    have l2 : gp_ S w t ≤ 6 := m_ct_le _ 6
    rw [lp_X3_greatestPart_4, if_neg (show ¬ (11 : Int32) < nI t from (nI_nlt (by omega) (by omega) : ¬ nI 11 < nI t)), ← hF, nI_1]
    refine Eq.trans e ?_
    rw [fl_mx (by omega) (by omega), Option.bind_some]
    exact ih
theorem mx_9 {β : Type} {S w : Nat} (hS : S < 64) (hw : w < 10) (k : Int32 → Option β) : ∀ (m t fuel : Nat), t + m = 12 → m < fuel → lp_X9_alike_4 (nI S) (nI w) k fuel (nI (mx_ S w t)) (nI t) = k (nI (mx_ S w 12))
  | 0, t, fuel + 1, h1, _ => by
    have : t = 12 := by omega
    subst this
    rw [lp_X9_alike_4, if_pos (show (12 : Int32) ≤ nI 12 by decide)]
  | m + 1, t, fuel + 1, h1, hf => by
    obtain ⟨F, hF, hF2⟩ : ∃ F, F = gg_fuel ∧ 50000 ≤ F := ⟨_, rfl, pu_F⟩
    have ih := mx_9 hS hw k m (t + 1) fuel (by omega) (by omega)
    have e := gp_9 hS hw (show t < 12 by omega) (fun (x4_57 : Int32) => gg_lt (fun (s0_69 : Int32) => (lp_X9_alike_4 (nI S) (nI w) k fuel s0_69 (nI (t + 1)))) (fun k69 => (if x4_57 ≤ (nI (mx_ S w t)) then (k69 (nI (mx_ S w t))) else (k69 x4_57)))) 6 0 F (by omega) (by omega)
    have l1 := mx_le S w t
    have l2 : gp_ S w t ≤ 6 := m_ct_le _ 6
    rw [lp_X9_alike_4, if_neg (show ¬ (12 : Int32) ≤ nI t from (nI_ge (by omega) (by omega) : ¬ nI 12 ≤ nI t)), ← hF, nI_1]
    refine Eq.trans e ?_
    rw [nx_let, ← ih]
    show _ = lp_X9_alike_4 (nI S) (nI w) k fuel (nI (max (mx_ S w t) (gp_ S w t))) (nI (t + 1))
    by_cases q : gp_ S w t ≤ mx_ S w t
    · rw [if_pos (nI_le q (by omega)), Nat.max_eq_left q]
    · rw [if_neg (nI_ge (by omega) (by omega)), Nat.max_eq_right (by omega)]
theorem gr_8 {S w : Nat} (hS : S < 64) (hw : w < 10) : f_X3_greatestPart (nI S) (nI w) = some (nI (mx_ S w 12)) := by
  obtain ⟨F, hF, hF2⟩ : ∃ F, F = gg_fuel ∧ 50000 ≤ F := ⟨_, rfl, pu_F⟩
  unfold f_X3_greatestPart
  rw [← hF]
  exact mx_8 hS hw (fun x => some x) 12 0 F (by omega) (by omega)
theorem gr_9 {S w : Nat} (hS : S < 64) (hw : w < 10) : f_X9_alike (nI S) (nI w) = some (nI (mx_ S w 12)) := by
  obtain ⟨F, hF, hF2⟩ : ∃ F, F = gg_fuel ∧ 50000 ≤ F := ⟨_, rfl, pu_F⟩
  unfold f_X9_alike
  rw [← hF]
  exact mx_9 hS hw (fun x => some x) 12 0 F (by omega) (by omega)
def tb_ (G : Nat → Nat) : Nat → Nat → Nat → Nat → Nat × Nat
  | 0, _, b, l => (b, l)
  | m + 1, j, b, l => if l ≤ G j then tb_ G m (j + 1) b l else tb_ G m (j + 1) j (G j)
theorem tb_8 {β : Type} {S : Nat} (hS : S < 64) (k : Int32 → Int32 → Option β) : ∀ (m j fuel b l : Nat), j + m = 10 → m < fuel → l < 2000000 → lp_X8_test_38 (nI S) k fuel (nI b) (nI l) (nI j) = k (nI (tb_ (fun w => mx_ S w 12) m j b l).1) (nI (tb_ (fun w => mx_ S w 12) m j b l).2)
  | 0, j, fuel + 1, b, l, h1, _, hl => by
    have : j = 10 := by omega
    subst this
    rw [lp_X8_test_38, if_pos (show (10 : Int32) ≤ nI 10 by decide)]
    rfl
  | m + 1, j, fuel + 1, b, l, h1, hf, hl => by
    have l1 := mx_le S j 12
    rw [lp_X8_test_38, if_neg (show ¬ (10 : Int32) ≤ nI j from (nI_ge (by omega) (by omega) : ¬ nI 10 ≤ nI j)), gr_8 hS (show j < 10 by omega), Option.bind_some, nx_let, nI_1]
    unfold tb_
    by_cases q : l ≤ mx_ S j 12
    · rw [if_pos (nI_le q (by omega)), if_pos q]
      exact tb_8 hS k m (j + 1) fuel b l (by omega) (by omega) hl
    · rw [if_neg (nI_ge (by omega) (by omega)), if_neg q]
      exact tb_8 hS k m (j + 1) fuel j (mx_ S j 12) (by omega) (by omega) (by omega)
theorem tb_9 {β : Type} {S : Nat} (hS : S < 64) (k : Int32 → Int32 → Option β) : ∀ (m j fuel b l : Nat), j + m = 10 → m < fuel → l < 2000000 → lp_X9_test_38 (nI S) k fuel (nI b) (nI l) (nI j) = k (nI (tb_ (fun w => mx_ S w 12) m j b l).1) (nI (tb_ (fun w => mx_ S w 12) m j b l).2)
  | 0, j, fuel + 1, b, l, h1, _, hl => by
    have : j = 10 := by omega
    subst this
    rw [lp_X9_test_38, if_pos (show (10 : Int32) ≤ nI 10 by decide)]
    rfl
  | m + 1, j, fuel + 1, b, l, h1, hf, hl => by
    have l1 := mx_le S j 12
    rw [lp_X9_test_38, if_neg (show ¬ (10 : Int32) ≤ nI j from (nI_ge (by omega) (by omega) : ¬ nI 10 ≤ nI j)), gr_9 hS (show j < 10 by omega), Option.bind_some, nx_let, nI_1]
    unfold tb_
    by_cases q : l ≤ mx_ S j 12
    · rw [if_pos (nI_le q (by omega)), if_pos q]
      dsimp only
      rw [nx_let, if_pos (nI_le q (by omega))]
      exact tb_9 hS k m (j + 1) fuel b l (by omega) (by omega) hl
    · rw [if_neg (nI_ge (by omega) (by omega)), if_neg q]
      dsimp only
      rw [nx_let, if_neg (nI_ge (by omega) (by omega))]
      exact tb_9 hS k m (j + 1) fuel j (mx_ S j 12) (by omega) (by omega) (by omega)
theorem sm_test : sim_test Rl_ := by
  intro s t h a0 a1
  obtain ⟨F, hF, hF2⟩ : ∃ F, F = gg_fuel ∧ 50000 ≤ F := ⟨_, rfl, pu_F⟩
  unfold f_X8_test f_X9_test
  rw [← hF]
  rcases sg_ h a0 a1 with ⟨v, l, d, l', d', hv, e1, e2, el, ed⟩ | ⟨e1, e2, r, hh, hr, rfl, h20, z1, z2, hc, hv⟩
  · rw [e1, e2, nx_b3, nx_b3, if_neg (fun z => by rw [z] at hv; exact absurd hv (by decide)), if_neg (fun z => i_le_n z hv)]
    exact ⟨v, l, s.1 1, d, v, l', t.1 1, d', rfl, rfl, rfl, ⟨⟨el, ed⟩, h.2.1, h.2.2⟩⟩
  · obtain ⟨S, hS, k1, k2⟩ := ks_ hr h20 z1 z2 hc hv
    rw [e1, e2, nx_b3, nx_b3, if_pos rfl, if_pos (show (0 : Int32) ≤ 0 by decide), k1, k2, Option.bind_some, Option.bind_some]
    by_cases q : S = 0
    · subst q
      exact ⟨-9, s.1 0, s.1 1, s.2.2.1 32, -9, t.1 0, t.1 1, t.2.2.1 0, rfl, rfl, rfl, ⟨h.1, h.2.1, h.2.2⟩⟩
    · have zS : ¬ nI S = 0 := fun z => q ((nI_eq (b := 0) (by omega) (by omega)).1 z)
      have A := tb_8 hS (fun (x5_75 : Int32) (x6_75 : Int32) => (some (x5_75, s.1 0, x6_75, s.2.2.1 32))) 10 0 F 0 7 (by omega) (by omega) (by omega)
      have B := tb_9 hS (fun (x5_92 : Int32) (x6_92 : Int32) => gg_b2 (f_X9_tells x6_92 x5_92 (t.1 1)) (fun v4_0 v4_1 => (some (v4_0, t.1 0, v4_1, t.2.2.1 0)))) 10 0 F 0 1000000 (by omega) (by omega) (by omega)
      have l1 := mx_le S 0 12
      have e : tb_ (fun w => mx_ S w 12) 10 0 0 1000000 = tb_ (fun w => mx_ S w 12) 10 0 0 7 := by
        rw [tb_, if_neg (show ¬ 1000000 ≤ mx_ S 0 12 by omega)]
        show _ = if 7 ≤ mx_ S 0 12 then tb_ (fun w => mx_ S w 12) 9 (0 + 1) 0 7 else tb_ (fun w => mx_ S w 12) 9 (0 + 1) 0 (mx_ S 0 12)
        rw [if_neg (show ¬ 7 ≤ mx_ S 0 12 by omega)]
      rw [e] at B
      rw [if_neg zS, if_neg zS]
      exact ⟨_, s.1 0, _, s.2.2.1 32, _, t.1 0, _, t.2.2.1 0, A, B, rfl, ⟨h.1, rfl, h.2.2⟩⟩
