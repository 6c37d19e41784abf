theorem m_ct_c {p q : Nat → Bool} : ∀ n, (∀ j, j < n → p j = q j) → m_ct p n = m_ct q n
  | 0, _ => rfl
  | n + 1, h => by rw [m_ct, m_ct, m_ct_c n (fun j hj => h j (by omega)), h n (by omega)]
theorem m_ct_hi {p : Nat → Bool} {N : Nat} (h : ∀ i, N ≤ i → p i = false) : ∀ m, m_ct p (N + m) = m_ct p N
  | 0 => rfl
  | m + 1 => by
    rw [show N + (m + 1) = N + m + 1 by omega, m_ct_s, h (N + m) (by omega), if_neg (by decide)]
    exact m_ct_hi h m
theorem m_ct_mo {p : Nat → Bool} {a : Nat} : ∀ m, m_ct p a ≤ m_ct p (a + m)
  | 0 => Nat.le_refl _
  | m + 1 => by
    have := m_ct_mo (p := p) (a := a) m
    rw [show a + (m + 1) = a + m + 1 by omega, m_ct_s]
    split <;> omega
theorem pc_t : ∀ m, m < 64 → m_pc m = m_ct (fun k => m.testBit k) 6 := by decide +kernel
theorem pc_ct {N : Nat} (hN : N ≤ 6) (p : Nat → Bool) : m_pc (m_bits p N) = m_ct p N := by
  rw [pc_t _ (m_bits_64 p hN)]
  have h := m_ct_hi (p := fun k => (m_bits p N).testBit k) (N := N) (fun i hi => by
    show (m_bits p N).testBit i = false
    rw [m_bitsB, decide_eq_false (show ¬ i < N by omega)]
    rfl) (6 - N)
  rw [show N + (6 - N) = 6 by omega] at h
  rw [h]
  exact m_ct_c N (fun j hj => by
    show (m_bits p N).testBit j = p j
    rw [m_bitsB, decide_eq_true hj]
    rfl)
theorem ww_at {T : Nat → Bool} : ∀ n i, i < n → T i = true → m_ct T i < m_ct T n ∧ ww_ T n (m_ct T i) = i
  | 0, i, h, _ => by omega
  | n + 1, i, h, ht => by
    by_cases q : i = n
    · subst q
      rw [m_ct_s, if_pos ht, ww_, if_pos ht]
      exact ⟨by omega, by rw [nx_upn, if_pos rfl]⟩
    · obtain ⟨a, b⟩ := ww_at n i (by omega) ht
      rw [m_ct_s, ww_]
      by_cases q2 : T n = true
      · rw [if_pos q2, if_pos q2, nx_upn, if_neg (by omega)]
        exact ⟨by omega, b⟩
      · rw [if_neg q2, if_neg q2]
        exact ⟨a, b⟩
def rf_ (T : Nat → Bool) (y hm : Nat → Nat) : Nat → Nat
  | 0 => 0
  | n + 1 => if T n = true then rf_ T y hm n + ad_ (y (m_ct T n)) (hm n) else rf_ T y hm n
theorem rf_e {T : Nat → Bool} {y hm : Nat → Nat} {N : Nat} : ∀ n, n ≤ N → rf_ T y hm n = cf_ y hm (ww_ T N) (m_ct T n)
  | 0, _ => rfl
  | n + 1, h => by
    rw [rf_, m_ct_s, rf_e (N := N) n (by omega)]
    by_cases q : T n = true
    · rw [if_pos q, if_pos q, cf_, (ww_at N n (by omega) q).2]
    · rw [if_neg q, if_neg q]
def ra_ (T : Nat → Bool) (y : Nat → Nat) : Nat → Nat
  | 0 => 0
  | e + 1 => if T (2 * e) = true ∧ T (2 * e + 1) = true then ra_ T y e + ad_ (y (m_ct T (2 * e))) (y (m_ct T (2 * e + 1))) else ra_ T y e
theorem ra_e {T : Nat → Bool} {y : Nat → Nat} {N : Nat} : ∀ e, 2 * e ≤ N → ra_ T y e = ca_ y (ww_ T N) (m_ct T N) (m_ct T (2 * e))
  | 0, _ => rfl
  | e + 1, h => by
    obtain ⟨w1, w2, w3⟩ := ww_sp T N
    rw [ra_, ra_e (N := N) e (by omega), show 2 * (e + 1) = 2 * e + 1 + 1 by omega, m_ct_s T (2 * e + 1), m_ct_s T (2 * e)]
    by_cases q0 : T (2 * e) = true
    · obtain ⟨a1, a2⟩ := ww_at N (2 * e) (by omega) q0
      by_cases q1 : T (2 * e + 1) = true
      · obtain ⟨b1, b2⟩ := ww_at N (2 * e + 1) (by omega) q1
        have em : m_ct T (2 * e + 1) = m_ct T (2 * e) + 1 := by rw [m_ct_s, if_pos q0]
        rw [em] at b1 b2
        rw [if_pos ⟨q0, q1⟩, if_pos q1, if_pos q0, ca_, ca_, ct_, ct_, if_pos ⟨b1, by rw [a2]; omega, by rw [a2, b2]⟩, if_neg (fun z => absurd z.2.1 (by rw [b2]; omega))]
        rfl
      · rw [if_neg (fun z => q1 z.2), if_neg q1, if_pos q0, ca_, ct_, if_neg (fun z => by
          obtain ⟨z1, z2, z3⟩ := z
          have := (w1 _ z1).2
          rw [z3, a2] at this
          exact q1 this), Nat.add_zero]
    · rw [if_neg (fun z => q0 z.1), if_neg q0]
      by_cases q1 : T (2 * e + 1) = true
      · obtain ⟨b1, b2⟩ := ww_at N (2 * e + 1) (by omega) q1
        have em : m_ct T (2 * e + 1) = m_ct T (2 * e) := by rw [m_ct_s, if_neg q0]
        rw [em] at b2
        rw [if_pos q1, ca_, ct_, if_neg (fun z => absurd z.2.1 (by rw [b2]; omega)), Nat.add_zero]
      · rw [if_neg q1]
theorem ra_t {T : Nat → Bool} {y : Nat → Nat} {N : Nat} : ra_ T y (N / 2) = ca_ y (ww_ T N) (m_ct T N) (m_ct T N) := by
  rw [ra_e (N := N) (N / 2) (by omega)]
  by_cases q : N % 2 = 0
  · rw [show 2 * (N / 2) = N by omega]
  · obtain ⟨e, he⟩ : ∃ e, N = 2 * e + 1 := ⟨N / 2, by omega⟩
    have e2 : N / 2 = e := by omega
    rw [e2]
    have em : m_ct T N = if T (2 * e) = true then m_ct T (2 * e) + 1 else m_ct T (2 * e) := by
      rw [he, m_ct_s]
    by_cases q0 : T (2 * e) = true
    · rw [if_pos q0] at em
      have : ca_ y (ww_ T N) (m_ct T N) (m_ct T (2 * e) + 1) = ca_ y (ww_ T N) (m_ct T N) (m_ct T (2 * e)) := by
        rw [ca_, ct_, if_neg (fun z => absurd z.1 (by rw [em]; exact Nat.lt_irrefl _)), Nat.add_zero]
      rw [← this, ← em]
    · rw [if_neg q0] at em
      rw [← em]
theorem wf_sp {bk : Nat → Nat} {p : Nat} : ∀ m j, j + m ≤ 6 → (w_first bk p m j ≤ 10 ∧ (w_first bk p m j < 10 ↔ ∃ i, j ≤ i ∧ i < j + m ∧ bk i = p))
  | 0, j, h => ⟨Nat.le_refl _, ⟨fun z => absurd z (Nat.lt_irrefl _), fun ⟨i, a, b, _⟩ => by omega⟩⟩
  | m + 1, j, h => by
    rw [w_first]
    by_cases q : bk j = p
    · rw [if_pos q]
      exact ⟨by omega, ⟨fun _ => ⟨j, by omega, by omega, q⟩, fun _ => by omega⟩⟩
    · rw [if_neg q]
      obtain ⟨a, b⟩ := wf_sp (bk := bk) (p := p) m (j + 1) (by omega)
      refine ⟨a, b.trans ⟨fun ⟨i, c, d, e⟩ => ⟨i, by omega, by omega, e⟩, fun ⟨i, c, d, e⟩ => ?_⟩⟩
      by_cases y : i = j
      · subst y
        exact absurd e q
      · exact ⟨i, by omega, by omega, e⟩
def ub_ (bk : Nat → Nat) (N b : Nat) : Bool := decide (w_first bk b N 0 < 10)
theorem pr_33 {β : Type} {N : Nat} (hN : N ≤ 6) {bk : Nat → Nat} {now : Nat → Int32} (hb : ∀ i, i < N → now (20 + i) = k_bI (bk i) ∧ bk i ≤ 10) (hi : w_inj N bk) (h6 : m_ct (ub_ bk N) 10 ≤ 6) (K : (Nat → Int32) → Option β) : ∀ (m b fuel : Nat) (fr : Nat → Int32), b + m = 10 → m < fuel → en_ (m_ct (ub_ bk N) b) fr (ww_ (ub_ bk N) b) → ∃ fr', lp_X9_pairs_33 (nI N) now K fuel (nI (m_ct (ub_ bk N) b)) (nI b) fr = K fr' ∧ en_ (m_ct (ub_ bk N) 10) fr' (ww_ (ub_ bk N) 10)
  | 0, b, fuel + 1, fr, h, _, he => by
    have : b = 10 := by omega
    subst this
    refine ⟨fr, ?_, he⟩
    rw [lp_X9_pairs_33, if_pos (show (10 : Int32) ≤ nI 10 by decide)]
  | m + 1, b, fuel + 1, fr, h, hf, he => by
    obtain ⟨f1, f2⟩ := wf_sp (bk := bk) (p := b) N 0 (by omega)
    rw [lp_X9_pairs_33, if_neg (show ¬ (10 : Int32) ≤ nI b from (nI_ge (by omega) (by omega) : ¬ nI 10 ≤ nI b)), ar_atBrick hN hb hi (show b < 10 by omega), Option.bind_some]
    simp only [nx_let]
    rw [nI_1]
    by_cases q : w_first bk b N 0 < 10
    · have tt : ub_ bk N b = true := decide_eq_true q
      have ec : m_ct (ub_ bk N) (b + 1) = m_ct (ub_ bk N) b + 1 := by rw [m_ct_s, if_pos tt]
      have ew : ww_ (ub_ bk N) (b + 1) = gg_up (ww_ (ub_ bk N) b) (m_ct (ub_ bk N) b) b := by rw [ww_, if_pos tt]
      have mo := m_ct_mo (p := ub_ bk N) (a := b + 1) m
      rw [show b + 1 + m = 10 by omega, ec] at mo
      rw [if_neg (show ¬ (10 : Int32) ≤ nI (w_first bk b N 0) from (nI_ge q (by omega) : ¬ nI 10 ≤ nI (w_first bk b N 0))), pu_in (show m_ct (ub_ bk N) b < 6 by omega) (by omega), nx_chk, nI_clamp (by omega), nI_1, ← ec]
      refine pr_33 hN hb hi h6 K m (b + 1) fuel _ (by omega) (by omega) ?_
      rw [ec, ew]
      intro k hk
      rw [nx_upn]
      by_cases y : k = m_ct (ub_ bk N) b
      · rw [if_pos y, y, pk_us]
      · rw [if_neg y, pk_un y]
        exact he k (by omega)
    · have tf : ¬ ub_ bk N b = true := fun z => q (of_decide_eq_true z)
      have ec : m_ct (ub_ bk N) (b + 1) = m_ct (ub_ bk N) b := by rw [m_ct_s, if_neg tf]
      have ew : ww_ (ub_ bk N) (b + 1) = ww_ (ub_ bk N) b := by rw [ww_, if_neg tf]
      rw [if_pos (show (10 : Int32) ≤ nI (w_first bk b N 0) from (nI_le (by omega) (by omega) : nI 10 ≤ nI (w_first bk b N 0))), ← ec]
      exact pr_33 hN hb hi h6 K m (b + 1) fuel fr (by omega) (by omega) (by rw [ec, ew]; exact he)
theorem pr_74 {β : Type} {s : Nat} (hs : s ≤ 6) (K : Int32 → Option β) : ∀ (m j fuel : Nat), j + m = s → m < fuel → lp_X9_pairs_74 (nI s) K fuel (nI (s ^ j)) (nI j) = K (nI (s ^ s))
  | 0, j, fuel + 1, h, _ => by
    have : j = s := by omega
    subst this
    rw [lp_X9_pairs_74, if_pos (nI_le (by omega) (by omega))]
  | m + 1, j, fuel + 1, h, hf => by
    rw [lp_X9_pairs_74, if_neg (nI_ge (by omega) (by omega)), pk_mul, ← Nat.pow_succ, nI_1]
    exact pr_74 hs K m (j + 1) fuel (by omega) (by omega)
theorem pr_13 {β : Type} {N s : Nat} (hN : N ≤ 6) (h1 : 1 ≤ s) (hs : s ≤ 6) {bk fb : Nat → Nat} {now fr : Nat → Int32} (hb : ∀ i, i < N → now (20 + i) = k_bI (bk i) ∧ bk i ≤ 10) (hf : en_ s fr fb) (K : Int32 → (Nat → Int32) → Option β) : ∀ (m fuel c u : Nat) (pl : Nat → Int32), m ≤ N → m < fuel → c < 50000 → u < 64 → ∃ pl', lp_X9_isPut_13 (nI s) now fr K fuel (nI c) (nI u) (nI m + (-1)) pl = K (nI (us_ s (m_ct (w_th bk) m) c u)) pl' ∧ (∀ i, i < m → w_th bk i = true → pl' i = nI (fb (rw_ s (m_ct (w_th bk) m) c (m_ct (w_th bk) i)))) ∧ ∀ i, m ≤ i → pl' i = pl i
  | 0, fuel + 1, c, u, pl, h, _, hc, hu => by
    refine ⟨pl, ?_, fun i hi => by omega, fun _ _ => rfl⟩
    rw [lp_X9_isPut_13, if_pos (show nI 0 + (-1) < (0 : Int32) by decide)]
    rfl
  | m + 1, fuel + 1, c, u, pl, h, hfu, hc, hu => by
    have hm : m < N := by omega
    have th := ar_th hm hN (hb _ hm).2 (hb _ hm).1
    have e0 : lp_X9_isPut_13 (nI s) now fr K (fuel + 1) (nI c) (nI u) (nI (m + 1) + (-1)) pl = if (if bk m = 10 then nI 0 else nI 1) = 0 then lp_X9_isPut_13 (nI s) now fr K fuel (nI c) (nI u) (nI m + (-1)) (upd pl m (-9)) else lp_X9_isPut_13 (nI s) now fr K fuel (nI (c / s)) (nI (u ||| 2 ^ (c % s))) (nI m + (-1)) (upd (upd pl m (-9)) m (nI (fb (c % s)))) := by
      have ez : (!decide (nI s = 0)) = true := by rw [decide_eq_false (nI_n0 (by omega) (by omega))]; rfl
      have hmod : c % s < s := Nat.mod_lt _ (by omega)
      have e1 : nI c - nI c / nI s * nI s = nI (c % s) := by
        rw [nx_div (by omega) (by omega) (by omega), pk_mul, nx_sub (Nat.div_mul_le_self c s)]
        congr 1
        exact nx_mod c s
      have e2 : nI c / nI s = nI (c / s) := nx_div (by omega) (by omega) (by omega)
      rw [nx_m1 (show 0 < m + 1 by omega), show m + 1 - 1 = m from rfl, lp_X9_isPut_13, if_neg (nI_pos (by omega)), pu_in (show m < 6 by omega) (by omega), nx_chk, th, Option.bind_some, nx_let, ez, e1, e2, pu_in (show c % s < 6 by omega) (by omega), nI_clamp (by omega), nI_clamp (by omega), nx_sh1 (c % s) (by omega), nx_or, hf _ hmod]
      simp only [nx_chk]
    by_cases q : bk m = 10
    · have tf : ¬ w_th bk m = true := by unfold w_th; simp [q]
      have ec : m_ct (w_th bk) (m + 1) = m_ct (w_th bk) m := by rw [m_ct_s, if_neg tf]
      obtain ⟨pl', g1, g2, g3⟩ := pr_13 hN h1 hs hb hf K m fuel c u (upd pl m (-9)) (by omega) (by omega) hc hu
      refine ⟨pl', ?_, ?_, ?_⟩
      · rw [e0, if_pos q, if_pos (show nI 0 = 0 from rfl), ec]
        exact g1
      · intro i hi ht
        by_cases y : i = m
        · subst y
          exact absurd ht tf
        · rw [ec]
          exact g2 i (by omega) ht
      · intro i hi
        rw [g3 i (by omega), pk_un (by omega)]
    · have tt : w_th bk m = true := by unfold w_th; simp [q]
      have ec : m_ct (w_th bk) (m + 1) = m_ct (w_th bk) m + 1 := by rw [m_ct_s, if_pos tt]
      have hmod : c % s < s := Nat.mod_lt _ (by omega)
      have hdv : c / s ≤ c := Nat.div_le_self c s
      obtain ⟨pl', g1, g2, g3⟩ := pr_13 hN h1 hs hb hf K m fuel (c / s) (u ||| 2 ^ (c % s)) (upd (upd pl m (-9)) m (nI (fb (c % s)))) (by omega) (by omega) (by omega) (pc_or u hu (c % s) (by omega)).2
      have er : ∀ k, rw_ s (m_ct (w_th bk) m + 1) c k = if k = m_ct (w_th bk) m then c % s else rw_ s (m_ct (w_th bk) m) (c / s) k := fun k => rfl
      refine ⟨pl', ?_, ?_, ?_⟩
      · rw [e0, if_neg q, if_neg (show ¬ nI 1 = 0 by decide), ec, us_]
        exact g1
      · intro i hi ht
        rw [ec, er]
        by_cases y : i = m
        · subst y
          rw [if_pos rfl, g3 i (Nat.le_refl i), pk_us]
        · have := (ww_at (T := w_th bk) m i (by omega) ht).1
          rw [if_neg (by omega)]
          exact g2 i (by omega) ht
      · intro i hi
        rw [g3 i (by omega), pk_un (by omega), pk_un (by omega)]
theorem ip_ {N : Nat} (hN : N ≤ 6) {bk fb : Nat → Nat} (h1 : 1 ≤ m_ct (w_th bk) N) {now fr : Nat → Int32} (hb : ∀ i, i < N → now (20 + i) = k_bI (bk i) ∧ bk i ≤ 10) (hf : en_ (m_ct (w_th bk) N) fr fb) {c : Nat} (hc : c < 50000) (pl : Nat → Int32) : ∃ pl', f_X9_isPut (nI c) (nI (m_ct (w_th bk) N)) (nI N) now fr pl = some (if gdp (m_ct (w_th bk) N) c = true then 1 else 0, pl') ∧ ∀ i, i < N → w_th bk i = true → pl' i = nI (fb (rw_ (m_ct (w_th bk) N) (m_ct (w_th bk) N) c (m_ct (w_th bk) i))) := by
  obtain ⟨F, hF, hF2⟩ : ∃ F, F = gg_fuel ∧ 50000 ≤ F := ⟨_, rfl, pu_F⟩
  have hs : m_ct (w_th bk) N ≤ 6 := Nat.le_trans (m_ct_le _ N) hN
  obtain ⟨pl', e, g, -⟩ := pr_13 hN h1 hs hb hf (fun (x4_74 : Int32) (c_placed_74 : Nat → Int32) => (f_X9_bits x4_74).bind (fun v2 => gg_lt (fun (s0_88 : Int32) => gg_chk (gg_isb s0_88) (some (s0_88, c_placed_74))) (fun k88 => (if v2 = (nI (m_ct (w_th bk) N)) then (k88 (1 : Int32)) else (k88 (0 : Int32)))))) N F c 0 pl (Nat.le_refl N) (by omega) hc (by omega)
  have u64 := (us_sp (s := m_ct (w_th bk) N) (by omega) hs (m_ct (w_th bk) N) c 0 (by omega)).2.2
  have upl := m_pc_le _ u64
  refine ⟨pl', ?_, g⟩
  unfold f_X9_isPut
  rw [← hF, show nI N - (1 : Int32) = nI N + (-1) from Int32.sub_eq_add_neg ..]
  refine Eq.trans e ?_
  rw [ar_bits u64]
  simp only [Option.bind_some, nx_let]
  unfold gdp
  by_cases q : m_pc (us_ (m_ct (w_th bk) N) (m_ct (w_th bk) N) c 0) = m_ct (w_th bk) N
  · rw [if_pos (show nI (m_pc (us_ (m_ct (w_th bk) N) (m_ct (w_th bk) N) c 0)) = nI (m_ct (w_th bk) N) by rw [q]), if_pos (decide_eq_true q)]
    rfl
  · rw [if_neg (fun z => q ((nI_eq (by omega) (by omega)).1 z)), if_neg (fun z => q (of_decide_eq_true z))]
    rfl
theorem pa_9 {N : Nat} (hN : N ≤ 6) {bk y : Nat → Nat} {now pl : Nat → Int32} (hb : ∀ i, i < N → now (20 + i) = k_bI (bk i) ∧ bk i ≤ 10) (hp : ∀ i, i < N → w_th bk i = true → pl i = nI (y (m_ct (w_th bk) i)) ∧ y (m_ct (w_th bk) i) < 10) : f_X9_pairsApart (nI N) now pl = some (nI (ra_ (w_th bk) y (N / 2))) := by
  obtain ⟨F, hF, hF2⟩ : ∃ F, F = gg_fuel ∧ 50000 ≤ F := ⟨_, rfl, pu_F⟩
  have tb : ∀ i, (w_th bk i = true ↔ ¬ bk i = 10) := fun i => by unfold w_th; simp
  have key : ∀ (m e fuel : Nat), e + m = N / 2 → m < fuel → lp_X9_pairsApart_4 (nI N) now pl (fun x => some x) fuel (nI (ra_ (w_th bk) y e)) (nI (2 * e)) = some (nI (ra_ (w_th bk) y (N / 2))) := by
    intro m
    induction m with
    | zero =>
      intro e fuel h hf
      obtain ⟨G, rfl⟩ : ∃ G, fuel = G + 1 := ⟨fuel - 1, by omega⟩
      rw [lp_X9_pairsApart_4, nI_1, if_pos (nI_le (by omega) (by omega)), show e = N / 2 by omega]
    | succ m ih =>
      intro e fuel h hf
      obtain ⟨G, rfl⟩ : ∃ G, fuel = G + 1 := ⟨fuel - 1, by omega⟩
      have ihe := ih (e + 1) G (by omega) (by omega)
      have l0 : 2 * e < N := by omega
      have l1 : 2 * e + 1 < N := by omega
      have e2 : nI (2 * e) + 2 = nI (2 * (e + 1)) := by rw [nx_l2, nI_add]; congr 1
      rw [ra_] at ihe
      rw [lp_X9_pairsApart_4, nI_1, if_neg (nI_ge (by omega) (by omega)), ar_th l0 hN (hb _ l0).2 (hb _ l0).1, ar_th l1 hN (hb _ l1).2 (hb _ l1).1, e2, pu_in (show 2 * e < 6 by omega) (by omega), pu_in (show 2 * e + 1 < 6 by omega) (by omega), nI_clamp (by omega), nI_clamp (by omega), ← ihe]
      simp only [nx_let, nx_chk, Option.bind_some]
      by_cases q0 : bk (2 * e) = 10
      · rw [if_pos q0, if_pos (show nI 0 = 0 from rfl), if_neg (fun z => (tb _).1 z.1 q0), nx_l0, nI_add, Nat.add_zero]
      · rw [if_neg q0, if_neg (show ¬ nI 1 = 0 by decide)]
        by_cases q1 : bk (2 * e + 1) = 10
        · rw [if_pos q1, if_pos (show nI 0 = 0 from rfl), if_neg (fun z => (tb _).1 z.2 q1), nx_l0, nI_add, Nat.add_zero]
        · obtain ⟨p1, p2⟩ := hp _ l0 ((tb _).2 q0)
          obtain ⟨p3, p4⟩ := hp _ l1 ((tb _).2 q1)
          rw [if_neg q1, if_neg (show ¬ nI 1 = 0 by decide), p1, p3, ad_9 _ p2 _ p4, Option.bind_some, nI_add, if_pos ⟨(tb _).2 q0, (tb _).2 q1⟩]
  unfold f_X9_pairsApart
  rw [← hF]
  exact key (N / 2) 0 F (by omega) (by omega)
theorem ha_9 {N : Nat} (hN : N ≤ 6) {bk y hm : Nat → Nat} {now pl : Nat → Int32} (hb : ∀ i, i < N → now (20 + i) = k_bI (bk i) ∧ bk i ≤ 10) (hh : ∀ i, i < N → now (2 + i) = nI (hm i) ∧ hm i < 10) (hp : ∀ i, i < N → w_th bk i = true → pl i = nI (y (m_ct (w_th bk) i)) ∧ y (m_ct (w_th bk) i) < 10) : f_X9_homesApart (nI N) now pl = some (nI (rf_ (w_th bk) y hm N)) := by
  obtain ⟨F, hF, hF2⟩ : ∃ F, F = gg_fuel ∧ 50000 ≤ F := ⟨_, rfl, pu_F⟩
  have tb : ∀ i, (w_th bk i = true ↔ ¬ bk i = 10) := fun i => by unfold w_th; simp
  have key : ∀ (m e fuel : Nat), e + m = N → m < fuel → lp_X9_homesApart_4 (nI N) now pl (fun x => some x) fuel (nI (rf_ (w_th bk) y hm e)) (nI e) = some (nI (rf_ (w_th bk) y hm N)) := by
    intro m
    induction m with
    | zero =>
      intro e fuel h hf
      obtain ⟨G, rfl⟩ : ∃ G, fuel = G + 1 := ⟨fuel - 1, by omega⟩
      rw [lp_X9_homesApart_4, if_pos (nI_le (by omega) (by omega)), show e = N by omega]
    | succ m ih =>
      intro e fuel h hf
      obtain ⟨G, rfl⟩ : ∃ G, fuel = G + 1 := ⟨fuel - 1, by omega⟩
      have ihe := ih (e + 1) G (by omega) (by omega)
      have l0 : e < N := by omega
      rw [rf_] at ihe
      rw [lp_X9_homesApart_4, if_neg (nI_ge (by omega) (by omega)), ar_th l0 hN (hb _ l0).2 (hb _ l0).1, show (2 : Int32) + nI e = nI (2 + e) from nI_add 2 e, pu_in (show e < 6 by omega) (by omega), pu_in (show 2 + e < 26 by omega) (by omega), nI_clamp (by omega), nI_clamp (by omega), (hh e l0).1, nI_1, ← ihe]
      simp only [nx_let, nx_chk, Option.bind_some]
      by_cases q0 : bk e = 10
      · rw [if_pos q0, if_pos (show nI 0 = 0 from rfl), if_neg (fun z => (tb _).1 z q0), nx_l0, nI_add, Nat.add_zero]
      · obtain ⟨p1, p2⟩ := hp _ l0 ((tb _).2 q0)
        rw [if_neg q0, if_neg (show ¬ nI 1 = 0 by decide), p1, ad_9 _ p2 _ (hh e l0).2, Option.bind_some, nI_add, if_pos ((tb _).2 q0)]
  unfold f_X9_homesApart
  rw [← hF]
  exact key N 0 F (by omega) (by omega)
def eb_ (b : Nat) (M : Int) : Int32 := if M = -1000000 then -9 else nI b
theorem pr_103 {β : Type} {N : Nat} (hN : N ≤ 6) {bk fb hm : Nat → Nat} (h1 : 1 ≤ m_ct (w_th bk) N) {now fr : Nat → Int32} (hb : ∀ i, i < N → now (20 + i) = k_bI (bk i) ∧ bk i ≤ 10) (hh : ∀ i, i < N → now (2 + i) = nI (hm i) ∧ hm i < 10) (hf : en_ (m_ct (w_th bk) N) fr fb) (h10 : ∀ a, a < m_ct (w_th bk) N → fb a < 10) {C : Nat} (hC : C < 50000) (K : Int32 → Int32 → (Nat → Int32) → Option β) : ∀ (m c fuel b : Nat) (M : Int) (pl : Nat → Int32), c + m = C → m < fuel → -1000000 ≤ M → M ≤ 0 → ∃ pl', lp_X9_pairs_103 (nI (m_ct (w_th bk) N)) (nI C) (nI N) now fr K fuel (eb_ b M) (iI (-M)) (nI c) pl = K (eb_ (am_ (fun c => if gdp (m_ct (w_th bk) N) c = true then -((100 * pA fb (ww_ (w_th bk) N) (m_ct (w_th bk) N) c + pF fb hm (ww_ (w_th bk) N) (m_ct (w_th bk) N) c : Nat) : Int) else -1000000) m c b M).1 (am_ (fun c => if gdp (m_ct (w_th bk) N) c = true then -((100 * pA fb (ww_ (w_th bk) N) (m_ct (w_th bk) N) c + pF fb hm (ww_ (w_th bk) N) (m_ct (w_th bk) N) c : Nat) : Int) else -1000000) m c b M).2) (iI (-(am_ (fun c => if gdp (m_ct (w_th bk) N) c = true then -((100 * pA fb (ww_ (w_th bk) N) (m_ct (w_th bk) N) c + pF fb hm (ww_ (w_th bk) N) (m_ct (w_th bk) N) c : Nat) : Int) else -1000000) m c b M).2)) pl'
  | 0, c, fuel + 1, b, M, pl, h, _, _, _ => by
    refine ⟨pl, ?_⟩
    rw [lp_X9_pairs_103, if_pos (nI_le (by omega) (by omega))]
    rfl
  | m + 1, c, fuel + 1, b, M, pl, h, hfu, hM1, hM2 => by
    have hs : m_ct (w_th bk) N ≤ 6 := Nat.le_trans (m_ct_le _ N) hN
    obtain ⟨w1, -, -⟩ := ww_sp (w_th bk) N
    obtain ⟨pl1, e1, g1⟩ := ip_ hN h1 hb hf (show c < 50000 by omega) pl
    have hdig : ∀ k, k < m_ct (w_th bk) N → rw_ (m_ct (w_th bk) N) (m_ct (w_th bk) N) c k < m_ct (w_th bk) N := fun k hk => rw_lt (by omega) _ c k hk
    have hp : ∀ i, i < N → w_th bk i = true → pl1 i = nI ((fun k => fb (rw_ (m_ct (w_th bk) N) (m_ct (w_th bk) N) c k)) (m_ct (w_th bk) i)) ∧ (fun k => fb (rw_ (m_ct (w_th bk) N) (m_ct (w_th bk) N) c k)) (m_ct (w_th bk) i) < 10 := fun i hi ht => ⟨g1 i hi ht, h10 _ (hdig _ (ww_at N i hi ht).1)⟩
    have a1 := pa_9 (y := fun k => fb (rw_ (m_ct (w_th bk) N) (m_ct (w_th bk) N) c k)) hN hb hp
    have a2 := ha_9 (y := fun k => fb (rw_ (m_ct (w_th bk) N) (m_ct (w_th bk) N) c k)) hN hb hh hp
    rw [ra_t] at a1
    rw [rf_e (N := N) N (Nat.le_refl N)] at a2
    have a1 : f_X9_pairsApart (nI N) now pl1 = some (nI (pA fb (ww_ (w_th bk) N) (m_ct (w_th bk) N) c)) := a1
    have a2 : f_X9_homesApart (nI N) now pl1 = some (nI (pF fb hm (ww_ (w_th bk) N) (m_ct (w_th bk) N) c)) := a2
    have bA : pA fb (ww_ (w_th bk) N) (m_ct (w_th bk) N) c ≤ 54 := by
      have := ca_le (who := ww_ (w_th bk) N) (y := fun k => fb (rw_ (m_ct (w_th bk) N) (m_ct (w_th bk) N) c k)) (m_ct (w_th bk) N) (Nat.le_refl _) (fun k hk => h10 _ (hdig k hk))
      unfold pA
      omega
    have bF : pF fb hm (ww_ (w_th bk) N) (m_ct (w_th bk) N) c ≤ 54 := by
      have := cf_le (hm := hm) (who := ww_ (w_th bk) N) (y := fun k => fb (rw_ (m_ct (w_th bk) N) (m_ct (w_th bk) N) c k)) (m_ct (w_th bk) N) (fun k hk => ⟨h10 _ (hdig k hk), (hh _ (w1 k hk).1).2⟩)
      unfold pF
      omega
    obtain ⟨Vf, hVf⟩ : ∃ Vf : Nat → Int, Vf = (fun c => if gdp (m_ct (w_th bk) N) c = true then -((100 * pA fb (ww_ (w_th bk) N) (m_ct (w_th bk) N) c + pF fb hm (ww_ (w_th bk) N) (m_ct (w_th bk) N) c : Nat) : Int) else -1000000) := ⟨_, rfl⟩
    have hVc : -1000000 ≤ Vf c ∧ Vf c ≤ 0 := by
      rw [hVf]
      show -1000000 ≤ (if gdp (m_ct (w_th bk) N) c = true then -((100 * pA fb (ww_ (w_th bk) N) (m_ct (w_th bk) N) c + pF fb hm (ww_ (w_th bk) N) (m_ct (w_th bk) N) c : Nat) : Int) else -1000000) ∧ (if gdp (m_ct (w_th bk) N) c = true then -((100 * pA fb (ww_ (w_th bk) N) (m_ct (w_th bk) N) c + pF fb hm (ww_ (w_th bk) N) (m_ct (w_th bk) N) c : Nat) : Int) else -1000000) ≤ 0
      split <;> omega
    have hst : lp_X9_pairs_103 (nI (m_ct (w_th bk) N)) (nI C) (nI N) now fr K (fuel + 1) (eb_ b M) (iI (-M)) (nI c) pl = if iI (-M) ≤ iI (-(Vf c)) then lp_X9_pairs_103 (nI (m_ct (w_th bk) N)) (nI C) (nI N) now fr K fuel (eb_ b M) (iI (-M)) (nI (c + 1)) pl1 else lp_X9_pairs_103 (nI (m_ct (w_th bk) N)) (nI C) (nI N) now fr K fuel (nI c) (iI (-(Vf c))) (nI (c + 1)) pl1 := by
      rw [lp_X9_pairs_103, if_neg (nI_ge (by omega) (by omega)), e1, nx_b2, nI_1, a1, a2]
      simp only [nx_let, Option.bind_some]
      rw [hVf]
      show _ = if iI (-M) ≤ iI (-(if gdp (m_ct (w_th bk) N) c = true then -((100 * pA fb (ww_ (w_th bk) N) (m_ct (w_th bk) N) c + pF fb hm (ww_ (w_th bk) N) (m_ct (w_th bk) N) c : Nat) : Int) else -1000000)) then _ else lp_X9_pairs_103 (nI (m_ct (w_th bk) N)) (nI C) (nI N) now fr K fuel (nI c) (iI (-(if gdp (m_ct (w_th bk) N) c = true then -((100 * pA fb (ww_ (w_th bk) N) (m_ct (w_th bk) N) c + pF fb hm (ww_ (w_th bk) N) (m_ct (w_th bk) N) c : Nat) : Int) else -1000000))) (nI (c + 1)) pl1
      by_cases q : gdp (m_ct (w_th bk) N) c = true
      · have ei : (100 : Int32) * nI (pA fb (ww_ (w_th bk) N) (m_ct (w_th bk) N) c) + nI (pF fb hm (ww_ (w_th bk) N) (m_ct (w_th bk) N) c) = iI (-(-((100 * pA fb (ww_ (w_th bk) N) (m_ct (w_th bk) N) c + pF fb hm (ww_ (w_th bk) N) (m_ct (w_th bk) N) c : Nat) : Int))) := by
          rw [nx_l100, pk_mul, nI_add, iI_nat (by omega), Int.neg_neg]
        rw [if_pos q, if_pos q, if_neg (show ¬ (1 : Int32) = 0 by decide), ei]
        by_cases y : iI (-M) ≤ iI (-(-((100 * pA fb (ww_ (w_th bk) N) (m_ct (w_th bk) N) c + pF fb hm (ww_ (w_th bk) N) (m_ct (w_th bk) N) c : Nat) : Int)))
        · rw [if_pos y, if_pos y, if_pos y]
        · rw [if_neg y, if_neg y, if_neg y]
      · have ei : (1000000 : Int32) = iI (-(-1000000)) := by decide
        rw [if_neg q, if_neg q, if_pos rfl, ei]
        by_cases y : iI (-M) ≤ iI (-(-1000000))
        · rw [if_pos y, if_pos y, if_pos y]
        · rw [if_neg y, if_neg y, if_neg y]
    rw [← hVf, hst, am_]
    by_cases q : Vf c ≤ M
    · rw [if_pos ((iI_le2 (by omega) (by omega) (by omega) (by omega)).2 (by omega)), if_pos q, hVf]
      exact pr_103 hN h1 hb hh hf h10 hC K m (c + 1) fuel b M pl1 (by omega) (by omega) hM1 hM2
    · rw [if_neg (fun z => q (by have := (iI_le2 (by omega) (by omega) (by omega) (by omega)).1 z; omega)), if_neg q]
      have := pr_103 hN h1 hb hh hf h10 hC K m (c + 1) fuel c (Vf c) pl1 (by omega) (by omega) hVc.1 hVc.2
      rw [← hVf] at this
      have eb : eb_ c (Vf c) = nI c := by unfold eb_; rw [if_neg (by omega)]
      rw [eb] at this
      exact this
theorem pr_202 {β : Type} {N r s : Nat} (hN : N ≤ 6) (hr : r < 6) {bk y : Nat → Nat} {now pl : Nat → Int32} (hb : ∀ i, i < N → now (20 + i) = k_bI (bk i) ∧ bk i ≤ 10) (hs : m_ct (w_th bk) N = s) (hp : ∀ i, i < N → w_th bk i = true → pl i = nI (y (m_ct (w_th bk) i))) (K : (Nat → Int32) → Option β) : ∀ (m j fuel : Nat) (g : Nat → Int32), j + m = N → m < fuel → ∃ g', lp_X9_pairs_202 (nI r) (nI N) now pl K fuel (nI (m_ct (w_th bk) j)) (nI j) g = K g' ∧ (∀ x, x < 40 * r + m_ct (w_th bk) j ∨ 40 * r + s ≤ x → g' x = g x) ∧ ∀ w, m_ct (w_th bk) j ≤ w → w < s → g' (40 * r + w) = nI (y w)
  | 0, j, fuel + 1, g, h, _ => by
    have : j = N := by omega
    subst this
    refine ⟨g, ?_, fun _ _ => rfl, fun w h1 h2 => by omega⟩
    rw [lp_X9_pairs_202, if_pos (nI_le (by omega) (by omega))]
  | m + 1, j, fuel + 1, g, h, hf => by
    have hj : j < N := by omega
    have hcj := m_ct_le (w_th bk) j
    have hcN := m_ct_le (w_th bk) N
    have e0 : lp_X9_pairs_202 (nI r) (nI N) now pl K (fuel + 1) (nI (m_ct (w_th bk) j)) (nI j) g = if (if bk j = 10 then nI 0 else nI 1) = 0 then lp_X9_pairs_202 (nI r) (nI N) now pl K fuel (nI (m_ct (w_th bk) j)) (nI (j + 1)) g else lp_X9_pairs_202 (nI r) (nI N) now pl K fuel (nI (m_ct (w_th bk) j + 1)) (nI (j + 1)) (upd g (40 * r + m_ct (w_th bk) j) (pl j)) := by
      rw [lp_X9_pairs_202, if_neg (nI_ge (by omega) (by omega)), ar_th hj hN (hb _ hj).2 (hb _ hj).1, show (40 : Int32) = nI 40 from rfl, pk_mul, nI_add, pu_in (show j < 6 by omega) (by omega), pu_in (show 40 * r + m_ct (w_th bk) j < 240 by omega) (by omega), nI_clamp (by omega), nI_clamp (by omega), nI_1, nI_1]
      simp only [nx_let, nx_chk, Option.bind_some]
    by_cases q : bk j = 10
    · have tf : ¬ w_th bk j = true := by unfold w_th; simp [q]
      have ec : m_ct (w_th bk) (j + 1) = m_ct (w_th bk) j := by rw [m_ct_s, if_neg tf]
      obtain ⟨g', x1, x2, x3⟩ := pr_202 hN hr hb hs hp K m (j + 1) fuel g (by omega) (by omega)
      rw [ec] at x1 x2 x3
      refine ⟨g', ?_, x2, x3⟩
      rw [e0, if_pos q, if_pos (show nI 0 = 0 from rfl)]
      exact x1
    · have tt : w_th bk j = true := by unfold w_th; simp [q]
      have ec : m_ct (w_th bk) (j + 1) = m_ct (w_th bk) j + 1 := by rw [m_ct_s, if_pos tt]
      obtain ⟨g', x1, x2, x3⟩ := pr_202 hN hr hb hs hp K m (j + 1) fuel (upd g (40 * r + m_ct (w_th bk) j) (pl j)) (by omega) (by omega)
      rw [ec] at x1 x2 x3
      refine ⟨g', ?_, ?_, ?_⟩
      · rw [e0, if_neg q, if_neg (show ¬ nI 1 = 0 by decide)]
        exact x1
      · intro x hx
        rw [x2 x (by omega), pk_un (by have := (ww_at (T := w_th bk) N j hj tt).1; omega)]
      · intro w hw1 hw2
        by_cases y2 : w = m_ct (w_th bk) j
        · rw [y2, x2 _ (by omega), pk_us]
          exact hp j hj tt
        · exact x3 w (by omega) hw2
theorem p66_ {s : Nat} (hs : s ≤ 6) : s ^ s < 50000 := by
  rcases (show s = 0 ∨ s = 1 ∨ s = 2 ∨ s = 3 ∨ s = 4 ∨ s = 5 ∨ s = 6 by omega) with rfl | rfl | rfl | rfl | rfl | rfl | rfl <;> decide
theorem sm_pairs : sim_pairs Rl_ := by
  intro s t h a0
  obtain ⟨hfd, htt, hu, ⟨hm, hz, hc⟩, htx, hfr⟩ := id h
  obtain ⟨N, kd, wd, f, nw⟩ := rl_nw h.2.2.2.2.2
  obtain ⟨hN, e10, eT2, kw, kt, fl, ar, ok, due⟩ := id nw
  obtain ⟨F, hF, hF2⟩ : ∃ F, F = gg_fuel ∧ 50000 ≤ F := ⟨_, rfl, pu_F⟩
  have hsa : Rl_ (nH_pairs s (s.1 1) (s.2.2.1 0) (s.2.2.2 0) (s.1 21) (s.1 22) (s.1 23) (s.2.2.1 29) (s.2.2.1 30) (s.2.2.1 31)) (nR_pairs t (t.1 1) (t.2.2.1 1) (t.2.2.1 2) (t.2.2.1 20) (t.2.2.1 21)) := ⟨hfd, htt, hu, ⟨hm, hz, hc⟩, htx, hfr⟩
  unfold f_X8_pairs f_X9_pairs
  rw [e10, eT2, ← hF]
  rcases pu_ix a0 6 (by omega) with q | ⟨r, hr, rfl⟩
  · rw [pu_kn6o q, pu_isRowO q]
    refine ⟨-1, s.1 1, s.2.2.1 0, s.2.2.2 0, s.1 21, s.1 22, s.1 23, s.2.2.1 29, s.2.2.1 30, s.2.2.1 31, -1, t.1 1, t.2.2.1 1, t.2.2.1 2, t.2.2.1 20, t.2.2.1 21, ?_, ?_, rfl, hsa⟩ <;> rfl
  · have hV := w_set_64 hN f.2.2.2.2.2
    have hmm := fl_many hN (fr_fl_b fl ok)
    have ht9 := ar_there hN (fr_ar_b ar ok)
    have hbt := ar_bits hV
    have epc : m_pc (w_set N f.2.2.2.2.2) = m_ct (w_th f.2.2.2.2.2) N := pc_ct hN _
    rw [epc] at hmm hbt
    rw [pu_kn6 hr, pu_isRow hr, Option.bind_some, if_neg (show ¬ (1 : Int32) = 0 by decide), Option.bind_some, if_neg (show ¬ (1 : Int32) = 0 by decide), hmm, Option.bind_some, ht9, Option.bind_some, hbt, Option.bind_some]
    by_cases q : m_ct (w_th f.2.2.2.2.2) N = 0
    · rw [q]
      refine ⟨-4, s.1 1, s.2.2.1 0, s.2.2.2 0, s.1 21, s.1 22, s.1 23, s.2.2.1 29, s.2.2.1 30, s.2.2.1 31, -4, t.1 1, t.2.2.1 1, t.2.2.1 2, t.2.2.1 20, t.2.2.1 21, ?_, ?_, rfl, hsa⟩ <;> rfl
    · have h1 : 1 ≤ m_ct (w_th f.2.2.2.2.2) N := by omega
      have hs6 : m_ct (w_th f.2.2.2.2.2) N ≤ 6 := Nat.le_trans (m_ct_le _ N) hN
      obtain ⟨w1, w2, w3⟩ := ww_sp (w_th f.2.2.2.2.2) N
      obtain ⟨v1, v2, v3⟩ := ww_sp (ub_ f.2.2.2.2.2 N) 10
      have hh8 : ∀ i, i < N → s.2.2.1 12 i = nI (f.2.2.1 i) ∧ f.2.2.1 i < 10 := fun i hi => ⟨(fl.2.2 i hi).1, (ok.2.1 i hi).1⟩
      have hh9 : ∀ i, i < N → t.2.2.1 8 (2 + i) = nI (f.2.2.1 i) ∧ f.2.2.1 i < 10 := fun i hi => ⟨(ar.2.2 i hi).1, (ok.2.1 i hi).1⟩
      obtain ⟨wa, ga, g, b1, b2, b3, b4⟩ := bn_7 hN (fr_fl_b fl ok) ok.2.2 (fun (c_size_59 : Int32) (c_who_59 : Nat → Int32) (c_given_59 : Nat → Int32) => (some (c_size_59, c_who_59, c_given_59))) N 0 F (s.2.2.1 29) (s.2.2.1 30) (fun _ => 0) (by omega) (by omega) (fun k hk => absurd hk (by simp [m_ct])) (fun k hk => absurd hk (by simp [m_ct])) ⟨fun a b _ hb => absurd hb (by simp [m_ct]), fun k hk => absurd hk (by simp [m_ct]), fun i hi => by omega⟩
      have ubi : ∀ b, b < 10 → (ub_ f.2.2.2.2.2 N b = true ↔ ∃ i, i < N ∧ f.2.2.2.2.2 i = b) := by
        intro b _
        have := (wf_sp (bk := f.2.2.2.2.2) (p := b) N 0 (by omega)).2
        unfold ub_
        rw [decide_eq_true_eq, this]
        constructor
        · intro ⟨i, x1, x2, x3⟩
          exact ⟨i, by omega, x3⟩
        · intro ⟨i, x1, x2⟩
          exact ⟨i, by omega, by omega, x2⟩
      have r1 : ∀ j, j < m_ct (w_th f.2.2.2.2.2) N → ∃ k, k < m_ct (ub_ f.2.2.2.2.2 N) 10 ∧ ww_ (ub_ f.2.2.2.2.2 N) 10 k = g j := by
        intro j hj
        obtain ⟨i, x1, x2, x3⟩ := b4.2.1 j hj
        have x4 : f.2.2.2.2.2 i ≠ 10 := of_decide_eq_true x2
        have x5 := (ok.2.1 i x1).2.2.2
        have hlt : g j < 10 := by omega
        exact v3 (g j) hlt ((ubi _ hlt).2 ⟨i, x1, x3.symm⟩)
      have r2 : ∀ k, k < m_ct (ub_ f.2.2.2.2.2 N) 10 → ∃ j, j < m_ct (w_th f.2.2.2.2.2) N ∧ g j = ww_ (ub_ f.2.2.2.2.2 N) 10 k := by
        intro k hk
        obtain ⟨x1, x2⟩ := v1 k hk
        obtain ⟨i, x3, x4⟩ := (ubi _ x1).1 x2
        obtain ⟨j, x5, x6⟩ := b4.2.2 i x3 (decide_eq_true (show f.2.2.2.2.2 i ≠ 10 by omega))
        exact ⟨j, x5, x6.trans x4⟩
      have u1 := un_q b4.1 v2 r1 r2
      have u2 := un_q v2 b4.1 (fun j hj => r2 j hj) (fun k hk => r1 k hk)
      have es : m_ct (ub_ f.2.2.2.2.2 N) 10 = m_ct (w_th f.2.2.2.2.2) N := by
        apply Nat.le_antisymm
        · apply Decidable.byContradiction
          intro z
          have := (u2 (m_ct (w_th f.2.2.2.2.2) N) (m_ct (w_th f.2.2.2.2.2) N) (Nat.le_refl _) (by omega)).1
          omega
        · apply Decidable.byContradiction
          intro z
          have := (u1 (m_ct (ub_ f.2.2.2.2.2 N) 10) (m_ct (ub_ f.2.2.2.2.2 N) 10) (Nat.le_refl _) (by omega)).1
          omega
      rw [es] at v1 v2 v3
      obtain ⟨fb, hfbd⟩ : ∃ fb, fb = ww_ (ub_ f.2.2.2.2.2 N) 10 := ⟨_, rfl⟩
      have h10 : ∀ a, a < m_ct (w_th f.2.2.2.2.2) N → fb a < 10 := fun a ha => by rw [hfbd]; exact (v1 a ha).1
      have hfb : ∀ a b, a < m_ct (w_th f.2.2.2.2.2) N → b < m_ct (w_th f.2.2.2.2.2) N → (fb a ≤ fb b ↔ a ≤ b) := by
        intro a b ha hb
        have z := (ww_in (T := ub_ f.2.2.2.2.2 N) (n := 10) (by rw [es]; exact hb) (by rw [es]; exact ha)).2
        rw [← hfbd] at z
        omega
      have gf : ∀ k, k < m_ct (w_th f.2.2.2.2.2) N → g k = fb k := fun k hk => by rw [hfbd]; exact (u1 k k (Nat.le_refl k) hk).2
      obtain ⟨S, hS⟩ : ∃ S, S = m_ct (w_th f.2.2.2.2.2) N := ⟨_, rfl⟩
      obtain ⟨cc1, cc2, cc3, cc4, cc5⟩ := gp_ch S (by omega) (by omega)
      obtain ⟨rest, hrest⟩ : ∃ rest, gp6 S = cd_ S (fun k => k) S :: rest := by
        cases hl : gp6 S with
        | nil => rw [hl] at cc5; exact absurd cc5 (by simp)
        | cons x y =>
          rw [hl] at cc5
          have := Option.some.inj (show some x = some (cd_ S (fun k => k) S) from cc5)
          subst this
          exact ⟨y, rfl⟩
      rw [hrest] at cc1 cc4
      rw [chp, Bool.and_eq_true] at cc1
      have cc4' : rest.length + 1 ≤ 720 := cc4
      obtain ⟨d0, hd0⟩ : ∃ d0, d0 = cd_ S (fun k => k) S := ⟨_, rfl⟩
      rw [← hd0] at hrest cc1
      have hw : ∀ j, j < S → wa j = nI (ww_ (w_th f.2.2.2.2.2) N j) ∧ ww_ (w_th f.2.2.2.2.2) N j < N := fun j hj => by
        rw [hS] at hj
        exact ⟨b2 j hj, (w1 j hj).1⟩
      rw [← hS] at h1 hs6 b1 b3 h10 hfb gf
      have hd0k : ∀ k, k < S → rw_ S S d0 k = k := fun k hk => by rw [hd0]; exact rw_cd (by omega) S (fun j hj => hj) k hk
      have he0 : en_ S ga (fun k => fb (rw_ S S d0 k)) := fun k hk => by
        rw [b3 k hk]
        show nI (g k) = nI (fb (rw_ S S d0 k))
        rw [hd0k k hk, gf k hk]
      have hg0 : ∀ j, j < S → ga j = nI (fb (rw_ S S d0 j)) ∧ fb (rw_ S S d0 j) < 10 := fun j hj => ⟨he0 j hj, h10 _ (rw_lt (by omega) S d0 j hj)⟩
      have ap : f_X0_apart (nI S) wa ga = some (nI (pA fb (ww_ (w_th f.2.2.2.2.2) N) S d0)) := by
        unfold f_X0_apart pA
        rw [← hF]
        exact apa_8 h1 hs6 hN hw hg0 (fun x => some x) (S - 1) 0 F (by omega) (by omega)
      have fa : f_X0_far (nI S) wa ga (s.2.2.1 12) = some (nI (pF fb f.2.2.1 (ww_ (w_th f.2.2.2.2.2) N) S d0)) := by
        unfold f_X0_far pF
        rw [← hF]
        exact far_8 hs6 hN hw hg0 hh8 (fun x => some x) S 0 F (by omega) (by omega)
      have bdA : ∀ d, pA fb (ww_ (w_th f.2.2.2.2.2) N) S d ≤ 54 := by
        intro d
        have := ca_le (who := ww_ (w_th f.2.2.2.2.2) N) (y := fun k => fb (rw_ S S d k)) S (Nat.le_refl S) (fun k hk => h10 _ (rw_lt (by omega) S d k hk))
        unfold pA
        omega
      have bdF : ∀ d, pF fb f.2.2.1 (ww_ (w_th f.2.2.2.2.2) N) S d ≤ 54 := by
        intro d
        have := cf_le (hm := f.2.2.1) (who := ww_ (w_th f.2.2.2.2.2) N) (y := fun k => fb (rw_ S S d k)) S (fun k hk => ⟨h10 _ (rw_lt (by omega) S d k hk), (hh8 _ (hw k hk).2).2⟩)
        unfold pF
        omega
      obtain ⟨be1, t1, t2⟩ := tk_p hs6 he0 (s.2.2.1 31)
      have main := pm_main h1 hs6 (v := fun d => 100 * pA fb (ww_ (w_th f.2.2.2.2.2) N) S d + pF fb f.2.2.1 (ww_ (w_th f.2.2.2.2.2) N) S d) (fun d => by have := bdA d; have := bdF d; omega) hrest
      obtain ⟨R, hR⟩ : ∃ R, R = am_ (fun c => if gdp S c = true then -((100 * pA fb (ww_ (w_th f.2.2.2.2.2) N) S c + pF fb f.2.2.1 (ww_ (w_th f.2.2.2.2.2) N) S c : Nat) : Int) else -1000000) (S ^ S) 0 0 (-1000000) := ⟨_, rfl⟩
      have main : al_ (fun d => -((100 * pA fb (ww_ (w_th f.2.2.2.2.2) N) S d + pF fb f.2.2.1 (ww_ (w_th f.2.2.2.2.2) N) S d : Nat) : Int)) rest d0 (-((100 * pA fb (ww_ (w_th f.2.2.2.2.2) N) S d0 + pF fb f.2.2.1 (ww_ (w_th f.2.2.2.2.2) N) S d0 : Nat) : Int)) = R := by rw [hR]; exact main
      have fin : ∀ ga3, (∀ d t, rest = d :: t → en_ S ga3 (fun k => fb (rw_ S S d k))) → ∃ A' F' ga2 be2, lp_X0_seek_9 (nI S) wa (s.2.2.1 12) (fun (c_bestApart_91 : Int32) (c_bestFar_91 : Int32) (c_given_91 : Nat → Int32) (c_best_91 : Nat → Int32) => (some (nI S, c_bestApart_91, c_bestFar_91, wa, c_given_91, c_best_91))) (F - 1) (match rest with | [] => 0 | _ :: _ => 1) (nI 1) (nI (pA fb (ww_ (w_th f.2.2.2.2.2) N) S d0)) (nI (pF fb f.2.2.1 (ww_ (w_th f.2.2.2.2.2) N) S d0)) ga3 be1 = some (nI S, nI A', nI F', wa, ga2, be2) ∧ A' ≤ 54 ∧ F' ≤ 54 ∧ R.2 = -((100 * A' + F' : Nat) : Int) ∧ en_ S be2 (fun k => fb (rw_ S S R.1 k)) := by
        intro ga3 hga3
        obtain ⟨A', F', ga2, be2, x1, x2, x3, x4, x5⟩ := sk_9 h1 hs6 hN hfb h10 hw hh8 (fun (c_bestApart_91 : Int32) (c_bestFar_91 : Int32) (c_given_91 : Nat → Int32) (c_best_91 : Nat → Int32) => (some (nI S, c_bestApart_91, c_bestFar_91, wa, c_given_91, c_best_91))) rest (F - 1) 1 d0 (pA fb (ww_ (w_th f.2.2.2.2.2) N) S d0) (pF fb f.2.2.1 (ww_ (w_th f.2.2.2.2.2) N) S d0) ga3 be1 (by omega) (by omega) (by omega) cc1.2 hga3 t2 (bdA d0) (bdF d0)
        rw [main] at x4 x5
        exact ⟨A', F', ga2, be2, x1, x2, x3, x4, x5⟩
      have seek : ∃ A' F' ga2 be2, f_X0_seek (s.1 21) (s.1 22) (s.1 23) (s.2.2.1 29) (s.2.2.1 30) (s.2.2.1 31) (nI N) (s.2.2.1 12) (s.2.2.1 15) = some (nI S, nI A', nI F', wa, ga2, be2) ∧ A' ≤ 54 ∧ F' ≤ 54 ∧ R.2 = -((100 * A' + F' : Nat) : Int) ∧ en_ S be2 (fun k => fb (rw_ S S R.1 k)) := by
        have b1' : f_X0_begin (s.1 21) (s.2.2.1 29) (s.2.2.1 30) (nI N) (s.2.2.1 15) = some (nI S, wa, ga) := by
          unfold f_X0_begin
          rw [← hF]
          exact b1
        have hst : ∀ R2, gg_b2 (f_X0_goOn (nI S) ga) (fun v4_0 v4_1 => (lp_X0_seek_9 (nI S) wa (s.2.2.1 12) (fun (c_bestApart_91 : Int32) (c_bestFar_91 : Int32) (c_given_91 : Nat → Int32) (c_best_91 : Nat → Int32) => (some (nI S, c_bestApart_91, c_bestFar_91, wa, c_given_91, c_best_91))) (F - 1) v4_0 (nI 1) (nI (pA fb (ww_ (w_th f.2.2.2.2.2) N) S d0)) (nI (pF fb f.2.2.1 (ww_ (w_th f.2.2.2.2.2) N) S d0)) v4_1 be1)) = R2 → f_X0_seek (s.1 21) (s.1 22) (s.1 23) (s.2.2.1 29) (s.2.2.1 30) (s.2.2.1 31) (nI N) (s.2.2.1 12) (s.2.2.1 15) = R2 := by
          intro R2 hR2
          unfold f_X0_seek
          obtain ⟨G, hG⟩ : ∃ G, F = G + 1 := ⟨F - 1, by omega⟩
          rw [hG, show G + 1 - 1 = G from rfl] at hR2
          rw [b1', nx_b3, ← hF, hG, lp_X0_seek_9, if_neg (show ¬ (1000 : Int32) ≤ 0 by decide), if_neg (show ¬ (1 : Int32) = 0 by decide), ap, fa, t1, ← hR2]
          simp only [Option.bind_some, nx_let, if_true]
          rfl
        rcases gpp_ h1 hs6 hfb h10 he0 with ⟨g1, g2⟩ | ⟨e, ga3, g1, g2, g3⟩
        · have hl : rest = [] := by
            cases rest with
            | nil => rfl
            | cons e t =>
              exfalso
              have := of_decide_eq_true cc1.1
              rw [g1] at this
              exact absurd (show (none : Option Nat) = some e from this) (by simp)
          obtain ⟨A', F', ga2, be2, x1, x2⟩ := fin ga (fun d t hh => absurd (hl.symm.trans hh) (by simp))
          refine ⟨A', F', ga2, be2, hst _ ?_, x2⟩
          rw [g2, nx_b2]
          subst hl
          exact x1
        · cases hrc : rest with
          | nil =>
            exfalso
            have := of_decide_eq_true cc1.1
            rw [g1, hrc] at this
            exact absurd (show some e = none from this) (by simp)
          | cons e' t =>
            have := of_decide_eq_true cc1.1
            rw [g1, hrc] at this
            have := Option.some.inj (show some e = some e' from this)
            subst this
            obtain ⟨A', F', ga2, be2, x1, x2⟩ := fin ga3 (fun d2 t2 hh => by
              have := (List.cons.inj (hrc.symm.trans hh)).1
              subst this
              exact g3)
            refine ⟨A', F', ga2, be2, hst _ ?_, x2⟩
            rw [g2, nx_b2]
            rw [hrc] at x1
            exact x1
      obtain ⟨A', F', ga2, be2, sk1, sk2, sk3, sk4, sk5⟩ := seek
      have hR1 : R.1 < 50000 := by
        have z := (am_sp (fun c => if gdp S c = true then -((100 * pA fb (ww_ (w_th f.2.2.2.2.2) N) S c + pF fb f.2.2.1 (ww_ (w_th f.2.2.2.2.2) N) S c : Nat) : Int) else -1000000) (S ^ S) 0 0 (-1000000)).2.2
        rw [← hR] at z
        have := p66_ hs6
        omega
      obtain ⟨M', m1, m2, m3⟩ := wr_a6 hr hs6 (s.2.2.1 0) (s.2.2.2 0) be2
      rw [← hS]
      obtain ⟨fr, k1, k2⟩ := pr_33 hN (fr_ar_b ar ok) ok.2.2 (by rw [es, ← hS]; exact hs6) (fun (c_free_68 : Nat → Int32) => (lp_X9_pairs_74 (nI S) (fun (x4_92 : Int32) => (lp_X9_pairs_103 (nI S) x4_92 (nI N) (t.2.2.1 8) c_free_68 (fun (x5_181 : Int32) (x6_181 : Int32) (c_placed_181 : Nat → Int32) => gg_b2 (f_X9_isPut x5_181 (nI S) (nI N) (t.2.2.1 8) c_free_68 c_placed_181) (fun v8_0 v8_1 => gg_chk (gg_in (nI r) 6) ((lp_X9_pairs_202 (nI r) (nI N) (t.2.2.1 8) v8_1 (fun (c_rows_251 : Nat → Int32) => gg_b2 (f_X9_tells (x6_181 - x6_181 / (100 : Int32) * (100 : Int32)) (x6_181 / (100 : Int32)) (t.1 1)) (fun v10_0 v10_1 => (some (v10_0, v10_1, (upd (t.2.2.1 1) (nI r).toNatClampNeg (nI S)), c_rows_251, c_free_68, v8_1)))) F (0 : Int32) (0 : Int32) (t.2.2.1 2))))) F (-9 : Int32) (1000000 : Int32) (0 : Int32) (t.2.2.1 21))) F (1 : Int32) (0 : Int32))) 10 0 F (t.2.2.1 20) (by omega) (by omega) (fun k hk => absurd hk (by simp [m_ct]))
      rw [es, ← hfbd] at k2
      have e74 := pr_74 hs6 (fun (x4_92 : Int32) => (lp_X9_pairs_103 (nI S) x4_92 (nI N) (t.2.2.1 8) fr (fun (x5_181 : Int32) (x6_181 : Int32) (c_placed_181 : Nat → Int32) => gg_b2 (f_X9_isPut x5_181 (nI S) (nI N) (t.2.2.1 8) fr c_placed_181) (fun v8_0 v8_1 => gg_chk (gg_in (nI r) 6) ((lp_X9_pairs_202 (nI r) (nI N) (t.2.2.1 8) v8_1 (fun (c_rows_251 : Nat → Int32) => gg_b2 (f_X9_tells (x6_181 - x6_181 / (100 : Int32) * (100 : Int32)) (x6_181 / (100 : Int32)) (t.1 1)) (fun v10_0 v10_1 => (some (v10_0, v10_1, (upd (t.2.2.1 1) (nI r).toNatClampNeg (nI S)), c_rows_251, fr, v8_1)))) F (0 : Int32) (0 : Int32) (t.2.2.1 2))))) F (-9 : Int32) (1000000 : Int32) (0 : Int32) (t.2.2.1 21))) S 0 F (by omega) (by omega)
      rw [hS] at hfb h10 hR h1
      obtain ⟨pl1, e103⟩ := pr_103 hN h1 (fr_ar_b ar ok) hh9 k2 h10 (show S ^ S < 50000 from p66_ hs6) (fun (x5_181 : Int32) (x6_181 : Int32) (c_placed_181 : Nat → Int32) => gg_b2 (f_X9_isPut x5_181 (nI S) (nI N) (t.2.2.1 8) fr c_placed_181) (fun v8_0 v8_1 => gg_chk (gg_in (nI r) 6) ((lp_X9_pairs_202 (nI r) (nI N) (t.2.2.1 8) v8_1 (fun (c_rows_251 : Nat → Int32) => gg_b2 (f_X9_tells (x6_181 - x6_181 / (100 : Int32) * (100 : Int32)) (x6_181 / (100 : Int32)) (t.1 1)) (fun v10_0 v10_1 => (some (v10_0, v10_1, (upd (t.2.2.1 1) (nI r).toNatClampNeg (nI S)), c_rows_251, fr, v8_1)))) F (0 : Int32) (0 : Int32) (t.2.2.1 2))))) (S ^ S) 0 F 0 (-1000000) (t.2.2.1 21) (by omega) (by have := p66_ hs6; omega) (by omega) (by omega)
      have hR' : am_ (fun c => if gdp (m_ct (w_th f.2.2.2.2.2) N) c = true then -((100 * pA fb (ww_ (w_th f.2.2.2.2.2) N) (m_ct (w_th f.2.2.2.2.2) N) c + pF fb f.2.2.1 (ww_ (w_th f.2.2.2.2.2) N) (m_ct (w_th f.2.2.2.2.2) N) c : Nat) : Int) else -1000000) (S ^ S) 0 0 (-1000000) = R := by
        rw [hR, hS]
      rw [hR', ← hS] at e103
      have eeb : eb_ R.1 R.2 = nI R.1 := by unfold eb_; rw [if_neg (by omega)]
      have eM : iI (-R.2) = nI (100 * A' + F') := by rw [sk4, Int.neg_neg, ← iI_nat (by omega)]
      rw [eeb, eM] at e103
      obtain ⟨pl2, eip, gip⟩ := ip_ hN h1 (fr_ar_b ar ok) k2 (c := R.1) hR1 pl1
      rw [← hS] at eip gip
      obtain ⟨g', y1, y2, y3⟩ := pr_202 hN hr (fr_ar_b ar ok) hS.symm (y := fun k => fb (rw_ S S R.1 k)) gip (fun (c_rows_251 : Nat → Int32) => gg_b2 (f_X9_tells (nI (100 * A' + F') - nI (100 * A' + F') / (100 : Int32) * (100 : Int32)) (nI (100 * A' + F') / (100 : Int32)) (t.1 1)) (fun v10_0 v10_1 => (some (v10_0, v10_1, (upd (t.2.2.1 1) (nI r).toNatClampNeg (nI S)), c_rows_251, fr, pl2)))) N 0 F (t.2.2.1 2) (by omega) (by omega)
      have hrw := rw_wr (p := be2) (M' := M') (g' := g') hr (show S ≤ 40 by omega) hz hc m2 m3 (fun x hx => y2 x (by show x < 40 * r + 0 ∨ _; omega)) (fun x hx => by rw [y3 x (by show 0 ≤ x; omega) hx, sk5 x hx])
      rw [if_neg (nI_n0 (show S ≠ 0 by omega) (by omega)), if_neg (nI_n0 (show S ≠ 0 by omega) (by omega)), sk1, nx_b6, hm, m1, nx_b2]
      have d1 : nI (100 * A' + F') / (100 : Int32) = nI A' := by
        rw [nx_l100, nx_div (by omega) (by omega) (by omega)]
        congr 1
        omega
      have d2 : nI (100 * A' + F') - nI (100 * A' + F') / (100 : Int32) * (100 : Int32) = nI F' := by
        rw [d1, nx_l100, pk_mul, nx_sub (by omega)]
        congr 1
        omega
      refine ⟨nI A', nI F', upd (s.2.2.1 0) r (nI S), M', nI S, nI A', nI F', wa, ga2, be2, nI A', nI F', upd (t.2.2.1 1) r (nI S), g', fr, pl2, rfl, ?_, rfl, ⟨hfd, rfl, hu, ⟨hm, hrw.1, hrw.2⟩, htx, hfr⟩⟩
      refine Eq.trans k1 (Eq.trans e74 (Eq.trans e103 ?_))
      rw [eip, nx_b2, pu_in hr (by omega), nx_chk]
      refine Eq.trans y1 ?_
      rw [d2, d1, tl_9, nx_b2, nI_clamp (by omega)]
