theorem iI_sn {a : Int} {b : Nat} (h : b ≤ 100000) : iI a - nI b = iI (a - b) := by
  rw [iI_nat h, Int32.sub_eq_add_neg, iI_neg, iI_add]
  congr 1
theorem iI_min {a b : Int} (h1 : -100000 ≤ a) (h2 : a ≤ 100000) (h3 : -100000 ≤ b) (h4 : b ≤ 100000) : f_J9_min_7cf53 (iI a) (iI b) = some (iI (min a b)) := by
  unfold f_J9_min_7cf53
  rw [nx_let]
  by_cases q : b < a
  · rw [if_pos (show iI b < iI a by rw [Int32.lt_iff_toInt_lt, iI_T h1 h2, iI_T h3 h4]; exact q), Int.min_eq_right (by omega)]
  · rw [if_neg (show ¬ iI b < iI a by rw [Int32.lt_iff_toInt_lt, iI_T h1 h2, iI_T h3 h4]; exact q), Int.min_eq_left (by omega)]
def en_ (n : Nat) (a : Nat → Int32) (φ : Nat → Nat) : Prop := ∀ k, k < n → a k = nI (φ k)
theorem vl_48 {β : Type} {z L w f s i : Nat} {who ρ : Nat → Nat} {fr : Nat → Int32} (hL : L ≤ 4) (hw : w < 6) (hf : f ≤ 11) (hs : s ≤ 9) (hρ : ∀ k, k < L → ρ k < 6) (hi : ∀ k, k < L → (who (ρ k) = i ↔ ρ k = w)) (he : en_ L fr ρ) (K : Int32 → Option β) : ∀ (m j fuel : Nat), j + m = L → m < fuel → lp_X7_leastStrength_48 (nI w) (nI f) (nI L) fr K fuel (iI (vs_ s f (fun k => who (ρ k)) i j)) (nI j) = K (iI (vs_ s f (fun k => who (ρ k)) i L))
  | 0, j, fuel + 1, h, _ => by
    have : j = L := by omega
    subst this
    rw [lp_X7_leastStrength_48, if_pos (nI_le (by omega) (by omega))]
  | m + 1, j, fuel + 1, h, hfu => by
    have ih := vl_48 (z := z) hL hw hf hs hρ hi he K m (j + 1) fuel (by omega) (by omega)
    have hj : j < L := by omega
    have hr := hρ j hj
    have hii := hi j hj
    rw [vs_] at ih
    rw [lp_X7_leastStrength_48, if_neg (nI_ge (by omega) (by omega)), pu_in (show j < 4 by omega) (by omega), nx_chk, nI_clamp (by omega), he j hj, nI_1, ← ih]
    simp only [nx_let]
    by_cases q : ρ j = w
    · rw [if_pos (show nI (ρ j) = nI w by rw [q]), iI_sn (by omega), if_pos (hii.2 q)]
    · rw [if_neg (fun x => q ((nI_eq (by omega) (by omega)).1 x)), nx_l2, nx_div (by omega) (by omega) (by omega), iI_sn (by omega), if_neg (fun x => q (hii.1 x))]
def cm_ (u : Nat → Int) : Nat → Int
  | 0 => 0
  | w + 1 => if w = 0 then u 0 else min (cm_ u w) (u w)
theorem cm_sp (u : Nat → Int) : ∀ w, 1 ≤ w → (∀ j, j < w → cm_ u w ≤ u j) ∧ ∃ j, j < w ∧ cm_ u w = u j
  | 0, h => by omega
  | w + 1, h => by
    rw [cm_]
    by_cases q : w = 0
    · subst q
      rw [if_pos rfl]
      exact ⟨fun j hj => by rw [show j = 0 by omega]; exact Int.le_refl _, 0, by omega, rfl⟩
    · rw [if_neg q]
      obtain ⟨h1, j, hj, e⟩ := cm_sp u w (by omega)
      refine ⟨fun x hx => ?_, ?_⟩
      · by_cases y : x = w
        · subst y
          omega
        · have := h1 x (by omega)
          omega
      · by_cases y : cm_ u w ≤ u w
        · exact ⟨j, by omega, by omega⟩
        · exact ⟨w, by omega, by omega⟩
theorem cm_bd {u : Nat → Int} {z : Nat} (h : ∀ j, j < z → -100 ≤ u j ∧ u j ≤ 100) {w : Nat} (hw : w ≤ z) : -100 ≤ cm_ u w ∧ cm_ u w ≤ 100 := by
  by_cases q : w = 0
  · subst q
    show (-100 : Int) ≤ 0 ∧ (0 : Int) ≤ 100
    omega
  · obtain ⟨-, j, hj, e⟩ := cm_sp u w (by omega)
    rw [e]
    exact h j (by omega)
theorem vl_4 {β : Type} {N L z : Nat} (hN : N ≤ 6) (hL : L ≤ 4) {kd wd st : Nat → Nat} {kind winds strength : Nat → Int32} (hk : fr_kw N kd wd kind winds) {due : Nat} (hd : due < 100) (hs : ∀ i, i < N → strength i = nI (st i) ∧ st i ≤ 9) {who ρ : Nat → Nat} {wa fr : Nat → Int32} (hz : z ≤ 6) (hw : ∀ j, j < z → wa j = nI (who j) ∧ who j < N) (hinj : ∀ a b, a < z → b < z → (who a = who b ↔ a = b)) (hρ : ∀ k, k < L → ρ k < z) (he : en_ L fr ρ) (K : Int32 → Option β) : ∀ (m w fuel : Nat), w + m = z → m < fuel → lp_X7_leastStrength_4 (nI z) (nI L) wa fr (nI due) winds kind strength K fuel (iI (cm_ (fun j => vs_ (st (who j)) (k_fly (kd (who j)) (wd (due % 4))) (fun k => who (ρ k)) (who j) L) w)) (nI w) = K (iI (cm_ (fun j => vs_ (st (who j)) (k_fly (kd (who j)) (wd (due % 4))) (fun k => who (ρ k)) (who j) L) z))
  | 0, w, fuel + 1, h, _ => by
    have : w = z := by omega
    subst this
    rw [lp_X7_leastStrength_4, if_pos (nI_le (by omega) (by omega))]
  | m + 1, w, fuel + 1, h, hf => by
    obtain ⟨F, hF, hF2⟩ : ∃ F, F = gg_fuel ∧ 50000 ≤ F := ⟨_, rfl, pu_F⟩
    have ih := vl_4 hN hL hk hd hs hz hw hinj hρ he K m (w + 1) fuel (by omega) (by omega)
    have hwz : w < z := by omega
    obtain ⟨e1, e2⟩ := hw w hwz
    obtain ⟨s1, s2⟩ := hs (who w) e2
    have k1 := hk.1 (who w) e2
    have hwd := (hk.2 (due % 4) (by omega)).1
    have hfl : k_fly (kd (who w)) (wd (due % 4)) ≤ 11 := by
      have : ∀ k, k < 6 → ∀ w, w < 10 → k_fly k w ≤ 11 := by decide +kernel
      exact this _ k1.1 _ hwd
    have bd : ∀ j, j < z → -100 ≤ vs_ (st (who j)) (k_fly (kd (who j)) (wd (due % 4))) (fun k => who (ρ k)) (who j) L ∧ vs_ (st (who j)) (k_fly (kd (who j)) (wd (due % 4))) (fun k => who (ρ k)) (who j) L ≤ 100 := by
      intro j hj
      have hf2 : k_fly (kd (who j)) (wd (due % 4)) ≤ 11 := by
        have : ∀ k, k < 6 → ∀ w, w < 10 → k_fly k w ≤ 11 := by decide +kernel
        exact this _ (hk.1 (who j) (hw j hj).2).1 _ hwd
      have := vs_bd (i := who j) (φ := fun k => who (ρ k)) (hs (who j) (hw j hj).2).2 hf2 L
      omega
    have hcb := cm_bd bd (show w ≤ z by omega)
    have hvb := bd w hwz
    have e := vl_48 (z := z) hL (show w < 6 by omega) hfl s2 (fun k hk => by have := hρ k hk; omega) (fun k hk => hinj (ρ k) w (hρ k hk) hwz) he (fun (x5_88 : Int32) => gg_lt (fun (s0_103 : Int32) => (lp_X7_leastStrength_4 (nI z) (nI L) wa fr (nI due) winds kind strength K fuel s0_103 (nI (w + 1)))) (fun k103 => (if nI w = (0 : Int32) then (k103 x5_88) else (f_J9_min_7cf53 (iI (cm_ (fun j => vs_ (st (who j)) (k_fly (kd (who j)) (wd (due % 4))) (fun k => who (ρ k)) (who j) L) w)) x5_88).bind (fun v3 => (k103 v3))))) L 0 F (by omega) (by omega)
    rw [lp_X7_leastStrength_4, if_neg (nI_ge (by omega) (by omega)), pu_in (show w < 6 by omega) (by omega), nI_clamp (by omega), e1, pu_in (show who w < 6 by omega) (by omega), nI_clamp (by omega), s1, k1.2, fl_wd hk hd, Option.bind_some, e_fly8 _ k1.1 _ hwd, Option.bind_some, nI_1, ← hF]
    simp only [nx_chk]
    rw [iI_nat (show st (who w) ≤ 100000 by omega)]
    refine Eq.trans e ?_
    rw [nx_let, ← ih, cm_]
    by_cases q : w = 0
    · subst q
      rw [if_pos (show nI 0 = 0 from rfl), if_pos rfl]
    · rw [if_neg (nI_n0 q (by omega)), if_neg q, iI_min (by omega) (by omega) (by omega) (by omega), Option.bind_some]
theorem go_7 {β : Type} {z L : Nat} (hz1 : 1 ≤ z) (hz : z ≤ 6) (hL : L ≤ 4) {ρ : Nat → Nat} {fr : Nat → Int32} (hρ : ∀ k, k < L → ρ k < 6) (he : en_ L fr ρ) (k1 : Int32 → Option β) (k2 : Option β) : ∀ (m fuel : Nat), m ≤ L → m < fuel → lp_X7_goOn_7 (nI z) fr k1 k2 fuel (nI m + (-1)) = (match gl_ z ρ m with | some l => k1 (nI l) | none => k2)
  | 0, fuel + 1, h, _ => by
    rw [lp_X7_goOn_7, if_pos (show nI 0 + (-1) < (0 : Int32) by decide)]
    rfl
  | m + 1, fuel + 1, h, hf => by
    have hr := hρ m (by omega)
    rw [nx_m1 (show 0 < m + 1 by omega), show m + 1 - 1 = m from rfl, lp_X7_goOn_7, if_neg (nI_pos (by omega)), pu_in (show m < 4 by omega) (by omega), nx_chk, nI_clamp (by omega), he m (by omega), show nI z - 1 = nI (z - 1) from nx_sub (b := 1) hz1, gl_]
    by_cases q : z - 1 ≤ ρ m
    · rw [if_pos (nI_le q (by omega)), if_pos q]
      exact go_7 hz1 hz hL hρ he k1 k2 m fuel (by omega) (by omega)
    · rw [if_neg (nI_ge (by omega) (by omega)), if_neg q]
theorem go_37 {β : Type} {L v : Nat} (hL : L ≤ 4) (K : (Nat → Int32) → Option β) : ∀ (m j fuel : Nat) (a : Nat → Int32), j + m = L → m < fuel → ∃ a', lp_X7_goOn_37 (nI v) (nI L) K fuel (nI j) a = K a' ∧ (∀ k, k < j → a' k = a k) ∧ ∀ k, j ≤ k → k < L → a' k = nI v
  | 0, j, fuel + 1, a, h, _ => by
    refine ⟨a, ?_, fun _ _ => rfl, fun k h1 h2 => by omega⟩
    rw [lp_X7_goOn_37, if_pos (nI_le (by omega) (by omega))]
  | m + 1, j, fuel + 1, a, h, hf => by
    obtain ⟨a', e, g1, g2⟩ := go_37 (v := v) hL K m (j + 1) fuel (upd a j (nI v)) (by omega) (by omega)
    refine ⟨a', ?_, ?_, ?_⟩
    · rw [lp_X7_goOn_37, if_neg (nI_ge (by omega) (by omega)), pu_in (show j < 4 by omega) (by omega), nx_chk, nI_clamp (by omega), nI_1]
      exact e
    · intro k hk
      rw [g1 k (by omega), pk_un (by omega)]
    · intro k h3 h4
      by_cases q : k = j
      · subst q
        rw [g1 k (by omega), pk_us]
      · exact g2 k (by omega) h4
theorem gl_lt {z : Nat} {ρ : Nat → Nat} : ∀ m l, gl_ z ρ m = some l → l < m ∧ ρ l < z - 1
  | 0, l, h => absurd h (by simp [gl_])
  | m + 1, l, h => by
    rw [gl_] at h
    by_cases q : z - 1 ≤ ρ m
    · rw [if_pos q] at h
      have := gl_lt m l h
      omega
    · rw [if_neg q] at h
      have := Option.some.inj h
      subst this
      omega
theorem go_ {z L d : Nat} (hz1 : 1 ≤ z) (hz : z ≤ 6) (hL : L ≤ 4) {fr : Nat → Int32} (he : en_ L fr (rw_ 6 L d)) : (nx_nx z L d = none ∧ f_X7_goOn (nI z) (nI L) fr = some (0, fr)) ∨ ∃ e fr', nx_nx z L d = some e ∧ f_X7_goOn (nI z) (nI L) fr = some (1, fr') ∧ en_ L fr' (rw_ 6 L e) := by
  obtain ⟨F, hF, hF2⟩ : ∃ F, F = gg_fuel ∧ 50000 ≤ F := ⟨_, rfl, pu_F⟩
  have hρ : ∀ k, k < L → rw_ 6 L d k < 6 := fun k hk => rw_lt (by omega) L d k hk
  have e := go_7 hz1 hz hL hρ he (fun (x1_26 : Int32) => gg_chk (gg_in x1_26 4) ((lp_X7_goOn_37 ((fr x1_26.toNatClampNeg) + (1 : Int32)) (nI L) (fun (c_fronts_58 : Nat → Int32) => (some ((1 : Int32), c_fronts_58))) F x1_26 fr))) ((some ((0 : Int32), fr))) L F (by omega) (by omega)
  unfold f_X7_goOn nx_nx
  rw [← hF, show nI L - (1 : Int32) = nI L + (-1) from Int32.sub_eq_add_neg .., e]
  obtain ⟨O, hO⟩ : ∃ O, O = gl_ z (rw_ 6 L d) L := ⟨_, rfl⟩
  rw [← hO]
  cases O with
  | none => exact Or.inl ⟨rfl, rfl⟩
  | some l =>
    right
    obtain ⟨l1, l2⟩ := gl_lt L l hO.symm
    obtain ⟨a', g, g1, g2⟩ := go_37 (v := rw_ 6 L d l + 1) hL (fun (c_fronts_58 : Nat → Int32) => (some ((1 : Int32), c_fronts_58))) (L - l) l F fr (by omega) (by omega)
    refine ⟨_, a', rfl, ?_, ?_⟩
    · show gg_chk (gg_in (nI l) 4) _ = _
      rw [pu_in (show l < 4 by omega) (by omega), nx_chk, nI_clamp (by omega), he l l1, nI_1]
      exact g
    · intro k hk
      rw [rw_cd (by omega) L (fun j hj => by
        unfold gn_
        split
        · omega
        · exact hρ j hj) k hk]
      unfold gn_
      by_cases q : l ≤ k
      · rw [if_pos q, g2 k q hk]
      · rw [if_neg q, g1 k (by omega), he k hk]
theorem tk_ {L z : Nat} (hL : L ≤ 4) (hz : z ≤ 6) {who ρ : Nat → Nat} {wa fr : Nat → Int32} (hw : ∀ j, j < z → wa j = nI (who j)) (hρ : ∀ k, k < L → ρ k < z) (he : en_ L fr ρ) (b : Nat → Int32) : ∃ b', f_X7_takeAsBest (nI L) wa fr b = some b' ∧ en_ L b' (fun k => who (ρ k)) := by
  obtain ⟨F, hF, hF2⟩ : ∃ F, F = gg_fuel ∧ 50000 ≤ F := ⟨_, rfl, pu_F⟩
  have key : ∀ (m j fuel : Nat) (a : Nat → Int32), j + m = L → m < fuel → ∃ a', lp_X7_takeAsBest_2 (nI L) wa fr (fun x => some x) fuel (nI j) a = some a' ∧ (∀ k, k < j → a' k = a k) ∧ ∀ k, j ≤ k → k < L → a' k = nI (who (ρ k)) := by
    intro m
    induction m with
    | zero =>
      intro j fuel a h hf
      obtain ⟨G, rfl⟩ : ∃ G, fuel = G + 1 := ⟨fuel - 1, by omega⟩
      refine ⟨a, ?_, fun _ _ => rfl, fun k h1 h2 => by omega⟩
      rw [lp_X7_takeAsBest_2, if_pos (nI_le (by omega) (by omega))]
    | succ m ih =>
      intro j fuel a h hf
      obtain ⟨G, rfl⟩ : ∃ G, fuel = G + 1 := ⟨fuel - 1, by omega⟩
      obtain ⟨a', e, g1, g2⟩ := ih (j + 1) G (upd a j (nI (who (ρ j)))) (by omega) (by omega)
      have hj := hρ j (by omega)
      refine ⟨a', ?_, ?_, ?_⟩
      · rw [lp_X7_takeAsBest_2, if_neg (nI_ge (by omega) (by omega)), pu_in (show j < 4 by omega) (by omega), nI_clamp (by omega), he j (by omega), pu_in (show ρ j < 6 by omega) (by omega), nx_chk, nx_chk, nx_chk, nI_clamp (by omega), hw _ hj, nI_1]
        exact e
      · intro k hk
        rw [g1 k (by omega), pk_un (by omega)]
      · intro k h3 h4
        by_cases q : k = j
        · subst q
          rw [g1 k (by omega), pk_us]
        · exact g2 k (by omega) h4
  obtain ⟨a', e, -, g⟩ := key L 0 F b (by omega) (by omega)
  refine ⟨a', ?_, fun k hk => g k (by omega) hk⟩
  unfold f_X7_takeAsBest
  rw [← hF]
  exact e
def vV (N L : Nat) (kd st : Nat → Nat) (w : Nat) (T : Nat → Bool) (φ : Nat → Nat) : Int := mn_ (fun i => vs_ (st i) (k_fly (kd i) w) φ i L) T N
theorem vV_b {N L : Nat} (hL : L ≤ 4) {kd st : Nat → Nat} {w : Nat} (hw : w < 10) (hk : ∀ i, i < N → kd i < 6) (hs : ∀ i, i < N → st i ≤ 9) (φ : Nat → Nat) : ∀ i, i < N → -100 ≤ vs_ (st i) (k_fly (kd i) w) φ i L ∧ vs_ (st i) (k_fly (kd i) w) φ i L ≤ 100 := by
  intro i hi
  have hf2 : k_fly (kd i) w ≤ 11 := by
    have : ∀ k, k < 6 → ∀ w, w < 10 → k_fly k w ≤ 11 := by decide +kernel
    exact this _ (hk i hi) _ hw
  have := vs_bd (i := i) (φ := φ) (hs i hi) hf2 L
  omega
theorem vl_ {N L : Nat} (hN : N ≤ 6) (hL : L ≤ 4) {kd wd st : Nat → Nat} {kind winds strength : Nat → Int32} (hk : fr_kw N kd wd kind winds) {due : Nat} (hd : due < 100) (hs : ∀ i, i < N → strength i = nI (st i) ∧ st i ≤ 9) {T : Nat → Bool} (h1 : 1 ≤ m_ct T N) {ρ : Nat → Nat} {wa fr : Nat → Int32} (hw : ∀ j, j < m_ct T N → wa j = nI (ww_ T N j)) (hρ : ∀ k, k < L → ρ k < m_ct T N) (he : en_ L fr ρ) : f_X7_leastStrength (nI (m_ct T N)) (nI L) wa fr (nI due) winds kind strength = some (iI (vV N L kd st (wd (due % 4)) T (fun k => ww_ T N (ρ k)))) := by
  obtain ⟨F, hF, hF2⟩ : ∃ F, F = gg_fuel ∧ 50000 ≤ F := ⟨_, rfl, pu_F⟩
  obtain ⟨w1, w2, w3⟩ := ww_sp T N
  have hz : m_ct T N ≤ 6 := Nat.le_trans (m_ct_le T N) hN
  have hwd := (hk.2 (due % 4) (by omega)).1
  have e := vl_4 hN hL hk hd hs hz (who := ww_ T N) (fun j hj => ⟨hw j hj, (w1 j hj).1⟩) (fun a b ha hb => (ww_in ha hb).1) hρ he (fun x => some x) (m_ct T N) 0 F (by omega) (by omega)
  unfold f_X7_leastStrength
  rw [← hF]
  refine Eq.trans e ?_
  congr 2
  obtain ⟨c1, j, hj, c2⟩ := cm_sp (fun j => vs_ (st (ww_ T N j)) (k_fly (kd (ww_ T N j)) (wd (due % 4))) (fun k => ww_ T N (ρ k)) (ww_ T N j) L) (m_ct T N) h1
  unfold vV
  symm
  apply mn_un
  · intro i hi ht
    obtain ⟨j', hj', e'⟩ := w3 i hi ht
    have := c1 j' hj'
    rw [e'] at this
    exact this
  · exact ⟨ww_ T N j, (w1 j hj).1, (w1 j hj).2, c2⟩
  · intro i hi _
    exact (vV_b hL hwd (fun i hi => (hk.1 i hi).1) (fun i hi => (hs i hi).2) _ i hi).2
theorem rs_lt {z L d k : Nat} (h : rs_ z L d = true) (hk : k < L) : rw_ 6 L d k < z := by
  unfold rs_ at h
  rw [Bool.and_eq_true] at h
  exact of_decide_eq_true (m_all_1 L 0 h.1 k (by omega) (by omega))
theorem sk_21 {β : Type} {N L : Nat} (hN : N ≤ 6) (hL : L ≤ 4) {kd wd st : Nat → Nat} {kind winds strength : Nat → Int32} (hk : fr_kw N kd wd kind winds) {due : Nat} (hd : due < 100) (hs : ∀ i, i < N → strength i = nI (st i) ∧ st i ≤ 9) {T : Nat → Bool} (h1 : 1 ≤ m_ct T N) {wa : Nat → Int32} (hw : ∀ j, j < m_ct T N → wa j = nI (ww_ T N j)) (K : Int32 → (Nat → Int32) → (Nat → Int32) → Option β) : ∀ (l : List Nat) (fuel row b : Nat) (M : Int) (fr be : Nat → Int32), l.length < fuel → row + l.length < 900 → ch_ (m_ct T N) L l = true → (∀ d, d ∈ l → rs_ (m_ct T N) L d = true) → (∀ d t, l = d :: t → en_ L fr (rw_ 6 L d)) → en_ L be (fun k => ww_ T N (rw_ 6 L b k)) → -100 ≤ M → M ≤ 100 → ∃ fr' be', lp_X7_seek_21 (nI (m_ct T N)) (nI L) wa (nI due) winds kind strength K fuel (iI M) (match l with | [] => 0 | _ :: _ => 1) (nI row) fr be = K (iI (al_ (fun d => vV N L kd st (wd (due % 4)) T (fun k => ww_ T N (rw_ 6 L d k))) l b M).2) fr' be' ∧ en_ L be' (fun k => ww_ T N (rw_ 6 L (al_ (fun d => vV N L kd st (wd (due % 4)) T (fun k => ww_ T N (rw_ 6 L d k))) l b M).1 k))
  | [], fuel + 1, row, b, M, fr, be, hf, hr, _, _, _, hb, _, _ => by
    refine ⟨fr, be, ?_, hb⟩
    rw [lp_X7_seek_21, if_neg (show ¬ (1000 : Int32) ≤ nI row from (nI_ge (by have : ([] : List Nat).length = 0 := rfl; omega) (by omega) : ¬ nI 1000 ≤ nI row)), if_pos rfl]
    rfl
  | d :: l, fuel + 1, row, b, M, fr, be, hf, hr, hc, hrs, hen, hb, hM1, hM2 => by
    have hlen : (d :: l).length = l.length + 1 := rfl
    rw [hlen] at hf hr
    have hz : m_ct T N ≤ 6 := Nat.le_trans (m_ct_le T N) hN
    have he := hen d l rfl
    have hρ : ∀ k, k < L → rw_ 6 L d k < m_ct T N := fun k hk => rs_lt (hrs d (List.mem_cons_self ..)) hk
    have hwd := (hk.2 (due % 4) (by omega)).1
    have hv := vl_ hN hL hk hd hs h1 hw hρ he
    obtain ⟨be1, t1, t2⟩ := tk_ hL hz hw hρ he be
    have hVb := mn_bd (T := T) (fun i hi _ => vV_b hL hwd (fun i hi => (hk.1 i hi).1) (fun i hi => (hs i hi).2) (fun k => ww_ T N (rw_ 6 L d k)) i hi)
    have hVb2 : vV N L kd st (wd (due % 4)) T (fun k => ww_ T N (rw_ 6 L d k)) ≤ 100 := by
      obtain ⟨w1, -, -⟩ := ww_sp T N
      have a := (mn_sp (fun i => vs_ (st i) (k_fly (kd i) (wd (due % 4))) (fun k => ww_ T N (rw_ 6 L d k)) i L) T N).1 (ww_ T N 0) (w1 0 (by omega)).1 (w1 0 (by omega)).2
      have c := (vV_b hL hwd (fun i hi => (hk.1 i hi).1) (fun i hi => (hs i hi).2) (fun k => ww_ T N (rw_ 6 L d k)) (ww_ T N 0) (w1 0 (by omega)).1).2
      unfold vV
      omega
    obtain ⟨V, hV⟩ : ∃ V, V = vV N L kd st (wd (due % 4)) T (fun k => ww_ T N (rw_ 6 L d k)) := ⟨_, rfl⟩
    have hVl : -100 ≤ V := by rw [hV]; exact hVb.1
    rw [← hV] at hv hVb2
    rw [ch_, Bool.and_eq_true] at hc
    have step : ∀ (M' : Int) (be' : Nat → Int32) (b' : Nat), -100 ≤ M' → M' ≤ 100 → en_ L be' (fun k => ww_ T N (rw_ 6 L b' k)) → ∃ fr2 be2, gg_b2 (f_X7_goOn (nI (m_ct T N)) (nI L) fr) (fun v5_0 v5_1 => (lp_X7_seek_21 (nI (m_ct T N)) (nI L) wa (nI due) winds kind strength K fuel (iI M') v5_0 (nI (row + 1)) v5_1 be')) = K (iI (al_ (fun d => vV N L kd st (wd (due % 4)) T (fun k => ww_ T N (rw_ 6 L d k))) l b' M').2) fr2 be2 ∧ en_ L be2 (fun k => ww_ T N (rw_ 6 L (al_ (fun d => vV N L kd st (wd (due % 4)) T (fun k => ww_ T N (rw_ 6 L d k))) l b' M').1 k)) := by
      intro M' be' b' hm1 hm2 hbe
      rcases go_ h1 hz hL he with ⟨g1, g2⟩ | ⟨e, fr', g1, g2, g3⟩
      · have hl : l = [] := by
          cases l with
          | nil => rfl
          | cons e t =>
            exfalso
            have := of_decide_eq_true hc.1
            rw [g1] at this
            exact absurd (show (none : Option Nat) = some e from this) (by simp)
        subst hl
        rw [g2, nx_b2]
        exact sk_21 hN hL hk hd hs h1 hw K [] fuel (row + 1) b' M' fr be' (by show 0 < fuel; omega) (by show row + 1 + 0 < 900; omega) rfl (fun d hd => absurd hd (by simp)) (fun d t h => absurd h (by simp)) hbe hm1 hm2
      · cases l with
        | nil =>
          exfalso
          have := of_decide_eq_true hc.1
          rw [g1] at this
          exact absurd (show some e = none from this) (by simp)
        | cons e' t =>
          have := of_decide_eq_true hc.1
          rw [g1] at this
          have := Option.some.inj (show some e = some e' from this)
          subst this
          rw [g2, nx_b2]
          exact sk_21 hN hL hk hd hs h1 hw K (e :: t) fuel (row + 1) b' M' fr' be' (by omega) (by omega) hc.2 (fun d hd => hrs d (List.mem_cons_of_mem _ hd)) (fun d2 t2 h => by
            have := (List.cons.inj h).1
            subst this
            exact g3) hbe hm1 hm2
    have hst : lp_X7_seek_21 (nI (m_ct T N)) (nI L) wa (nI due) winds kind strength K (fuel + 1) (iI M) 1 (nI row) fr be = if iI V ≤ iI M then gg_b2 (f_X7_goOn (nI (m_ct T N)) (nI L) fr) (fun v5_0 v5_1 => (lp_X7_seek_21 (nI (m_ct T N)) (nI L) wa (nI due) winds kind strength K fuel (iI M) v5_0 (nI (row + 1)) v5_1 be)) else gg_b2 (f_X7_goOn (nI (m_ct T N)) (nI L) fr) (fun v5_0 v5_1 => (lp_X7_seek_21 (nI (m_ct T N)) (nI L) wa (nI due) winds kind strength K fuel (iI V) v5_0 (nI (row + 1)) v5_1 be1)) := by
      rw [lp_X7_seek_21, if_neg (show ¬ (1000 : Int32) ≤ nI row from (nI_ge (by omega) (by omega) : ¬ nI 1000 ≤ nI row)), if_neg (show ¬ (1 : Int32) = 0 by decide), hv, nI_1, t1]
      simp only [Option.bind_some, nx_let]
    show ∃ fr' be', lp_X7_seek_21 (nI (m_ct T N)) (nI L) wa (nI due) winds kind strength K (fuel + 1) (iI M) 1 (nI row) fr be = _ ∧ _
    rw [hst, al_]
    by_cases q : V ≤ M
    · rw [if_pos ((iI_le (by omega) (by omega) (by omega) (by omega)).2 q), if_pos (show vV N L kd st (wd (due % 4)) T (fun k => ww_ T N (rw_ 6 L d k)) ≤ M by rw [← hV]; exact q)]
      exact step M be b hM1 hM2 hb
    · rw [if_neg (fun z => q ((iI_le (by omega) (by omega) (by omega) (by omega)).1 z)), if_neg (show ¬ vV N L kd st (wd (due % 4)) T (fun k => ww_ T N (rw_ 6 L d k)) ≤ M by rw [← hV]; exact q), ← hV]
      exact step V be1 d hVl hVb2 t2
