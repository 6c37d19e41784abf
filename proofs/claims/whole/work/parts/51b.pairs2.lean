def ad_ (a b : Nat) : Nat := if b ≤ a then a - b else b - a
theorem ad_8 : ∀ a, a < 10 → ∀ b, b < 10 → f_J9_abs_0f7a4 (nI a - nI b) = some (nI (ad_ a b)) := by decide +kernel
theorem ad_9 : ∀ a, a < 10 → ∀ b, b < 10 → f_X9_apart (nI a) (nI b) = some (nI (ad_ a b)) := by decide +kernel
theorem ad_le : ∀ a, a < 10 → ∀ b, b < 10 → ad_ a b ≤ 9 := by decide +kernel
def cf_ (y hm who : Nat → Nat) : Nat → Nat
  | 0 => 0
  | w + 1 => cf_ y hm who w + ad_ (y w) (hm (who w))
def ct_ (y who : Nat → Nat) (s w : Nat) : Nat := if w + 1 < s ∧ who w % 2 = 0 ∧ who (w + 1) = who w + 1 then ad_ (y w) (y (w + 1)) else 0
def ca_ (y who : Nat → Nat) (s : Nat) : Nat → Nat
  | 0 => 0
  | w + 1 => ca_ y who s w + ct_ y who s w
theorem cf_le {y hm who : Nat → Nat} : ∀ w, (∀ k, k < w → y k < 10 ∧ hm (who k) < 10) → cf_ y hm who w ≤ 9 * w
  | 0, _ => Nat.le_refl _
  | w + 1, h => by
    have h1 := cf_le w (fun k hk => h k (by omega))
    have h2 := ad_le _ (h w (by omega)).1 _ (h w (by omega)).2
    rw [cf_]
    omega
theorem ca_le {y who : Nat → Nat} {s : Nat} : ∀ w, w ≤ s → (∀ k, k < s → y k < 10) → ca_ y who s w ≤ 9 * w
  | 0, _, _ => Nat.le_refl _
  | w + 1, hw, h => by
    have h1 := ca_le (who := who) w (by omega) h
    rw [ca_, ct_]
    split
    · rename_i q
      have h2 := ad_le _ (h w (by omega)) _ (h (w + 1) q.1)
      omega
    · omega
theorem far_8 {β : Type} {s N : Nat} (hs : s ≤ 6) (hN : N ≤ 6) {y hm who : Nat → Nat} {wa ga home : Nat → Int32} (hw : ∀ j, j < s → wa j = nI (who j) ∧ who j < N) (hg : ∀ j, j < s → ga j = nI (y j) ∧ y j < 10) (hh : ∀ i, i < N → home i = nI (hm i) ∧ hm i < 10) (K : Int32 → Option β) : ∀ (m w fuel : Nat), w + m = s → m < fuel → lp_X0_far_4 (nI s) wa ga home K fuel (nI (cf_ y hm who w)) (nI w) = K (nI (cf_ y hm who s))
  | 0, w, fuel + 1, h, _ => by
    have : w = s := by omega
    subst this
    rw [lp_X0_far_4, if_pos (nI_le (by omega) (by omega))]
  | m + 1, w, fuel + 1, h, hf => by
    have ih := far_8 hs hN hw hg hh K m (w + 1) fuel (by omega) (by omega)
    obtain ⟨w1, w2⟩ := hw w (by omega)
    obtain ⟨g1, g2⟩ := hg w (by omega)
    obtain ⟨h1, h2⟩ := hh _ w2
    rw [cf_] at ih
    rw [lp_X0_far_4, if_neg (nI_ge (by omega) (by omega)), pu_in (show w < 6 by omega) (by omega), nI_clamp (by omega), w1, pu_in (show who w < 6 by omega) (by omega), nI_clamp (by omega), g1, h1, ad_8 _ g2 _ h2, nx_chk, nx_chk, nx_chk, Option.bind_some, nI_add, nI_1]
    exact ih
theorem apa_8 {β : Type} {s N : Nat} (h1 : 1 ≤ s) (hs : s ≤ 6) (hN : N ≤ 6) {y who : Nat → Nat} {wa ga : Nat → Int32} (hw : ∀ j, j < s → wa j = nI (who j) ∧ who j < N) (hg : ∀ j, j < s → ga j = nI (y j) ∧ y j < 10) (K : Int32 → Option β) : ∀ (m w fuel : Nat), w + m + 1 = s → m < fuel → lp_X0_apart_4 (nI s) wa ga K fuel (nI (ca_ y who s w)) (nI w) = K (nI (ca_ y who s s))
  | 0, w, fuel + 1, h, _ => by
    obtain ⟨t, rfl⟩ : ∃ t, s = t + 1 := ⟨s - 1, by omega⟩
    have : w = t := by omega
    subst this
    rw [lp_X0_apart_4, nI_1, if_pos (nI_le (by omega) (by omega)), ca_, ct_, if_neg (fun z => absurd z.1 (Nat.lt_irrefl _))]
    rfl
  | m + 1, w, fuel + 1, h, hf => by
    have ih := apa_8 h1 hs hN hw hg K m (w + 1) fuel (by omega) (by omega)
    obtain ⟨w1, w2⟩ := hw w (by omega)
    obtain ⟨w3, w4⟩ := hw (w + 1) (by omega)
    obtain ⟨g1, g2⟩ := hg w (by omega)
    obtain ⟨g3, g4⟩ := hg (w + 1) (by omega)
    rw [ca_, ct_] at ih
    rw [lp_X0_apart_4, nI_1, if_neg (nI_ge (by omega) (by omega)), pu_in (show w < 6 by omega) (by omega), pu_in (show w + 1 < 6 by omega) (by omega), nI_clamp (by omega), nI_clamp (by omega), w1, w3, g1, g3, ad_8 _ g2 _ g4, md_2 (by omega), nI_1, ← ih]
    simp only [nx_let, nx_chk, Option.bind_some]
    by_cases q : who w % 2 = 0
    · rw [q, if_pos (show nI 0 = 0 from rfl)]
      by_cases q2 : who (w + 1) = who w + 1
      · rw [if_pos (show nI (who (w + 1)) = nI (who w + 1) by rw [q2]), nI_add, if_pos ⟨by omega, rfl, q2⟩]
      · rw [if_neg (fun z => q2 ((nI_eq (by omega) (by omega)).1 z)), if_neg (fun z => q2 z.2.2)]
        rfl
    · rw [show who w % 2 = 1 by omega, if_neg (show ¬ nI 1 = 0 by decide), if_neg (fun z => absurd z.2.1 (by omega))]
      rfl
theorem is_5 {β : Type} {c x : Nat} (hc : c < 6) (hx : x < 10) {g : Nat → Nat} (hg : ∀ j, j < c → g j < 10) (K : Int32 → (Nat → Int32) → Option β) : ∀ (k fuel : Nat) (ga : Nat → Int32), k ≤ c → k < fuel → (∀ j, j < k → ga j = nI (g j)) → (∀ j, k ≤ j → j < c → ga (j + 1) = nI (g j) ∧ x < g j) → ∃ p ga', p ≤ k ∧ lp_X0_insert_5 (nI x) K fuel (nI k) ga = K (nI p) ga' ∧ (∀ j, j < p → ga' j = nI (g j)) ∧ (∀ j, p ≤ j → j < c → ga' (j + 1) = nI (g j) ∧ x < g j) ∧ (p = 0 ∨ g (p - 1) ≤ x)
  | 0, fuel + 1, ga, h, _, h1, h2 => by
    refine ⟨0, ga, by omega, ?_, h1, h2, Or.inl rfl⟩
    rw [lp_X0_insert_5, if_pos (show nI 0 ≤ 0 by decide)]
  | k + 1, fuel + 1, ga, h, hf, h1, h2 => by
    have hgk := hg k (by omega)
    have e1 : nI (k + 1) - 1 = nI k := nx_sub (b := 1) (by omega)
    have st : lp_X0_insert_5 (nI x) K (fuel + 1) (nI (k + 1)) ga = if nI (g k) ≤ nI x then K (nI (k + 1)) ga else lp_X0_insert_5 (nI x) K fuel (nI k) (upd ga (k + 1) (nI (g k))) := by
      rw [lp_X0_insert_5, if_neg (show ¬ nI (k + 1) ≤ 0 from (nI_ge (by omega) (by omega) : ¬ nI (k + 1) ≤ nI 0)), e1, pu_in (show k < 6 by omega) (by omega), pu_in (show k + 1 < 6 by omega) (by omega), nI_clamp (by omega), nI_clamp (by omega), h1 k (by omega), nx_m1 (show 0 < k + 1 by omega), show k + 1 - 1 = k from rfl, nx_chk, nx_chk, nx_chk]
    by_cases q : g k ≤ x
    · refine ⟨k + 1, ga, Nat.le_refl _, ?_, h1, h2, Or.inr q⟩
      rw [st, if_pos (nI_le q (by omega))]
    · obtain ⟨p, ga', a1, a2, a3, a4, a5⟩ := is_5 hc hx hg K k fuel (upd ga (k + 1) (nI (g k))) (by omega) (by omega) (fun j hj => by rw [pk_un (by omega)]; exact h1 j (by omega)) (fun j hj1 hj2 => by
        by_cases y : j = k
        · subst y
          rw [pk_us]
          exact ⟨rfl, by omega⟩
        · rw [pk_un (by omega)]
          exact h2 j (by omega) hj2)
      refine ⟨p, ga', by omega, ?_, a3, a4, a5⟩
      rw [st, if_neg (nI_ge (by omega) (by omega))]
      exact a2
def in_ (g : Nat → Nat) (p x : Nat) : Nat → Nat := fun k => if k < p then g k else if k = p then x else g (k - 1)
def sr_ (bk : Nat → Nat) (T : Nat → Bool) (j c : Nat) (g : Nat → Nat) : Prop := (∀ a b, a < b → b < c → g a < g b) ∧ (∀ k, k < c → ∃ i, i < j ∧ T i = true ∧ g k = bk i) ∧ ∀ i, i < j → T i = true → ∃ k, k < c ∧ g k = bk i
theorem sr_in {bk : Nat → Nat} {T : Nat → Bool} {j c p : Nat} {g : Nat → Nat} (h : sr_ bk T j c g) (ht : T j = true) (hp : p ≤ c) (hn : ∀ i, i < j → T i = true → bk i ≠ bk j) (h1 : ∀ k, p ≤ k → k < c → bk j < g k) (h2 : p = 0 ∨ g (p - 1) ≤ bk j) : sr_ bk T (j + 1) (c + 1) (in_ g p (bk j)) := by
  obtain ⟨a1, a2, a3⟩ := h
  have h3 : ∀ k, k < p → g k < bk j := by
    intro k hk
    have ne : g k ≠ bk j := by
      obtain ⟨i, b1, b2, b3⟩ := a2 k (by omega)
      rw [b3]
      exact hn i b1 b2
    rcases h2 with z | z
    · omega
    · by_cases y : k = p - 1
      · subst y
        omega
      · have := a1 k (p - 1) (by omega) (by omega)
        omega
  refine ⟨fun a b hab hb => ?_, fun k hk => ?_, fun i hi hti => ?_⟩
  · unfold in_
    by_cases qa : a < p
    · rw [if_pos qa]
      by_cases qb : b < p
      · rw [if_pos qb]; exact a1 a b hab (by omega)
      · rw [if_neg qb]
        by_cases qb2 : b = p
        · rw [if_pos qb2]; exact h3 a qa
        · rw [if_neg qb2]
          have := h3 a qa
          have := h1 (b - 1) (by omega) (by omega)
          omega
    · rw [if_neg qa, if_neg (show ¬ b < p by omega), if_neg (show ¬ b = p by omega)]
      by_cases qa2 : a = p
      · rw [if_pos qa2]; exact h1 (b - 1) (by omega) (by omega)
      · rw [if_neg qa2]; exact a1 (a - 1) (b - 1) (by omega) (by omega)
  · unfold in_
    by_cases q : k < p
    · rw [if_pos q]
      obtain ⟨i, b1, b2, b3⟩ := a2 k (by omega)
      exact ⟨i, by omega, b2, b3⟩
    · rw [if_neg q]
      by_cases q2 : k = p
      · rw [if_pos q2]; exact ⟨j, by omega, ht, rfl⟩
      · rw [if_neg q2]
        obtain ⟨i, b1, b2, b3⟩ := a2 (k - 1) (by omega)
        exact ⟨i, by omega, b2, b3⟩
  · by_cases q : i = j
    · subst q
      refine ⟨p, by omega, ?_⟩
      unfold in_
      rw [if_neg (by omega), if_pos rfl]
    · obtain ⟨k, b1, b2⟩ := a3 i (by omega) hti
      by_cases q2 : k < p
      · exact ⟨k, by omega, by unfold in_; rw [if_pos q2]; exact b2⟩
      · refine ⟨k + 1, by omega, ?_⟩
        unfold in_
        rw [if_neg (by omega), if_neg (by omega)]
        exact b2
theorem bn_7 {β : Type} {N : Nat} (hN : N ≤ 6) {bk : Nat → Nat} {brick : Nat → Int32} (hb : fl_b N bk brick) (hi : w_inj N bk) (K : Int32 → (Nat → Int32) → (Nat → Int32) → Option β) : ∀ (m j fuel : Nat) (a ga : Nat → Int32) (g : Nat → Nat), j + m = N → m < fuel → en_ (m_ct (w_th bk) j) a (ww_ (w_th bk) j) → en_ (m_ct (w_th bk) j) ga g → sr_ bk (w_th bk) j (m_ct (w_th bk) j) g → ∃ a' ga' g', lp_X0_begin_7 (nI N) brick K fuel (nI j) (nI (m_ct (w_th bk) j)) a ga = K (nI (m_ct (w_th bk) N)) a' ga' ∧ en_ (m_ct (w_th bk) N) a' (ww_ (w_th bk) N) ∧ en_ (m_ct (w_th bk) N) ga' g' ∧ sr_ bk (w_th bk) N (m_ct (w_th bk) N) g'
  | 0, j, fuel + 1, a, ga, g, h, _, he, hg, hsr => by
    have : j = N := by omega
    subst this
    refine ⟨a, ga, g, ?_, he, hg, hsr⟩
    rw [lp_X0_begin_7, if_pos (nI_le (by omega) (by omega))]
  | m + 1, j, fuel + 1, a, ga, g, h, hf, he, hg, hsr => by
    obtain ⟨F, hF, hF2⟩ : ∃ F, F = gg_fuel ∧ 50000 ≤ F := ⟨_, rfl, pu_F⟩
    have hj : j < N := by omega
    have hcj := m_ct_le (w_th bk) j
    rw [lp_X0_begin_7, if_neg (nI_ge (by omega) (by omega)), fl_th hj hN (hb j hj).2 (hb j hj).1, Option.bind_some]
    simp only [nx_let]
    rw [nI_1]
    by_cases q : bk j = 10
    · have tf : ¬ w_th bk j = true := by unfold w_th; simp [q]
      have ec : m_ct (w_th bk) (j + 1) = m_ct (w_th bk) j := by rw [m_ct_s, if_neg tf]
      have ew : ww_ (w_th bk) (j + 1) = ww_ (w_th bk) j := by rw [ww_, if_neg tf]
      rw [if_pos q, if_pos (show nI 0 = 0 from rfl), ← ec]
      refine bn_7 hN hb hi K m (j + 1) fuel a ga g (by omega) (by omega) (by rw [ec, ew]; exact he) (by rw [ec]; exact hg) ?_
      rw [ec]
      obtain ⟨s1, s2, s3⟩ := hsr
      refine ⟨s1, fun k hk => ?_, fun i hii ht => ?_⟩
      · obtain ⟨i, b1, b2, b3⟩ := s2 k hk
        exact ⟨i, by omega, b2, b3⟩
      · by_cases y : i = j
        · subst y
          exact absurd ht tf
        · exact s3 i (by omega) ht
    · have tt : w_th bk j = true := by unfold w_th; simp [q]
      have hxb := (hb j hj).2
      have hx : bk j < 10 := by omega
      have ec : m_ct (w_th bk) (j + 1) = m_ct (w_th bk) j + 1 := by rw [m_ct_s, if_pos tt]
      have ew : ww_ (w_th bk) (j + 1) = gg_up (ww_ (w_th bk) j) (m_ct (w_th bk) j) j := by rw [ww_, if_pos tt]
      have hg10 : ∀ k, k < m_ct (w_th bk) j → g k < 10 := by
        intro k hk
        obtain ⟨i, b1, b2, b3⟩ := hsr.2.1 k hk
        have := (hb i (by omega)).2
        have b2 : bk i ≠ 10 := of_decide_eq_true b2
        omega
      obtain ⟨p, ga1, a1, a2, a3, a4, a5⟩ := is_5 (c := m_ct (w_th bk) j) (x := bk j) (by omega) hx hg10 (fun (x2_41 : Int32) (c_given_41 : Nat → Int32) => gg_chk (gg_in x2_41 6) ((some (upd c_given_41 x2_41.toNatClampNeg (nI (bk j)))))) (m_ct (w_th bk) j) F ga (Nat.le_refl _) (by omega) hg (fun k h1 h2 => by omega)
      have hins : f_X0_insert (nI (bk j)) (nI (m_ct (w_th bk) j)) ga = some (upd ga1 p (nI (bk j))) := by
        unfold f_X0_insert
        rw [← hF]
        refine Eq.trans a2 ?_
        rw [pu_in (show p < 6 by omega) (by omega), nx_chk, nI_clamp (by omega)]
      rw [if_neg q, if_neg (show ¬ nI 1 = 0 by decide), pu_in (show m_ct (w_th bk) j < 6 by omega) (by omega), nx_chk, pu_in (show j < 6 by omega) (by omega), nx_chk, nI_clamp (show j < 2 ^ 31 by omega), (hb j hj).1, nx_bI q, hins, Option.bind_some, nI_clamp (by omega), nI_1, ← ec]
      refine bn_7 hN hb hi K m (j + 1) fuel _ _ (in_ g p (bk j)) (by omega) (by omega) ?_ ?_ ?_
      · rw [ec, ew]
        intro k hk
        rw [nx_upn]
        by_cases y : k = m_ct (w_th bk) j
        · rw [if_pos y, y, pk_us]
        · rw [if_neg y, pk_un y]
          exact he k (by omega)
      · rw [ec]
        intro k hk
        unfold in_
        by_cases y : k = p
        · subst y
          rw [pk_us, if_neg (Nat.lt_irrefl _), if_pos rfl]
        · rw [pk_un y]
          by_cases y2 : k < p
          · rw [if_pos y2]
            exact a3 k y2
          · rw [if_neg y2, if_neg y]
            have := (a4 (k - 1) (by omega) (by omega)).1
            rw [show k - 1 + 1 = k by omega] at this
            exact this
      · rw [ec]
        exact sr_in hsr tt a1 (fun i hii ht e => by
          have : bk i ≠ 10 := of_decide_eq_true ht
          have := hi i j (by omega) hj e this
          omega) (fun k h1 h2 => (a4 k h1 h2).2) a5
theorem un_q {f g : Nat → Nat} {a b : Nat} (hf : ∀ i j, i < j → j < a → f i < f j) (hg : ∀ i j, i < j → j < b → g i < g j) (h1 : ∀ j, j < a → ∃ k, k < b ∧ g k = f j) (h2 : ∀ k, k < b → ∃ j, j < a ∧ f j = g k) : ∀ n j, j ≤ n → j < a → j < b ∧ f j = g j
  | n, j, hj, ha => by
    have ih : ∀ i, i < j → i < b ∧ f i = g i := fun i hi => by
      cases n with
      | zero => omega
      | succ n => exact un_q hf hg h1 h2 n i (by omega) (by omega)
    obtain ⟨k, hk, ek⟩ := h1 j ha
    have kj : j ≤ k := by
      apply Decidable.byContradiction
      intro q
      have := (ih k (by omega)).2
      have := hf k j (by omega) ha
      omega
    have hjb : j < b := by omega
    refine ⟨hjb, ?_⟩
    obtain ⟨j', hj', ej'⟩ := h2 j hjb
    have jj : j ≤ j' := by
      apply Decidable.byContradiction
      intro q
      have a1 := (ih j' (by omega)).2
      have a2 := hg j' j (by omega) hjb
      omega
    have l1 : g j ≤ g k := by
      by_cases q : j = k
      · subst q; exact Nat.le_refl _
      · exact Nat.le_of_lt (hg j k (by omega) hk)
    have l2 : f j ≤ f j' := by
      by_cases q : j = j'
      · subst q; exact Nat.le_refl _
      · exact Nat.le_of_lt (hf j j' (by omega) hj')
    omega
theorem gp_7 {β : Type} {s : Nat} (hs : s ≤ 6) {fb π : Nat → Nat} {ga : Nat → Int32} (hfb : ∀ a b, a < s → b < s → (fb a ≤ fb b ↔ a ≤ b)) (h10 : ∀ a, a < s → fb a < 10) (hπ : ∀ k, k < s → π k < s) (he : en_ s ga (fun k => fb (π k))) (K : Int32 → Option β) : ∀ (m fuel : Nat), m + 1 ≤ s → m < fuel → lp_X0_goOn_7 ga K fuel (nI m + (-1)) = K (match tn_ π m with | none => -1 | some t => nI t)
  | 0, fuel + 1, h, _ => by
    rw [lp_X0_goOn_7, if_pos (show nI 0 + (-1) < (0 : Int32) by decide)]
    rfl
  | m + 1, fuel + 1, h, hf => by
    have p1 := h10 _ (hπ m (by omega))
    have p2 := h10 _ (hπ (m + 1) (by omega))
    have pi := hfb _ _ (hπ m (by omega)) (hπ (m + 1) (by omega))
    rw [nx_m1 (show 0 < m + 1 by omega), show m + 1 - 1 = m from rfl, lp_X0_goOn_7, if_neg (nI_pos (by omega)), nI_1, pu_in (show m < 6 by omega) (by omega), pu_in (show m + 1 < 6 by omega) (by omega), nx_chk, nx_chk, nI_clamp (by omega), nI_clamp (by omega), show ga m = nI (fb (π m)) from he m (by omega), show ga (m + 1) = nI (fb (π (m + 1))) from he (m + 1) (by omega), tn_]
    by_cases q : π m ≤ π (m + 1)
    · rw [if_pos (nI_le (pi.2 q) (by omega)), if_pos q]
    · rw [if_neg (nI_ge (by have : ¬ fb (π m) ≤ fb (π (m + 1)) := fun z => q (pi.1 z); omega) (by omega)), if_neg q]
      exact gp_7 hs hfb h10 hπ he K m fuel (by omega) (by omega)
theorem gp_47 {β : Type} {s t : Nat} (hs : s ≤ 6) (ht : t < s) {fb π : Nat → Nat} {ga : Nat → Int32} (hfb : ∀ a b, a < s → b < s → (fb a ≤ fb b ↔ a ≤ b)) (h10 : ∀ a, a < s → fb a < 10) (hπ : ∀ k, k < s → π k < s) (he : en_ s ga (fun k => fb (π k))) (K : Int32 → Option β) : ∀ (x fuel : Nat), x < s → x < fuel → lp_X0_goOn_47 (nI t) ga K fuel (nI x) = K (nI (ls_ π t x))
  | 0, fuel + 1, h, _ => by
    rw [lp_X0_goOn_47, if_pos (nI_le (by omega) (by omega))]
    rfl
  | x + 1, fuel + 1, h, hf => by
    have p1 := h10 _ (hπ t ht)
    have p2 := h10 _ (hπ (x + 1) h)
    have pi := hfb _ _ (hπ t ht) (hπ (x + 1) h)
    rw [lp_X0_goOn_47, ls_]
    by_cases q : x + 1 ≤ t
    · rw [if_pos (nI_le q (by omega)), if_pos q]
    · rw [if_neg (nI_ge (by omega) (by omega)), if_neg q, pu_in (show x + 1 < 6 by omega) (by omega), pu_in (show t < 6 by omega) (by omega), nx_chk, nx_chk, nI_clamp (by omega), nI_clamp (by omega), show ga t = nI (fb (π t)) from he t ht, show ga (x + 1) = nI (fb (π (x + 1))) from he (x + 1) h]
      by_cases q2 : π t ≤ π (x + 1)
      · rw [if_pos (nI_le (pi.2 q2) (by omega)), if_pos q2]
      · rw [if_neg (nI_ge (by have : ¬ fb (π t) ≤ fb (π (x + 1)) := fun z => q2 (pi.1 z); omega) (by omega)), if_neg q2, nx_m1 (show 0 < x + 1 by omega), show x + 1 - 1 = x from rfl]
        exact gp_47 hs ht hfb h10 hπ he K x fuel (by omega) (by omega)
theorem ls_lt {π : Nat → Nat} {t : Nat} : ∀ x, ls_ π t x ≤ x
  | 0 => Nat.le_refl _
  | x + 1 => by
    have := ls_lt (π := π) (t := t) x
    rw [ls_]
    split
    · omega
    · split <;> omega
theorem sw_8 {s a b : Nat} (hs : s ≤ 6) (ha : a < s) (hb : b < s) {fb π : Nat → Nat} {ga : Nat → Int32} (he : en_ s ga (fun k => fb (π k))) : ∃ ga', f_X0_swap (nI a) (nI b) ga = some ga' ∧ en_ s ga' (fun k => fb (sp_ π a b k)) := by
  refine ⟨upd (upd ga a (ga b)) b (ga a), ?_, fun k hk => ?_⟩
  · unfold f_X0_swap
    rw [pu_in (show a < 6 by omega) (by omega), pu_in (show b < 6 by omega) (by omega), nx_chk, nx_chk, nx_chk, nx_chk, nI_clamp (by omega), nI_clamp (by omega)]
  · show _ = nI (fb (sp_ π a b k))
    unfold sp_
    rw [nx_upn, nx_upd]
    by_cases q : k = b
    · rw [if_pos q, if_pos q]
      exact he a ha
    · rw [if_neg q, if_neg q, nx_upn, nx_upd]
      by_cases q2 : k = a
      · rw [if_pos q2, if_pos q2]
        exact he b hb
      · rw [if_neg q2, if_neg q2]
        exact he k hk
theorem sp_lt {s a b : Nat} {π : Nat → Nat} (ha : a < s) (hb : b < s) (h : ∀ k, k < s → π k < s) : ∀ k, k < s → sp_ π a b k < s := by
  intro k hk
  unfold sp_
  rw [nx_upn, nx_upn]
  split
  · exact h a ha
  · split
    · exact h b hb
    · exact h k hk
theorem rv_8 {β : Type} {s : Nat} (hs : s ≤ 6) {fb : Nat → Nat} (K : (Nat → Int32) → Option β) : ∀ (f lo hi fuel : Nat) (π : Nat → Nat) (ga : Nat → Int32), hi < s → hi ≤ lo + 2 * f → f < fuel → en_ s ga (fun k => fb (π k)) → (∀ k, k < s → π k < s) → lo ≤ 100 → ∃ ga', lp_X0_goOn_91 K fuel (nI lo) (nI hi) ga = K ga' ∧ en_ s ga' (fun k => fb (rv_ f lo hi π k)) ∧ ∀ k, k < s → rv_ f lo hi π k < s
  | 0, lo, hi, fuel + 1, π, ga, h1, h2, hf, he, hπ, hl => by
    refine ⟨ga, ?_, he, hπ⟩
    rw [lp_X0_goOn_91, if_pos (nI_le (by omega) (by omega))]
  | f + 1, lo, hi, fuel + 1, π, ga, h1, h2, hf, he, hπ, hl => by
    by_cases q : hi ≤ lo
    · refine ⟨ga, ?_, ?_, ?_⟩
      · rw [lp_X0_goOn_91, if_pos (nI_le q (by omega))]
      · rw [rv_, if_pos q]
        exact he
      · rw [rv_, if_pos q]
        exact hπ
    · obtain ⟨ga1, e1, e2⟩ := sw_8 hs (show lo < s by omega) h1 he
      obtain ⟨ga2, g1, g2, g3⟩ := rv_8 hs (fb := fb) K f (lo + 1) (hi - 1) fuel (sp_ π lo hi) ga1 (by omega) (by omega) (by omega) e2 (sp_lt (by omega) h1 hπ) (by omega)
      rw [rv_, if_neg q]
      refine ⟨ga2, ?_, g2, g3⟩
      rw [lp_X0_goOn_91, if_neg (nI_ge (by omega) (by omega)), e1, Option.bind_some, nI_1, nx_m1 (show 0 < hi by omega)]
      exact g1
theorem tn_lt {π : Nat → Nat} : ∀ m t, tn_ π m = some t → t < m
  | 0, t, h => absurd h (by simp [tn_])
  | m + 1, t, h => by
    rw [tn_] at h
    by_cases q : π m ≤ π (m + 1)
    · rw [if_pos q] at h
      have := Option.some.inj h
      omega
    · rw [if_neg q] at h
      have := tn_lt m t h
      omega
theorem gpp_ {s d : Nat} (h1 : 1 ≤ s) (hs : s ≤ 6) {fb : Nat → Nat} {ga : Nat → Int32} (hfb : ∀ a b, a < s → b < s → (fb a ≤ fb b ↔ a ≤ b)) (h10 : ∀ a, a < s → fb a < 10) (he : en_ s ga (fun k => fb (rw_ s s d k))) : (nxp s d = none ∧ f_X0_goOn (nI s) ga = some (0, ga)) ∨ ∃ e ga', nxp s d = some e ∧ f_X0_goOn (nI s) ga = some (1, ga') ∧ en_ s ga' (fun k => fb (rw_ s s e k)) := by
  obtain ⟨F, hF, hF2⟩ : ∃ F, F = gg_fuel ∧ 50000 ≤ F := ⟨_, rfl, pu_F⟩
  have hπ : ∀ k, k < s → rw_ s s d k < s := fun k hk => rw_lt (by omega) s d k hk
  have e := gp_7 hs hfb h10 hπ he (fun (x1_34 : Int32) => (if (0 : Int32) ≤ x1_34 then (lp_X0_goOn_47 x1_34 ga (fun (x2_73 : Int32) => (f_X0_swap x1_34 x2_73 ga).bind (fun v1 => (lp_X0_goOn_91 (fun (c_given_113 : Nat → Int32) => (some ((1 : Int32), c_given_113))) F (x1_34 + (1 : Int32)) (nI s - (1 : Int32)) v1))) F (nI s - (1 : Int32))) else (some ((0 : Int32), ga)))) (s - 1) F (by omega) (by omega)
  have es : nI s - (2 : Int32) = nI (s - 1) + (-1) := by
    rw [← nx_sub (a := s) (b := 1) h1, Int32.sub_eq_add_neg, Int32.sub_eq_add_neg, Int32.add_assoc]
    congr 1
  have es1 : nI s - (1 : Int32) = nI (s - 1) := nx_sub (b := 1) h1
  unfold f_X0_goOn nxp np_
  rw [← hF, es, e]
  obtain ⟨O, hO⟩ : ∃ O, O = tn_ (rw_ s s d) (s - 1) := ⟨_, rfl⟩
  rw [← hO]
  cases O with
  | none =>
    left
    refine ⟨rfl, ?_⟩
    show (if (0 : Int32) ≤ -1 then _ else _) = _
    rw [if_neg (by decide)]
  | some t =>
    right
    have ht := tn_lt (s - 1) t hO.symm
    have hl := ls_lt (π := rw_ s s d) (t := t) (s - 1)
    obtain ⟨ga1, e1, e2⟩ := sw_8 hs (show t < s by omega) (show ls_ (rw_ s s d) t (s - 1) < s by omega) he
    obtain ⟨ga2, g1, g2, g3⟩ := rv_8 hs (fb := fb) (fun (c_given_113 : Nat → Int32) => (some ((1 : Int32), c_given_113))) 6 (t + 1) (s - 1) F (sp_ (rw_ s s d) t (ls_ (rw_ s s d) t (s - 1))) ga1 (by omega) (by omega) (by omega) e2 (sp_lt (by omega) (by omega) hπ) (by omega)
    refine ⟨_, ga2, rfl, ?_, ?_⟩
    · show (if (0 : Int32) ≤ nI t then _ else _) = _
      rw [if_pos (nI_pos' (by omega)), es1]
      refine Eq.trans (gp_47 hs (show t < s by omega) hfb h10 hπ he _ (s - 1) F (by omega) (by omega)) ?_
      rw [e1, Option.bind_some, nI_1]
      exact g1
    · intro k hk
      rw [g2 k hk]
      show nI (fb _) = nI (fb _)
      rw [rw_cd (by omega) s g3 k hk]
theorem tk_p {s : Nat} (hs : s ≤ 6) {y : Nat → Nat} {ga : Nat → Int32} (he : en_ s ga y) (b : Nat → Int32) : ∃ b', f_X0_takeAsBest (nI s) ga b = some b' ∧ en_ s b' y := by
  obtain ⟨F, hF, hF2⟩ : ∃ F, F = gg_fuel ∧ 50000 ≤ F := ⟨_, rfl, pu_F⟩
  have key : ∀ (m j fuel : Nat) (a : Nat → Int32), j + m = s → m < fuel → ∃ a', lp_X0_takeAsBest_2 (nI s) ga (fun x => some x) fuel (nI j) a = some a' ∧ (∀ k, k < j → a' k = a k) ∧ ∀ k, j ≤ k → k < s → a' k = nI (y k) := by
    intro m
    induction m with
    | zero =>
      intro j fuel a h hf
      obtain ⟨G, rfl⟩ : ∃ G, fuel = G + 1 := ⟨fuel - 1, by omega⟩
      refine ⟨a, ?_, fun _ _ => rfl, fun k h1 h2 => by omega⟩
      rw [lp_X0_takeAsBest_2, if_pos (nI_le (by omega) (by omega))]
    | succ m ih =>
      intro j fuel a h hf
      obtain ⟨G, rfl⟩ : ∃ G, fuel = G + 1 := ⟨fuel - 1, by omega⟩
      obtain ⟨a', e, g1, g2⟩ := ih (j + 1) G (upd a j (nI (y j))) (by omega) (by omega)
      refine ⟨a', ?_, ?_, ?_⟩
      · rw [lp_X0_takeAsBest_2, if_neg (nI_ge (by omega) (by omega)), pu_in (show j < 6 by omega) (by omega), nx_chk, nx_chk, nI_clamp (by omega), he j (by omega), nI_1]
        exact e
      · intro k hk
        rw [g1 k (by omega), pk_un (by omega)]
      · intro k h3 h4
        by_cases q : k = j
        · subst q
          rw [g1 k (by omega), pk_us]
        · exact g2 k (by omega) h4
  obtain ⟨a', e, -, g⟩ := key s 0 F b (by omega) (by omega)
  refine ⟨a', ?_, fun k hk => g k (by omega) hk⟩
  unfold f_X0_takeAsBest
  rw [← hF]
  exact e
def pA (fb who : Nat → Nat) (s d : Nat) : Nat := ca_ (fun k => fb (rw_ s s d k)) who s s
def pF (fb hm who : Nat → Nat) (s d : Nat) : Nat := cf_ (fun k => fb (rw_ s s d k)) hm who s
theorem sk_9 {β : Type} {s N : Nat} (h1 : 1 ≤ s) (hs : s ≤ 6) (hN : N ≤ 6) {fb hm who : Nat → Nat} {wa home : Nat → Int32} (hfb : ∀ a b, a < s → b < s → (fb a ≤ fb b ↔ a ≤ b)) (h10 : ∀ a, a < s → fb a < 10) (hw : ∀ j, j < s → wa j = nI (who j) ∧ who j < N) (hh : ∀ i, i < N → home i = nI (hm i) ∧ hm i < 10) (K : Int32 → Int32 → (Nat → Int32) → (Nat → Int32) → Option β) : ∀ (l : List Nat) (fuel row b A Fv : Nat) (ga be : Nat → Int32), l.length < fuel → 1 ≤ row → row + l.length < 900 → chp s l = true → (∀ d t, l = d :: t → en_ s ga (fun k => fb (rw_ s s d k))) → en_ s be (fun k => fb (rw_ s s b k)) → A ≤ 54 → Fv ≤ 54 → ∃ A' F' ga' be', lp_X0_seek_9 (nI s) wa home K fuel (match l with | [] => 0 | _ :: _ => 1) (nI row) (nI A) (nI Fv) ga be = K (nI A') (nI F') ga' be' ∧ A' ≤ 54 ∧ F' ≤ 54 ∧ (al_ (fun d => -((100 * pA fb who s d + pF fb hm who s d : Nat) : Int)) l b (-((100 * A + Fv : Nat) : Int))).2 = -((100 * A' + F' : Nat) : Int) ∧ en_ s be' (fun k => fb (rw_ s s (al_ (fun d => -((100 * pA fb who s d + pF fb hm who s d : Nat) : Int)) l b (-((100 * A + Fv : Nat) : Int))).1 k))
  | [], fuel + 1, row, b, A, Fv, ga, be, hf, hr1, hr, _, _, hb, hA, hFv => by
    have hl0 : ([] : List Nat).length = 0 := rfl
    refine ⟨A, Fv, ga, be, ?_, hA, hFv, rfl, hb⟩
    rw [lp_X0_seek_9, if_neg (show ¬ (1000 : Int32) ≤ nI row from (nI_ge (by omega) (by omega) : ¬ nI 1000 ≤ nI row)), if_pos rfl]
  | d :: l, fuel + 1, row, b, A, Fv, ga, be, hf, hr1, hr, hc, hen, hb, hA, hFv => by
    obtain ⟨F, hF, hF2⟩ : ∃ F, F = gg_fuel ∧ 50000 ≤ F := ⟨_, rfl, pu_F⟩
    have hlen : (d :: l).length = l.length + 1 := rfl
    rw [hlen] at hf hr
    have he := hen d l rfl
    have hdig : ∀ k, k < s → rw_ s s d k < s := fun k hk => rw_lt (by omega) s d k hk
    have hg : ∀ j, j < s → ga j = nI (fb (rw_ s s d j)) ∧ fb (rw_ s s d j) < 10 := fun j hj => ⟨he j hj, h10 _ (hdig j hj)⟩
    have ap : f_X0_apart (nI s) wa ga = some (nI (pA fb who s d)) := by
      unfold f_X0_apart pA
      rw [← hF]
      exact apa_8 h1 hs hN hw hg (fun x => some x) (s - 1) 0 F (by omega) (by omega)
    have fa : f_X0_far (nI s) wa ga home = some (nI (pF fb hm who s d)) := by
      unfold f_X0_far pF
      rw [← hF]
      exact far_8 hs hN hw hg hh (fun x => some x) s 0 F (by omega) (by omega)
    have bA : pA fb who s d ≤ 54 := by
      have := ca_le (who := who) (y := fun k => fb (rw_ s s d k)) s (Nat.le_refl s) (fun k hk => h10 _ (hdig k hk))
      unfold pA
      omega
    have bF : pF fb hm who s d ≤ 54 := by
      have := cf_le (hm := hm) (who := who) (y := fun k => fb (rw_ s s d k)) s (fun k hk => ⟨h10 _ (hdig k hk), (hh _ (hw k hk).2).2⟩)
      unfold pF
      omega
    obtain ⟨be1, t1, t2⟩ := tk_p hs he be
    obtain ⟨a, ha⟩ : ∃ a, a = pA fb who s d := ⟨_, rfl⟩
    obtain ⟨v, hv⟩ : ∃ v, v = pF fb hm who s d := ⟨_, rfl⟩
    rw [← ha] at ap bA
    rw [← hv] at fa bF
    rw [chp, Bool.and_eq_true] at hc
    have step : ∀ (A' F' b' : Nat) (be' : Nat → Int32), A' ≤ 54 → F' ≤ 54 → en_ s be' (fun k => fb (rw_ s s b' k)) → ∃ A2 F2 ga2 be2, gg_b2 (f_X0_goOn (nI s) ga) (fun v4_0 v4_1 => (lp_X0_seek_9 (nI s) wa home K fuel v4_0 (nI (row + 1)) (nI A') (nI F') v4_1 be')) = K (nI A2) (nI F2) ga2 be2 ∧ A2 ≤ 54 ∧ F2 ≤ 54 ∧ (al_ (fun d => -((100 * pA fb who s d + pF fb hm who s d : Nat) : Int)) l b' (-((100 * A' + F' : Nat) : Int))).2 = -((100 * A2 + F2 : Nat) : Int) ∧ en_ s be2 (fun k => fb (rw_ s s (al_ (fun d => -((100 * pA fb who s d + pF fb hm who s d : Nat) : Int)) l b' (-((100 * A' + F' : Nat) : Int))).1 k)) := by
      intro A' F' b' be' hA' hF' hbe
      rcases gpp_ h1 hs hfb h10 he with ⟨g1, g2⟩ | ⟨e, ga', g1, g2, g3⟩
      · have hl : l = [] := by
          cases l with
          | nil => rfl
          | cons e t =>
            exfalso
            have := of_decide_eq_true hc.1
            rw [g1] at this
            exact absurd (show (none : Option Nat) = some e from this) (by simp)
        subst hl
        rw [g2, nx_b2]
        exact sk_9 h1 hs hN hfb h10 hw hh K [] fuel (row + 1) b' A' F' ga be' (by show 0 < fuel; omega) (by omega) (by show row + 1 + 0 < 900; omega) rfl (fun d t h => absurd h (by simp)) hbe hA' hF'
      · cases l with
        | nil =>
          exfalso
          have := of_decide_eq_true hc.1
          rw [g1] at this
          exact absurd (show some e = none from this) (by simp)
        | cons e' t =>
          have := of_decide_eq_true hc.1
          rw [g1] at this
          have := Option.some.inj (show some e = some e' from this)
          subst this
          rw [g2, nx_b2]
          exact sk_9 h1 hs hN hfb h10 hw hh K (e :: t) fuel (row + 1) b' A' F' ga' be' (by omega) (by omega) (by omega) hc.2 (fun d2 t2 h => by
            have := (List.cons.inj h).1
            subst this
            exact g3) hbe hA' hF'
    have hst : ∀ R, (if 100 * A + Fv ≤ 100 * a + v then gg_b2 (f_X0_goOn (nI s) ga) (fun v4_0 v4_1 => (lp_X0_seek_9 (nI s) wa home K fuel v4_0 (nI (row + 1)) (nI A) (nI Fv) v4_1 be)) else gg_b2 (f_X0_goOn (nI s) ga) (fun v4_0 v4_1 => (lp_X0_seek_9 (nI s) wa home K fuel v4_0 (nI (row + 1)) (nI a) (nI v) v4_1 be1))) = R → lp_X0_seek_9 (nI s) wa home K (fuel + 1) 1 (nI row) (nI A) (nI Fv) ga be = R := by
      intro R hR
      rw [lp_X0_seek_9, if_neg (show ¬ (1000 : Int32) ≤ nI row from (nI_ge (by omega) (by omega) : ¬ nI 1000 ≤ nI row)), if_neg (show ¬ (1 : Int32) = 0 by decide), ap, fa, nI_1, t1, ← hR]
      simp only [Option.bind_some, nx_let]
      rw [if_neg (nI_n0 (show row ≠ 0 by omega) (by omega))]
      by_cases q1 : a < A
      · rw [if_pos (nI_lt q1 (by omega)), if_neg (by omega)]
      · rw [if_neg (nI_nlt (by omega) (by omega))]
        by_cases q2 : a = A
        · rw [if_pos (show nI a = nI A by rw [q2])]
          by_cases q3 : Fv ≤ v
          · rw [if_pos (nI_le q3 (by omega)), if_pos (by omega)]
          · rw [if_neg (nI_ge (by omega) (by omega)), if_neg (by omega)]
        · rw [if_neg (fun z => q2 ((nI_eq (by omega) (by omega)).1 z)), if_pos (by omega)]
    show ∃ A' F' ga' be', lp_X0_seek_9 (nI s) wa home K (fuel + 1) 1 (nI row) (nI A) (nI Fv) ga be = _ ∧ _
    rw [al_]
    by_cases q : 100 * A + Fv ≤ 100 * a + v
    · obtain ⟨A2, F2, ga2, be2, x1, x2, x3, x4, x5⟩ := step A Fv b be hA hFv hb
      rw [if_pos (show -((100 * pA fb who s d + pF fb hm who s d : Nat) : Int) ≤ -((100 * A + Fv : Nat) : Int) by rw [← ha, ← hv]; omega)]
      exact ⟨A2, F2, ga2, be2, hst _ (by rw [if_pos q]; exact x1), x2, x3, x4, x5⟩
    · obtain ⟨A2, F2, ga2, be2, x1, x2, x3, x4, x5⟩ := step a v d be1 bA bF t2
      rw [if_neg (show ¬ -((100 * pA fb who s d + pF fb hm who s d : Nat) : Int) ≤ -((100 * A + Fv : Nat) : Int) by rw [← ha, ← hv]; omega), ← ha, ← hv]
      exact ⟨A2, F2, ga2, be2, hst _ (by rw [if_neg q]; exact x1), x2, x3, x4, x5⟩
