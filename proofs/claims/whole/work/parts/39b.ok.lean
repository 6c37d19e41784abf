theorem w_p1_mono {kd : Nat → Nat} {w : Nat} : ∀ (m i fd : Nat) (st bk : Nat → Nat) (fl : List Nat), (w_p1 kd w m i fd st bk fl).1 ≤ fd ∧ (∀ j, (w_p1 kd w m i fd st bk fl).2.1 j ≤ st j) ∧ (∀ j, (w_p1 kd w m i fd st bk fl).2.2.1 j = bk j ∨ (w_p1 kd w m i fd st bk fl).2.2.1 j = 10)
  | 0, i, fd, st, bk, fl => ⟨Nat.le_refl _, fun _ => Nat.le_refl _, fun _ => Or.inl rfl⟩
  | m + 1, i, fd, st, bk, fl => by
    have hu : ∀ v, v ≤ st i → ∀ j, gg_up st i v j ≤ st j := by
      intro v hv j
      rw [nx_upn]
      split
      · rename_i h; subst h; exact hv
      · exact Nat.le_refl _
    have hb : ∀ j, gg_up bk i 10 j = bk j ∨ gg_up bk i 10 j = 10 := by
      intro j
      rw [nx_upn]
      split
      · exact Or.inr rfl
      · exact Or.inl rfl
    unfold w_p1
    split
    · exact w_p1_mono m (i + 1) fd st bk fl
    · split
      · split
        · obtain ⟨h1, h2, h3⟩ := w_p1_mono (kd := kd) (w := w) m (i + 1) (fd - 1) st bk fl
          exact ⟨by omega, h2, h3⟩
        · obtain ⟨h1, h2, h3⟩ := w_p1_mono (kd := kd) (w := w) m (i + 1) fd (gg_up st i (st i - 1)) bk fl
          exact ⟨h1, fun j => Nat.le_trans (h2 j) (hu _ (by omega) j), h3⟩
      · split
        · obtain ⟨h1, h2, h3⟩ := w_p1_mono (kd := kd) (w := w) m (i + 1) fd st (gg_up bk i 10) fl
          exact ⟨h1, h2, fun j => (h3 j).elim (fun z => by rw [z]; exact hb j) Or.inr⟩
        · obtain ⟨h1, h2, h3⟩ := w_p1_mono (kd := kd) (w := w) m (i + 1) fd (gg_up st i (st i - k_tire (kd i) w)) (gg_up bk i 10) (w_ins kd (gg_up st i (st i - k_tire (kd i) w)) i fl)
          exact ⟨h1, fun j => Nat.le_trans (h2 j) (hu _ (by omega) j), fun j => (h3 j).elim (fun z => by rw [z]; exact hb j) Or.inr⟩
theorem w_near_free {f : Nat → Bool} {p : Nat} : ∀ m far, w_near f p m far = 10 ∨ f (w_near f p m far) = true
  | 0, _ => Or.inl rfl
  | m + 1, far => by
    unfold w_near
    split
    · rename_i h
      exact Or.inr h.2
    · split
      · rename_i h
        exact Or.inr h.2
      · exact w_near_free m (far + 1)
theorem w_free_iff {bk : Nat → Nat} {b : Nat} : ∀ {N : Nat}, w_free N bk b = true ↔ ∀ i, i < N → bk i ≠ b
  | 0 => by
    unfold w_free
    simp
  | n + 1 => by
    rw [w_free_s, Bool.and_eq_true, w_free_iff, bne_iff_ne]
    constructor
    · intro h i hi
      by_cases q : i = n
      · subst q; exact h.2
      · exact h.1 i (by omega)
    · intro h
      exact ⟨fun i hi => h i (by omega), h n (by omega)⟩
def w_inj (N : Nat) (bk : Nat → Nat) : Prop := ∀ i j, i < N → j < N → bk i = bk j → bk i ≠ 10 → i = j
theorem w_inj_up {N : Nat} {bk : Nat → Nat} (h : w_inj N bk) (i r : Nat) (hr : r = 10 ∨ ∀ j, j < N → bk j ≠ r) : w_inj N (gg_up bk i r) := by
  intro a b ha hb e ne
  rw [nx_upn] at e ne
  rw [nx_upn] at e
  by_cases qa : a = i
  · by_cases qb : b = i
    · omega
    · rw [if_pos qa] at ne
      rw [if_pos qa, if_neg qb] at e
      rcases hr with hr | hr
      · exact absurd hr ne
      · exact absurd e.symm (hr b hb)
  · rw [if_neg qa] at ne
    by_cases qb : b = i
    · rw [if_neg qa, if_pos qb] at e
      rcases hr with hr | hr
      · exact absurd (e.trans hr) ne
      · exact absurd e (hr a ha)
    · rw [if_neg qa, if_neg qb] at e
      exact h a b ha hb e ne
theorem w_p2_ok {N : Nat} {kd hm : Nat → Nat} (hk : ∀ i, i < N → kd i < 6) (hh : ∀ i, i < N → hm i < 10) : ∀ (l : List Nat) (br bk : Nat → Nat), (∀ x, x ∈ l → x < N) → (∀ j, j < N → br j ≤ 9) → (∀ j, j < N → bk j ≤ 10) → w_inj N bk → (∀ j, j < N → (w_p2 N kd hm l br bk).1 j ≤ 9) ∧ (∀ j, j < N → (w_p2 N kd hm l br bk).2 j ≤ 10) ∧ w_inj N (w_p2 N kd hm l br bk).2
  | [], br, bk, hl, h1, h2, h3 => ⟨h1, h2, h3⟩
  | i :: l, br, bk, hl, h1, h2, h3 => by
    have hi : i < N := hl i (List.mem_cons_self ..)
    unfold w_p2
    apply w_p2_ok hk hh l _ _ (fun x hx => hl x (List.mem_cons_of_mem _ hx))
    · intro j hj
      rw [nx_upn]
      split
      · omega
      · exact h1 j hj
    · intro j hj
      rw [nx_upn]
      split
      · exact w_near_le _ (k_want_lt _ (hk i hi) _ (hh i hi)) _ _
      · exact h2 j hj
    · apply w_inj_up h3
      rcases w_near_free (f := w_free N bk) (p := k_want (kd i) (hm i)) 10 0 with z | z
      · exact Or.inl z
      · exact Or.inr (w_free_iff.1 z)
theorem w_win_ok {N : Nat} {kd wd : Nat → Nat} (hk : ∀ i, i < N → kd i < 6) {f : FS_} (h : fr_ok N f) : fr_ok N (w_win N kd wd f) := by
  obtain ⟨h1, h2, h3⟩ := h
  obtain ⟨g1, g2, g3⟩ := w_p1_mono (kd := kd) (w := wd (f.2.1 % 4)) N 0 f.1 f.2.2.2.1 f.2.2.2.2.2 []
  obtain ⟨p1, p2⟩ := w_p1_ok (kd := kd) (w := wd (f.2.1 % 4)) N 0 f.1 f.2.2.2.1 f.2.2.2.2.2 [] (fun x hx => absurd hx (by simp)) List.Pairwise.nil
  have hfw : w_p1 kd (wd (f.2.1 % 4)) N 0 f.1 f.2.2.2.1 f.2.2.2.2.2 [] = w_fly N kd wd f := rfl
  rw [hfw] at g1 g2 g3 p1 p2
  have hinj : w_inj N (w_fly N kd wd f).2.2.1 := by
    intro a b ha hb e ne
    have ea := (g3 a).resolve_right ne
    have eb := (g3 b).resolve_right (by rw [← e]; exact ne)
    exact h3 a b ha hb (by rw [← ea, ← eb]; exact e) (by rw [← ea]; exact ne)
  have hle : ∀ j, j < N → (w_fly N kd wd f).2.2.1 j ≤ 10 := by
    intro j hj
    rcases g3 j with z | z
    · rw [z]; exact (h2 j hj).2.2.2
    · rw [z]; omega
  obtain ⟨r1, r2, r3⟩ := w_p2_ok hk (fun i hi => (h2 i hi).1) (w_fly N kd wd f).2.2.2.reverse f.2.2.2.2.1 (w_fly N kd wd f).2.2.1 (fun x hx => by have := (p1 x (List.mem_reverse.1 hx)).1; omega) (fun j hj => (h2 j hj).2.2.1) hle hinj
  refine ⟨Nat.le_trans g1 h1, fun i hi => ⟨(h2 i hi).1, Nat.le_trans (g2 i) (h2 i hi).2.1, r1 i hi, r2 i hi⟩, r3⟩
theorem fr_dl {N : Nat} (hN : N ≤ 6) {kd wd : Nat → Nat} {c : Nat} {f : FS_} (hc : fr_cv N c) : (c = 0 ∧ fr_deed N kd wd c f = w_win N kd wd f) ∨ (∃ i, i < N ∧ c = 100 + 10 * i ∧ fr_deed N kd wd c f = (if f.2.2.2.2.2 i ≠ 10 ∧ 0 < f.1 then w_feed i f else f)) ∨ (∃ i j, i < N ∧ j < N ∧ i ≠ j ∧ c = 200 + 10 * i + j ∧ fr_deed N kd wd c f = w_sell i j f) ∨ (∃ i, i < N ∧ c = 300 + 10 * i ∧ fr_deed N kd wd c f = w_lose i f) := by
  rcases hc with rfl | ⟨i, hi, rfl⟩ | ⟨i, j, hi, hj, ne, rfl⟩ | ⟨i, hi, rfl⟩
  · left
    exact ⟨rfl, rfl⟩
  · right; left
    refine ⟨i, hi, rfl, ?_⟩
    unfold fr_deed
    rw [show (100 + 10 * i) / 100 = 1 by omega, show (100 + 10 * i) / 10 % 10 = i by omega, if_neg (show ¬ 1 = 0 by omega), if_pos rfl]
  · right; right; left
    refine ⟨i, j, hi, hj, ne, rfl, ?_⟩
    unfold fr_deed
    rw [show (200 + 10 * i + j) / 100 = 2 by omega, show (200 + 10 * i + j) / 10 % 10 = i by omega, show (200 + 10 * i + j) % 10 = j by omega, if_neg (show ¬ 2 = 0 by omega), if_neg (show ¬ 2 = 1 by omega), if_pos rfl]
  · right; right; right
    refine ⟨i, hi, rfl, ?_⟩
    unfold fr_deed
    rw [show (300 + 10 * i) / 100 = 3 by omega, show (300 + 10 * i) / 10 % 10 = i by omega, if_neg (show ¬ 3 = 0 by omega), if_neg (show ¬ 3 = 1 by omega), if_neg (show ¬ 3 = 2 by omega)]
theorem fr_deed_ok {N : Nat} (hN : N ≤ 6) {kd wd : Nat → Nat} (hk : ∀ i, i < N → kd i < 6) {c : Nat} {f : FS_} (hc : fr_cv N c) (h : fr_ok N f) : fr_ok N (fr_deed N kd wd c f) ∧ (fr_deed N kd wd c f).2.1 ≤ f.2.1 + 1 := by
  rcases fr_dl (kd := kd) (wd := wd) (f := f) hN hc with ⟨-, e⟩ | ⟨i, hi, -, e⟩ | ⟨i, j, hi, hj, ne, -, e⟩ | ⟨i, hi, -, e⟩
  · rw [e]
    exact ⟨w_win_ok hk h, Nat.le_refl _⟩
  · rw [e]
    split
    · obtain ⟨h1, h2, h3⟩ := h
      refine ⟨⟨?_, ?_, h3⟩, ?_⟩
      · show f.1 - 1 ≤ 40
        omega
      · intro a ha
        refine ⟨(h2 a ha).1, ?_, (h2 a ha).2.2⟩
        show gg_up f.2.2.2.1 i (min (f.2.2.2.1 i + 2) 9) a ≤ 9
        rw [nx_upn]
        split
        · omega
        · exact (h2 a ha).2.1
      · show f.2.1 ≤ f.2.1 + 1
        omega
    · exact ⟨h, by omega⟩
  · rw [e]
    obtain ⟨h1, h2, h3⟩ := h
    refine ⟨⟨h1, ?_, h3⟩, ?_⟩
    · intro a ha
      refine ⟨?_, (h2 a ha).2⟩
      show gg_up (gg_up f.2.2.1 i (f.2.2.1 j)) j (f.2.2.1 i) a < 10
      rw [nx_upn, nx_upn]
      split
      · exact (h2 i hi).1
      · split
        · exact (h2 j hj).1
        · exact (h2 a ha).1
    · show f.2.1 ≤ f.2.1 + 1
      omega
  · rw [e]
    obtain ⟨h1, h2, h3⟩ := h
    refine ⟨⟨h1, ?_, w_inj_up h3 i 10 (Or.inl rfl)⟩, ?_⟩
    · intro a ha
      refine ⟨(h2 a ha).1, (h2 a ha).2.1, (h2 a ha).2.2.1, ?_⟩
      show gg_up f.2.2.2.2.2 i 10 a ≤ 10
      rw [nx_upn]
      split
      · omega
      · exact (h2 a ha).2.2.2
    · show f.2.1 ≤ f.2.1 + 1
      omega
theorem fr_ch_ok {N : Nat} (hN : N ≤ 6) {kd wd : Nat → Nat} (hk : ∀ i, i < N → kd i < 6) {f0 : FS_} {cs : Nat → Nat} (h0 : fr_ok N f0) (hd : f0.2.1 = 0) : ∀ d, (∀ e, e < d → fr_cv N (cs e)) → fr_ok N (fr_ch N kd wd f0 cs d) ∧ (fr_ch N kd wd f0 cs d).2.1 ≤ d
  | 0, _ => ⟨h0, by show f0.2.1 ≤ 0; omega⟩
  | d + 1, hc => by
    obtain ⟨h1, h2⟩ := fr_ch_ok hN hk h0 hd d (fun e he => hc e (by omega))
    obtain ⟨h3, h4⟩ := fr_deed_ok (wd := wd) hN hk (hc d (by omega)) h1
    exact ⟨h3, by show (fr_deed N kd wd (cs d) (fr_ch N kd wd f0 cs d)).2.1 ≤ d + 1; omega⟩
theorem fr_ch_c {N : Nat} {kd wd : Nat → Nat} {f0 : FS_} {cs ds : Nat → Nat} : ∀ {d : Nat}, (∀ e, e < d → cs e = ds e) → fr_ch N kd wd f0 cs d = fr_ch N kd wd f0 ds d
  | 0, _ => rfl
  | d + 1, h => by rw [fr_ch, fr_ch, h d (by omega), fr_ch_c (fun e he => h e (by omega))]
theorem fr_bd_of {N : Nat} {f : FS_} (h : fr_ok N f) (hd : f.2.1 < 99) : fr_bd N f := ⟨Nat.lt_of_le_of_lt h.1 (by omega), hd, fun i hi => ⟨(h.2.1 i hi).1, Nat.lt_of_le_of_lt (h.2.1 i hi).2.1 (by omega), (h.2.1 i hi).2.2.1, (h.2.1 i hi).2.2.2⟩⟩
def nw_ (N : Nat) (kd wd : Nat → Nat) (f : FS_) (s t : ll_S) : Prop := N ≤ 6 ∧ s.1 10 = nI N ∧ t.1 2 = nI N ∧ fr_kw N kd wd (s.2.2.1 11) (s.2.2.1 10) ∧ fr_kw N kd wd (t.2.2.1 6) (t.2.2.1 7) ∧ fr_fl N f (s.1 11) (s.1 12) (s.2.2.1 12) (s.2.2.1 13) (s.2.2.1 14) (s.2.2.1 15) ∧ fr_ar N f (t.2.2.1 8) ∧ fr_ok N f ∧ f.2.1 ≤ 40
theorem rl_nw {s t : ll_S} (h : rl_fr s t) : ∃ (N : Nat) (kd wd : Nat → Nat) (f : FS_), nw_ N kd wd f s t := by
  obtain ⟨N, kd, wd, f0, cs, D, hN, ok0, hd0, hN0, e6, e10, eT2, kw1, kw2, kwt, fl0, flD, arD, e18, eT8, lg, kp⟩ := h
  obtain ⟨h1, h2⟩ := fr_ch_ok (wd := wd) hN (fun i hi => (kw1.1 i hi).1) ok0 hd0 D (fun e he => (lg.2.1 e he).2)
  exact ⟨N, kd, wd, fr_ch N kd wd f0 cs D, hN, e10, eT2, kw2, kwt, flD, arD, h1, Nat.le_trans h2 lg.1⟩
theorem fr_fl_b {N : Nat} {f : FS_} {food due : Int32} {home strength brown brick : Nat → Int32} (hf : fr_fl N f food due home strength brown brick) (ho : fr_ok N f) : fl_b N f.2.2.2.2.2 brick := fun j hj => ⟨(hf.2.2 j hj).2.2.2, (ho.2.1 j hj).2.2.2⟩
theorem fr_ar_b {N : Nat} {f : FS_} {a : Nat → Int32} (ha : fr_ar N f a) (ho : fr_ok N f) : ∀ i, i < N → a (20 + i) = k_bI (f.2.2.2.2.2 i) ∧ f.2.2.2.2.2 i ≤ 10 := fun j hj => ⟨(ha.2.2 j hj).2.2.2, (ho.2.1 j hj).2.2.2⟩
