theorem sz_up {many most : Nat} {f g : Nat → Int32} (h : rl_sz many most f g) {r : Nat} {x : Int32} (hx : x = -1 ∨ ∃ n, n ≤ most ∧ x = nI n) : rl_sz many most (upd f r x) (upd g r x) := by
  intro j hj
  by_cases q : j = r
  · subst q
    rw [pk_us, pk_us]
    exact ⟨rfl, hx⟩
  · rw [pk_un q, pk_un q]
    exact h j hj
theorem sm_tear : sim_tear Rl_ := by
  intro s t h a0
  obtain ⟨⟨hl, hf⟩, ht, hu, ⟨hm, hz, hc⟩, htx, hfr⟩ := id h
  rcases pu_ix a0 6 (by omega) with q | ⟨r, hr, rfl⟩
  · refine ⟨-1, s.1 0, s.2.2.1 0, s.2.2.1 32, -1, t.1 0, t.2.2.1 0, t.2.2.1 1, ?_, ?_, rfl, ⟨⟨hl, hf⟩, ht, hu, ⟨hm, hz, hc⟩, htx, hfr⟩⟩
    · unfold f_X8_tear
      rw [pu_rm6o q]
      rfl
    · unfold f_X9_tear
      rw [pu_isRowO q]
      rfl
  · obtain ⟨e1, e2⟩ := hz r hr
    rcases e2 with e2 | ⟨n, hn, e2⟩
    · refine ⟨-3, 1, s.2.2.1 0, upd (s.2.2.1 32) 1 (s.2.2.1 32 1 + 1), -3, 1, upd (t.2.2.1 0) 1 (t.2.2.1 0 1 + 1), t.2.2.1 1, ?_, ?_, rfl, ⟨⟨rfl, pu_up hf (by omega)⟩, ht, hu, ⟨hm, hz, hc⟩, htx, hfr⟩⟩
      · unfold f_X8_tear
        rw [pu_rm6a hr _ _ e2]
        rfl
      · unfold f_X9_tear
        rw [pu_isRow hr, pu_in hr (by omega), nI_clamp (by omega), ← e1, e2]
        rfl
    · refine ⟨1, s.1 0, upd (s.2.2.1 0) r (-1), s.2.2.1 32, 1, t.1 0, t.2.2.1 0, upd (t.2.2.1 1) r (-1), ?_, ?_, rfl, ⟨⟨hl, hf⟩, ht, hu, ⟨hm, sz_up hz (Or.inl rfl), pu_ce_z (by omega) hc r⟩, htx, hfr⟩⟩
      · unfold f_X8_tear
        rw [pu_rm6b hr _ _ (by rw [e2]; exact pu_m1 (by omega))]
        show (f_X6_drop_s6 (nI r) (s.2.2.1 0)).bind _ = _
        unfold f_X6_drop_s6
        rw [pu_kn6 hr, pu_in hr (by omega), nI_clamp (by omega)]
        rfl
      · unfold f_X9_tear
        rw [pu_isRow hr, pu_in hr (by omega), nI_clamp (by omega), ← e1, e2]
        simp only [Option.bind_some, gg_chk]
        rw [if_neg (by decide), if_pos (pu_m1n (by omega))]
theorem sm_lay : sim_lay Rl_ := by
  intro s t h a0 a1 a2
  obtain ⟨⟨hl, hf⟩, ht, hu, ⟨hm, hz, hc⟩, htx, hfr⟩ := id h
  rcases pu_ix a0 6 (by omega) with q | ⟨r, hr, rfl⟩
  · refine ⟨-1, s.1 0, s.1 1, s.2.2.2 0, s.2.2.1 32, -1, t.1 0, t.1 1, t.2.2.1 0, t.2.2.1 2, ?_, ?_, rfl, ⟨⟨hl, hf⟩, ht, hu, ⟨hm, hz, hc⟩, htx, hfr⟩⟩
    · unfold f_X8_lay
      rw [pu_rp6o q]
      rfl
    · unfold f_X9_lay
      rw [pu_isRowO q]
      rfl
  · obtain ⟨e1, e2⟩ := hz r hr
    rcases e2 with e2 | ⟨n, hn, e2⟩
    · refine ⟨-3, 1, s.1 1, s.2.2.2 0, upd (s.2.2.1 32) 1 (s.2.2.1 32 1 + 1), -3, 1, t.1 1, upd (t.2.2.1 0) 1 (t.2.2.1 0 1 + 1), t.2.2.1 2, ?_, ?_, rfl, ⟨⟨rfl, pu_up hf (by omega)⟩, ht, hu, ⟨hm, hz, hc⟩, htx, hfr⟩⟩
      · unfold f_X8_lay
        rw [pu_rp6a hr _ _ _ e2]
        rfl
      · unfold f_X9_lay
        rw [pu_isRow hr, pu_in hr (by omega), nI_clamp (by omega), ← e1, e2]
        rfl
    · have hne : ¬ s.2.2.1 0 r = -1 := by rw [e2]; exact pu_m1 (by omega)
      by_cases hb : a1 < 0 ∨ nI n ≤ a1
      · refine ⟨-3, 2, s.1 1, s.2.2.2 0, upd (s.2.2.1 32) 2 (s.2.2.1 32 2 + 1), -3, 2, t.1 1, upd (t.2.2.1 0) 2 (t.2.2.1 0 2 + 1), t.2.2.1 2, ?_, ?_, rfl, ⟨⟨rfl, pu_up hf (by omega)⟩, ht, hu, ⟨hm, hz, hc⟩, htx, hfr⟩⟩
        · unfold f_X8_lay
          rw [pu_rp6b hr _ _ _ hne (by rw [e2]; exact hb)]
          rfl
        · unfold f_X9_lay
          rw [pu_isRow hr, pu_in hr (by omega), nI_clamp (by omega), ← e1, e2, pu_inO (by rw [pu_pred (by omega)]; exact hb)]
          simp only [Option.bind_some, gg_chk]
          rw [if_neg (by decide), if_pos (pu_m1n (by omega))]
          rfl
      · obtain ⟨i, hi, rfl⟩ := pu_lt1 (n := n) (by omega) (fun z => hb (Or.inl z)) (fun z => hb (Or.inr z))
        have hcell := hc r i hr (by omega) (by rw [e2]; exact nI_lt hi (by omega))
        refine ⟨1, s.1 0, s.2.2.2 0 r i, gg_up (s.2.2.2 0) r (upd (s.2.2.2 0 r) i a2), s.2.2.1 32, 1, t.1 0, t.2.2.1 2 (40 * r + i), t.2.2.1 0, upd (t.2.2.1 2) (40 * r + i) a2, ?_, ?_, rfl, ⟨⟨hl, hf⟩, hcell, hu, ⟨hm, hz, pu_ce_up hc (by omega) a2⟩, htx, hfr⟩⟩
        · unfold f_X8_lay
          rw [pu_rp6c hr _ _ _ hne (fun z => hb (Or.inl z)) (by rw [e2]; exact fun z => hb (Or.inr z)), pu_get6 hr hn hi e2, pu_set6 hr hn hi e2]
          rfl
        · unfold f_X9_lay
          rw [pu_isRow hr, pu_in hr (by omega), nI_clamp (by omega), ← e1, e2, pu_inI (fun z => hb (Or.inl z)) (by rw [pu_pred (by omega)]; exact fun z => hb (Or.inr z)), pu_rowAt hr (by omega), show (40 : Int32) = nI 40 from rfl, pk_mul, nI_add, pu_in (show 40 * r + i < 240 by omega) (by omega), nI_clamp (by omega)]
          simp only [Option.bind_some, gg_chk]
          rw [if_neg (by decide), if_pos (pu_m1n (by omega)), if_neg (by decide)]
          rfl
theorem sm_at : sim_at Rl_ := by
  intro s t h a0 a1
  obtain ⟨⟨hl, hf⟩, ht, hu, ⟨hm, hz, hc⟩, htx, hfr⟩ := id h
  rcases pu_ix a0 6 (by omega) with q | ⟨r, hr, rfl⟩
  · refine ⟨-1, s.1 0, s.1 1, s.2.2.1 32, -1, t.1 0, t.1 1, t.2.2.1 0, ?_, ?_, rfl, ⟨⟨hl, hf⟩, ht, hu, ⟨hm, hz, hc⟩, htx, hfr⟩⟩
    · unfold f_X8_at
      rw [pu_rp6o q]
      rfl
    · unfold f_X9_at
      rw [pu_isRowO q]
      rfl
  · obtain ⟨e1, e2⟩ := hz r hr
    rcases e2 with e2 | ⟨n, hn, e2⟩
    · refine ⟨-3, 1, s.1 1, upd (s.2.2.1 32) 1 (s.2.2.1 32 1 + 1), -3, 1, t.1 1, upd (t.2.2.1 0) 1 (t.2.2.1 0 1 + 1), ?_, ?_, rfl, ⟨⟨rfl, pu_up hf (by omega)⟩, ht, hu, ⟨hm, hz, hc⟩, htx, hfr⟩⟩
      · unfold f_X8_at
        rw [pu_rp6a hr _ _ _ e2]
        rfl
      · unfold f_X9_at
        rw [pu_isRow hr, pu_in hr (by omega), nI_clamp (by omega), ← e1, e2]
        rfl
    · have hne : ¬ s.2.2.1 0 r = -1 := by rw [e2]; exact pu_m1 (by omega)
      by_cases hb : a1 < 0 ∨ nI n ≤ a1
      · refine ⟨-3, 2, s.1 1, upd (s.2.2.1 32) 2 (s.2.2.1 32 2 + 1), -3, 2, t.1 1, upd (t.2.2.1 0) 2 (t.2.2.1 0 2 + 1), ?_, ?_, rfl, ⟨⟨rfl, pu_up hf (by omega)⟩, ht, hu, ⟨hm, hz, hc⟩, htx, hfr⟩⟩
        · unfold f_X8_at
          rw [pu_rp6b hr _ _ _ hne (by rw [e2]; exact hb)]
          rfl
        · unfold f_X9_at
          rw [pu_isRow hr, pu_in hr (by omega), nI_clamp (by omega), ← e1, e2, pu_inO (by rw [pu_pred (by omega)]; exact hb)]
          simp only [Option.bind_some, gg_chk]
          rw [if_neg (by decide), if_pos (pu_m1n (by omega))]
          rfl
      · obtain ⟨i, hi, rfl⟩ := pu_lt1 (n := n) (by omega) (fun z => hb (Or.inl z)) (fun z => hb (Or.inr z))
        have hcell := hc r i hr (by omega) (by rw [e2]; exact nI_lt hi (by omega))
        refine ⟨1, s.1 0, s.2.2.2 0 r i, s.2.2.1 32, 1, t.1 0, t.2.2.1 2 (40 * r + i), t.2.2.1 0, ?_, ?_, rfl, ⟨⟨hl, hf⟩, hcell, hu, ⟨hm, hz, hc⟩, htx, hfr⟩⟩
        · unfold f_X8_at
          rw [pu_rp6c hr _ _ _ hne (fun z => hb (Or.inl z)) (by rw [e2]; exact fun z => hb (Or.inr z)), pu_get6 hr hn hi e2]
          rfl
        · unfold f_X9_at
          rw [pu_isRow hr, pu_in hr (by omega), nI_clamp (by omega), ← e1, e2, pu_inI (fun z => hb (Or.inl z)) (by rw [pu_pred (by omega)]; exact fun z => hb (Or.inr z)), pu_rowAt hr (by omega)]
          simp only [Option.bind_some, gg_chk]
          rw [if_neg (by decide), if_pos (pu_m1n (by omega))]
          rfl
