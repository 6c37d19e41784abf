theorem lo_sum6 {β γ : Type} {r n : Nat} (hr : r < 6) (hn : n ≤ 40) {z zt : Nat → Int32} {M : Nat → Nat → Int32} {g : Nat → Int32} (hz : z r = nI n) (hzt : zt r = nI n) (hc : ∀ i, i < n → M r i = g (40 * r + i)) (k : Int64 → Option β) (k' : Int64 → Option γ) : ∀ (m i fuel fuel' : Nat) (acc : Int64), i + m = n → m < fuel → m < fuel' → ∃ S, lp_X6_sum_s6_5 (nI r) z M k fuel acc (nI i) = k S ∧ lp_X9_mean_44 (nI r) zt g k' fuel' acc (nI i) = k' S
  | 0, i, fuel + 1, fuel' + 1, acc, h, _, _ => by
    refine ⟨acc, ?_, ?_⟩
    · rw [lp_X6_sum_s6_5, pu_size6 hr, hz]
      simp only [Option.bind_some]
      rw [if_pos (nI_le (by omega) (by omega))]
    · rw [lp_X9_mean_44, pu_in hr (by omega), nI_clamp (by omega), hzt]
      simp only [gg_chk]
      rw [if_pos (nI_le (by omega) (by omega))]
  | m + 1, i, fuel + 1, fuel' + 1, acc, h, hf, hf' => by
    obtain ⟨S, h1, h2⟩ := lo_sum6 hr hn hz hzt hc k k' m (i + 1) fuel fuel' (acc + (M r i).toInt64) (by omega) (by omega) (by omega)
    refine ⟨S, ?_, ?_⟩
    · rw [lp_X6_sum_s6_5, pu_size6 hr, pu_get6 hr hn (show i < n by omega) hz, hz, nI_1]
      simp only [Option.bind_some]
      rw [if_neg (nI_ge (by omega) (by omega)), h1]
    · rw [lp_X9_mean_44, pu_in hr (by omega), nI_clamp (by omega), pu_rowAt hr (show i < 40 by omega), hzt, nI_1]
      simp only [Option.bind_some, gg_chk]
      rw [if_neg (nI_ge (by omega) (by omega)), ← hc i (by omega), h2]
theorem pu_l0 {n : Nat} (h0 : 0 < n) (h : n < 2 ^ 31) : ¬ (nI n).toInt64 = 0 := by
  intro q
  rw [nI_l h] at q
  have h1 := congrArg Int64.toInt q
  rw [lN_toInt h] at h1
  have h2 : (0 : Int64).toInt = 0 := by decide
  omega
theorem sm_mean : sim_mean Rl_ := by
  intro s t h a0
  obtain ⟨⟨hl, hf⟩, ht, hu, ⟨hm, hz, hc⟩, htx, hfr⟩ := id h
  obtain ⟨F, hF, hF2⟩ : ∃ F, F = gg_fuel ∧ 50000 ≤ F := ⟨_, rfl, pu_F⟩
  rcases pu_ix a0 6 (by omega) with q | ⟨r, hr, rfl⟩
  · refine ⟨-1, s.1 0, s.1 1, s.2.2.1 32, -1, t.1 0, t.1 1, t.2.2.1 0, ?_, ?_, rfl, ⟨⟨hl, hf⟩, ht, hu, ⟨hm, hz, hc⟩, htx, hfr⟩⟩
    · unfold f_X8_mean
      rw [pu_rm6o q]
      rfl
    · unfold f_X9_mean
      rw [← hF, pu_isRowO q]
      rfl
  · obtain ⟨e1, e2⟩ := hz r hr
    rcases e2 with e2 | ⟨n, hn, e2⟩
    · refine ⟨-3, 1, s.1 1, upd (s.2.2.1 32) 1 (s.2.2.1 32 1 + 1), -3, 1, t.1 1, upd (t.2.2.1 0) 1 (t.2.2.1 0 1 + 1), ?_, ?_, rfl, ⟨⟨rfl, pu_up hf (by omega)⟩, ht, hu, ⟨hm, hz, hc⟩, htx, hfr⟩⟩
      · unfold f_X8_mean
        rw [pu_rm6a hr _ _ e2]
        rfl
      · unfold f_X9_mean
        rw [← hF, pu_isRow hr, pu_in hr (by omega), nI_clamp (by omega), ← e1, e2]
        rfl
    · have hne : ¬ s.2.2.1 0 r = -1 := by rw [e2]; exact pu_m1 (by omega)
      by_cases hn0 : n = 0
      · subst hn0
        refine ⟨-3, 4, s.1 1, upd (s.2.2.1 32) 4 (s.2.2.1 32 4 + 1), -3, 4, t.1 1, upd (t.2.2.1 0) 4 (t.2.2.1 0 4 + 1), ?_, ?_, rfl, ⟨⟨rfl, pu_up hf (by omega)⟩, ht, hu, ⟨hm, hz, hc⟩, htx, hfr⟩⟩
        · unfold f_X8_mean
          rw [pu_rm6b hr _ _ hne]
          show (f_X6_size_s6 (nI r) (s.2.2.1 0)).bind _ = _
          rw [pu_size6 hr, e2]
          rfl
        · unfold f_X9_mean
          rw [← hF, pu_isRow hr, pu_in hr (by omega), nI_clamp (by omega), ← e1, e2]
          rfl
      · obtain ⟨S, h1, h2⟩ := lo_sum6 (β := Int64) hr hn e2 (e1.symm.trans e2) (fun i hi => hc r i hr (by omega) (by rw [e2]; exact nI_lt hi (by omega))) (fun (x : Int64) => some x) (fun (x2_72 : Int64) => gg_chk (gg_in (nI r) 6) (gg_chk (!decide ((((t.2.2.1 1) (nI r).toNatClampNeg).toInt64) = 0)) (gg_b2 (f_X9_tells ((x2_72 / (((t.2.2.1 1) (nI r).toNatClampNeg).toInt64)).toInt32) (1 : Int32) (t.1 1)) (fun v3_0 v3_1 => (some (v3_0, (t.1 0), v3_1, (t.2.2.1 0))))))) n 0 F F 0 (by omega) (by omega) (by omega)
        refine ⟨1, s.1 0, (S / (nI n).toInt64).toInt32, s.2.2.1 32, 1, t.1 0, (S / (nI n).toInt64).toInt32, t.2.2.1 0, ?_, ?_, rfl, ⟨⟨hl, hf⟩, rfl, hu, ⟨hm, hz, hc⟩, htx, hfr⟩⟩
        · unfold f_X8_mean
          rw [pu_rm6b hr _ _ hne]
          show (f_X6_size_s6 (nI r) (s.2.2.1 0)).bind _ = _
          rw [pu_size6 hr, e2]
          have h3 : f_X6_sum_s6 (nI r) (s.2.2.1 0) (s.2.2.2 0) = some S := by
            unfold f_X6_sum_s6
            rw [← hF]
            exact h1
          simp only [Option.bind_some, h3]
          rw [if_pos (show (0 : Int32) < nI n from nI_lt (show 0 < n by omega) (by omega)), decide_eq_false (pu_l0 (by omega) (by omega))]
          rfl
        · unfold f_X9_mean
          rw [← hF, pu_isRow hr, show (0 : Int32) = nI 0 from rfl]
          simp only [Option.bind_some]
          rw [h2, pu_in hr (by omega), nI_clamp (by omega), ← e1, e2]
          simp only [gg_chk]
          rw [if_neg (by decide), if_pos (nI_le (by omega) (by omega)), if_neg (by rw [nI_eq (by omega) (by omega)]; exact hn0), decide_eq_false (pu_l0 (by omega) (by omega))]
          rfl
theorem pu_byte (x : Int32) : vp_nar .byte (x.toInt8.toInt32) = x.toInt8.toInt32 := by
  rw [vp_nar_byte]
  simp
theorem sm_put : sim_put Rl_ := by
  intro s t h a0 a1 a2
  obtain ⟨⟨hl, hf⟩, ht, hu, hrw, ⟨hm, hz, hc⟩, hfr⟩ := id h
  rcases pu_ix a0 4 (by omega) with q | ⟨r, hr, rfl⟩
  · refine ⟨-1, s.1 0, s.2.2.2 1, s.2.2.1 32, -1, t.1 0, t.2.2.1 0, t.2.2.1 5, ?_, ?_, rfl, ⟨⟨hl, hf⟩, ht, hu, hrw, ⟨hm, hz, hc⟩, hfr⟩⟩
    · unfold f_X8_put
      rw [pu_rp4o q]
      rfl
    · unfold f_X9_put
      rw [pu_isTextO q]
      rfl
  · obtain ⟨e1, e2⟩ := hz r hr
    rcases e2 with e2 | ⟨n, hn, e2⟩
    · refine ⟨-3, 1, s.2.2.2 1, upd (s.2.2.1 32) 1 (s.2.2.1 32 1 + 1), -3, 1, upd (t.2.2.1 0) 1 (t.2.2.1 0 1 + 1), t.2.2.1 5, ?_, ?_, rfl, ⟨⟨rfl, pu_up hf (by omega)⟩, ht, hu, hrw, ⟨hm, hz, hc⟩, hfr⟩⟩
      · unfold f_X8_put
        rw [pu_rp4a hr _ _ _ e2]
        rfl
      · unfold f_X9_put
        rw [pu_isText hr, pu_in hr (by omega), nI_clamp (by omega), ← e1, e2]
        rfl
    · have hne : ¬ s.2.2.1 1 r = -1 := by rw [e2]; exact pu_m1 (by omega)
      by_cases hb : a1 < 0 ∨ nI n ≤ a1
      · refine ⟨-3, 2, s.2.2.2 1, upd (s.2.2.1 32) 2 (s.2.2.1 32 2 + 1), -3, 2, upd (t.2.2.1 0) 2 (t.2.2.1 0 2 + 1), t.2.2.1 5, ?_, ?_, rfl, ⟨⟨rfl, pu_up hf (by omega)⟩, ht, hu, hrw, ⟨hm, hz, hc⟩, hfr⟩⟩
        · unfold f_X8_put
          rw [pu_rp4b hr _ _ _ hne (by rw [e2]; exact hb)]
          rfl
        · unfold f_X9_put
          rw [pu_isText hr, pu_in hr (by omega), nI_clamp (by omega), ← e1, e2, pu_inO (by rw [pu_pred (by omega)]; exact hb)]
          simp only [Option.bind_some, gg_chk]
          rw [if_neg (by decide), if_pos (pu_m1n (by omega))]
          rfl
      · obtain ⟨i, hi, rfl⟩ := pu_lt1 (n := n) (by omega) (fun z => hb (Or.inl z)) (fun z => hb (Or.inr z))
        have hcell := hc r i hr (by omega) (by rw [e2]; exact nI_lt hi (by omega))
        refine ⟨s.2.2.2 1 r i + 1000, s.1 0, gg_up (s.2.2.2 1) r (upd (s.2.2.2 1 r) i (a2.toInt8.toInt32)), s.2.2.1 32, 1000 + t.2.2.1 5 (60 * r + i), t.1 0, t.2.2.1 0, upd (t.2.2.1 5) (60 * r + i) (a2.toInt8.toInt32), ?_, ?_, ?_, ⟨⟨hl, hf⟩, ht, hu, hrw, ⟨hm, hz, pu_ce_up hc (by omega) _⟩, hfr⟩⟩
        · unfold f_X8_put
          rw [pu_rp4c hr _ _ _ hne (fun z => hb (Or.inl z)) (by rw [e2]; exact fun z => hb (Or.inr z)), pu_get4 hr hn hi e2, pu_set4 hr hn hi e2]
          rfl
        · unfold f_X9_put
          rw [pu_isText hr, pu_in hr (by omega), nI_clamp (by omega), ← e1, e2, pu_inI (fun z => hb (Or.inl z)) (by rw [pu_pred (by omega)]; exact fun z => hb (Or.inr z)), show (60 : Int32) = nI 60 from rfl, pk_mul, nI_add, pu_in (show 60 * r + i < 240 by omega) (by omega), nI_clamp (by omega), pu_byte]
          simp only [Option.bind_some, gg_chk]
          rw [if_neg (by decide), if_pos (pu_m1n (by omega)), if_neg (by decide)]
        · rw [hcell, Int32.add_comm]
