theorem lo_text8 {β : Type} {r n : Nat} (hr : r < 4) (hn : n ≤ 60) {z : Nat → Int32} (hz : z r = nI n) (k : (Nat → Nat → Int32) → Option β) : ∀ (m i fuel : Nat) (M : Nat → Nat → Int32), i + m = n → m < fuel → ∃ M', lp_X8_text_14 (nI r) (nI n) z k fuel (nI i) M = k M' ∧ (∀ a j, a ≠ r → M' a j = M a j) ∧ (∀ j, j < i → M' r j = M r j) ∧ (∀ j, i ≤ j → j < n → M' r j = 32)
  | 0, i, fuel + 1, M, h, _ => by
    rw [lp_X8_text_14, if_pos (nI_le (by omega) (by omega))]
    exact ⟨M, rfl, fun _ _ _ => rfl, fun _ _ => rfl, fun j h1 h2 => by omega⟩
  | m + 1, i, fuel + 1, M, h, hf => by
    rw [lp_X8_text_14, if_neg (nI_ge (by omega) (by omega)), pu_set4 hr hn (show i < n by omega) hz, nI_1]
    simp only [Option.bind_some]
    obtain ⟨M', h1, h2, h3, h4⟩ := lo_text8 hr hn hz k m (i + 1) fuel (gg_up M r (upd (M r) i 32)) (by omega) (by omega)
    refine ⟨M', h1, fun a j ha => ?_, fun j hj => ?_, fun j hj hj2 => ?_⟩
    · rw [h2 a j ha]
      show (if a = r then _ else M a) j = _
      rw [if_neg ha]
    · rw [h3 j (by omega)]
      show (if r = r then upd (M r) i 32 else M r) j = _
      rw [if_pos rfl, pk_un (by omega)]
    · by_cases q : j = i
      · subst q
        rw [h3 j (by omega)]
        show (if r = r then upd (M r) j 32 else M r) j = _
        rw [if_pos rfl, pk_us]
      · exact h4 j (by omega) hj2
theorem lo_text9 {β : Type} {r : Nat} (hr : r < 4) (k : (Nat → Int32) → Option β) : ∀ (m i fuel : Nat) (g : Nat → Int32), i + m = 60 → m < fuel → ∃ g', lp_X9_text_34 (nI r) k fuel (nI i) g = k g' ∧ (∀ j, j < 60 * r + i ∨ 60 * r + 60 ≤ j → g' j = g j) ∧ (∀ j, i ≤ j → j < 60 → g' (60 * r + j) = 32)
  | 0, i, fuel + 1, g, h, _ => by
    rw [lp_X9_text_34, if_pos (show (60 : Int32) ≤ nI i from (nI_le (by omega) (by omega) : nI 60 ≤ nI i))]
    exact ⟨g, rfl, fun _ _ => rfl, fun j h1 h2 => by omega⟩
  | m + 1, i, fuel + 1, g, h, hf => by
    rw [lp_X9_text_34, if_neg (show ¬ (60 : Int32) ≤ nI i from (nI_ge (by omega) (by omega) : ¬ nI 60 ≤ nI i)), show (60 : Int32) = nI 60 from rfl, pk_mul, nI_add, pu_in (show 60 * r + i < 240 by omega) (by omega), nI_clamp (by omega), nI_1, show vp_nar .byte (32 : Int32) = 32 from rfl]
    simp only [gg_chk]
    obtain ⟨g', h1, h2, h3⟩ := lo_text9 hr k m (i + 1) fuel (upd g (60 * r + i) 32) (by omega) (by omega)
    refine ⟨g', h1, fun j hj => ?_, fun j hj hj2 => ?_⟩
    · rw [h2 j (by omega), pk_un (by omega)]
    · by_cases q : j = i
      · subst q
        rw [h2 _ (by omega), pk_us]
      · exact h3 j (by omega) hj2
theorem lo_text8n {β : Type} (a b : Int32) (hb : b < 0) (z : Nat → Int32) (k : (Nat → Nat → Int32) → Option β) (F : Nat) (hF : 1 ≤ F) (M : Nat → Nat → Int32) : lp_X8_text_14 a b z k F 0 M = k M := by
  cases F with
  | zero => omega
  | succ F =>
    rw [lp_X8_text_14, if_pos (by
      rw [Int32.le_iff_toInt_le]
      rw [Int32.lt_iff_toInt_lt] at hb
      omega)]
theorem sm_text : sim_text Rl_ := by
  intro s t h a0 a1
  obtain ⟨⟨hl, hf⟩, ht, hu, hrw, ⟨hm, hz, hc⟩, hfr⟩ := id h
  have e0 : (0 : Int32).toInt = 0 := by decide
  have e60 : (60 : Int32).toInt = 60 := by decide
  obtain ⟨F, hF, hF2⟩ : ∃ F, F = gg_fuel ∧ 50000 ≤ F := ⟨_, rfl, pu_F⟩
  by_cases q : (a0 < 0 ∨ nI 4 ≤ a0) ∨ ¬ a1 ≤ nI 60
  · refine ⟨-1, s.1 0, s.2.2.1 1, s.2.2.2 1, s.2.2.1 32, -1, t.1 0, t.2.2.1 0, t.2.2.1 4, t.2.2.1 5, ?_, ?_, rfl, ⟨⟨hl, hf⟩, ht, hu, hrw, ⟨hm, hz, hc⟩, hfr⟩⟩
    · unfold f_X8_text
      rw [hm, pu_mo4o q, ← hF]
      show lp_X8_text_14 a0 (-1) _ _ F 0 _ = _
      rw [lo_text8n _ _ (by decide) _ _ F (by omega)]
    · unfold f_X9_text
      rw [← hF]
      rcases pu_ix a0 4 (by omega) with q2 | ⟨r, hr, rfl⟩
      · rw [pu_isTextO q2]
        rfl
      · have hb : ¬ a1 ≤ nI 60 := by
          rcases q with q | q
          · exfalso
            rcases q with q | q
            · exact nI_pos (by omega) q
            · exact nI_ge hr (by omega) q
          · exact q
        rw [pu_isText hr]
        simp only [Option.bind_some, gg_lt]
        rw [if_neg (by decide), if_neg (show ¬ a1 ≤ 60 from hb)]
  · rcases pu_ix a0 4 (by omega) with q2 | ⟨r, hr, rfl⟩
    · exact absurd (Or.inl q2) q
    have hb : a1 ≤ nI 60 := Decidable.byContradiction fun z => q (Or.inr z)
    by_cases hn : a1 < 0
    · refine ⟨-3, 5, s.2.2.1 1, s.2.2.2 1, upd (s.2.2.1 32) 5 (s.2.2.1 32 5 + 1), -3, 5, upd (t.2.2.1 0) 5 (t.2.2.1 0 5 + 1), t.2.2.1 4, t.2.2.1 5, ?_, ?_, rfl, ⟨⟨rfl, pu_up hf (by omega)⟩, ht, hu, hrw, ⟨hm, hz, hc⟩, hfr⟩⟩
      · unfold f_X8_text
        rw [hm, pu_mo4a hr hn, ← hF]
        show lp_X8_text_14 (nI r) (-3) _ _ F 0 _ = _
        rw [lo_text8n _ _ (by decide) _ _ F (by omega)]
      · unfold f_X9_text
        rw [← hF, pu_isText hr]
        simp only [Option.bind_some, gg_lt]
        rw [if_neg (by decide), if_pos (show a1 ≤ 60 from hb), if_neg (by rw [Int32.le_iff_toInt_le]; rw [Int32.lt_iff_toInt_lt] at hn; omega)]
        rfl
    · obtain ⟨n, hn40, rfl⟩ := nI_of2 (M := nI 60) (n := 60) (nI_toInt (by omega)) hn hb
      obtain ⟨M1, h1, h2, -⟩ := pu_mo4b hr hn40 (s.1 0) (s.2.2.1 32) (s.2.2.1 1) (s.2.2.2 1)
      obtain ⟨M', m1, m2, -, m4⟩ := lo_text8 (z := upd (s.2.2.1 1) r (nI n)) hr hn40 pk_us (fun (c : Nat → Nat → Int32) => some (nI n, s.1 0, upd (s.2.2.1 1) r (nI n), c, s.2.2.1 32)) n 0 F M1 (by omega) (by omega)
      obtain ⟨g', g1, g2, g3⟩ := lo_text9 hr (fun (c : Nat → Int32) => some (nI n, t.1 0, t.2.2.1 0, upd (t.2.2.1 4) (nI r).toNatClampNeg (nI n), c)) 60 0 F (t.2.2.1 5) (by omega) (by omega)
      refine ⟨nI n, s.1 0, upd (s.2.2.1 1) r (nI n), M', s.2.2.1 32, nI n, t.1 0, t.2.2.1 0, upd (t.2.2.1 4) r (nI n), g', ?_, ?_, rfl, ⟨⟨hl, hf⟩, ht, hu, hrw, ⟨hm, sz_up hz (Or.inr ⟨n, hn40, rfl⟩), ?_⟩, hfr⟩⟩
      · unfold f_X8_text
        rw [hm, h1, ← hF]
        exact m1
      · unfold f_X9_text
        rw [← hF, pu_isText hr, pu_in hr (by omega)]
        simp only [Option.bind_some, gg_lt, gg_chk]
        rw [if_neg (by decide), if_pos (show nI n ≤ 60 from hb), if_pos (nI_pos' (by omega)), show (0 : Int32) = nI 0 from rfl, g1, nI_clamp (by omega)]
      · show rl_ce 4 60 (upd (s.2.2.1 1) r (nI n)) M' g'
        intro a i ha hi hzi
        by_cases q3 : a = r
        · subst q3
          rw [pk_us] at hzi
          have hin : i < n := (nI_ltI (by omega) (by omega)).mp hzi
          rw [m4 i (by omega) hin, g3 i (by omega) hi]
        · rw [pk_un q3] at hzi
          rw [m2 a i q3, h2 a i q3, g2 (60 * a + i) (by omega)]
          exact hc a i ha hi hzi
