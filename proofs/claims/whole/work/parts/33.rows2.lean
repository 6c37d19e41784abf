theorem pu_F : 50000 ≤ gg_fuel := by
  unfold gg_fuel
  omega
theorem lo_make6 {β : Type} {r n : Nat} (hr : r < 6) (hn : n ≤ 40) (k : (Nat → Nat → Int32) → Option β) : ∀ (m i fuel : Nat) (M : Nat → Nat → Int32), i + m = n → m < fuel → ∃ M', lp_X6_make_s6_30 (nI r) (nI n) k fuel (nI i) M = k M' ∧ (∀ a j, a ≠ r → M' a j = M a j) ∧ (∀ j, j < i → M' r j = M r j) ∧ (∀ j, i ≤ j → j < n → M' r j = 0)
  | 0, i, fuel + 1, M, h, _ => by
    rw [lp_X6_make_s6_30, if_pos (nI_le (by omega) (by omega))]
    exact ⟨M, rfl, fun _ _ _ => rfl, fun _ _ => rfl, fun j h1 h2 => by omega⟩
  | m + 1, i, fuel + 1, M, h, hf => by
    rw [lp_X6_make_s6_30, if_neg (nI_ge (by omega) (by omega)), pu_in hr (by omega), pu_in (show i < 40 by omega) (by omega), nI_clamp (by omega), nI_clamp (by omega), nI_1]
    simp only [gg_chk]
    obtain ⟨M', h1, h2, h3, h4⟩ := lo_make6 hr hn k m (i + 1) fuel (gg_up M r (upd (M r) i 0)) (by omega) (by omega)
    refine ⟨M', h1, fun a j ha => ?_, fun j hj => ?_, fun j hj hj2 => ?_⟩
    · rw [h2 a j ha]
      show (if a = r then _ else M a) j = _
      rw [if_neg ha]
    · rw [h3 j (by omega)]
      show (if r = r then upd (M r) i 0 else M r) j = _
      rw [if_pos rfl, pk_un (by omega)]
    · by_cases q : j = i
      · subst q
        rw [h3 j (by omega)]
        show (if r = r then upd (M r) j 0 else M r) j = _
        rw [if_pos rfl, pk_us]
      · exact h4 j (by omega) hj2
theorem pu_make6 {r n : Nat} (hr : r < 6) (hn : n ≤ 40) (z : Nat → Int32) (M : Nat → Nat → Int32) : ∃ M', f_X6_make_s6 (nI r) (nI n) (nI 40) z M = some (upd z r (nI n), M') ∧ (∀ a j, a ≠ r → M' a j = M a j) ∧ (∀ j, j < n → M' r j = 0) := by
  unfold f_X6_make_s6
  obtain ⟨F, hF, hF2⟩ : ∃ F, F = gg_fuel ∧ 50000 ≤ F := ⟨_, rfl, pu_F⟩
  rw [← hF]
  obtain ⟨M', h1, h2, -, h4⟩ := lo_make6 hr hn (fun (c : Nat → Nat → Int32) => some (upd z (nI r).toNatClampNeg (nI n), c)) n 0 F M (by omega) (by omega)
  refine ⟨M', ?_, h2, fun j hj => h4 j (by omega) hj⟩
  rw [pu_kn6 hr, pu_in hr (by omega)]
  simp only [Option.bind_some, gg_lt, gg_chk]
  rw [if_neg (by decide), if_neg (nI_pos (by omega)), if_pos (nI_le hn (by omega)), show (0 : Int32) = nI 0 from rfl, h1, nI_clamp (by omega)]
theorem pu_mo6o {a b : Int32} (h : (a < 0 ∨ nI 6 ≤ a) ∨ ¬ b ≤ nI 40) (l : Int32) (d z : Nat → Int32) (M : Nat → Nat → Int32) : f_X8_makeOn_s6 a b l d (nI 40) z M = some (-1, l, d, z, M) := by
  unfold f_X8_makeOn_s6
  rcases pu_ix a 6 (by omega) with q | ⟨r, hr, rfl⟩
  · rw [pu_kn6o q]
    rfl
  · rw [pu_kn6 hr]
    have hb : ¬ b ≤ nI 40 := by
      rcases h with h | h
      · exfalso
        rcases h with h | h
        · exact nI_pos (by omega) h
        · exact nI_ge hr (by omega) h
      · exact h
    simp only [Option.bind_some, gg_lt]
    rw [if_neg (by decide), if_neg hb]
theorem pu_mo6a {r : Nat} (hr : r < 6) {b : Int32} (hb : b < 0) (l : Int32) (d z : Nat → Int32) (M : Nat → Nat → Int32) : f_X8_makeOn_s6 (nI r) b l d (nI 40) z M = some (-3, 5, upd d 5 (d 5 + 1), z, M) := by
  unfold f_X8_makeOn_s6
  rw [pu_kn6 hr]
  have e0 : (0 : Int32).toInt = 0 := by decide
  have e1 : (nI 40).toInt = 40 := nI_toInt (by omega)
  rw [Int32.lt_iff_toInt_lt] at hb
  simp only [Option.bind_some, gg_lt]
  rw [if_neg (by decide), if_pos (by rw [Int32.le_iff_toInt_le]; omega), if_neg (by rw [Int32.le_iff_toInt_le]; omega)]
  rfl
theorem pu_mo6b {r n : Nat} (hr : r < 6) (hn : n ≤ 40) (l : Int32) (d z : Nat → Int32) (M : Nat → Nat → Int32) : ∃ M', f_X8_makeOn_s6 (nI r) (nI n) l d (nI 40) z M = some (nI n, l, d, upd z r (nI n), M') ∧ (∀ a j, a ≠ r → M' a j = M a j) ∧ (∀ j, j < n → M' r j = 0) := by
  obtain ⟨M', h1, h2, h3⟩ := pu_make6 hr hn z M
  refine ⟨M', ?_, h2, h3⟩
  unfold f_X8_makeOn_s6
  rw [pu_kn6 hr, h1]
  simp only [Option.bind_some, gg_lt]
  rw [if_neg (by decide), if_pos (nI_le hn (by omega)), if_pos (nI_pos' (by omega))]
  rfl
theorem lo_make4 {β : Type} {r n : Nat} (hr : r < 4) (hn : n ≤ 60) (k : (Nat → Nat → Int32) → Option β) : ∀ (m i fuel : Nat) (M : Nat → Nat → Int32), i + m = n → m < fuel → ∃ M', lp_X6_make_s4_30 (nI r) (nI n) k fuel (nI i) M = k M' ∧ (∀ a j, a ≠ r → M' a j = M a j) ∧ (∀ j, j < i → M' r j = M r j) ∧ (∀ j, i ≤ j → j < n → M' r j = 0)
  | 0, i, fuel + 1, M, h, _ => by
    rw [lp_X6_make_s4_30, if_pos (nI_le (by omega) (by omega))]
    exact ⟨M, rfl, fun _ _ _ => rfl, fun _ _ => rfl, fun j h1 h2 => by omega⟩
  | m + 1, i, fuel + 1, M, h, hf => by
    rw [lp_X6_make_s4_30, if_neg (nI_ge (by omega) (by omega)), pu_in hr (by omega), pu_in (show i < 60 by omega) (by omega), nI_clamp (by omega), nI_clamp (by omega), nI_1]
    simp only [gg_chk]
    obtain ⟨M', h1, h2, h3, h4⟩ := lo_make4 hr hn k m (i + 1) fuel (gg_up M r (upd (M r) i 0)) (by omega) (by omega)
    refine ⟨M', h1, fun a j ha => ?_, fun j hj => ?_, fun j hj hj2 => ?_⟩
    · rw [h2 a j ha]
      show (if a = r then _ else M a) j = _
      rw [if_neg ha]
    · rw [h3 j (by omega)]
      show (if r = r then upd (M r) i 0 else M r) j = _
      rw [if_pos rfl, pk_un (by omega)]
    · by_cases q : j = i
      · subst q
        rw [h3 j (by omega)]
        show (if r = r then upd (M r) j 0 else M r) j = _
        rw [if_pos rfl, pk_us]
      · exact h4 j (by omega) hj2
theorem pu_make4 {r n : Nat} (hr : r < 4) (hn : n ≤ 60) (z : Nat → Int32) (M : Nat → Nat → Int32) : ∃ M', f_X6_make_s4 (nI r) (nI n) (nI 60) z M = some (upd z r (nI n), M') ∧ (∀ a j, a ≠ r → M' a j = M a j) ∧ (∀ j, j < n → M' r j = 0) := by
  unfold f_X6_make_s4
  obtain ⟨F, hF, hF2⟩ : ∃ F, F = gg_fuel ∧ 50000 ≤ F := ⟨_, rfl, pu_F⟩
  rw [← hF]
  obtain ⟨M', h1, h2, -, h4⟩ := lo_make4 hr hn (fun (c : Nat → Nat → Int32) => some (upd z (nI r).toNatClampNeg (nI n), c)) n 0 F M (by omega) (by omega)
  refine ⟨M', ?_, h2, fun j hj => h4 j (by omega) hj⟩
  rw [pu_kn4 hr, pu_in hr (by omega)]
  simp only [Option.bind_some, gg_lt, gg_chk]
  rw [if_neg (by decide), if_neg (nI_pos (by omega)), if_pos (nI_le hn (by omega)), show (0 : Int32) = nI 0 from rfl, h1, nI_clamp (by omega)]
theorem pu_mo4o {a b : Int32} (h : (a < 0 ∨ nI 4 ≤ a) ∨ ¬ b ≤ nI 60) (l : Int32) (d z : Nat → Int32) (M : Nat → Nat → Int32) : f_X8_makeOn_s4 a b l d (nI 60) z M = some (-1, l, d, z, M) := by
  unfold f_X8_makeOn_s4
  rcases pu_ix a 4 (by omega) with q | ⟨r, hr, rfl⟩
  · rw [pu_kn4o q]
    rfl
  · rw [pu_kn4 hr]
    have hb : ¬ b ≤ nI 60 := by
      rcases h with h | h
      · exfalso
        rcases h with h | h
        · exact nI_pos (by omega) h
        · exact nI_ge hr (by omega) h
      · exact h
    simp only [Option.bind_some, gg_lt]
    rw [if_neg (by decide), if_neg hb]
theorem pu_mo4a {r : Nat} (hr : r < 4) {b : Int32} (hb : b < 0) (l : Int32) (d z : Nat → Int32) (M : Nat → Nat → Int32) : f_X8_makeOn_s4 (nI r) b l d (nI 60) z M = some (-3, 5, upd d 5 (d 5 + 1), z, M) := by
  unfold f_X8_makeOn_s4
  rw [pu_kn4 hr]
  have e0 : (0 : Int32).toInt = 0 := by decide
  have e1 : (nI 60).toInt = 60 := nI_toInt (by omega)
  rw [Int32.lt_iff_toInt_lt] at hb
  simp only [Option.bind_some, gg_lt]
  rw [if_neg (by decide), if_pos (by rw [Int32.le_iff_toInt_le]; omega), if_neg (by rw [Int32.le_iff_toInt_le]; omega)]
  rfl
theorem pu_mo4b {r n : Nat} (hr : r < 4) (hn : n ≤ 60) (l : Int32) (d z : Nat → Int32) (M : Nat → Nat → Int32) : ∃ M', f_X8_makeOn_s4 (nI r) (nI n) l d (nI 60) z M = some (nI n, l, d, upd z r (nI n), M') ∧ (∀ a j, a ≠ r → M' a j = M a j) ∧ (∀ j, j < n → M' r j = 0) := by
  obtain ⟨M', h1, h2, h3⟩ := pu_make4 hr hn z M
  refine ⟨M', ?_, h2, h3⟩
  unfold f_X8_makeOn_s4
  rw [pu_kn4 hr, h1]
  simp only [Option.bind_some, gg_lt]
  rw [if_neg (by decide), if_pos (nI_le hn (by omega)), if_pos (nI_pos' (by omega))]
  rfl
theorem lo_row9 {β : Type} {r : Nat} (hr : r < 6) (k : (Nat → Int32) → Option β) : ∀ (m i fuel : Nat) (g : Nat → Int32), i + m = 40 → m < fuel → ∃ g', lp_X9_row_34 (nI r) k fuel (nI i) g = k g' ∧ (∀ j, j < 40 * r + i ∨ 40 * r + 40 ≤ j → g' j = g j) ∧ (∀ j, i ≤ j → j < 40 → g' (40 * r + j) = 0)
  | 0, i, fuel + 1, g, h, _ => by
    rw [lp_X9_row_34, if_pos (show (40 : Int32) ≤ nI i from (nI_le (by omega) (by omega) : nI 40 ≤ nI i))]
    exact ⟨g, rfl, fun _ _ => rfl, fun j h1 h2 => by omega⟩
  | m + 1, i, fuel + 1, g, h, hf => by
    rw [lp_X9_row_34, if_neg (show ¬ (40 : Int32) ≤ nI i from (nI_ge (by omega) (by omega) : ¬ nI 40 ≤ nI i)), show (40 : Int32) = nI 40 from rfl, pk_mul, nI_add, pu_in (show 40 * r + i < 240 by omega) (by omega), nI_clamp (by omega), nI_1]
    simp only [gg_chk]
    obtain ⟨g', h1, h2, h3⟩ := lo_row9 hr k m (i + 1) fuel (upd g (40 * r + i) 0) (by omega) (by omega)
    refine ⟨g', h1, fun j hj => ?_, fun j hj hj2 => ?_⟩
    · rw [h2 j (by omega), pk_un (by omega)]
    · by_cases q : j = i
      · subst q
        rw [h2 _ (by omega), pk_us]
      · exact h3 j (by omega) hj2
theorem sm_row : sim_row Rl_ := by
  intro s t h a0 a1
  obtain ⟨⟨hl, hf⟩, ht, hu, ⟨hm, hz, hc⟩, htx, hfr⟩ := id h
  have e0 : (0 : Int32).toInt = 0 := by decide
  have e40 : (40 : Int32).toInt = 40 := by decide
  by_cases q : (a0 < 0 ∨ nI 6 ≤ a0) ∨ ¬ a1 ≤ nI 40
  · refine ⟨-1, s.1 0, s.2.2.1 0, s.2.2.2 0, s.2.2.1 32, -1, t.1 0, t.2.2.1 0, t.2.2.1 1, t.2.2.1 2, ?_, ?_, rfl, ⟨⟨hl, hf⟩, ht, hu, ⟨hm, hz, hc⟩, htx, hfr⟩⟩
    · unfold f_X8_row
      rw [hm, pu_mo6o q]
      rfl
    · unfold f_X9_row
      generalize gg_fuel = F
      rcases pu_ix a0 6 (by omega) with q2 | ⟨r, hr, rfl⟩
      · rw [pu_isRowO q2]
        rfl
      · have hb : ¬ a1 ≤ nI 40 := by
          rcases q with q | q
          · exfalso
            rcases q with q | q
            · exact nI_pos (by omega) q
            · exact nI_ge hr (by omega) q
          · exact q
        rw [pu_isRow hr]
        simp only [Option.bind_some, gg_lt]
        rw [if_neg (by decide), if_neg (show ¬ a1 ≤ 40 from hb)]
  · rcases pu_ix a0 6 (by omega) with q2 | ⟨r, hr, rfl⟩
    · exact absurd (Or.inl q2) q
    have hb : a1 ≤ nI 40 := Decidable.byContradiction fun z => q (Or.inr z)
    by_cases hn : a1 < 0
    · refine ⟨-3, 5, s.2.2.1 0, s.2.2.2 0, upd (s.2.2.1 32) 5 (s.2.2.1 32 5 + 1), -3, 5, upd (t.2.2.1 0) 5 (t.2.2.1 0 5 + 1), t.2.2.1 1, t.2.2.1 2, ?_, ?_, rfl, ⟨⟨rfl, pu_up hf (by omega)⟩, ht, hu, ⟨hm, hz, hc⟩, htx, hfr⟩⟩
      · unfold f_X8_row
        rw [hm, pu_mo6a hr hn]
        rfl
      · unfold f_X9_row
        generalize gg_fuel = F
        rw [pu_isRow hr]
        simp only [Option.bind_some, gg_lt]
        rw [if_neg (by decide), if_pos (show a1 ≤ 40 from hb), if_neg (by rw [Int32.le_iff_toInt_le]; rw [Int32.lt_iff_toInt_lt] at hn; omega)]
        rfl
    · obtain ⟨n, hn40, rfl⟩ := nI_of2 (M := nI 40) (n := 40) (nI_toInt (by omega)) hn hb
      obtain ⟨M', h1, h2, h3⟩ := pu_mo6b hr hn40 (s.1 0) (s.2.2.1 32) (s.2.2.1 0) (s.2.2.2 0)
      obtain ⟨F, hF, hF2⟩ : ∃ F, F = gg_fuel ∧ 50000 ≤ F := ⟨_, rfl, pu_F⟩
      obtain ⟨g', g1, g2, g3⟩ := lo_row9 hr (fun (c : Nat → Int32) => some (nI n, t.1 0, t.2.2.1 0, upd (t.2.2.1 1) (nI r).toNatClampNeg (nI n), c)) 40 0 F (t.2.2.1 2) (by omega) (by omega)
      refine ⟨nI n, s.1 0, upd (s.2.2.1 0) r (nI n), M', s.2.2.1 32, nI n, t.1 0, t.2.2.1 0, upd (t.2.2.1 1) r (nI n), g', ?_, ?_, rfl, ⟨⟨hl, hf⟩, ht, hu, ⟨hm, sz_up hz (Or.inr ⟨n, hn40, rfl⟩), ?_⟩, htx, hfr⟩⟩
      · unfold f_X8_row
        rw [hm, h1]
        rfl
      · unfold f_X9_row
        rw [← hF, pu_isRow hr, pu_in hr (by omega)]
        simp only [Option.bind_some, gg_lt, gg_chk]
        rw [if_neg (by decide), if_pos (show nI n ≤ 40 from hb), if_pos (nI_pos' (by omega)), show (0 : Int32) = nI 0 from rfl, g1, nI_clamp (by omega)]
      · show rl_ce 6 40 (upd (s.2.2.1 0) r (nI n)) M' g'
        intro a i ha hi hzi
        by_cases q3 : a = r
        · subst q3
          rw [pk_us] at hzi
          have hin : i < n := (nI_ltI (by omega) (by omega)).mp hzi
          rw [h3 i hin, g3 i (by omega) hi]
        · rw [pk_un q3] at hzi
          rw [h2 a i q3, g2 (40 * a + i) (by omega)]
          exact hc a i ha hi hzi
