theorem pu_hr6a {r p : Nat} (hr : r < 6) (hp : p ≤ 40) {z : Nat → Int32} (hz : z r = nI p) {i c : Nat} (h : i + c ≤ p) : f_X6_holdsRun_s6 (nI r) (nI i) (nI c) z = some 1 := by
  unfold f_X6_holdsRun_s6
  rw [pu_has6b hr (by rw [hz]; exact pu_m1 (by omega)), pu_in hr (by omega), nI_clamp (by omega), hz, pk_sub (show c ≤ p by omega)]
  simp only [Option.bind_some, gg_lt, gg_chk]
  rw [if_neg (by decide), if_neg (nI_pos (by omega)), if_neg (nI_pos (by omega)), if_neg (nI_nlt (by omega) (by omega)), if_neg (nI_nlt (by omega) (by omega))]
  rfl
theorem pu_hr6b {r p : Nat} (hr : r < 6) (hp : p ≤ 40) {z : Nat → Int32} (hz : z r = nI p) {a : Int32} {c : Nat} (hc : c < 2 ^ 31) (h : a < 0 ∨ ∃ i, i < 2 ^ 31 ∧ a = nI i ∧ p < i + c) : f_X6_holdsRun_s6 (nI r) a (nI c) z = some 0 := by
  unfold f_X6_holdsRun_s6
  rw [pu_has6b hr (by rw [hz]; exact pu_m1 (by omega)), pu_in hr (by omega), nI_clamp (by omega), hz]
  simp only [Option.bind_some, gg_lt, gg_chk]
  rw [if_neg (by decide), if_neg (nI_pos hc)]
  rcases h with h | ⟨i, hi, rfl, h⟩
  · rw [if_pos h]
    rfl
  · rw [if_neg (nI_pos hi)]
    by_cases q : p < c
    · rw [if_pos (nI_lt q hc)]
      rfl
    · rw [if_neg (nI_nlt (by omega) (by omega)), pk_sub (show c ≤ p by omega), if_pos (nI_lt (by omega) (by omega))]
      rfl
theorem pu_lc {i c p : Nat} (hi : i < 2 ^ 31) (hc : c < 2 ^ 31) (hp : p ≤ 40) : (lg_cmp ((nI i).toInt64 + (nI c).toInt64) ((nI p).toInt64) ≤ 0) ↔ i + c ≤ p := by
  rw [lg_cmp_le, nI_l hi, nI_l hc, nI_l (by omega), lN_add, Int64.le_iff_toInt_le]
  have h1 : (lN (i + c)).toInt = ((i + c : Nat) : Int) := Int64.toInt_ofNat_of_lt (by omega)
  have h2 : (lN p).toInt = ((p : Nat) : Int) := Int64.toInt_ofNat_of_lt (by omega)
  rw [h1, h2]
  omega
theorem pu_lcg {i c p : Nat} (hi : i < 2 ^ 31) (hc : c < 2 ^ 31) (hp : p ≤ 40) : (0 < lg_cmp ((nI i).toInt64 + (nI c).toInt64) ((nI p).toInt64)) ↔ ¬ i + c ≤ p := by
  rw [← pu_lc hi hc hp, Int32.lt_iff_toInt_lt, Int32.le_iff_toInt_le]
  omega
theorem lo_cp1 {β : Type} {r i c : Nat} (hr : r < 6) (hic : i + c ≤ 40) (g : Nat → Int32) (k : (Nat → Int32) → Option β) : ∀ (m x fuel : Nat) (u : Nat → Int32), x + m = c → m < fuel → ∃ u', lp_X9_copy_104 (nI r) (nI i) (nI c) g k fuel (nI x) u = k u' ∧ (∀ j, j < x → u' j = u j) ∧ (∀ j, x ≤ j → j < c → u' j = g (40 * r + (i + j)))
  | 0, x, fuel + 1, u, h, _ => by
    rw [lp_X9_copy_104, if_pos (nI_le (by omega) (by omega))]
    exact ⟨u, rfl, fun _ _ => rfl, fun j h1 h2 => by omega⟩
  | m + 1, x, fuel + 1, u, h, hf => by
    rw [lp_X9_copy_104, if_neg (nI_ge (by omega) (by omega)), nI_add, pu_rowAt hr (show i + x < 40 by omega), pu_in (show x < 40 by omega) (by omega), nI_clamp (by omega), nI_1]
    simp only [Option.bind_some, gg_chk]
    obtain ⟨u', h1, h2, h3⟩ := lo_cp1 hr hic g k m (x + 1) fuel (upd u x (g (40 * r + (i + x)))) (by omega) (by omega)
    refine ⟨u', h1, fun j hj => ?_, fun j hj hj2 => ?_⟩
    · rw [h2 j (by omega), pk_un (by omega)]
    · by_cases q : j = x
      · subst q
        rw [h2 j (by omega), pk_us]
      · exact h3 j (by omega) hj2
theorem lo_cp2 {β : Type} {r i c : Nat} (hr : r < 6) (hic : i + c ≤ 40) (u : Nat → Int32) (k : (Nat → Int32) → Option β) : ∀ (m x fuel : Nat) (g : Nat → Int32), x + m = c → m < fuel → ∃ g', lp_X9_copy_136 (nI r) (nI i) (nI c) u k fuel (nI x) g = k g' ∧ (∀ j, j < 40 * r + i + x ∨ 40 * r + i + c ≤ j → g' j = g j) ∧ (∀ j, x ≤ j → j < c → g' (40 * r + i + j) = u j)
  | 0, x, fuel + 1, g, h, _ => by
    rw [lp_X9_copy_136, if_pos (nI_le (by omega) (by omega))]
    exact ⟨g, rfl, fun _ _ => rfl, fun j h1 h2 => by omega⟩
  | m + 1, x, fuel + 1, g, h, hf => by
    rw [lp_X9_copy_136, if_neg (nI_ge (by omega) (by omega)), show (40 : Int32) = nI 40 from rfl, pk_mul, nI_add, nI_add, pu_in (show x < 40 by omega) (by omega), pu_in (show 40 * r + i + x < 240 by omega) (by omega), nI_clamp (by omega), nI_clamp (by omega), nI_1]
    simp only [gg_chk]
    obtain ⟨g', h1, h2, h3⟩ := lo_cp2 hr hic u k m (x + 1) fuel (upd g (40 * r + i + x) (u x)) (by omega) (by omega)
    refine ⟨g', h1, fun j hj => ?_, fun j hj hj2 => ?_⟩
    · rw [h2 j (by omega), pk_un (by omega)]
    · by_cases q : j = x
      · subst q
        rw [h2 _ (by omega), pk_us]
      · exact h3 j (by omega) hj2
theorem pu_cpk {i j c : Nat} (h1 : i + c ≤ 40) (h2 : j + c ≤ 40) : gg_cpk (nI i) (nI j) (nI c) 40 40 = true := by
  unfold gg_cpk
  rw [nI_clamp (by omega), nI_clamp (by omega), nI_clamp (by omega)]
  simp only [Bool.and_eq_true, decide_eq_true_eq]
  exact ⟨⟨⟨⟨nI_pos' (by omega), nI_pos' (by omega)⟩, nI_pos' (by omega)⟩, h1⟩, h2⟩
theorem pu_sg (a : Int32) : a < 0 ∨ ∃ i, i < 2 ^ 31 ∧ a = nI i := by
  by_cases h : a < 0
  · exact Or.inl h
  · obtain ⟨j, hj, e⟩ := nI_of h
    exact Or.inr ⟨j, hj, e⟩
theorem sm_copy : sim_copy Rl_ := by
  intro s t h a0 a1 a2 a3 a4
  obtain ⟨⟨hl, hf⟩, ht, hu, ⟨hm, hz, hc⟩, htx, hfr⟩ := id h
  obtain ⟨F, hF, hF2⟩ : ∃ F, F = gg_fuel ∧ 50000 ≤ F := ⟨_, rfl, pu_F⟩
  unfold f_X8_copy f_X9_copy
  rw [← hF]
  rcases pu_ix a0 6 (by omega) with q | ⟨r, hr, rfl⟩
  · rw [pu_kn6o q, pu_isRowO q]
    exact ⟨-1, s.1 0, s.2.2.2 0, s.2.2.1 32, -1, t.1 0, t.2.2.1 0, t.2.2.1 2, t.2.2.1 3, rfl, rfl, rfl, ⟨⟨hl, hf⟩, ht, hu, ⟨hm, hz, hc⟩, htx, hfr⟩⟩
  rcases pu_ix a2 6 (by omega) with q | ⟨w, hw, rfl⟩
  · rw [pu_kn6 hr, pu_isRow hr, pu_kn6o q, pu_isRowO q]
    exact ⟨-1, s.1 0, s.2.2.2 0, s.2.2.1 32, -1, t.1 0, t.2.2.1 0, t.2.2.1 2, t.2.2.1 3, rfl, rfl, rfl, ⟨⟨hl, hf⟩, ht, hu, ⟨hm, hz, hc⟩, htx, hfr⟩⟩
  rw [pu_kn6 hr, pu_isRow hr, pu_kn6 hw, pu_isRow hw, pu_in hr (by omega), pu_in hw (by omega), nI_clamp (show r < 2 ^ 31 by omega), nI_clamp (show w < 2 ^ 31 by omega)]
  simp only [Option.bind_some, gg_lt, gg_chk]
  rw [if_neg (show ¬ (1 : Int32) = 0 by decide), if_neg (show ¬ (1 : Int32) = 0 by decide), if_neg (show ¬ (1 : Int32) = 0 by decide), if_neg (show ¬ (1 : Int32) = 0 by decide)]
  rcases pu_sg a4 with q4 | ⟨c, hcc, rfl⟩
  · have q5 : ¬ (0 : Int32) ≤ a4 := by
      rw [Int32.le_iff_toInt_le]
      rw [Int32.lt_iff_toInt_lt] at q4
      omega
    rw [if_neg q5, if_neg q5]
    exact ⟨-3, 5, s.2.2.2 0, upd (s.2.2.1 32) 5 (s.2.2.1 32 5 + 1), -3, 5, upd (t.2.2.1 0) 5 (t.2.2.1 0 5 + 1), t.2.2.1 2, t.2.2.1 3, rfl, rfl, rfl, ⟨⟨rfl, pu_up hf (by omega)⟩, ht, hu, ⟨hm, hz, hc⟩, htx, hfr⟩⟩
  rw [if_pos (nI_pos' hcc), if_pos (nI_pos' hcc)]
  obtain ⟨e1, e2⟩ := hz r hr
  obtain ⟨d1, d2⟩ := hz w hw
  rcases e2 with e2 | ⟨p, hp, e2⟩
  · rw [pu_has6a hr e2, ← e1, e2]
    exact ⟨-3, 1, s.2.2.2 0, upd (s.2.2.1 32) 1 (s.2.2.1 32 1 + 1), -3, 1, upd (t.2.2.1 0) 1 (t.2.2.1 0 1 + 1), t.2.2.1 2, t.2.2.1 3, rfl, rfl, rfl, ⟨⟨rfl, pu_up hf (by omega)⟩, ht, hu, ⟨hm, hz, hc⟩, htx, hfr⟩⟩
  rw [pu_has6b hr (by rw [e2]; exact pu_m1 (by omega)), ← e1, e2]
  simp only [Option.bind_some]
  rw [if_neg (show ¬ (1 : Int32) = 0 by decide), if_neg (nI_pos (show p < 2 ^ 31 by omega))]
  rcases d2 with d2 | ⟨v, hv, d2⟩
  · rw [pu_has6a hw d2, ← d1, d2]
    exact ⟨-3, 1, s.2.2.2 0, upd (s.2.2.1 32) 1 (s.2.2.1 32 1 + 1), -3, 1, upd (t.2.2.1 0) 1 (t.2.2.1 0 1 + 1), t.2.2.1 2, t.2.2.1 3, rfl, rfl, rfl, ⟨⟨rfl, pu_up hf (by omega)⟩, ht, hu, ⟨hm, hz, hc⟩, htx, hfr⟩⟩
  rw [pu_has6b hw (by rw [d2]; exact pu_m1 (by omega)), ← d1, d2]
  simp only [Option.bind_some]
  rw [if_neg (show ¬ (1 : Int32) = 0 by decide), if_pos (nI_pos' (show v < 2 ^ 31 by omega))]
  have hbey : Rl_ (nH_copy s 2 (s.2.2.2 0) (upd (s.2.2.1 32) 2 (s.2.2.1 32 2 + 1))) (nR_copy t 2 (upd (t.2.2.1 0) 2 (t.2.2.1 0 2 + 1)) (t.2.2.1 2) (t.2.2.1 3)) := ⟨⟨rfl, pu_up hf (by omega)⟩, ht, hu, ⟨hm, hz, hc⟩, htx, hfr⟩
  rcases pu_sg a1 with q1 | ⟨i, hi, rfl⟩
  · rw [pu_hr6b hr hp e2 hcc (Or.inl q1), if_pos q1]
    exact ⟨-3, 2, s.2.2.2 0, upd (s.2.2.1 32) 2 (s.2.2.1 32 2 + 1), -3, 2, upd (t.2.2.1 0) 2 (t.2.2.1 0 2 + 1), t.2.2.1 2, t.2.2.1 3, rfl, rfl, rfl, hbey⟩
  rw [if_neg (nI_pos hi)]
  by_cases hic : i + c ≤ p
  · rw [pu_hr6a hr hp e2 hic]
    simp only [Option.bind_some]
    rw [if_neg (show ¬ (1 : Int32) = 0 by decide)]
    rcases pu_sg a3 with q3 | ⟨j, hj, rfl⟩
    · rw [pu_hr6b hw hv d2 hcc (Or.inl q3), if_pos q3]
      exact ⟨-3, 2, s.2.2.2 0, upd (s.2.2.1 32) 2 (s.2.2.1 32 2 + 1), -3, 2, upd (t.2.2.1 0) 2 (t.2.2.1 0 2 + 1), t.2.2.1 2, t.2.2.1 3, rfl, rfl, rfl, hbey⟩
    rw [if_neg (nI_pos hj), if_neg (show ¬ (0 : Int32) < _ by rw [pu_lcg hi hcc hp]; exact fun z => z hic)]
    by_cases hjc : j + c ≤ v
    · rw [pu_hr6a hw hv d2 hjc, if_pos ((pu_lc hj hcc hv).mpr hjc)]
      simp only [Option.bind_some]
      rw [if_neg (show ¬ (1 : Int32) = 0 by decide)]
      have hmv : f_X6_move_s6 (nI r) (nI i) (nI w) (nI j) (nI c) (s.2.2.1 0) (s.2.2.2 0) = some (gg_up (s.2.2.2 0) w (va_cpy (s.2.2.2 0 r) (s.2.2.2 0 w) i j c)) := by
        unfold f_X6_move_s6
        rw [pu_hr6a hr hp e2 hic, pu_hr6a hw hv d2 hjc, pu_in hr (by omega), pu_in hw (by omega), pu_cpk (show i + c ≤ 40 by omega) (show j + c ≤ 40 by omega), nI_clamp (show r < 2 ^ 31 by omega), nI_clamp (show w < 2 ^ 31 by omega), nI_clamp hi, nI_clamp hj, nI_clamp hcc]
        rfl
      rw [hmv]
      obtain ⟨u', u1, -, u3⟩ := lo_cp1 hr (show i + c ≤ 40 by omega) (t.2.2.1 2) (fun (c_copied_133 : Nat → Int32) => (lp_X9_copy_136 (nI w) (nI j) (nI c) c_copied_133 (fun (c_rows_171 : Nat → Int32) => (some ((1 : Int32), t.1 0, t.2.2.1 0, c_rows_171, c_copied_133))) F (nI 0) (t.2.2.1 2))) c 0 F (t.2.2.1 3) (by omega) (by omega)
      obtain ⟨g', g1, g2, g3⟩ := lo_cp2 hw (show j + c ≤ 40 by omega) u' (fun (c_rows_171 : Nat → Int32) => (some ((1 : Int32), t.1 0, t.2.2.1 0, c_rows_171, u'))) c 0 F (t.2.2.1 2) (by omega) (by omega)
      refine ⟨1, s.1 0, gg_up (s.2.2.2 0) w (va_cpy (s.2.2.2 0 r) (s.2.2.2 0 w) i j c), s.2.2.1 32, 1, t.1 0, t.2.2.1 0, g', u', rfl, u1.trans g1, rfl, ⟨⟨hl, hf⟩, ht, hu, ⟨hm, hz, ?_⟩, htx, hfr⟩⟩
      show rl_ce 6 40 (s.2.2.1 0) (gg_up (s.2.2.2 0) w (va_cpy (s.2.2.2 0 r) (s.2.2.2 0 w) i j c)) g'
      intro a x ha hx hzx
      by_cases qa : a = w
      · subst qa
        show (if a = a then va_cpy (s.2.2.2 0 r) (s.2.2.2 0 a) i j c else _) x = _
        rw [if_pos rfl]
        by_cases qx : j ≤ x ∧ x < j + c
        · rw [pk_cpy_in qx.1 qx.2]
          have h3 := g3 (x - j) (by omega) (by omega)
          rw [show 40 * a + j + (x - j) = 40 * a + x by omega] at h3
          rw [h3, u3 (x - j) (by omega) (by omega)]
          exact hc r (i + (x - j)) hr (by omega) (by rw [e2]; exact nI_lt (by omega) (by omega))
        · rw [pk_cpy_out (by omega), g2 (40 * a + x) (by omega)]
          exact hc a x ha hx hzx
      · show (if a = w then _ else s.2.2.2 0 a) x = _
        rw [if_neg qa, g2 (40 * a + x) (by omega)]
        exact hc a x ha hx hzx
    · rw [pu_hr6b hw hv d2 hcc (Or.inr ⟨j, hj, rfl, by omega⟩), if_neg (fun z => hjc ((pu_lc hj hcc hv).mp z))]
      exact ⟨-3, 2, s.2.2.2 0, upd (s.2.2.1 32) 2 (s.2.2.1 32 2 + 1), -3, 2, upd (t.2.2.1 0) 2 (t.2.2.1 0 2 + 1), t.2.2.1 2, t.2.2.1 3, rfl, rfl, rfl, hbey⟩
  · rw [pu_hr6b hr hp e2 hcc (Or.inr ⟨i, hi, rfl, by omega⟩)]
    by_cases q3 : a3 < 0
    · rw [if_pos q3]
      exact ⟨-3, 2, s.2.2.2 0, upd (s.2.2.1 32) 2 (s.2.2.1 32 2 + 1), -3, 2, upd (t.2.2.1 0) 2 (t.2.2.1 0 2 + 1), t.2.2.1 2, t.2.2.1 3, rfl, rfl, rfl, hbey⟩
    · rw [if_neg q3, if_pos (show (0 : Int32) < _ by rw [pu_lcg hi hcc hp]; exact hic)]
      exact ⟨-3, 2, s.2.2.2 0, upd (s.2.2.1 32) 2 (s.2.2.1 32 2 + 1), -3, 2, upd (t.2.2.1 0) 2 (t.2.2.1 0 2 + 1), t.2.2.1 2, t.2.2.1 3, rfl, rfl, rfl, hbey⟩
