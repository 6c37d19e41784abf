theorem sm_fault : sim_fault Rl_ := by
  intro s t h a0
  obtain ⟨⟨hl, hfd⟩, ht, hu, hrw, ⟨hm6, hz, hc⟩, hfr⟩ := id h
  obtain ⟨F, hF, hF2⟩ : ∃ F, F = gg_fuel ∧ 50000 ≤ F := ⟨_, rfl, pu_F⟩
  unfold f_X8_fault f_X9_fault
  rcases pu_ix a0 4 (by omega) with q | ⟨r, hr, rfl⟩
  · rw [pu_rm4o q, pu_isTextO q]
    refine ⟨-1, s.1 0, s.1 4, s.1 5, s.2.2.1 2, s.1 14, s.1 15, s.1 16, s.1 17, s.2.2.1 17, s.2.2.1 18, s.2.2.1 19, s.2.2.1 20, s.2.2.1 21, s.2.2.1 22, s.2.2.1 32, -1, t.1 0, t.1 3, t.1 4, t.1 5, t.1 6, t.2.2.1 0, t.2.2.1 10, t.2.2.1 11, ?_, ?_, rfl, ⟨⟨hl, hfd⟩, ht, hu, hrw, ⟨hm6, hz, hc⟩, hfr⟩⟩ <;> rfl
  · rw [pu_isText hr, Option.bind_some, if_neg (show ¬ (1 : Int32) = 0 by decide), pu_in hr (by omega), nx_chk, nI_clamp (by omega), ← (hz r hr).1]
    rcases (hz r hr).2 with zq | ⟨p, hp, zq⟩
    · rw [pu_rm4a hr _ _ zq, zq, pu_me1]
      refine ⟨-3, 1, s.1 4, s.1 5, s.2.2.1 2, s.1 14, s.1 15, s.1 16, s.1 17, s.2.2.1 17, s.2.2.1 18, s.2.2.1 19, s.2.2.1 20, s.2.2.1 21, s.2.2.1 22, upd (s.2.2.1 32) 1 (s.2.2.1 32 1 + 1), -3, 1, t.1 3, t.1 4, t.1 5, t.1 6, upd (t.2.2.1 0) 1 (t.2.2.1 0 1 + 1), t.2.2.1 10, t.2.2.1 11, ?_, ?_, rfl, ⟨⟨rfl, pu_up hfd (by omega)⟩, ht, hu, hrw, ⟨hm6, hz, hc⟩, hfr⟩⟩ <;> rfl
    · have ne : ¬ s.2.2.1 1 r = -1 := by
        rw [zq]
        exact pu_m1 (by omega)
      have zt : t.2.2.1 4 r = nI p := by rw [← (hz r hr).1]; exact zq
      have hcc : ∀ j, j < p → s.2.2.2 1 r j = t.2.2.1 5 (60 * r + j) := fun j hj => hc r j hr (by omega) (by rw [zq]; exact nI_lt hj (by omega))
      rw [pu_rm4b hr _ _ ne, nx_b3, nx_let, nx_let, zq, if_pos (show (0 : Int32) = 0 from rfl), if_pos (show (0 : Int32) ≤ nI p from nI_pos' (by omega))]
      rcases rd_ hp hr zq zt hcc (s.1 4) (s.1 5) (s.2.2.1 2) (s.1 14) (s.1 15) (s.1 16) (s.1 17) (s.2.2.1 17) (s.2.2.1 18) (s.2.2.1 19) (s.2.2.1 20) (s.2.2.1 21) (s.2.2.1 22) (t.1 3) (t.1 4) (t.1 5) (t.1 6) (t.2.2.1 10) (t.2.2.1 11) with ⟨P, sg', p2, x1, x2, x3, x4, y1, y2, y3, y4, y5, y6, u1, u2, u3, u4, v1, v2, hP, g8, g9⟩ | ⟨N, fd, wd, kd, hm, st, br, sg', y1, y2, y3, y4, y5, y6, v1, v2, hN0, hN6, hfd4, g8, g9, hw, hhu, hinj⟩
      · rw [g8, g9, nx_b14, nx_b7]
        exact ⟨nI P, s.1 0, nI p, p2, sg', x1, x2, x3, x4, y1, y2, y3, y4, y5, y6, s.2.2.1 32, nI P, t.1 0, u1, u2, u3, u4, t.2.2.1 0, v1, v2, rfl, rfl, rfl, ⟨⟨hl, hfd⟩, ht, hu, hrw, ⟨hm6, hz, hc⟩, hfr⟩⟩
      · rw [g8, g9, nx_b14, nx_b7]
        exact ⟨-9, s.1 0, nI p, nI p, sg', nI N, nI fd, 0, 0, y1, y2, y3, y4, y5, y6, s.2.2.1 32, -9, t.1 0, nI p, nI N, nI fd, 1, t.2.2.1 0, v1, v2, rfl, rfl, rfl, ⟨⟨hl, hfd⟩, ht, hu, hrw, ⟨hm6, hz, hc⟩, hfr⟩⟩
theorem fo_kp {β : Type} (K : (Nat → Int32) → Option β) {F : Nat} (hF : 50000 ≤ F) (w : Nat → Int32) : lp_X8_front_72 K F 0 w = K (gg_up (gg_up (gg_up w 0 (-1)) 1 (-1)) 2 (-1)) := by
  obtain ⟨G, rfl⟩ : ∃ G, F = G + 1 + 1 + 1 + 1 := ⟨F - 4, by omega⟩
  have k0 : ∀ A B C : Option β, gg_k3 (0 : Int32) A B C = A := fun _ _ _ => rfl
  have k1 : ∀ A B C : Option β, gg_k3 (0 + 1 : Int32) A B C = B := fun _ _ _ => rfl
  have k2 : ∀ A B C : Option β, gg_k3 (0 + 1 + 1 : Int32) A B C = C := fun _ _ _ => rfl
  rw [lp_X8_front_72, if_neg (by decide), k0, lp_X8_front_72, if_neg (by decide), k1, lp_X8_front_72, if_neg (by decide), k2, lp_X8_front_72, if_pos (by decide)]
theorem fo_47 {β : Type} {W : Nat → Int32} (K : (Nat → Int32) → Option β) : ∀ (m j fuel : Nat) (w : Nat → Int32), j + m = 4 → m < fuel → ∃ w', lp_X9_front_47 W K fuel (nI j) w = K w' ∧ (∀ y, y < j → w' y = w y) ∧ ∀ y, j ≤ y → y < 4 → w' y = W y
  | 0, j, fuel + 1, w, h, _ => by
    refine ⟨w, ?_, fun _ _ => rfl, fun y h1 h2 => by omega⟩
    rw [lp_X9_front_47, if_pos (show (4 : Int32) ≤ nI j from (nI_le (by omega) (by omega) : nI 4 ≤ nI j))]
  | m + 1, j, fuel + 1, w, h, hf => by
    obtain ⟨w', e, g1, g2⟩ := fo_47 K m (j + 1) fuel (upd w j (W j)) (by omega) (by omega)
    refine ⟨w', ?_, ?_, ?_⟩
    · rw [lp_X9_front_47, if_neg (show ¬ (4 : Int32) ≤ nI j from (nI_ge (by omega) (by omega) : ¬ nI 4 ≤ nI j)), pu_in (show j < 4 by omega) (by omega), nI_clamp (by omega), nI_1]
      exact e
    · intro y hy
      rw [g1 y (by omega), pk_un (by omega)]
    · intro y h3 h4
      by_cases q : y = j
      · subst q
        rw [g1 y (by omega), pk_us]
      · exact g2 y (by omega) h4
theorem fo_72 {β : Type}  (K : (Nat → Int32) → Option β) : ∀ (m j fuel : Nat) (w : Nat → Int32), j + m = 26 → m < fuel → ∃ w', lp_X9_front_72  K fuel (nI j) w = K w' ∧ (∀ y, y < j → w' y = w y) ∧ ∀ y, j ≤ y → y < 26 → w' y = (0 : Int32)
  | 0, j, fuel + 1, w, h, _ => by
    refine ⟨w, ?_, fun _ _ => rfl, fun y h1 h2 => by omega⟩
    rw [lp_X9_front_72, if_pos (show (26 : Int32) ≤ nI j from (nI_le (by omega) (by omega) : nI 26 ≤ nI j))]
  | m + 1, j, fuel + 1, w, h, hf => by
    obtain ⟨w', e, g1, g2⟩ := fo_72 K m (j + 1) fuel (upd w j ((0 : Int32))) (by omega) (by omega)
    refine ⟨w', ?_, ?_, ?_⟩
    · rw [lp_X9_front_72, if_neg (show ¬ (26 : Int32) ≤ nI j from (nI_ge (by omega) (by omega) : ¬ nI 26 ≤ nI j)), pu_in (show j < 26 by omega) (by omega), nI_clamp (by omega), nI_1]
      exact e
    · intro y hy
      rw [g1 y (by omega), pk_un (by omega)]
    · intro y h3 h4
      by_cases q : y = j
      · subst q
        rw [g1 y (by omega), pk_us]
      · exact g2 y (by omega) h4
theorem fo_211 {β : Type}  (K : (Nat → Int32) → Option β) : ∀ (m j fuel : Nat) (w : Nat → Int32), j + m = 3 → m < fuel → ∃ w', lp_X9_front_211  K fuel (nI j) w = K w' ∧ (∀ y, y < j → w' y = w y) ∧ ∀ y, j ≤ y → y < 3 → w' y = (0 : Int32)
  | 0, j, fuel + 1, w, h, _ => by
    refine ⟨w, ?_, fun _ _ => rfl, fun y h1 h2 => by omega⟩
    rw [lp_X9_front_211, if_pos (show (3 : Int32) ≤ nI j from (nI_le (by omega) (by omega) : nI 3 ≤ nI j))]
  | m + 1, j, fuel + 1, w, h, hf => by
    obtain ⟨w', e, g1, g2⟩ := fo_211 K m (j + 1) fuel (upd w j ((0 : Int32))) (by omega) (by omega)
    refine ⟨w', ?_, ?_, ?_⟩
    · rw [lp_X9_front_211, if_neg (show ¬ (3 : Int32) ≤ nI j from (nI_ge (by omega) (by omega) : ¬ nI 3 ≤ nI j)), pu_in (show j < 3 by omega) (by omega), nI_clamp (by omega), nI_1, show vp_nar .boolean (0 : Int32) = 0 by decide]
      exact e
    · intro y hy
      rw [g1 y (by omega), pk_un (by omega)]
    · intro y h3 h4
      by_cases q : y = j
      · subst q
        rw [g1 y (by omega), pk_us]
      · exact g2 y (by omega) h4
theorem fo_103 {β : Type} {N : Nat} (hN : N ≤ 6) {A : Nat → Int32} (K : (Nat → Int32) → (Nat → Int32) → Option β) : ∀ (m j fuel : Nat) (w u : Nat → Int32), j + m = N → m < fuel → ∃ w' u', lp_X9_front_103 (nI N) A K fuel (nI j) w u = K w' u' ∧ (∀ y, y < j → w' y = w y) ∧ (∀ y, j ≤ y → y < N → w' y = A (4 * y) ∧ u' (2 + y) = A (4 * y + 1) ∧ u' (8 + y) = A (4 * y + 2) ∧ u' (14 + y) = A (4 * y + 3) ∧ u' (20 + y) = A (4 * y + 1)) ∧ ∀ x, (∀ y, j ≤ y → y < N → x ≠ 2 + y ∧ x ≠ 8 + y ∧ x ≠ 14 + y ∧ x ≠ 20 + y) → u' x = u x
  | 0, j, fuel + 1, w, u, h, _ => by
    refine ⟨w, u, ?_, fun _ _ => rfl, fun y h1 h2 => by omega, fun _ _ => rfl⟩
    rw [lp_X9_front_103, if_pos (nI_le (by omega) (by omega))]
  | m + 1, j, fuel + 1, w, u, h, hf => by
    have e4 : (4 : Int32) * nI j = nI (4 * j) := by rw [nx_l4, pk_mul]
    have e41 : nI (4 * j) + 1 = nI (4 * j + 1) := nI_1 _
    have e42 : nI (4 * j) + 2 = nI (4 * j + 2) := nI_add _ 2
    have e43 : nI (4 * j) + 3 = nI (4 * j + 3) := nI_add _ 3
    have d2 : (2 : Int32) + nI j = nI (2 + j) := nI_add 2 j
    have d8 : (8 : Int32) + nI j = nI (8 + j) := nI_add 8 j
    have d14 : (14 : Int32) + nI j = nI (14 + j) := nI_add 14 j
    have d20 : (20 : Int32) + nI j = nI (20 + j) := nI_add 20 j
    obtain ⟨w', u', e, g1, g2, g3⟩ := fo_103 hN (A := A) K m (j + 1) fuel (upd w j (A (4 * j))) (upd (upd (upd (upd u (2 + j) (A (4 * j + 1))) (8 + j) (A (4 * j + 2))) (14 + j) (A (4 * j + 3))) (20 + j) (A (4 * j + 1))) (by omega) (by omega)
    refine ⟨w', u', ?_, ?_, ?_, ?_⟩
    · rw [lp_X9_front_103, if_neg (nI_ge (by omega) (by omega)), e4, e41, e42, e43, d2, d8, d14, d20, pu_in (show j < 6 by omega) (by omega), pu_in (show 4 * j < 24 by omega) (by omega), pu_in (show 4 * j + 1 < 24 by omega) (by omega), pu_in (show 4 * j + 2 < 24 by omega) (by omega), pu_in (show 4 * j + 3 < 24 by omega) (by omega), pu_in (show 2 + j < 26 by omega) (by omega), pu_in (show 8 + j < 26 by omega) (by omega), pu_in (show 14 + j < 26 by omega) (by omega), pu_in (show 20 + j < 26 by omega) (by omega), nI_1]
      simp only [nx_chk]
      rw [nI_clamp (show j < 2 ^ 31 by omega), nI_clamp (show 4 * j < 2 ^ 31 by omega), nI_clamp (show 4 * j + 1 < 2 ^ 31 by omega), nI_clamp (show 4 * j + 2 < 2 ^ 31 by omega), nI_clamp (show 4 * j + 3 < 2 ^ 31 by omega), nI_clamp (show 2 + j < 2 ^ 31 by omega), nI_clamp (show 8 + j < 2 ^ 31 by omega), nI_clamp (show 14 + j < 2 ^ 31 by omega), nI_clamp (show 20 + j < 2 ^ 31 by omega)]
      rw [show upd (upd (upd u (2 + j) (A (4 * j + 1))) (8 + j) (A (4 * j + 2))) (14 + j) (A (4 * j + 3)) (2 + j) = A (4 * j + 1) by rw [pk_un (by omega), pk_un (by omega), pk_us]]
      exact e
    · intro y hy
      rw [g1 y (by omega), pk_un (by omega)]
    · intro y h3 h4
      by_cases q : y = j
      · subst q
        rw [g1 y (by omega), pk_us, g3 _ (fun z h1 h2 => by omega), g3 _ (fun z h1 h2 => by omega), g3 _ (fun z h1 h2 => by omega), g3 _ (fun z h1 h2 => by omega)]
        refine ⟨rfl, ?_, ?_, ?_, ?_⟩
        · rw [pk_un (by omega), pk_un (by omega), pk_un (by omega), pk_us]
        · rw [pk_un (by omega), pk_un (by omega), pk_us]
        · rw [pk_un (by omega), pk_us]
        · rw [pk_us]
      · exact g2 y (by omega) h4
    · intro x hx
      have hj := hx j (by omega) (by omega)
      rw [g3 x (fun y h1 h2 => hx y (by omega) h2), pk_un hj.2.2.2, pk_un hj.2.2.1, pk_un hj.2.1, pk_un hj.1]
theorem sm_front : sim_front Rl_ := by
  intro s t h a0
  obtain ⟨⟨hl, hfd⟩, ht, hu, hrw, ⟨hm6, hz, hc⟩, hfr⟩ := id h
  obtain ⟨F, hF, hF2⟩ : ∃ F, F = gg_fuel ∧ 50000 ≤ F := ⟨_, rfl, pu_F⟩
  unfold f_X8_front f_X9_front
  rw [← hF]
  rcases pu_ix a0 4 (by omega) with q | ⟨r, hr, rfl⟩
  · rw [pu_rm4o q, pu_isTextO q]
    refine ⟨-1, s.1 0, s.1 4, s.1 5, s.2.2.1 2, s.1 6, s.1 7, s.1 8, s.1 9, s.2.2.1 3, s.2.2.1 4, s.2.2.1 5, s.2.2.1 6, s.2.2.1 7, s.2.2.1 8, s.1 10, s.1 11, s.1 12, s.1 13, s.2.2.1 10, s.2.2.1 11, s.2.2.1 12, s.2.2.1 13, s.2.2.1 14, s.2.2.1 15, s.1 14, s.1 15, s.1 16, s.1 17, s.2.2.1 17, s.2.2.1 18, s.2.2.1 19, s.2.2.1 20, s.2.2.1 21, s.2.2.1 22, s.1 18, s.2.2.1 25, s.2.2.1 32, -1, t.1 0, t.1 2, t.1 3, t.1 4, t.1 5, t.1 6, t.1 8, t.2.2.1 0, t.2.2.1 6, t.2.2.1 7, t.2.2.1 8, t.2.2.1 10, t.2.2.1 11, t.2.2.1 14, ?_, ?_, rfl, ⟨⟨hl, hfd⟩, ht, hu, hrw, ⟨hm6, hz, hc⟩, hfr⟩⟩ <;> rfl
  · rw [pu_isText hr, Option.bind_some, if_neg (show ¬ (1 : Int32) = 0 by decide), pu_in hr (by omega), nx_chk, nI_clamp (by omega), ← (hz r hr).1]
    rcases (hz r hr).2 with zq | ⟨p, hp, zq⟩
    · rw [pu_rm4a hr _ _ zq, zq, pu_me1]
      refine ⟨-3, 1, s.1 4, s.1 5, s.2.2.1 2, s.1 6, s.1 7, s.1 8, s.1 9, s.2.2.1 3, s.2.2.1 4, s.2.2.1 5, s.2.2.1 6, s.2.2.1 7, s.2.2.1 8, s.1 10, s.1 11, s.1 12, s.1 13, s.2.2.1 10, s.2.2.1 11, s.2.2.1 12, s.2.2.1 13, s.2.2.1 14, s.2.2.1 15, s.1 14, s.1 15, s.1 16, s.1 17, s.2.2.1 17, s.2.2.1 18, s.2.2.1 19, s.2.2.1 20, s.2.2.1 21, s.2.2.1 22, s.1 18, s.2.2.1 25, upd (s.2.2.1 32) 1 (s.2.2.1 32 1 + 1), -3, 1, t.1 2, t.1 3, t.1 4, t.1 5, t.1 6, t.1 8, upd (t.2.2.1 0) 1 (t.2.2.1 0 1 + 1), t.2.2.1 6, t.2.2.1 7, t.2.2.1 8, t.2.2.1 10, t.2.2.1 11, t.2.2.1 14, ?_, ?_, rfl, ⟨⟨rfl, pu_up hfd (by omega)⟩, ht, hu, hrw, ⟨hm6, hz, hc⟩, hfr⟩⟩ <;> rfl
    · have ne : ¬ s.2.2.1 1 r = -1 := by
        rw [zq]
        exact pu_m1 (by omega)
      have zt : t.2.2.1 4 r = nI p := by rw [← (hz r hr).1]; exact zq
      have hcc : ∀ j, j < p → s.2.2.2 1 r j = t.2.2.1 5 (60 * r + j) := fun j hj => hc r j hr (by omega) (by rw [zq]; exact nI_lt hj (by omega))
      rw [pu_rm4b hr _ _ ne, nx_b3, zq, if_pos (show (0 : Int32) = 0 from rfl), if_pos (show (0 : Int32) ≤ nI p from nI_pos' (by omega))]
      rcases rd_ hp hr zq zt hcc (s.1 4) (s.1 5) (s.2.2.1 2) (s.1 14) (s.1 15) (s.1 16) (s.1 17) (s.2.2.1 17) (s.2.2.1 18) (s.2.2.1 19) (s.2.2.1 20) (s.2.2.1 21) (s.2.2.1 22) (t.1 3) (t.1 4) (t.1 5) (t.1 6) (t.2.2.1 10) (t.2.2.1 11) with ⟨P, sg', p2, x1, x2, x3, x4, y1, y2, y3, y4, y5, y6, u1, u2, u3, u4, v1, v2, hP, g8, g9⟩ | ⟨N, fd, wd, kd, hm, st, br, sg', y1, y2, y3, y4, y5, y6, v1, v2, hN0, hN6, hfd4, g8, g9, hw, hhu, hinj⟩
      · rw [g8, g9, nx_b14, nx_b7, if_neg (nI_n9 (by omega)), if_neg (nI_n9 (by omega))]
        exact ⟨-4, s.1 0, nI p, p2, sg', s.1 6, s.1 7, s.1 8, s.1 9, s.2.2.1 3, s.2.2.1 4, s.2.2.1 5, s.2.2.1 6, s.2.2.1 7, s.2.2.1 8, s.1 10, s.1 11, s.1 12, s.1 13, s.2.2.1 10, s.2.2.1 11, s.2.2.1 12, s.2.2.1 13, s.2.2.1 14, s.2.2.1 15, x1, x2, x3, x4, y1, y2, y3, y4, y5, y6, s.1 18, s.2.2.1 25, s.2.2.1 32, -4, t.1 0, t.1 2, u1, u2, u3, u4, t.1 8, t.2.2.1 0, t.2.2.1 6, t.2.2.1 7, t.2.2.1 8, v1, v2, t.2.2.1 14, rfl, rfl, rfl, ⟨⟨hl, hfd⟩, ht, hu, hrw, ⟨hm6, hz, hc⟩, hfr⟩⟩
      · obtain ⟨a1, a2, a3, a4, a5, a6, be1, bw1, bb1⟩ := be_come (s.1 6) (s.1 7) (s.1 8) (s.1 9) (s.2.2.1 3) (s.2.2.1 4) (s.2.2.1 5) (s.2.2.1 6) (s.2.2.1 7) (s.2.2.1 8) (nI N) (nI fd) 0 y1 y2 y3 y4 y5 y6
        obtain ⟨b1, b2, b3, b4, b5, b6, be2, bw2, bb2⟩ := be_come (s.1 10) (s.1 11) (s.1 12) (s.1 13) (s.2.2.1 10) (s.2.2.1 11) (s.2.2.1 12) (s.2.2.1 13) (s.2.2.1 14) (s.2.2.1 15) (nI N) (nI fd) 0 a1 a2 a3 a4 a5 a6
        obtain ⟨w1, k1, -, h1⟩ := fo_47 (W := v1) (fun (c_winds_70 : Nat → Int32) => (lp_X9_front_72 (fun (c_now_91 : Nat → Int32) => gg_chk (gg_in (1 : Int32) 26) ((lp_X9_front_103 (nI N) v2 (fun (c_kindOf_204 : Nat → Int32) (c_now_204 : Nat → Int32) => (lp_X9_front_211 (fun (c_isKept_229 : Nat → Int32) => (some (nI N, t.1 0, nI N, nI p, nI N, nI fd, (1 : Int32), (0 : Int32), t.2.2.1 0, c_kindOf_204, c_winds_70, c_now_204, v1, v2, c_isKept_229))) F (0 : Int32) (t.2.2.1 14))) F (0 : Int32) (t.2.2.1 6) (upd c_now_91 (1 : Int32).toNatClampNeg (nI fd))))) F (0 : Int32) (t.2.2.1 8))) 4 0 F (t.2.2.1 7) (by omega) (by omega)
        obtain ⟨w2, k2, -, h2⟩ := fo_72 (fun (c_now_91 : Nat → Int32) => gg_chk (gg_in (1 : Int32) 26) ((lp_X9_front_103 (nI N) v2 (fun (c_kindOf_204 : Nat → Int32) (c_now_204 : Nat → Int32) => (lp_X9_front_211 (fun (c_isKept_229 : Nat → Int32) => (some (nI N, t.1 0, nI N, nI p, nI N, nI fd, (1 : Int32), (0 : Int32), t.2.2.1 0, c_kindOf_204, w1, c_now_204, v1, v2, c_isKept_229))) F (0 : Int32) (t.2.2.1 14))) F (0 : Int32) (t.2.2.1 6) (upd c_now_91 (1 : Int32).toNatClampNeg (nI fd))))) 26 0 F (t.2.2.1 8) (by omega) (by omega)
        obtain ⟨w3, w4, k3, -, h3, h4⟩ := fo_103 hN6 (A := v2) (fun (c_kindOf_204 : Nat → Int32) (c_now_204 : Nat → Int32) => (lp_X9_front_211 (fun (c_isKept_229 : Nat → Int32) => (some (nI N, t.1 0, nI N, nI p, nI N, nI fd, (1 : Int32), (0 : Int32), t.2.2.1 0, c_kindOf_204, w1, c_now_204, v1, v2, c_isKept_229))) F (0 : Int32) (t.2.2.1 14))) N 0 F (t.2.2.1 6) (upd w2 1 (nI fd)) (by omega) (by omega)
        obtain ⟨w5, k5, -, h5⟩ := fo_211 (fun (c_isKept_229 : Nat → Int32) => (some (nI N, t.1 0, nI N, nI p, nI N, nI fd, (1 : Int32), (0 : Int32), t.2.2.1 0, w3, w1, w4, v1, v2, c_isKept_229))) 3 0 F (t.2.2.1 14) (by omega) (by omega)
        rw [g8, g9, nx_b14, nx_b7, if_pos (show (-9 : Int32) = -9 from rfl), if_pos (show (-9 : Int32) = -9 from rfl), be1, nx_b10, be2, nx_b10, fo_kp _ hF2]
        refine ⟨nI N, s.1 0, nI p, nI p, sg', nI N, nI fd, 0, 0, a1, a2, a3, a4, a5, a6, nI N, nI fd, 0, 0, b1, b2, b3, b4, b5, b6, nI N, nI fd, 0, 0, y1, y2, y3, y4, y5, y6, 0, _, s.2.2.1 32, nI N, t.1 0, nI N, nI p, nI N, nI fd, 1, 0, t.2.2.1 0, w3, w1, w4, v1, v2, w5, rfl, k1.trans (k2.trans (Eq.trans ?_ (k3.trans k5))), rfl, ⟨⟨hl, hfd⟩, ht, hu, hrw, ⟨hm6, hz, hc⟩, ?_⟩⟩
        · rw [show gg_in (1 : Int32) 26 = true by decide, nx_chk, show (1 : Int32).toNatClampNeg = 1 by decide]
          rfl
        · have okf : fr_ok N (fd, 0, hm, st, br, hm) := by
            refine ⟨hfd4, fun i hi => ?_, fun i j hi hj e _ => hinj i j hi hj e⟩
            obtain ⟨-, -, -, z1, z2, z3⟩ := hhu i hi
            exact ⟨z1, z2, z3, Nat.le_of_lt z1⟩
          have kw1 : fr_kw N kd wd a2 a1 := ⟨fun i hi => ⟨(hhu i hi).2.2.1, by rw [(bb1 i (by omega)).1]; exact (hhu i hi).1.1⟩, fun j hj => ⟨(hw j hj).2.2, by rw [bw1 j hj]; exact (hw j hj).1⟩⟩
          have kw2 : fr_kw N kd wd b2 b1 := fr_kw_c hN6 kw1 (fun j hj => (bb2 j hj).1) bw2
          have fl1 : fr_fl N (fd, 0, hm, st, br, hm) (nI fd) 0 a3 a4 a5 a6 := by
            refine ⟨rfl, rfl, fun i hi => ?_⟩
            obtain ⟨z1, z2, z3, z4, z5⟩ := bb1 i (by omega)
            obtain ⟨⟨q1, q2, q3, q4, q5⟩, -, -, q6, -, -⟩ := hhu i hi
            rw [z2, z3, z4, z5, q2, q3, q4, q5]
            refine ⟨rfl, rfl, rfl, ?_⟩
            show nI (hm i) = k_bI (hm i)
            rw [nx_bI (by omega)]
          have fl2 : fr_fl N (fd, 0, hm, st, br, hm) (nI fd) 0 b3 b4 b5 b6 := fr_fl_c hN6 fl1 (fun j hj => (bb2 j hj).2)
          have arf : fr_ar N (fd, 0, hm, st, br, hm) w4 := by
            refine ⟨?_, ?_, fun i hi => ?_⟩
            · rw [h4 0 (fun y _ _ => by omega), pk_un (by omega), h2 0 (by omega) (by omega)]
              rfl
            · rw [h4 1 (fun y _ _ => by omega), pk_us]
            · obtain ⟨z1, z2, z3, z4, z5⟩ := h3 i (by omega) hi
              obtain ⟨-, ⟨q1, q2, q3, q4⟩, -, q6, -, -⟩ := hhu i hi
              rw [z2, z3, z4, z5, q2, q3, q4]
              refine ⟨rfl, rfl, rfl, ?_⟩
              show nI (hm i) = k_bI (hm i)
              rw [nx_bI (by omega)]
          have kwt : fr_kw N kd wd w3 w1 := ⟨fun i hi => ⟨(hhu i hi).2.2.1, by rw [(h3 i (by omega) hi).1]; exact (hhu i hi).2.1.1⟩, fun j hj => ⟨(hw j hj).2.2, by rw [h1 j (by omega) hj]; exact (hw j hj).2.1⟩⟩
          refine ⟨N, kd, wd, (fd, 0, hm, st, br, hm), fun _ => 0, 0, hN6, okf, rfl, fun _ => rfl, rfl, rfl, rfl, kw1, kw2, kwt, fl1, fl2, arf, rfl, rfl, ⟨by omega, fun d hd => by omega, fun d hd => by omega⟩, fun x hx => Or.inl ⟨h5 x (by omega) hx, ?_⟩⟩
          show gg_up (gg_up (gg_up (s.2.2.1 25) 0 (-1)) 1 (-1)) 2 (-1) x = -1
          rcases (show x = 0 ∨ x = 1 ∨ x = 2 by omega) with rfl | rfl | rfl <;> rfl
