theorem fl_anew {β : Type} {N : Nat} (hN : N ≤ 6) {kd wd : Nat → Nat} {kind winds : Nat → Int32} (hk : fr_kw N kd wd kind winds) {f0 : FS_} (ok0 : fr_ok N f0) (hd0 : f0.2.1 = 0) {cs : Nat → Nat} {D : Nat} (hD : D ≤ 40) {lc : Nat → Int32} (hlc : ∀ d, d < D → lc d = nI (cs d) ∧ fr_cv N (cs d)) (k : Int32 → Int32 → Int32 → (Nat → Int32) → (Nat → Int32) → (Nat → Int32) → (Nat → Int32) → (Nat → Int32) → Option β) : ∀ (m j fuel : Nat) (food due backs : Int32) (home st br bk ba : Nat → Int32), j + m = D → m < fuel → fr_fl N (fr_ch N kd wd f0 cs j) food due home st br bk → ∃ food' due' backs' home' st' br' bk' ba', lp_X8_doAnew_13 (nI N) winds kind (nI D) lc k fuel (nI j) food due backs home st br bk ba = k food' due' backs' home' st' br' bk' ba' ∧ fr_fl N (fr_ch N kd wd f0 cs D) food' due' home' st' br' bk'
  | 0, j, fuel + 1, food, due, backs, home, st, br, bk, ba, hj, hf, hl => by
    have : j = D := by omega
    subst this
    refine ⟨food, due, backs, home, st, br, bk, ba, ?_, hl⟩
    rw [lp_X8_doAnew_13, if_pos (nI_le (by omega) (by omega))]
  | m + 1, j, fuel + 1, food, due, backs, home, st, br, bk, ba, hj, hf, hl => by
    have hjD : j < D := by omega
    obtain ⟨ok, hd⟩ := fr_ch_ok (wd := wd) hN (fun i hi => (hk.1 i hi).1) ok0 hd0 j (fun e he => (hlc e (by omega)).2)
    obtain ⟨a1, a2, a3, a4, a5, a6, a7, a8, e, r⟩ := fl_doTo hN hk ok (by omega) (hlc j hjD).2 hl backs ba
    obtain ⟨b1, b2, b3, b4, b5, b6, b7, b8, g1, g2⟩ := fl_anew hN hk ok0 hd0 hD hlc k m (j + 1) fuel a1 a2 a3 a4 a5 a6 a7 a8 (by omega) (by omega) r
    refine ⟨b1, b2, b3, b4, b5, b6, b7, b8, ?_, g2⟩
    rw [lp_X8_doAnew_13, if_neg (nI_ge (by omega) (by omega)), pu_in (show j < 40 by omega) (by omega), nx_chk, nI_clamp (by omega), (hlc j hjD).1, e, nx_b8, nI_1]
    exact g1
theorem fl_doAnew {N : Nat} (hN : N ≤ 6) {kd wd : Nat → Nat} {K W : Nat → Int32} (hk : fr_kw N kd wd K W) {f0 : FS_} (ok0 : fr_ok N f0) (hd0 : f0.2.1 = 0) {cs : Nat → Nat} {D : Nat} (hD : D ≤ 40) {lc : Nat → Int32} (hlc : ∀ d, d < D → lc d = nI (cs d) ∧ fr_cv N (cs d)) {Fd Du : Int32} {Hm S Bn Bk : Nat → Int32} (hl : fr_fl N f0 Fd Du Hm S Bn Bk) (huts food due backs : Int32) (winds kind home st br bk ba : Nat → Int32) : ∃ food' due' backs' w' k' home' st' br' bk' ba', f_X8_doAnew (nI N) Fd Du W K Hm S Bn Bk huts food due backs winds kind home st br bk ba (nI D) lc = some (nI N, food', due', backs', w', k', home', st', br', bk', ba') ∧ fr_kw N kd wd k' w' ∧ fr_fl N (fr_ch N kd wd f0 cs D) food' due' home' st' br' bk' := by
  obtain ⟨F, hF, hF2⟩ : ∃ F, F = gg_fuel ∧ 50000 ≤ F := ⟨_, rfl, pu_F⟩
  obtain ⟨w', k', h', s', n', b', be, bw, bb⟩ := be_come huts food due backs winds kind home st br bk (nI N) Fd Du W K Hm S Bn Bk
  have kwa := fr_kw_c hN hk (fun j hj => (bb j hj).1) bw
  have fla := fr_fl_c hN hl (fun j hj => (bb j hj).2)
  obtain ⟨a1, a2, a3, a4, a5, a6, a7, a8, g1, g2⟩ := fl_anew hN kwa ok0 hd0 hD hlc (fun (c_now_food_46 : Int32) (c_now_due_46 : Int32) (c_now_backs_46 : Int32) (c_now_home_46 : Nat → Int32) (c_now_strength_46 : Nat → Int32) (c_now_brown_46 : Nat → Int32) (c_now_brick_46 : Nat → Int32) (c_now_back_46 : Nat → Int32) => (some (nI N, c_now_food_46, c_now_due_46, c_now_backs_46, w', k', c_now_home_46, c_now_strength_46, c_now_brown_46, c_now_brick_46, c_now_back_46))) D 0 F Fd Du 0 h' s' n' b' ba (by omega) (by omega) fla
  refine ⟨a1, a2, a3, w', k', a4, a5, a6, a7, a8, ?_, kwa, g2⟩
  unfold f_X8_doAnew
  rw [be, nx_b10, ← hF]
  exact g1
theorem un_1 {β : Type} {j e : Nat} (hj : j < 40) (he : 0 < e) (he2 : e ≤ 40) {L : Nat → Int32} (k : (Nat → Int32) → Option β) : ∀ (m x fuel : Nat) (w : Nat → Int32), x + m = 26 → m < fuel → ∃ w', lp_X9_undo_23 (nI j) (nI e) L k fuel (nI x) w = k w' ∧ (∀ y, y < x → w' y = w y) ∧ ∀ y, x ≤ y → y < 26 → w' y = L (26 * j + y)
  | 0, x, fuel + 1, w, hx, hf => by
    refine ⟨w, ?_, fun _ _ => rfl, fun y h1 h2 => by omega⟩
    rw [lp_X9_undo_23, if_pos (show (26 : Int32) ≤ nI x from (nI_leI (a := 26) (by omega) (by omega)).2 (by omega))]
  | m + 1, x, fuel + 1, w, hx, hf => by
    obtain ⟨w', e1, h1, h2⟩ := un_1 hj he he2 k m (x + 1) fuel (upd w x (L (26 * j + x))) (by omega) (by omega)
    have hq : (26 : Int32) * nI j + nI x = nI (26 * j + x) := by rw [nx_l26, pk_mul, nI_add]
    refine ⟨w', ?_, ?_, ?_⟩
    · rw [lp_X9_undo_23, if_neg (show ¬ (26 : Int32) ≤ nI x from fun z => absurd ((nI_leI (a := 26) (by omega) (by omega)).1 z) (by omega)), if_neg (show ¬ nI e ≤ (0 : Int32) from (nI_ge he (by omega) : ¬ nI e ≤ nI 0)), hq, nx_in (show x < 26 by omega) (by omega), nx_in (show 26 * j + x < 1040 by omega) (by omega), nx_cl (show x < 2147483648 by omega), nx_cl (show 26 * j + x < 2147483648 by omega), nx_chk, nx_chk, nI_1]
      exact e1
    · intro y hy
      rw [h1 y (by omega), pk_un (by omega)]
    · intro y h3 h4
      by_cases q : y = x
      · subst q
        rw [h1 y (by omega), pk_us]
      · exact h2 y (by omega) h4
theorem fr_lg_c {N : Nat} (hN : N ≤ 6) {kd wd : Nat → Nat} {f0 : FS_} {cs : Nat → Nat} {D : Nat} {lc ml lc' ml' : Nat → Int32} (h : fr_lg N kd wd f0 cs D lc ml) (h1 : ∀ d, d < D → lc' d = lc d) (h2 : ∀ x, x < 26 * D → ml' x = ml x) : fr_lg N kd wd f0 cs D lc' ml' := by
  obtain ⟨a, b, c⟩ := h
  refine ⟨a, fun d hd => ⟨by rw [h1 d hd]; exact (b d hd).1, (b d hd).2⟩, fun d hd => fr_ar_c hN (c d hd) (fun k hk => h2 (26 * d + k) (by omega))⟩
theorem fr_lg_s {N : Nat} {kd wd : Nat → Nat} {f0 : FS_} {cs : Nat → Nat} {D E : Nat} {lc ml : Nat → Int32} (h : fr_lg N kd wd f0 cs D lc ml) (hE : E ≤ D) : fr_lg N kd wd f0 cs E lc ml := ⟨by have := h.1; omega, fun d hd => h.2.1 d (by omega), fun d hd => h.2.2 d (by omega)⟩
theorem sm_undo : sim_undo Rl_ := by
  intro s t h a0
  obtain ⟨hfd, ht, hu, hrw, htx, N, kd, wd, f0, cs, D, hfr⟩ := id h
  obtain ⟨hN, ok0, hd0, hN0, e6, e10, eT2, kw1, kw2, kwt, fl0, flD, arD, e18, eT8, lg, kp⟩ := id hfr
  have hD := lg.1
  obtain ⟨F, hF, hF2⟩ : ∃ F, F = gg_fuel ∧ 50000 ≤ F := ⟨_, rfl, pu_F⟩
  unfold f_X8_undo f_X9_undo
  rw [e6, e10, e18, eT8, ← hF]
  rcases pu_rng a0 D (nI D) (by omega) rfl with ⟨q1, q2⟩ | ⟨j, hj, rfl, q1, q2⟩
  · rw [q1, q2]
    exact ⟨-1, nI N, s.1 11, s.1 12, s.1 13, s.2.2.1 10, s.2.2.1 11, s.2.2.1 12, s.2.2.1 13, s.2.2.1 14, s.2.2.1 15, s.2.2.1 16, nI D, -1, nI D, t.2.2.1 8, rfl, rfl, rfl, ⟨hfd, ht, hu, hrw, htx, ⟨N, kd, wd, f0, cs, D, hN, ok0, hd0, hN0, e6, rfl, eT2, kw1, kw2, kwt, fl0, flD, arD, rfl, rfl, lg, kp⟩⟩⟩
  · obtain ⟨a1, a2, a3, a4, a5, a6, a7, a8, a9, a10, g1, g2, g3⟩ := fl_doAnew hN kw1 ok0 hd0 (show j ≤ 40 by omega) (fun d hd => lg.2.1 d (by omega)) fl0 (nI N) (s.1 11) (s.1 12) (s.1 13) (s.2.2.1 10) (s.2.2.1 11) (s.2.2.1 12) (s.2.2.1 13) (s.2.2.1 14) (s.2.2.1 15) (s.2.2.1 16)
    have hA : ∃ w', lp_X9_undo_23 (nI j) (nI D - nI j) (t.2.2.1 13) (fun (c_now_56 : Nat → Int32) => (some ((nI D - nI j), nI j, c_now_56))) F (0 : Int32) (t.2.2.1 8) = some (nI D - nI j, nI j, w') ∧ fr_ar N (fr_ch N kd wd f0 cs j) w' := by
      by_cases q : j = D
      · subst q
        obtain ⟨G, hG⟩ : ∃ G, F = G + 1 := ⟨F - 1, by omega⟩
        refine ⟨t.2.2.1 8, ?_, arD⟩
        rw [hG, lp_X9_undo_23, if_neg (show ¬ (26 : Int32) ≤ 0 by decide), nx_sub (Nat.le_refl j), if_pos (show nI (j - j) ≤ (0 : Int32) by rw [Nat.sub_self]; decide)]
      · obtain ⟨w', e, -, h2⟩ := un_1 (show j < 40 by omega) (show 0 < D - j by omega) (by omega) (L := t.2.2.1 13) (fun (c_now_56 : Nat → Int32) => (some ((nI (D - j)), nI j, c_now_56))) 26 0 F (t.2.2.1 8) (by omega) (by omega)
        refine ⟨w', ?_, fr_ar_c hN (lg.2.2 j (by omega)) (fun k hk => h2 k (by omega) hk)⟩
        rw [nx_sub hj]
        exact e
    obtain ⟨w', u1, u2⟩ := hA
    rw [q1, q2]
    refine ⟨nI D - nI j, nI N, a1, a2, a3, a4, a5, a6, a7, a8, a9, a10, nI j, nI D - nI j, nI j, w', ?_, ?_, rfl, ⟨hfd, ht, hu, hrw, htx, ⟨N, kd, wd, f0, cs, j, hN, ok0, hd0, fun z => by have := hN0 z; omega, e6, rfl, eT2, kw1, g2, kwt, fl0, g3, u2, rfl, rfl, fr_lg_s lg hj, kp⟩⟩⟩
    · rw [Option.bind_some, if_neg (show ¬ nI 1 = 0 by decide), g1, nx_b11]
    · rw [Option.bind_some, if_neg (show ¬ nI 1 = 0 by decide)]
      exact u1
theorem lb_1 {β : Type} {D : Nat} (hD : D ≤ 40) {p : Nat → Int32} (k : (Nat → Int32) → Option β) : ∀ (m j fuel : Nat) (w : Nat → Int32), j + m = D → m < fuel → ∃ w', lp_X4_become_10 (nI D) p k fuel (nI j) w = k w' ∧ (∀ y, y < j → w' y = w y) ∧ ∀ y, j ≤ y → y < D → w' y = p y
  | 0, j, fuel + 1, w, hx, hf => by
    refine ⟨w, ?_, fun _ _ => rfl, fun y h1 h2 => by omega⟩
    rw [lp_X4_become_10, if_pos (nI_le (by omega) (by omega))]
  | m + 1, j, fuel + 1, w, hx, hf => by
    obtain ⟨w', e1, h1, h2⟩ := lb_1 hD k m (j + 1) fuel (upd w j (p j)) (by omega) (by omega)
    refine ⟨w', ?_, ?_, ?_⟩
    · rw [lp_X4_become_10, if_neg (nI_ge (by omega) (by omega)), if_neg (show ¬ (40 : Int32) ≤ nI j from (nI_ge (by omega) (by omega) : ¬ nI 40 ≤ nI j)), nx_in (show j < 40 by omega) (by omega), nx_cl (by omega), nx_chk, nx_chk, nI_1]
      exact e1
    · intro y hy
      rw [h1 y (by omega), pk_un (by omega)]
    · intro y h3 h4
      by_cases q : y = j
      · subst q
        rw [h1 y (by omega), pk_us]
      · exact h2 y (by omega) h4
theorem lb_ {D : Nat} (hD : D ≤ 40) (a : Int32) (b p : Nat → Int32) : ∃ c, f_X4_become a b (nI D) p = some (nI D, c) ∧ ∀ x, x < D → c x = p x := by
  obtain ⟨F, hF, hF2⟩ : ∃ F, F = gg_fuel ∧ 50000 ≤ F := ⟨_, rfl, pu_F⟩
  unfold f_X4_become
  rw [← hF]
  obtain ⟨w', e, -, h⟩ := lb_1 hD (p := p) (fun x => some (nI D, x)) D 0 F b (by omega) (by omega)
  exact ⟨w', e, fun k hk => h k (by omega) hk⟩
theorem kc_1 {β : Type} {q : Nat} (hq : q < 3) {p : Nat → Int32} (k : (Nat → Int32) → Option β) : ∀ (m j fuel : Nat) (w : Nat → Int32), j + m = 26 → m < fuel → ∃ w', lp_X9_keep_40 (nI q) p k fuel (nI j) w = k w' ∧ (∀ y, y < 26 * q + j ∨ 26 * q + 26 ≤ y → w' y = w y) ∧ ∀ y, j ≤ y → y < 26 → w' (26 * q + y) = p (y)
  | 0, j, fuel + 1, w, hx, hf => by
    refine ⟨w, ?_, fun _ _ => rfl, fun y h1 h2 => by omega⟩
    rw [lp_X9_keep_40, show (26 : Int32) = nI 26 from rfl, if_pos (nI_le (by omega) (by omega))]
  | m + 1, j, fuel + 1, w, hx, hf => by
    obtain ⟨w', e1, h1, h2⟩ := kc_1 hq k m (j + 1) fuel (upd w (26 * q + j) (p (j))) (by omega) (by omega)
    refine ⟨w', ?_, ?_, ?_⟩
    · rw [lp_X9_keep_40, show (26 : Int32) = nI 26 from rfl, if_neg (nI_ge (by omega) (by omega)), pk_mul, nI_add, nx_in (show j < 26 by omega) (by omega), nx_in (show 26 * q + j < 78 by omega) (by omega), nx_cl (show 26 * q + j < 2147483648 by omega), nx_cl (show j < 2147483648 by omega), nx_chk, nx_chk, nI_1]
      exact e1
    · intro y hy
      rw [h1 y (by omega), pk_un (by omega)]
    · intro y h3 h4
      by_cases q : y = j
      · subst q
        rw [h1 _ (by omega), pk_us]
      · exact h2 y (by omega) h4
theorem kc_2 {β : Type} {q D : Nat} (hq : q < 3) (hD : D ≤ 40) {p : Nat → Int32} (k : (Nat → Int32) → Option β) : ∀ (m j fuel : Nat) (w : Nat → Int32), j + m = 26 * D → m < fuel → ∃ w', lp_X9_keep_71 (nI q) (nI D) p k fuel (nI j) w = k w' ∧ (∀ y, y < 1040 * q + j ∨ 1040 * q + 26 * D ≤ y → w' y = w y) ∧ ∀ y, j ≤ y → y < 26 * D → w' (1040 * q + y) = p (y)
  | 0, j, fuel + 1, w, hx, hf => by
    refine ⟨w, ?_, fun _ _ => rfl, fun y h1 h2 => by omega⟩
    rw [lp_X9_keep_71, show (26 : Int32) = nI 26 from rfl, pk_mul, if_pos (nI_le (by omega) (by omega))]
  | m + 1, j, fuel + 1, w, hx, hf => by
    obtain ⟨w', e1, h1, h2⟩ := kc_2 hq hD k m (j + 1) fuel (upd w (1040 * q + j) (p (j))) (by omega) (by omega)
    refine ⟨w', ?_, ?_, ?_⟩
    · rw [lp_X9_keep_71, show (26 : Int32) = nI 26 from rfl, pk_mul, if_neg (nI_ge (by omega) (by omega)), show (1040 : Int32) = nI 1040 from rfl, pk_mul, nI_add, nx_in (show j < 1040 by omega) (by omega), nx_in (show 1040 * q + j < 3120 by omega) (by omega), nx_cl (show 1040 * q + j < 2147483648 by omega), nx_cl (show j < 2147483648 by omega), nx_chk, nx_chk, nI_1]
      exact e1
    · intro y hy
      rw [h1 y (by omega), pk_un (by omega)]
    · intro y h3 h4
      by_cases q : y = j
      · subst q
        rw [h1 _ (by omega), pk_us]
      · exact h2 y (by omega) h4
theorem kc_3 {β : Type} {q : Nat} (hq : q < 3) {p : Nat → Int32} (k : (Nat → Int32) → Option β) : ∀ (m j fuel : Nat) (w : Nat → Int32), j + m = 26 → m < fuel → ∃ w', lp_X9_on_38 (nI q) p k fuel (nI j) w = k w' ∧ (∀ y, y < j ∨ 26 ≤ y → w' y = w y) ∧ ∀ y, j ≤ y → y < 26 → w' (y) = p (26 * q + y)
  | 0, j, fuel + 1, w, hx, hf => by
    refine ⟨w, ?_, fun _ _ => rfl, fun y h1 h2 => by omega⟩
    rw [lp_X9_on_38, show (26 : Int32) = nI 26 from rfl, if_pos (nI_le (by omega) (by omega))]
  | m + 1, j, fuel + 1, w, hx, hf => by
    obtain ⟨w', e1, h1, h2⟩ := kc_3 hq k m (j + 1) fuel (upd w (j) (p (26 * q + j))) (by omega) (by omega)
    refine ⟨w', ?_, ?_, ?_⟩
    · rw [lp_X9_on_38, show (26 : Int32) = nI 26 from rfl, if_neg (nI_ge (by omega) (by omega)), pk_mul, nI_add, nx_in (show j < 26 by omega) (by omega), nx_in (show 26 * q + j < 78 by omega) (by omega), nx_cl (show 26 * q + j < 2147483648 by omega), nx_cl (show j < 2147483648 by omega), nx_chk, nx_chk, nI_1]
      exact e1
    · intro y hy
      rw [h1 y (by omega), pk_un (by omega)]
    · intro y h3 h4
      by_cases q : y = j
      · subst q
        rw [h1 _ (by omega), pk_us]
      · exact h2 y (by omega) h4
theorem kc_4 {β : Type} {q D : Nat} (hq : q < 3) (hD : D ≤ 40) {p : Nat → Int32} (k : (Nat → Int32) → Option β) : ∀ (m j fuel : Nat) (w : Nat → Int32), j + m = 26 * D → m < fuel → ∃ w', lp_X9_on_69 (nI q) (nI D) p k fuel (nI j) w = k w' ∧ (∀ y, y < j ∨ 26 * D ≤ y → w' y = w y) ∧ ∀ y, j ≤ y → y < 26 * D → w' (y) = p (1040 * q + y)
  | 0, j, fuel + 1, w, hx, hf => by
    refine ⟨w, ?_, fun _ _ => rfl, fun y h1 h2 => by omega⟩
    rw [lp_X9_on_69, show (26 : Int32) = nI 26 from rfl, pk_mul, if_pos (nI_le (by omega) (by omega))]
  | m + 1, j, fuel + 1, w, hx, hf => by
    obtain ⟨w', e1, h1, h2⟩ := kc_4 hq hD k m (j + 1) fuel (upd w (j) (p (1040 * q + j))) (by omega) (by omega)
    refine ⟨w', ?_, ?_, ?_⟩
    · rw [lp_X9_on_69, show (26 : Int32) = nI 26 from rfl, pk_mul, if_neg (nI_ge (by omega) (by omega)), show (1040 : Int32) = nI 1040 from rfl, pk_mul, nI_add, nx_in (show j < 1040 by omega) (by omega), nx_in (show 1040 * q + j < 3120 by omega) (by omega), nx_cl (show 1040 * q + j < 2147483648 by omega), nx_cl (show j < 2147483648 by omega), nx_chk, nx_chk, nI_1]
      exact e1
    · intro y hy
      rw [h1 y (by omega), pk_un (by omega)]
    · intro y h3 h4
      by_cases q : y = j
      · subst q
        rw [h1 _ (by omega), pk_us]
      · exact h2 y (by omega) h4
theorem k3_ {β : Type} {q : Nat} (hq : q < 3) (A : Nat → Option β) : gg_k3 (nI q) (A 0) (A 1) (A 2) = A q := by
  rcases (show q = 0 ∨ q = 1 ∨ q = 2 by omega) with rfl | rfl | rfl <;> rfl
theorem sm_keep : sim_keep Rl_ := by
  intro s t h a0
  obtain ⟨hfd, ht, hu, hrw, htx, N, kd, wd, f0, cs, D, hfr⟩ := id h
  obtain ⟨hN, ok0, hd0, hN0, e6, e10, eT2, kw1, kw2, kwt, fl0, flD, arD, e18, eT8, lg, kp⟩ := id hfr
  have hD := lg.1
  obtain ⟨F, hF, hF2⟩ : ∃ F, F = gg_fuel ∧ 50000 ≤ F := ⟨_, rfl, pu_F⟩
  unfold f_X8_keep f_X9_keep
  rw [e10, eT2, e18, eT8, ← hF]
  rcases pu_rng a0 2 2 (by omega) rfl with ⟨q1, q2⟩ | ⟨q, hq, rfl, q1, q2⟩
  · rw [q1, q2]
    exact ⟨-1, s.2.2.1 25, s.2.2.2 2, -1, t.2.2.1 14, t.2.2.1 15, t.2.2.1 16, t.2.2.1 17, rfl, rfl, rfl, ⟨hfd, ht, hu, hrw, htx, ⟨N, kd, wd, f0, cs, D, hfr⟩⟩⟩
  · rw [q1, q2]
    by_cases q0 : N = 0
    · subst q0
      exact ⟨-4, s.2.2.1 25, s.2.2.2 2, -4, t.2.2.1 14, t.2.2.1 15, t.2.2.1 16, t.2.2.1 17, rfl, rfl, rfl, ⟨hfd, ht, hu, hrw, htx, ⟨0, kd, wd, f0, cs, D, hfr⟩⟩⟩
    · have z0 : ¬ nI N = 0 := fun z => q0 ((nI_eq (b := 0) (by omega) (by omega)).1 z)
      obtain ⟨c, l1, l2⟩ := lb_ hD (s.2.2.1 25 q) (s.2.2.2 2 q) (s.2.2.1 24)
      obtain ⟨W1, u1, u2, u3⟩ := kc_1 (show q < 3 by omega) (p := t.2.2.1 8) (fun (c_keptNow_69 : Nat → Int32) => (lp_X9_keep_71 (nI q) (nI D) (t.2.2.1 13) (fun (c_keptLog_106 : Nat → Int32) => (some (nI D, (upd (t.2.2.1 14) q 1), (upd (t.2.2.1 15) q (nI D)), c_keptNow_69, c_keptLog_106))) F (0 : Int32) (t.2.2.1 17))) 26 0 F (t.2.2.1 16) (by omega) (by omega)
      obtain ⟨W2, v1, v2, v3⟩ := kc_2 (show q < 3 by omega) hD (p := t.2.2.1 13) (fun (c_keptLog_106 : Nat → Int32) => (some (nI D, (upd (t.2.2.1 14) q 1), (upd (t.2.2.1 15) q (nI D)), W1, c_keptLog_106))) (26 * D) 0 F (t.2.2.1 17) (by omega) (by omega)
      refine ⟨nI D, gg_up (s.2.2.1 25) q (nI D), gg_up (s.2.2.2 2) q c, nI D, upd (t.2.2.1 14) q 1, upd (t.2.2.1 15) q (nI D), W1, W2, ?_, ?_, rfl, ⟨hfd, ht, hu, hrw, htx, ⟨N, kd, wd, f0, cs, D, hN, ok0, hd0, hN0, e6, e10, eT2, kw1, kw2, kwt, fl0, flD, arD, e18, eT8, lg, ?_⟩⟩⟩
      · rw [Option.bind_some, if_neg (show ¬ nI 1 = 0 by decide), if_neg z0]
        refine Eq.trans (k3_ (show q < 3 by omega) (fun x => gg_b2 (f_X4_become (s.2.2.1 25 x) (s.2.2.2 2 x) (nI D) (s.2.2.1 24)) (fun v2_0 v2_1 => (some (nI D, (gg_up (s.2.2.1 25) x v2_0), (gg_up (s.2.2.2 2) x v2_1)))))) ?_
        show gg_b2 (f_X4_become (s.2.2.1 25 q) (s.2.2.2 2 q) (nI D) (s.2.2.1 24)) _ = _
        rw [l1, nx_b2]
      · rw [Option.bind_some, if_neg (show ¬ nI 1 = 0 by decide), if_neg z0, pu_in (show q < 3 by omega) (by omega), nx_chk, nx_chk, nI_clamp (by omega), show vp_nar .boolean (1 : Int32) = 1 by decide]
        exact u1.trans v1
      · intro x hx
        show (upd (t.2.2.1 14) q 1 x = 0 ∧ gg_up (s.2.2.1 25) q (nI D) x = -1) ∨ (N ≠ 0 ∧ upd (t.2.2.1 14) q 1 x = 1 ∧ ∃ (ks : Nat → Nat) (E : Nat), gg_up (s.2.2.1 25) q (nI D) x = nI E ∧ upd (t.2.2.1 15) q (nI D) x = nI E ∧ fr_ar N (fr_ch N kd wd f0 ks E) (fun k => W1 (26 * x + k)) ∧ fr_lg N kd wd f0 ks E (gg_up (s.2.2.2 2) q c x) (fun k => W2 (1040 * x + k)))
        by_cases e : x = q
        · subst e
          right
          rw [pk_us, pk_us, nx_upn, if_pos rfl, nx_upn, if_pos rfl]
          exact ⟨q0, rfl, cs, D, rfl, rfl, fr_ar_c hN arD (fun k hk => u3 k (by omega) hk), fr_lg_c hN lg (fun d hd => l2 d hd) (fun y hy => v3 y (by omega) hy)⟩
        · rw [pk_un e, pk_un e, nx_upn, if_neg e, nx_upn, if_neg e]
          rcases kp x hx with z | ⟨z1, z2, ks, E, z3, z4, z5, z6⟩
          · exact Or.inl z
          · right
            have hE := z6.1
            refine ⟨z1, z2, ks, E, z3, z4, fr_ar_c hN z5 (fun k hk => u2 (26 * x + k) (by omega)), fr_lg_c hN z6 (fun d hd => rfl) (fun y hy => v2 (1040 * x + y) (by omega))⟩
theorem k3_0 {β : Type} (A B C : Option β) : gg_k3 (nI 0) A B C = A := rfl
theorem k3_1 {β : Type} (A B C : Option β) : gg_k3 (nI 1) A B C = B := rfl
theorem k3_2 {β : Type} (A B C : Option β) : gg_k3 (nI 2) A B C = C := rfl
theorem sm_on : sim_on Rl_ := by
  intro s t h a0
  obtain ⟨hfd, ht, hu, hrw, htx, N, kd, wd, f0, cs, D, hfr⟩ := id h
  obtain ⟨hN, ok0, hd0, hN0, e6, e10, eT2, kw1, kw2, kwt, fl0, flD, arD, e18, eT8, lg, kp⟩ := id hfr
  have hD := lg.1
  obtain ⟨F, hF, hF2⟩ : ∃ F, F = gg_fuel ∧ 50000 ≤ F := ⟨_, rfl, pu_F⟩
  unfold f_X8_on f_X9_on
  rw [e6, e10, e18, eT8, ← hF]
  rcases pu_rng a0 2 2 (by omega) rfl with ⟨q1, q2⟩ | ⟨q, hq, rfl, q1, q2⟩
  · rw [q1, q2]
    exact ⟨-1, s.1 0, nI N, s.1 11, s.1 12, s.1 13, s.2.2.1 10, s.2.2.1 11, s.2.2.1 12, s.2.2.1 13, s.2.2.1 14, s.2.2.1 15, s.2.2.1 16, nI D, s.2.2.1 24, s.2.2.1 32, -1, t.1 0, nI D, t.2.2.1 0, t.2.2.1 8, t.2.2.1 13, rfl, rfl, rfl, ⟨hfd, ht, hu, hrw, htx, ⟨N, kd, wd, f0, cs, D, hN, ok0, hd0, hN0, e6, rfl, eT2, kw1, kw2, kwt, fl0, flD, arD, rfl, rfl, lg, kp⟩⟩⟩
  · rw [q1, q2, Option.bind_some, if_neg (show ¬ nI 1 = 0 by decide), Option.bind_some, if_neg (show ¬ nI 1 = 0 by decide)]
    rcases kp q (by omega) with ⟨z1, z2⟩ | ⟨z1, z2, ks, E, z3, z4, z5, z6⟩
    · refine ⟨-3, 1, nI N, s.1 11, s.1 12, s.1 13, s.2.2.1 10, s.2.2.1 11, s.2.2.1 12, s.2.2.1 13, s.2.2.1 14, s.2.2.1 15, s.2.2.1 16, nI D, s.2.2.1 24, upd (s.2.2.1 32) 1 (s.2.2.1 32 1 + 1), -3, 1, nI D, upd (t.2.2.1 0) 1 (t.2.2.1 0 1 + 1), t.2.2.1 8, t.2.2.1 13, ?_, ?_, rfl, ⟨⟨rfl, pu_up hfd.2 (by omega)⟩, ht, hu, hrw, htx, ⟨N, kd, wd, f0, cs, D, hN, ok0, hd0, hN0, e6, rfl, eT2, kw1, kw2, kwt, fl0, flD, arD, rfl, rfl, lg, kp⟩⟩⟩
      · rcases (show q = 0 ∨ q = 1 ∨ q = 2 by omega) with rfl | rfl | rfl
        · rw [k3_0, if_pos z2, pu_fi1, nx_b3]
        · rw [k3_1, if_pos z2, pu_fi1, nx_b3]
        · rw [k3_2, if_pos z2, pu_fi1, nx_b3]
      · rw [pu_in (show q < 3 by omega) (by omega), nx_chk, nI_clamp (by omega), if_pos z1, pu_me1, nx_b3]
    · have hE := z6.1
      obtain ⟨c, l1, l2⟩ := lb_ hE (nI D) (s.2.2.1 24) (s.2.2.2 2 q)
      obtain ⟨a1, a2, a3, a4, a5, a6, a7, a8, a9, a10, g1, g2, g3⟩ := fl_doAnew hN kw1 ok0 hd0 hE (lc := c) (fun d hd => ⟨(l2 d hd).trans (z6.2.1 d hd).1, (z6.2.1 d hd).2⟩) fl0 (nI N) (s.1 11) (s.1 12) (s.1 13) (s.2.2.1 10) (s.2.2.1 11) (s.2.2.1 12) (s.2.2.1 13) (s.2.2.1 14) (s.2.2.1 15) (s.2.2.1 16)
      obtain ⟨W1, u1, u2, u3⟩ := kc_3 (show q < 3 by omega) (p := t.2.2.1 16) (fun (c_now_67 : Nat → Int32) => (lp_X9_on_69 (nI q) (nI E) (t.2.2.1 17) (fun (c_log_104 : Nat → Int32) => (some (nI E, t.1 0, nI E, t.2.2.1 0, c_now_67, c_log_104))) F (0 : Int32) (t.2.2.1 13))) 26 0 F (t.2.2.1 8) (by omega) (by omega)
      obtain ⟨W2, v1, v2, v3⟩ := kc_4 (show q < 3 by omega) hE (p := t.2.2.1 17) (fun (c_log_104 : Nat → Int32) => (some (nI E, t.1 0, nI E, t.2.2.1 0, W1, c_log_104))) (26 * E) 0 F (t.2.2.1 13) (by omega) (by omega)
      have ne : ¬ s.2.2.1 25 q = -1 := by
        rw [z3]
        intro z
        have := congrArg Int32.toInt z
        rw [nI_toInt (by omega), show (-1 : Int32).toInt = -1 by decide] at this
        omega
      refine ⟨nI E, s.1 0, nI N, a1, a2, a3, a4, a5, a6, a7, a8, a9, a10, nI E, c, s.2.2.1 32, nI E, t.1 0, nI E, t.2.2.1 0, W1, W2, ?_, ?_, rfl, ⟨hfd, ht, hu, hrw, htx, ⟨N, kd, wd, f0, ks, E, hN, ok0, hd0, fun z => absurd z z1, e6, rfl, eT2, kw1, g2, kwt, fl0, g3, fr_ar_c hN z5 (fun k hk => u3 k (by omega) hk), rfl, rfl, fr_lg_c hN z6 l2 (fun y hy => v3 y (by omega) hy), kp⟩⟩⟩
      · rcases (show q = 0 ∨ q = 1 ∨ q = 2 by omega) with rfl | rfl | rfl
        · rw [k3_0, if_neg ne, k3_0, z3, l1, nx_b2, g1, nx_b11]
        · rw [k3_1, if_neg ne, k3_1, z3, l1, nx_b2, g1, nx_b11]
        · rw [k3_2, if_neg ne, k3_2, z3, l1, nx_b2, g1, nx_b11]
      · rw [pu_in (show q < 3 by omega) (by omega), nx_chk, nx_chk, nI_clamp (by omega), z2, if_neg (show ¬ (1 : Int32) = 0 by decide), z4]
        exact u1.trans v1
