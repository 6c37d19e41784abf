theorem dg_1 {β γ : Type} {N : Nat} {kd wd : Nat → Nat} {f : FS_} {s t : ll_S} (h : Rl_ s t) (nw : nw_ N kd wd f s t) (k : Int64 → Option β) (k' : Int64 → Option γ) : ∀ (m j fuel fuel' : Nat) (x : Int64), j + m = 11 → m < fuel → m < fuel' → ∃ H, lp_X8_digest_6 (s.2.2.1 0) (s.2.2.1 1) (s.1 10) (s.1 11) (s.1 12) (s.2.2.1 11) (s.2.2.1 12) (s.2.2.1 13) (s.2.2.1 15) (s.1 18) (s.2.2.1 25) k fuel x (nI j) = k H ∧ lp_X9_digest_9 (t.1 2) (t.1 8) (t.2.2.1 1) (t.2.2.1 4) (t.2.2.1 6) (t.2.2.1 8) (t.2.2.1 14) k' fuel' (nI j) x = k' H
  | 0, j, fuel + 1, fuel' + 1, x, hj, hf, hf' => by
    refine ⟨x, ?_, ?_⟩
    · rw [lp_X8_digest_6, if_pos (show (11 : Int32) ≤ nI j from (nI_leI (a := 11) (by omega) (by omega)).2 (by omega))]
    · rw [lp_X9_digest_9, if_pos (show (11 : Int32) ≤ nI j from (nI_leI (a := 11) (by omega) (by omega)).2 (by omega))]
  | m + 1, j, fuel + 1, fuel' + 1, x, hj, hf, hf' => by
    obtain ⟨v, v1, v2⟩ := ct_eq h nw (show j ≤ 10 by omega)
    obtain ⟨H, h1, h2⟩ := dg_1 h nw k k' m (j + 1) fuel fuel' (31 * x + v.toInt64) (by omega) (by omega) (by omega)
    refine ⟨H, ?_, ?_⟩
    · rw [lp_X8_digest_6, if_neg (show ¬ (11 : Int32) ≤ nI j from fun z => absurd ((nI_leI (a := 11) (by omega) (by omega)).1 z) (by omega)), v1, nI_1, Option.bind_some, h1]
    · rw [lp_X9_digest_9, if_neg (show ¬ (11 : Int32) ≤ nI j from fun z => absurd ((nI_leI (a := 11) (by omega) (by omega)).1 z) (by omega)), v2, nI_1, Option.bind_some]
      exact h2
theorem dg_2 {β γ : Type} {N : Nat} {kd wd : Nat → Nat} {f : FS_} {s t : ll_S} (nw : nw_ N kd wd f s t) {i : Nat} (hi : i < N) (k : Int64 → Option β) (k' : Int64 → Option γ) : ∀ (m j fuel fuel' : Nat) (x : Int64), j + m = 7 → m < fuel → m < fuel' → ∃ H, lp_X8_digest_47 (nI i) (s.1 12) (s.2.2.1 10) (s.2.2.1 11) (s.2.2.1 12) (s.2.2.1 13) (s.2.2.1 14) (s.2.2.1 15) k fuel x (nI j) = k H ∧ lp_X9_mixFront_12 (nI i) (t.2.2.1 6) (t.2.2.1 7) (t.2.2.1 8) k' fuel' (nI j) x = k' H
  | 0, j, fuel + 1, fuel' + 1, x, hj, hf, hf' => by
    refine ⟨x, ?_, ?_⟩
    · rw [lp_X8_digest_47, if_pos (show (7 : Int32) ≤ nI j from (nI_leI (a := 7) (by omega) (by omega)).2 (by omega))]
    · rw [lp_X9_mixFront_12, if_pos (show (7 : Int32) ≤ nI j from (nI_leI (a := 7) (by omega) (by omega)).2 (by omega))]
  | m + 1, j, fuel + 1, fuel' + 1, x, hj, hf, hf' => by
    obtain ⟨v, v1, v2⟩ := hu_eq nw hi (show j ≤ 6 by omega)
    obtain ⟨H, h1, h2⟩ := dg_2 nw hi k k' m (j + 1) fuel fuel' (31 * x + v.toInt64) (by omega) (by omega) (by omega)
    refine ⟨H, ?_, ?_⟩
    · rw [lp_X8_digest_47, if_neg (show ¬ (7 : Int32) ≤ nI j from fun z => absurd ((nI_leI (a := 7) (by omega) (by omega)).1 z) (by omega)), v1, nI_1, Option.bind_some, h1]
    · rw [lp_X9_mixFront_12, if_neg (show ¬ (7 : Int32) ≤ nI j from fun z => absurd ((nI_leI (a := 7) (by omega) (by omega)).1 z) (by omega)), v2, nI_1, Option.bind_some]
      exact h2
theorem dg_3 {β γ : Type} {N : Nat} {kd wd : Nat → Nat} {f : FS_} {s t : ll_S} (nw : nw_ N kd wd f s t) (k : Int64 → Option β) (k' : Int64 → Option γ) : ∀ (m j fuel fuel' : Nat) (x : Int64), j + m = N → m < fuel → m < fuel' → ∃ H, lp_X8_digest_33 (nI N) (s.1 12) (s.2.2.1 10) (s.2.2.1 11) (s.2.2.1 12) (s.2.2.1 13) (s.2.2.1 14) (s.2.2.1 15) k fuel x (nI j) = k H ∧ lp_X9_mixFront_2 (nI N) (t.2.2.1 6) (t.2.2.1 7) (t.2.2.1 8) k' fuel' (nI j) x = k' H
  | 0, j, fuel + 1, fuel' + 1, x, hj, hf, hf' => by
    have hN := nw.1
    refine ⟨x, ?_, ?_⟩
    · rw [lp_X8_digest_33, if_pos (show nI N ≤ nI j by rw [nx_le (by omega) (by omega)]; omega)]
    · rw [lp_X9_mixFront_2, if_pos (show nI N ≤ nI j by rw [nx_le (by omega) (by omega)]; omega)]
  | m + 1, j, fuel + 1, fuel' + 1, x, hj, hf, hf' => by
    have hN := nw.1
    obtain ⟨F, hF, hF2⟩ : ∃ F, F = gg_fuel ∧ 50000 ≤ F := ⟨_, rfl, pu_F⟩
    obtain ⟨H, h1, h2⟩ := dg_2 nw (show j < N by omega) (fun (x1_78 : Int64) => (lp_X8_digest_33 (nI N) (s.1 12) (s.2.2.1 10) (s.2.2.1 11) (s.2.2.1 12) (s.2.2.1 13) (s.2.2.1 14) (s.2.2.1 15) k fuel x1_78 (nI (j + 1)))) (fun (c_hash_35 : Int64) => (lp_X9_mixFront_2 (nI N) (t.2.2.1 6) (t.2.2.1 7) (t.2.2.1 8) k' fuel' (nI (j + 1)) c_hash_35)) 7 0 F F x (by omega) (by omega) (by omega)
    obtain ⟨H2, h3, h4⟩ := dg_3 nw k k' m (j + 1) fuel fuel' H (by omega) (by omega) (by omega)
    refine ⟨H2, ?_, ?_⟩
    · rw [lp_X8_digest_33, if_neg (show ¬ nI N ≤ nI j by rw [nx_le (by omega) (by omega)]; omega), ← hF, nI_1]
      exact h1.trans h3
    · rw [lp_X9_mixFront_2, if_neg (show ¬ nI N ≤ nI j by rw [nx_le (by omega) (by omega)]; omega), ← hF, nI_1]
      exact h2.trans h4
theorem dg_4 {β γ : Type} {z u v : Nat → Int32} (kp : kp_ z u v) (k : Int64 → Option β) (k' : Int64 → Option γ) : ∀ (m j fuel fuel' : Nat) (x : Int64), j + m = 3 → m < fuel → m < fuel' → ∃ H, lp_X8_digest_86 z k fuel x (nI j) = k H ∧ lp_X9_mixFront_43 u v k' fuel' (nI j) x = k' H
  | 0, j, fuel + 1, fuel' + 1, x, hj, hf, hf' => by
    refine ⟨x, ?_, ?_⟩
    · rw [lp_X8_digest_86, if_pos (show (3 : Int32) ≤ nI j from (nI_leI (a := 3) (by omega) (by omega)).2 (by omega))]
    · rw [lp_X9_mixFront_43, if_pos (show (3 : Int32) ≤ nI j from (nI_leI (a := 3) (by omega) (by omega)).2 (by omega))]
  | m + 1, j, fuel + 1, fuel' + 1, x, hj, hf, hf' => by
    obtain ⟨H, h1, h2⟩ := dg_4 kp k k' m (j + 1) fuel fuel' (31 * x + (z j).toInt64) (by omega) (by omega) (by omega)
    refine ⟨H, ?_, ?_⟩
    · rw [lp_X8_digest_86, if_neg (show ¬ (3 : Int32) ≤ nI j from fun z => absurd ((nI_leI (a := 3) (by omega) (by omega)).1 z) (by omega)), nI_1, ← h1]
      rcases (show j = 0 ∨ j = 1 ∨ j = 2 by omega) with rfl | rfl | rfl <;> rfl
    · rw [lp_X9_mixFront_43, if_neg (show ¬ (3 : Int32) ≤ nI j from fun z => absurd ((nI_leI (a := 3) (by omega) (by omega)).1 z) (by omega)), nx_in (show j < 3 by omega) (by omega), nx_cl (by omega), nx_chk, nx_let, nI_1, ← h2]
      rcases kp j (by omega) with ⟨a, b⟩ | ⟨a, E, hE, b, c⟩
      · rw [if_pos a, b]
        rfl
      · rw [if_neg (by rw [a]; decide), nx_chk, b, c]
        rfl
theorem dg_5i {β γ : Type} {r n : Nat} (hr : r < 6) (hn : n ≤ 40) {z zt : Nat → Int32} {M : Nat → Nat → Int32} {g : Nat → Int32} (hz : z r = nI n) (hzt : zt r = nI n) (hc : ∀ i, i < n → M r i = g (40 * r + i)) (k : Int64 → Option β) (k' : Int64 → Option γ) : ∀ (m j fuel fuel' : Nat) (x : Int64), j + m = n → m < fuel → m < fuel' → ∃ H, lp_X6_digestOnto_s6_28 (nI r) z M k fuel x (nI j) = k H ∧ lp_X9_digest_56 (nI r) zt g k' fuel' (nI j) x = k' H
  | 0, j, fuel + 1, fuel' + 1, x, hj, hf, hf' => by
    refine ⟨x, ?_, ?_⟩
    · rw [lp_X6_digestOnto_s6_28, nx_in hr (by omega), nx_cl (by omega), nx_chk, hz, if_pos (show nI n ≤ nI j by rw [nx_le (by omega) (by omega)]; omega)]
    · rw [lp_X9_digest_56, nx_in hr (by omega), nx_cl (by omega), nx_chk, hzt, if_pos (show nI n ≤ nI j by rw [nx_le (by omega) (by omega)]; omega)]
  | m + 1, j, fuel + 1, fuel' + 1, x, hj, hf, hf' => by
    obtain ⟨H, h1, h2⟩ := dg_5i hr hn hz hzt hc k k' m (j + 1) fuel fuel' (31 * x + (M r j).toInt64) (by omega) (by omega) (by omega)
    refine ⟨H, ?_, ?_⟩
    · rw [lp_X6_digestOnto_s6_28, nx_in hr (by omega), nx_cl (by omega), nx_chk, hz, if_neg (show ¬ nI n ≤ nI j by rw [nx_le (by omega) (by omega)]; omega), pu_get6 hr hn (show j < n by omega) hz, Option.bind_some, nI_1, h1]
    · rw [lp_X9_digest_56, nx_in hr (by omega), nx_cl (by omega), nx_chk, hzt, if_neg (show ¬ nI n ≤ nI j by rw [nx_le (by omega) (by omega)]; omega), pu_rowAt hr (show j < 40 by omega), Option.bind_some, nI_1, ← hc j (by omega)]
      exact h2
theorem dg_5m {β γ : Type} {r : Nat} (hr : r < 6) {z zt : Nat → Int32} {M : Nat → Nat → Int32} {g : Nat → Int32} (hz : z r = -1) (hzt : zt r = -1) (k : Int64 → Option β) (k' : Int64 → Option γ) {F F' : Nat} (hF : 0 < F) (hF' : 0 < F') (x : Int64) : lp_X6_digestOnto_s6_28 (nI r) z M k F x (nI 0) = k x ∧ lp_X9_digest_56 (nI r) zt g k' F' (nI 0) x = k' x := by
  obtain ⟨G, rfl⟩ : ∃ G, F = G + 1 := ⟨F - 1, by omega⟩
  obtain ⟨G', rfl⟩ : ∃ G, F' = G + 1 := ⟨F' - 1, by omega⟩
  refine ⟨?_, ?_⟩
  · rw [lp_X6_digestOnto_s6_28, nx_in hr (by omega), nx_cl (by omega), nx_chk, hz, if_pos (by decide)]
  · rw [lp_X9_digest_56, nx_in hr (by omega), nx_cl (by omega), nx_chk, hzt, if_pos (by decide)]
theorem dg_5 {β γ : Type} {z zt : Nat → Int32} {M : Nat → Nat → Int32} {g : Nat → Int32} (hz : rl_sz 6 40 z zt) (hc : rl_ce 6 40 z M g) (k : Int64 → Option β) (k' : Int64 → Option γ) : ∀ (m j fuel fuel' : Nat) (x : Int64), j + m = 6 → m < fuel → m < fuel' → ∃ H, lp_X6_digestOnto_s6_2 z M k fuel x (nI j) = k H ∧ lp_X9_digest_37 zt g k' fuel' (nI j) x = k' H
  | 0, j, fuel + 1, fuel' + 1, x, hj, hf, hf' => by
    refine ⟨x, ?_, ?_⟩
    · rw [lp_X6_digestOnto_s6_2, if_pos (show (6 : Int32) ≤ nI j from (nI_leI (a := 6) (by omega) (by omega)).2 (by omega))]
    · rw [lp_X9_digest_37, if_pos (show (6 : Int32) ≤ nI j from (nI_leI (a := 6) (by omega) (by omega)).2 (by omega))]
  | m + 1, j, fuel + 1, fuel' + 1, x, hj, hf, hf' => by
    obtain ⟨F, hF, hF2⟩ : ∃ F, F = gg_fuel ∧ 50000 ≤ F := ⟨_, rfl, pu_F⟩
    have hjm : j < 6 := by omega
    obtain ⟨e1, e2⟩ := hz j hjm
    have hex : ∃ H, lp_X6_digestOnto_s6_28 (nI j) z M (fun (x1_60 : Int64) => (lp_X6_digestOnto_s6_2 z M k fuel x1_60 (nI (j + 1)))) F (31 * x + (z j).toInt64) (nI 0) = lp_X6_digestOnto_s6_2 z M k fuel H (nI (j + 1)) ∧ lp_X9_digest_56 (nI j) zt g (fun (c_hash_83 : Int64) => (lp_X9_digest_37 zt g k' fuel' (nI (j + 1)) c_hash_83)) F (nI 0) (31 * x + (z j).toInt64) = lp_X9_digest_37 zt g k' fuel' (nI (j + 1)) H := by
      rcases e2 with e2 | ⟨n, hn, e2⟩
      · obtain ⟨p1, p2⟩ := dg_5m (M := M) (g := g) hjm e2 (e1.symm.trans e2) (fun (x1_60 : Int64) => (lp_X6_digestOnto_s6_2 z M k fuel x1_60 (nI (j + 1)))) (fun (c_hash_83 : Int64) => (lp_X9_digest_37 zt g k' fuel' (nI (j + 1)) c_hash_83)) (show 0 < F by omega) (show 0 < F by omega) (31 * x + (z j).toInt64)
        exact ⟨_, p1, p2⟩
      · exact dg_5i hjm hn e2 (by rw [← e1]; exact e2) (fun i hi => hc j i hjm (by omega) (by rw [e2]; exact nI_lt hi (by omega))) _ _ n 0 F F _ (by omega) (by omega) (by omega)
    obtain ⟨H, p1, p2⟩ := hex
    obtain ⟨H2, h3, h4⟩ := dg_5 hz hc k k' m (j + 1) fuel fuel' H (by omega) (by omega) (by omega)
    refine ⟨H2, ?_, ?_⟩
    · rw [lp_X6_digestOnto_s6_2, if_neg (show ¬ (6 : Int32) ≤ nI j from fun z => absurd ((nI_leI (a := 6) (by omega) (by omega)).1 z) (by omega)), ← hF, nx_in hjm (by omega), nx_cl (by omega), nx_chk, nI_1]
      exact p1.trans h3
    · rw [lp_X9_digest_37, if_neg (show ¬ (6 : Int32) ≤ nI j from fun z => absurd ((nI_leI (a := 6) (by omega) (by omega)).1 z) (by omega)), ← hF, nx_in hjm (by omega), nx_cl (by omega), nx_chk, nI_1, ← e1]
      exact p2.trans h4
theorem pu_byteAt {r j n : Nat} (hr : r < 4) (hj : j < n) (hn : n ≤ 60) {z : Nat → Int32} (hz : z r = nI n) {g : Nat → Int32} : f_X9_byteAt (nI r) (nI j) z g = some (g (60 * r + j)) := by
  unfold f_X9_byteAt
  simp (disch := omega) only [nx_chk, nx_let, nx_b2, nx_b3, nx_b4, nx_b5, nx_b7, nx_b8, Option.bind_some, nx_l0, nx_l1, nx_l2, nx_l3, nx_l4, nx_l5, nx_l6, nx_l7, nx_l8, nx_l9, nx_l10, nx_l11, nx_l12, nx_l14, nx_l20, nx_l26, nx_l40, nx_l60, nx_l100, nx_l1000, nI_add, nx_sub, nx_m1, nx_in, nx_cl, nx_le, nx_ltI, nx_eq, nx_isb0, nx_isb1, nx_n9, nx_n9', nx_b9, nx_b9', nx_m1', Nat.reduceEqDiff, Nat.reduceLeDiff, Nat.reduceLT, Nat.reduceAdd, Nat.reduceSub, Nat.reduceMul, Nat.reduceDiv, Nat.reduceMod, Bool.false_eq_true, reduceIte, ite_true, ite_false, if_true, if_false, hz, show ¬ n ≤ j by omega, pk_mul]
theorem dg_6i {β γ : Type} {r n : Nat} (hr : r < 4) (hn : n ≤ 60) {z zt : Nat → Int32} {M : Nat → Nat → Int32} {g : Nat → Int32} (hz : z r = nI n) (hzt : zt r = nI n) (hc : ∀ i, i < n → M r i = g (60 * r + i)) (k : Int64 → Option β) (k' : Int64 → Option γ) : ∀ (m j fuel fuel' : Nat) (x : Int64), j + m = n → m < fuel → m < fuel' → ∃ H, lp_X6_digestOnto_s4_28 (nI r) z M k fuel x (nI j) = k H ∧ lp_X9_digest_109 (nI r) zt g k' fuel' (nI j) x = k' H
  | 0, j, fuel + 1, fuel' + 1, x, hj, hf, hf' => by
    refine ⟨x, ?_, ?_⟩
    · rw [lp_X6_digestOnto_s4_28, nx_in hr (by omega), nx_cl (by omega), nx_chk, hz, if_pos (show nI n ≤ nI j by rw [nx_le (by omega) (by omega)]; omega)]
    · rw [lp_X9_digest_109, nx_in hr (by omega), nx_cl (by omega), nx_chk, hzt, if_pos (show nI n ≤ nI j by rw [nx_le (by omega) (by omega)]; omega)]
  | m + 1, j, fuel + 1, fuel' + 1, x, hj, hf, hf' => by
    obtain ⟨H, h1, h2⟩ := dg_6i hr hn hz hzt hc k k' m (j + 1) fuel fuel' (31 * x + (M r j).toInt64) (by omega) (by omega) (by omega)
    refine ⟨H, ?_, ?_⟩
    · rw [lp_X6_digestOnto_s4_28, nx_in hr (by omega), nx_cl (by omega), nx_chk, hz, if_neg (show ¬ nI n ≤ nI j by rw [nx_le (by omega) (by omega)]; omega), pu_get4 hr hn (show j < n by omega) hz, Option.bind_some, nI_1, h1]
    · rw [lp_X9_digest_109, nx_in hr (by omega), nx_cl (by omega), nx_chk, hzt, if_neg (show ¬ nI n ≤ nI j by rw [nx_le (by omega) (by omega)]; omega), pu_byteAt hr (show j < n by omega) hn hzt, Option.bind_some, nI_1, ← hc j (by omega)]
      exact h2
theorem dg_6m {β γ : Type} {r : Nat} (hr : r < 4) {z zt : Nat → Int32} {M : Nat → Nat → Int32} {g : Nat → Int32} (hz : z r = -1) (hzt : zt r = -1) (k : Int64 → Option β) (k' : Int64 → Option γ) {F F' : Nat} (hF : 0 < F) (hF' : 0 < F') (x : Int64) : lp_X6_digestOnto_s4_28 (nI r) z M k F x (nI 0) = k x ∧ lp_X9_digest_109 (nI r) zt g k' F' (nI 0) x = k' x := by
  obtain ⟨G, rfl⟩ : ∃ G, F = G + 1 := ⟨F - 1, by omega⟩
  obtain ⟨G', rfl⟩ : ∃ G, F' = G + 1 := ⟨F' - 1, by omega⟩
  refine ⟨?_, ?_⟩
  · rw [lp_X6_digestOnto_s4_28, nx_in hr (by omega), nx_cl (by omega), nx_chk, hz, if_pos (by decide)]
  · rw [lp_X9_digest_109, nx_in hr (by omega), nx_cl (by omega), nx_chk, hzt, if_pos (by decide)]
theorem dg_6 {β γ : Type} {z zt : Nat → Int32} {M : Nat → Nat → Int32} {g : Nat → Int32} (hz : rl_sz 4 60 z zt) (hc : rl_ce 4 60 z M g) (k : Int64 → Option β) (k' : Int64 → Option γ) : ∀ (m j fuel fuel' : Nat) (x : Int64), j + m = 4 → m < fuel → m < fuel' → ∃ H, lp_X6_digestOnto_s4_2 z M k fuel x (nI j) = k H ∧ lp_X9_digest_91 zt g k' fuel' (nI j) x = k' H
  | 0, j, fuel + 1, fuel' + 1, x, hj, hf, hf' => by
    refine ⟨x, ?_, ?_⟩
    · rw [lp_X6_digestOnto_s4_2, if_pos (show (4 : Int32) ≤ nI j from (nI_leI (a := 4) (by omega) (by omega)).2 (by omega))]
    · rw [lp_X9_digest_91, if_pos (show (4 : Int32) ≤ nI j from (nI_leI (a := 4) (by omega) (by omega)).2 (by omega))]
  | m + 1, j, fuel + 1, fuel' + 1, x, hj, hf, hf' => by
    obtain ⟨F, hF, hF2⟩ : ∃ F, F = gg_fuel ∧ 50000 ≤ F := ⟨_, rfl, pu_F⟩
    have hjm : j < 4 := by omega
    obtain ⟨e1, e2⟩ := hz j hjm
    have hex : ∃ H, lp_X6_digestOnto_s4_28 (nI j) z M (fun (x1_60 : Int64) => (lp_X6_digestOnto_s4_2 z M k fuel x1_60 (nI (j + 1)))) F (31 * x + (z j).toInt64) (nI 0) = lp_X6_digestOnto_s4_2 z M k fuel H (nI (j + 1)) ∧ lp_X9_digest_109 (nI j) zt g (fun (c_hash_83 : Int64) => (lp_X9_digest_91 zt g k' fuel' (nI (j + 1)) c_hash_83)) F (nI 0) (31 * x + (z j).toInt64) = lp_X9_digest_91 zt g k' fuel' (nI (j + 1)) H := by
      rcases e2 with e2 | ⟨n, hn, e2⟩
      · obtain ⟨p1, p2⟩ := dg_6m (M := M) (g := g) hjm e2 (e1.symm.trans e2) (fun (x1_60 : Int64) => (lp_X6_digestOnto_s4_2 z M k fuel x1_60 (nI (j + 1)))) (fun (c_hash_83 : Int64) => (lp_X9_digest_91 zt g k' fuel' (nI (j + 1)) c_hash_83)) (show 0 < F by omega) (show 0 < F by omega) (31 * x + (z j).toInt64)
        exact ⟨_, p1, p2⟩
      · exact dg_6i hjm hn e2 (by rw [← e1]; exact e2) (fun i hi => hc j i hjm (by omega) (by rw [e2]; exact nI_lt hi (by omega))) _ _ n 0 F F _ (by omega) (by omega) (by omega)
    obtain ⟨H, p1, p2⟩ := hex
    obtain ⟨H2, h3, h4⟩ := dg_6 hz hc k k' m (j + 1) fuel fuel' H (by omega) (by omega) (by omega)
    refine ⟨H2, ?_, ?_⟩
    · rw [lp_X6_digestOnto_s4_2, if_neg (show ¬ (4 : Int32) ≤ nI j from fun z => absurd ((nI_leI (a := 4) (by omega) (by omega)).1 z) (by omega)), ← hF, nx_in hjm (by omega), nx_cl (by omega), nx_chk, nI_1]
      exact p1.trans h3
    · rw [lp_X9_digest_91, if_neg (show ¬ (4 : Int32) ≤ nI j from fun z => absurd ((nI_leI (a := 4) (by omega) (by omega)).1 z) (by omega)), ← hF, nx_in hjm (by omega), nx_cl (by omega), nx_chk, nI_1, ← e1]
      exact p2.trans h4
theorem sm_digest : sim_digest Rl_ := by
  intro s t h
  obtain ⟨N, kd, wd, f, nw⟩ := rl_nw h.2.2.2.2.2
  obtain ⟨kp, e18⟩ := rl_kp h.2.2.2.2.2
  obtain ⟨F, hF, hF2⟩ : ∃ F, F = gg_fuel ∧ 50000 ≤ F := ⟨_, rfl, pu_F⟩
  have e10 := nw.2.1
  have hN6 := nw.1
  have eT2 := nw.2.2.1
  obtain ⟨H1, a1, b1⟩ := dg_1 h nw (fun (x1_31 : Int64) => (lp_X8_digest_33 (s.1 10) (s.1 12) (s.2.2.1 10) (s.2.2.1 11) (s.2.2.1 12) (s.2.2.1 13) (s.2.2.1 14) (s.2.2.1 15) (fun (x1_84 : Int64) => (lp_X8_digest_86 (s.2.2.1 25) (fun (x1_118 : Int64) => (f_X6_digestOnto_s6 x1_118 (s.2.2.1 0) (s.2.2.2 0)).bind (fun v3 => (f_X6_digestOnto_s4 v3 (s.2.2.1 1) (s.2.2.2 1)).bind (fun v4 => (some v4)))) F x1_84 (0 : Int32))) F x1_31 (0 : Int32))) (fun (c_hash_31 : Int64) => (f_X9_mixFront (t.1 2) c_hash_31 (t.2.2.1 6) (t.2.2.1 7) (t.2.2.1 8) (t.2.2.1 14) (t.2.2.1 15)).bind (fun v3 => (lp_X9_digest_37 (t.2.2.1 1) (t.2.2.1 2) (fun (c_hash_89 : Int64) => (lp_X9_digest_91 (t.2.2.1 4) (t.2.2.1 5) (fun (c_hash_142 : Int64) => (some (c_hash_142, c_hash_142))) F (0 : Int32) c_hash_89)) F (0 : Int32) v3))) 11 0 F F 17 (by omega) (by omega) (by omega)
  obtain ⟨H2, a2, b2⟩ := dg_3 nw (fun (x1_84 : Int64) => (lp_X8_digest_86 (s.2.2.1 25) (fun (x1_118 : Int64) => (f_X6_digestOnto_s6 x1_118 (s.2.2.1 0) (s.2.2.2 0)).bind (fun v3 => (f_X6_digestOnto_s4 v3 (s.2.2.1 1) (s.2.2.2 1)).bind (fun v4 => (some v4)))) F x1_84 (0 : Int32))) (fun (c_hash_41 : Int64) => (lp_X9_mixFront_43 (t.2.2.1 14) (t.2.2.1 15) (fun (c_hash_80 : Int64) => (some c_hash_80)) F (0 : Int32) c_hash_41)) N 0 F F H1 (by omega) (by omega) (by omega)
  obtain ⟨H3, a3, b3⟩ := dg_4 kp (fun (x1_118 : Int64) => (f_X6_digestOnto_s6 x1_118 (s.2.2.1 0) (s.2.2.2 0)).bind (fun v3 => (f_X6_digestOnto_s4 v3 (s.2.2.1 1) (s.2.2.2 1)).bind (fun v4 => (some v4)))) (fun (c_hash_80 : Int64) => (some c_hash_80)) 3 0 F F H2 (by omega) (by omega) (by omega)
  obtain ⟨H4, a4, b4⟩ := dg_5 h.2.2.2.1.2.1 h.2.2.2.1.2.2 (fun (x1_66 : Int64) => (some x1_66)) (fun (c_hash_89 : Int64) => (lp_X9_digest_91 (t.2.2.1 4) (t.2.2.1 5) (fun (c_hash_142 : Int64) => (some (c_hash_142, c_hash_142))) F (0 : Int32) c_hash_89)) 6 0 F F H3 (by omega) (by omega) (by omega)
  obtain ⟨H5, a5, b5⟩ := dg_6 h.2.2.2.2.1.2.1 h.2.2.2.2.1.2.2 (fun (x1_66 : Int64) => (some x1_66)) (fun (c_hash_142 : Int64) => (some (c_hash_142, c_hash_142))) 4 0 F F H4 (by omega) (by omega) (by omega)
  refine ⟨H5, H5, H5, ?_, ?_, rfl, ⟨h.1, h.2.1, h.2.2.1, h.2.2.2⟩⟩
  · unfold f_X8_digest
    rw [← hF]
    refine a1.trans ?_
    show lp_X8_digest_33 (s.1 10) _ _ _ _ _ _ _ _ F H1 _ = _
    rw [e10]
    refine a2.trans ?_
    refine a3.trans ?_
    show Option.bind (f_X6_digestOnto_s6 H3 (s.2.2.1 0) (s.2.2.2 0)) _ = _
    unfold f_X6_digestOnto_s6 f_X6_digestOnto_s4
    rw [← hF]
    refine (congrArg (fun o => Option.bind o _) a4).trans ?_
    exact congrArg (fun o => Option.bind o _) a5
  · unfold f_X9_digest
    rw [← hF]
    refine b1.trans ?_
    show Option.bind (f_X9_mixFront (t.1 2) H1 _ _ _ _ _) _ = _
    unfold f_X9_mixFront
    rw [← hF, eT2]
    refine (congrArg (fun o => Option.bind o _) (b2.trans b3)).trans ?_
    refine b4.trans ?_
    exact b5
