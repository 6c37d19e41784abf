def hu_ (k : Nat) (kd hm st br : Nat → Nat) (K8 H8 S8 B8 C8 A : Nat → Int32) : Prop := ∀ j, j < k → (K8 j = nI (kd j) ∧ H8 j = nI (hm j) ∧ S8 j = nI (st j) ∧ B8 j = nI (br j) ∧ C8 j = nI (hm j)) ∧ (A (4 * j) = nI (kd j) ∧ A (4 * j + 1) = nI (hm j) ∧ A (4 * j + 2) = nI (st j) ∧ A (4 * j + 3) = nI (br j)) ∧ kd j < 6 ∧ hm j < 10 ∧ st j ≤ 9 ∧ br j ≤ 9
theorem hu_up {k : Nat} {kd hm st br : Nat → Nat} {K8 H8 S8 B8 C8 A : Nat → Int32} (h : hu_ k kd hm st br K8 H8 S8 B8 C8 A) {a b c d : Nat} (ha : a < 6) (hb : b < 10) (hc : c ≤ 9) (hd : d ≤ 9) {A' : Nat → Int32} (h0 : A' (4 * k) = nI a) (h1 : A' (4 * k + 1) = nI b) (h2 : A' (4 * k + 2) = nI c) (h3 : A' (4 * k + 3) = nI d) (hA : ∀ x, x < 4 * k → A' x = A x) : hu_ (k + 1) (gg_up kd k a) (gg_up hm k b) (gg_up st k c) (gg_up br k d) (upd K8 k (nI a)) (upd H8 k (nI b)) (upd S8 k (nI c)) (upd B8 k (nI d)) (upd C8 k (nI b)) A' := by
  intro j hj
  by_cases q : j = k
  · subst q
    simp only [pk_us, nx_upn, if_true]
    exact ⟨⟨trivial, trivial, trivial, trivial, trivial⟩, ⟨h0, h1, h2, h3⟩, ha, hb, hc, hd⟩
  · rw [pk_un q, pk_un q, pk_un q, pk_un q, pk_un q, nx_upn, nx_upn, nx_upn, nx_upn, if_neg q, if_neg q, if_neg q, if_neg q, hA _ (by omega), hA _ (by omega), hA _ (by omega), hA _ (by omega)]
    exact h j (by omega)
theorem rh_ {n r : Nat} {signs sizes bytes : Nat → Int32} (T : tx_ n r signs sizes bytes) {i k : Nat} (hi : i < n) (hk : k < 6) {kd hm st br : Nat → Nat} {K8 H8 S8 B8 C8 A : Nat → Int32} (hu : hu_ k kd hm st br K8 H8 S8 B8 C8 A) : (∃ (p : Nat) (A' : Nat → Int32), p ≤ n ∧ f_X5_readHut (nI n) (nI i) signs (nI k) K8 H8 S8 B8 C8 = some (0, nI p, nI k, K8, H8, S8, B8, C8) ∧ f_X9_readsHut (nI r) (nI i) (nI k) sizes bytes A = some (0, nI p, nI k, A')) ∨ (∃ (p a b c d : Nat) (A' : Nat → Int32), i < p ∧ p ≤ n ∧ f_X5_readHut (nI n) (nI i) signs (nI k) K8 H8 S8 B8 C8 = some (1, nI p, nI (k + 1), upd K8 k (nI a), upd H8 k (nI b), upd S8 k (nI c), upd B8 k (nI d), upd C8 k (nI b)) ∧ f_X9_readsHut (nI r) (nI i) (nI k) sizes bytes A = some (1, nI p, nI (k + 1), A') ∧ (∀ j, j < k → hm j ≠ b) ∧ b < 10 ∧ hu_ (k + 1) (gg_up kd k a) (gg_up hm k b) (gg_up st k c) (gg_up br k d) (upd K8 k (nI a)) (upd H8 k (nI b)) (upd S8 k (nI c)) (upd B8 k (nI d)) (upd C8 k (nI b)) A') := by
  have hn := T.1
  obtain ⟨F, hF, hF2⟩ : ∃ F, F = gg_fuel ∧ 50000 ≤ F := ⟨_, rfl, pu_F⟩
  obtain ⟨G, hG⟩ : ∃ G, F = G + 1 + 1 + 1 := ⟨F - 3, by omega⟩
  have n6 : ¬ nI k = 6 := fun z => absurd ((nI_eq (b := 6) (by omega) (by omega)).1 z) (by omega)
  unfold f_X5_readHut f_X9_readsHut
  rw [sn_8 T hi, sn_9 T hi, ← hF]
  simp only [Option.bind_some, nx_let]
  rcases kl_ (bytes (60 * r + i)) with ⟨a, ha, g8, g9⟩ | ⟨g8, g9⟩
  · rw [g8, g9]
    simp only [Option.bind_some, if_neg (nI_n9 (show a < 2147483648 by omega)), if_neg n6, nI_1]
    rcases fg_ T (i := i + 1) (by omega) with ⟨b, hb, hin, k8, k9⟩ | ⟨k8, k9⟩
    · rw [k8, k9]
      simp only [nx_b2, if_neg (nI_n9 (show b < 2147483648 by omega))]
      rcases ho_ (show k ≤ 6 by omega) hb (hm := hm) (home := H8) (A := A) (fun j hj => ⟨(hu j hj).1.2.1, (hu j hj).2.2.2.1⟩) (fun j hj => ⟨(hu j hj).2.1.2.1, (hu j hj).2.2.2.1⟩) with ⟨l8, l9⟩ | ⟨l8, l9, hne⟩
      · rw [l8, l9]
        left
        refine ⟨i + 1, A, by omega, ?_, ?_⟩
        · simp only [Option.bind_some, if_neg (show ¬ (1 : Int32) = 0 by decide), show nI (i + 1 + 1) - 1 = nI (i + 1) from (nx_sub (b := 1) (by omega) : nI (i + 1 + 1) - nI 1 = nI (i + 1 + 1 - 1))]
        · simp only [Option.bind_some, if_neg (show ¬ (1 : Int32) = 0 by decide)]
      · have e4 : (4 : Int32) * nI k = nI (4 * k) := by rw [nx_l4, pk_mul]
        have e41 : nI (4 * k) + 2 = nI (4 * k + 2) := nI_add _ 2
        have e42 : nI (4 * k) + 3 = nI (4 * k + 3) := nI_add _ 3
        have e43 : (2 : Int32) + 1 = 3 := by decide
        have e44 : (3 : Int32) + 1 = 4 := by decide
        rw [l8, l9, e4, nI_1, pu_in (show 4 * k < 24 by omega) (by omega), pu_in (show 4 * k + 1 < 24 by omega) (by omega), nI_clamp (show 4 * k < 2 ^ 31 by omega), nI_clamp (show 4 * k + 1 < 2 ^ 31 by omega), hG]
        simp only [Option.bind_some, if_true, nx_chk]
        rcases fg_ T (i := i + 1 + 1) (by omega) with ⟨c, hc, hin2, m8, m9⟩ | ⟨m8, m9⟩
        · have st9 : ∀ A0 : Nat → Int32, lp_X9_readsHut_107 (nI r) (nI (4 * k)) sizes bytes (fun (c_readAt_143 : Int32) (c_readHut_143 : Nat → Int32) => (some ((0 : Int32), c_readAt_143, nI k, c_readHut_143))) (fun (c_readAt_151 : Int32) (c_readHut_151 : Nat → Int32) => (some ((1 : Int32), c_readAt_151, nI (k + 1), c_readHut_151))) (G + 1 + 1 + 1) 2 (nI (i + 1 + 1)) A0 = lp_X9_readsHut_107 (nI r) (nI (4 * k)) sizes bytes (fun (c_readAt_143 : Int32) (c_readHut_143 : Nat → Int32) => (some ((0 : Int32), c_readAt_143, nI k, c_readHut_143))) (fun (c_readAt_151 : Int32) (c_readHut_151 : Nat → Int32) => (some ((1 : Int32), c_readAt_151, nI (k + 1), c_readHut_151))) (G + 1 + 1) 3 (nI (i + 1 + 1 + 1)) (upd A0 (4 * k + 2) (nI c)) := by
            intro A0
            rw [lp_X9_readsHut_107, if_neg (show ¬ (4 : Int32) ≤ 2 by decide), m9, nx_b2, e41, pu_in (show 4 * k + 2 < 24 by omega) (by omega), nx_chk, nx_chk, nI_clamp (by omega), pk_us, if_neg (nI_n9 (by omega)), e43]
          rw [st9, m8]
          simp only [nx_b2, if_neg (nI_n9 (show c < 2147483648 by omega))]
          rcases fg_ T (i := i + 1 + 1 + 1) (by omega) with ⟨d, hd, hin3, p8, p9⟩ | ⟨p8, p9⟩
          · rw [p8, lp_X9_readsHut_107, if_neg (show ¬ (4 : Int32) ≤ 3 by decide), p9, nx_b2, nx_b2, e42, pu_in (show 4 * k + 3 < 24 by omega) (by omega), nx_chk, nx_chk, nI_clamp (by omega), pk_us, if_neg (nI_n9 (show d < 2147483648 by omega)), if_neg (nI_n9 (show d < 2147483648 by omega)), e44, lp_X9_readsHut_107, if_pos (show (4 : Int32) ≤ 4 by decide)]
            unfold f_X2_settle
            rw [if_pos (show nI k < 6 from (nI_lt hk (by omega) : nI k < nI 6)), pu_in hk (by omega), nI_clamp (by omega), nI_1]
            simp only [nx_chk, nx_b6]
            right
            refine ⟨i + 1 + 1 + 1 + 1, a, b, c, d, upd (upd (upd (upd A (4 * k) (nI a)) (4 * k + 1) (nI b)) (4 * k + 2) (nI c)) (4 * k + 3) (nI d), by omega, by omega, rfl, rfl, hne, hb, ?_⟩
            refine hu_up hu ha hb (by omega) (by omega) ?_ ?_ ?_ ?_ ?_
            · rw [pk_un (by omega), pk_un (by omega), pk_un (by omega), pk_us]
            · rw [pk_un (by omega), pk_un (by omega), pk_us]
            · rw [pk_un (by omega), pk_us]
            · rw [pk_us]
            · intro x hx
              rw [pk_un (by omega), pk_un (by omega), pk_un (by omega), pk_un (by omega)]
          · rw [p8, lp_X9_readsHut_107, if_neg (show ¬ (4 : Int32) ≤ 3 by decide), p9, nx_b2, nx_b2, e42, pu_in (show 4 * k + 3 < 24 by omega) (by omega), nx_chk, nx_chk, nI_clamp (by omega), pk_us, if_pos rfl, if_pos rfl]
            left
            exact ⟨i + 1 + 1 + 1, _, by omega, rfl, rfl⟩
        · rw [m8, lp_X9_readsHut_107, if_neg (show ¬ (4 : Int32) ≤ 2 by decide), m9, nx_b2, nx_b2, e41, pu_in (show 4 * k + 2 < 24 by omega) (by omega), nx_chk, nx_chk, nI_clamp (by omega), pk_us, if_pos rfl, if_pos rfl]
          left
          exact ⟨i + 1 + 1, _, by omega, rfl, rfl⟩
    · rw [k8, k9]
      simp only [nx_b2, if_true]
      left
      exact ⟨i + 1, A, by omega, rfl, rfl⟩
  · rw [g8, g9]
    simp only [Option.bind_some, if_true]
    left
    exact ⟨i, A, by omega, rfl, rfl⟩
theorem rh6_ {n r : Nat} {signs sizes bytes : Nat → Int32} (T : tx_ n r signs sizes bytes) {i : Nat} (hi : i < n) (A : Nat → Int32) : f_X9_readsHut (nI r) (nI i) (nI 6) sizes bytes A = some (0, nI i, nI 6, A) := by
  unfold f_X9_readsHut
  rw [sn_9 T hi]
  simp only [Option.bind_some, nx_let]
  rcases kl_ (bytes (60 * r + i)) with ⟨a, ha, g8, g9⟩ | ⟨g8, g9⟩
  · rw [g9, Option.bind_some, if_neg (nI_n9 (by omega)), if_pos (show nI 6 = 6 from rfl)]
  · rw [g9, Option.bind_some, if_pos rfl]
theorem hs_ {n r : Nat} {signs sizes bytes : Nat → Int32} (T : tx_ n r signs sizes bytes) (fo : Int32) (W : Nat → Int32) : ∀ (m k f8 f9 i : Nat) (kd hm st br : Nat → Nat) (K8 H8 S8 B8 C8 A : Nat → Int32), k + m = 6 → m < f8 → n - i < f9 → i ≤ n → (i < n → ¬ bytes (60 * r + i) = 32) → hu_ k kd hm st br K8 H8 S8 B8 C8 A → (∀ a b, a < k → b < k → hm a = hm b → a = b) → (∃ (p : Nat) (x2 : Int32) (y1 y2 y3 y4 y5 : Nat → Int32) (z1 : Int32) (z2 : Nat → Int32), p ≤ n ∧ lp_X5_readHuts_6 (nI n) signs (fun (c_place_31 : Int32) (c_p1_huts_31 : Int32) (c_p1_kind_31 : Nat → Int32) (c_p1_home_31 : Nat → Int32) (c_p1_strength_31 : Nat → Int32) (c_p1_brown_31 : Nat → Int32) (c_p1_brick_31 : Nat → Int32) => (some ((0 : Int32), c_place_31, c_p1_huts_31, c_p1_kind_31, c_p1_home_31, c_p1_strength_31, c_p1_brown_31, c_p1_brick_31))) (fun (c_place_43 : Int32) (c_p1_huts_43 : Int32) (c_p1_kind_43 : Nat → Int32) (c_p1_home_43 : Nat → Int32) (c_p1_strength_43 : Nat → Int32) (c_p1_brown_43 : Nat → Int32) (c_p1_brick_43 : Nat → Int32) => gg_lt (fun (s0_66 : Int32) => gg_chk (gg_isb s0_66) (some (s0_66, c_place_43, c_p1_huts_43, c_p1_kind_43, c_p1_home_43, c_p1_strength_43, c_p1_brown_43, c_p1_brick_43))) (fun k66 => gg_lt ((k66 (0 : Int32))) (fun k65 => (if c_place_43 = nI n then (if c_p1_huts_43 ≤ (0 : Int32) then k65 else (k66 (1 : Int32))) else k65)))) f8 (nI k) (nI i) (nI k) K8 H8 S8 B8 C8 = some (0, nI p, x2, y1, y2, y3, y4, y5) ∧ lp_X9_faultOf_15 (nI r) sizes bytes (fun (c_readAt_81 : Int32) (c_readMany_81 : Int32) (c_readFood_81 : Int32) (c_isHead_81 : Int32) (c_readWinds_81 : Nat → Int32) (c_readHut_81 : Nat → Int32) => (some (c_readAt_81, c_readAt_81, c_readMany_81, c_readFood_81, c_isHead_81, c_readWinds_81, c_readHut_81))) (fun (c_readAt_86 : Int32) (c_readMany_86 : Int32) (c_readFood_86 : Int32) (c_isHead_86 : Int32) (c_readWinds_86 : Nat → Int32) (c_readHut_86 : Nat → Int32) => gg_lt (fun (s0_104 : Int32) => (some (s0_104, c_readAt_86, c_readMany_86, c_readFood_86, c_isHead_86, c_readWinds_86, c_readHut_86))) (fun k104 => (if c_readMany_86 = (0 : Int32) then gg_chk (gg_in (nI r) 4) ((k104 (sizes (nI r).toNatClampNeg))) else (k104 (-9 : Int32))))) f9 (nI i) (nI k) fo 1 W A = some (nI p, nI p, z1, fo, 1, W, z2)) ∨ (∃ (N : Nat) (kd' hm' st' br' : Nat → Nat) (y1 y2 y3 y4 y5 z2 : Nat → Int32), N ≠ 0 ∧ N ≤ 6 ∧ lp_X5_readHuts_6 (nI n) signs (fun (c_place_31 : Int32) (c_p1_huts_31 : Int32) (c_p1_kind_31 : Nat → Int32) (c_p1_home_31 : Nat → Int32) (c_p1_strength_31 : Nat → Int32) (c_p1_brown_31 : Nat → Int32) (c_p1_brick_31 : Nat → Int32) => (some ((0 : Int32), c_place_31, c_p1_huts_31, c_p1_kind_31, c_p1_home_31, c_p1_strength_31, c_p1_brown_31, c_p1_brick_31))) (fun (c_place_43 : Int32) (c_p1_huts_43 : Int32) (c_p1_kind_43 : Nat → Int32) (c_p1_home_43 : Nat → Int32) (c_p1_strength_43 : Nat → Int32) (c_p1_brown_43 : Nat → Int32) (c_p1_brick_43 : Nat → Int32) => gg_lt (fun (s0_66 : Int32) => gg_chk (gg_isb s0_66) (some (s0_66, c_place_43, c_p1_huts_43, c_p1_kind_43, c_p1_home_43, c_p1_strength_43, c_p1_brown_43, c_p1_brick_43))) (fun k66 => gg_lt ((k66 (0 : Int32))) (fun k65 => (if c_place_43 = nI n then (if c_p1_huts_43 ≤ (0 : Int32) then k65 else (k66 (1 : Int32))) else k65)))) f8 (nI k) (nI i) (nI k) K8 H8 S8 B8 C8 = some (1, nI n, nI N, y1, y2, y3, y4, y5) ∧ lp_X9_faultOf_15 (nI r) sizes bytes (fun (c_readAt_81 : Int32) (c_readMany_81 : Int32) (c_readFood_81 : Int32) (c_isHead_81 : Int32) (c_readWinds_81 : Nat → Int32) (c_readHut_81 : Nat → Int32) => (some (c_readAt_81, c_readAt_81, c_readMany_81, c_readFood_81, c_isHead_81, c_readWinds_81, c_readHut_81))) (fun (c_readAt_86 : Int32) (c_readMany_86 : Int32) (c_readFood_86 : Int32) (c_isHead_86 : Int32) (c_readWinds_86 : Nat → Int32) (c_readHut_86 : Nat → Int32) => gg_lt (fun (s0_104 : Int32) => (some (s0_104, c_readAt_86, c_readMany_86, c_readFood_86, c_isHead_86, c_readWinds_86, c_readHut_86))) (fun k104 => (if c_readMany_86 = (0 : Int32) then gg_chk (gg_in (nI r) 4) ((k104 (sizes (nI r).toNatClampNeg))) else (k104 (-9 : Int32))))) f9 (nI i) (nI k) fo 1 W A = some (-9, nI n, nI N, fo, 1, W, z2) ∧ hu_ N kd' hm' st' br' y1 y2 y3 y4 y5 z2 ∧ ∀ a b, a < N → b < N → hm' a = hm' b → a = b)
  | m, k, f8 + 1, f9 + 1, i, kd, hm, st, br, K8, H8, S8, B8, C8, A, hm6, hf8, hf9, hi, hb, hu, hinj => by
    have hn := T.1
    have hr := T.2.1
    have hz := T.2.2.1
    by_cases q : i = n
    · subst q
      have e9 : lp_X9_faultOf_15 (nI r) sizes bytes (fun (c_readAt_81 : Int32) (c_readMany_81 : Int32) (c_readFood_81 : Int32) (c_isHead_81 : Int32) (c_readWinds_81 : Nat → Int32) (c_readHut_81 : Nat → Int32) => (some (c_readAt_81, c_readAt_81, c_readMany_81, c_readFood_81, c_isHead_81, c_readWinds_81, c_readHut_81))) (fun (c_readAt_86 : Int32) (c_readMany_86 : Int32) (c_readFood_86 : Int32) (c_isHead_86 : Int32) (c_readWinds_86 : Nat → Int32) (c_readHut_86 : Nat → Int32) => gg_lt (fun (s0_104 : Int32) => (some (s0_104, c_readAt_86, c_readMany_86, c_readFood_86, c_isHead_86, c_readWinds_86, c_readHut_86))) (fun k104 => (if c_readMany_86 = (0 : Int32) then gg_chk (gg_in (nI r) 4) ((k104 (sizes (nI r).toNatClampNeg))) else (k104 (-9 : Int32))))) (f9 + 1) (nI i) (nI k) fo 1 W A = if nI k = 0 then some (nI i, nI i, nI k, fo, 1, W, A) else some (-9, nI i, nI k, fo, 1, W, A) := by
        rw [lp_X9_faultOf_15, pu_in hr (by omega), nx_chk, nI_clamp (by omega), hz, if_pos (nI_le (by omega) (by omega))]
        simp only [nx_let, nx_chk]
      have e8 : lp_X5_readHuts_6 (nI i) signs (fun (c_place_31 : Int32) (c_p1_huts_31 : Int32) (c_p1_kind_31 : Nat → Int32) (c_p1_home_31 : Nat → Int32) (c_p1_strength_31 : Nat → Int32) (c_p1_brown_31 : Nat → Int32) (c_p1_brick_31 : Nat → Int32) => (some ((0 : Int32), c_place_31, c_p1_huts_31, c_p1_kind_31, c_p1_home_31, c_p1_strength_31, c_p1_brown_31, c_p1_brick_31))) (fun (c_place_43 : Int32) (c_p1_huts_43 : Int32) (c_p1_kind_43 : Nat → Int32) (c_p1_home_43 : Nat → Int32) (c_p1_strength_43 : Nat → Int32) (c_p1_brown_43 : Nat → Int32) (c_p1_brick_43 : Nat → Int32) => gg_lt (fun (s0_66 : Int32) => gg_chk (gg_isb s0_66) (some (s0_66, c_place_43, c_p1_huts_43, c_p1_kind_43, c_p1_home_43, c_p1_strength_43, c_p1_brown_43, c_p1_brick_43))) (fun k66 => gg_lt ((k66 (0 : Int32))) (fun k65 => (if c_place_43 = nI i then (if c_p1_huts_43 ≤ (0 : Int32) then k65 else (k66 (1 : Int32))) else k65)))) (f8 + 1) (nI k) (nI i) (nI k) K8 H8 S8 B8 C8 = if nI k ≤ 0 then some (0, nI i, nI k, K8, H8, S8, B8, C8) else some (1, nI i, nI k, K8, H8, S8, B8, C8) := by
        rw [lp_X5_readHuts_6, if_pos (show nI i ≤ nI i from nI_le (by omega) (by omega)), ite_self]
        simp only [nx_let, if_true]
        rfl
      by_cases q0 : k = 0
      · subst q0
        left
        rw [e8, e9]
        exact ⟨i, nI 0, K8, H8, S8, B8, C8, nI 0, A, by omega, rfl, rfl⟩
      · right
        rw [e8, e9, if_neg (nI_n0 q0 (by omega)), if_neg (show ¬ nI k ≤ 0 from (nI_ge (by omega) (by omega) : ¬ nI k ≤ nI 0))]
        exact ⟨k, kd, hm, st, br, K8, H8, S8, B8, C8, A, q0, by omega, rfl, rfl, hu, hinj⟩
    · have hin : i < n := by omega
      have hbi := hb hin
      have e9 : ∀ A', lp_X9_faultOf_15 (nI r) sizes bytes (fun (c_readAt_81 : Int32) (c_readMany_81 : Int32) (c_readFood_81 : Int32) (c_isHead_81 : Int32) (c_readWinds_81 : Nat → Int32) (c_readHut_81 : Nat → Int32) => (some (c_readAt_81, c_readAt_81, c_readMany_81, c_readFood_81, c_isHead_81, c_readWinds_81, c_readHut_81))) (fun (c_readAt_86 : Int32) (c_readMany_86 : Int32) (c_readFood_86 : Int32) (c_isHead_86 : Int32) (c_readWinds_86 : Nat → Int32) (c_readHut_86 : Nat → Int32) => gg_lt (fun (s0_104 : Int32) => (some (s0_104, c_readAt_86, c_readMany_86, c_readFood_86, c_isHead_86, c_readWinds_86, c_readHut_86))) (fun k104 => (if c_readMany_86 = (0 : Int32) then gg_chk (gg_in (nI r) 4) ((k104 (sizes (nI r).toNatClampNeg))) else (k104 (-9 : Int32))))) (f9 + 1) (nI i) (nI k) fo 1 W A' = gg_b4 (f_X9_readsHut (nI r) (nI i) (nI k) sizes bytes A') (fun v3_0 v3_1 v3_2 v3_3 => (if v3_0 = (0 : Int32) then (some (v3_1, v3_1, v3_2, fo, 1, W, v3_3)) else (lp_X9_faultOf_15 (nI r) sizes bytes (fun (c_readAt_81 : Int32) (c_readMany_81 : Int32) (c_readFood_81 : Int32) (c_isHead_81 : Int32) (c_readWinds_81 : Nat → Int32) (c_readHut_81 : Nat → Int32) => (some (c_readAt_81, c_readAt_81, c_readMany_81, c_readFood_81, c_isHead_81, c_readWinds_81, c_readHut_81))) (fun (c_readAt_86 : Int32) (c_readMany_86 : Int32) (c_readFood_86 : Int32) (c_isHead_86 : Int32) (c_readWinds_86 : Nat → Int32) (c_readHut_86 : Nat → Int32) => gg_lt (fun (s0_104 : Int32) => (some (s0_104, c_readAt_86, c_readMany_86, c_readFood_86, c_isHead_86, c_readWinds_86, c_readHut_86))) (fun k104 => (if c_readMany_86 = (0 : Int32) then gg_chk (gg_in (nI r) 4) ((k104 (sizes (nI r).toNatClampNeg))) else (k104 (-9 : Int32))))) f9 v3_1 v3_2 fo 1 W v3_3))) := by
        intro A'
        rw [lp_X9_faultOf_15, pu_in hr (by omega), nx_chk, nI_clamp (by omega), hz, if_neg (nI_ge (by omega) (by omega)), sn_9 T hin, Option.bind_some, if_neg hbi, if_neg (show ¬ (1 : Int32) = 0 by decide)]
      cases m with
      | zero =>
        have hk : k = 6 := by omega
        subst hk
        left
        rw [e9, rh6_ T hin, nx_b4, if_pos rfl]
        refine ⟨i, nI 6, K8, H8, S8, B8, C8, nI 6, A, by omega, ?_, rfl⟩
        rw [lp_X5_readHuts_6, if_pos (show (6 : Int32) ≤ nI 6 by decide)]
        simp only [nx_let]
        rw [if_neg (fun z => q ((nI_eq (by omega) (by omega)).1 z))]
        rfl
      | succ m =>
        have e8 : lp_X5_readHuts_6 (nI n) signs (fun (c_place_31 : Int32) (c_p1_huts_31 : Int32) (c_p1_kind_31 : Nat → Int32) (c_p1_home_31 : Nat → Int32) (c_p1_strength_31 : Nat → Int32) (c_p1_brown_31 : Nat → Int32) (c_p1_brick_31 : Nat → Int32) => (some ((0 : Int32), c_place_31, c_p1_huts_31, c_p1_kind_31, c_p1_home_31, c_p1_strength_31, c_p1_brown_31, c_p1_brick_31))) (fun (c_place_43 : Int32) (c_p1_huts_43 : Int32) (c_p1_kind_43 : Nat → Int32) (c_p1_home_43 : Nat → Int32) (c_p1_strength_43 : Nat → Int32) (c_p1_brown_43 : Nat → Int32) (c_p1_brick_43 : Nat → Int32) => gg_lt (fun (s0_66 : Int32) => gg_chk (gg_isb s0_66) (some (s0_66, c_place_43, c_p1_huts_43, c_p1_kind_43, c_p1_home_43, c_p1_strength_43, c_p1_brown_43, c_p1_brick_43))) (fun k66 => gg_lt ((k66 (0 : Int32))) (fun k65 => (if c_place_43 = nI n then (if c_p1_huts_43 ≤ (0 : Int32) then k65 else (k66 (1 : Int32))) else k65)))) (f8 + 1) (nI k) (nI i) (nI k) K8 H8 S8 B8 C8 = gg_b8 (f_X5_readHut (nI n) (nI i) signs (nI k) K8 H8 S8 B8 C8) (fun v2_0 v2_1 v2_2 v2_3 v2_4 v2_5 v2_6 v2_7 => (if v2_0 = (0 : Int32) then (some (0, v2_1, v2_2, v2_3, v2_4, v2_5, v2_6, v2_7)) else (f_X5_skipBlanks (nI n) v2_1 signs).bind (fun v3 => (lp_X5_readHuts_6 (nI n) signs (fun (c_place_31 : Int32) (c_p1_huts_31 : Int32) (c_p1_kind_31 : Nat → Int32) (c_p1_home_31 : Nat → Int32) (c_p1_strength_31 : Nat → Int32) (c_p1_brown_31 : Nat → Int32) (c_p1_brick_31 : Nat → Int32) => (some ((0 : Int32), c_place_31, c_p1_huts_31, c_p1_kind_31, c_p1_home_31, c_p1_strength_31, c_p1_brown_31, c_p1_brick_31))) (fun (c_place_43 : Int32) (c_p1_huts_43 : Int32) (c_p1_kind_43 : Nat → Int32) (c_p1_home_43 : Nat → Int32) (c_p1_strength_43 : Nat → Int32) (c_p1_brown_43 : Nat → Int32) (c_p1_brick_43 : Nat → Int32) => gg_lt (fun (s0_66 : Int32) => gg_chk (gg_isb s0_66) (some (s0_66, c_place_43, c_p1_huts_43, c_p1_kind_43, c_p1_home_43, c_p1_strength_43, c_p1_brown_43, c_p1_brick_43))) (fun k66 => gg_lt ((k66 (0 : Int32))) (fun k65 => (if c_place_43 = nI n then (if c_p1_huts_43 ≤ (0 : Int32) then k65 else (k66 (1 : Int32))) else k65)))) f8 (nI (k + 1)) v3 v2_2 v2_3 v2_4 v2_5 v2_6 v2_7)))) := by
          rw [lp_X5_readHuts_6, if_neg (show ¬ (6 : Int32) ≤ nI k from (nI_ge (by omega) (by omega) : ¬ nI 6 ≤ nI k)), if_neg (nI_ge (by omega) (by omega)), nI_1]
        rcases rh_ T hin (show k < 6 by omega) hu with ⟨p, A', hp, g8, g9⟩ | ⟨p, a, b, c, d, A', hip, hp, g8, g9, hne, hb10, hu'⟩
        · left
          rw [e8, e9, g8, g9, nx_b8, nx_b4, if_pos rfl, if_pos rfl]
          exact ⟨p, nI k, K8, H8, S8, B8, C8, nI k, A', hp, rfl, rfl⟩
        · obtain ⟨s1, s2, s3⟩ := sb_sp (fun j => bytes (60 * r + j)) (n - p) p
          obtain ⟨fu, u1, u2⟩ := sb_9 T (fun (c_readAt_81 : Int32) (c_readMany_81 : Int32) (c_readFood_81 : Int32) (c_isHead_81 : Int32) (c_readWinds_81 : Nat → Int32) (c_readHut_81 : Nat → Int32) => (some (c_readAt_81, c_readAt_81, c_readMany_81, c_readFood_81, c_isHead_81, c_readWinds_81, c_readHut_81))) (fun (c_readAt_86 : Int32) (c_readMany_86 : Int32) (c_readFood_86 : Int32) (c_isHead_86 : Int32) (c_readWinds_86 : Nat → Int32) (c_readHut_86 : Nat → Int32) => gg_lt (fun (s0_104 : Int32) => (some (s0_104, c_readAt_86, c_readMany_86, c_readFood_86, c_isHead_86, c_readWinds_86, c_readHut_86))) (fun k104 => (if c_readMany_86 = (0 : Int32) then gg_chk (gg_in (nI r) 4) ((k104 (sizes (nI r).toNatClampNeg))) else (k104 (-9 : Int32))))) (nI (k + 1)) fo 1 W A' (n - p) p f9 (by omega) (by omega)
          rw [e8, e9, g8, g9, nx_b8, nx_b4, if_neg (show ¬ (1 : Int32) = 0 by decide), if_neg (show ¬ (1 : Int32) = 0 by decide), sb_f T hp, Option.bind_some, u2]
          exact hs_ T fo W m (k + 1) f8 fu (sb_ (fun j => bytes (60 * r + j)) (n - p) p) (gg_up kd k a) (gg_up hm k b) (gg_up st k c) (gg_up br k d) _ _ _ _ _ A' (by omega) (by omega) (by omega) (by omega) (fun z => s3 (by omega)) hu' (fun x y hx hy e => by
            rw [nx_upn, nx_upn] at e
            by_cases qx : x = k
            · by_cases qy : y = k
              · omega
              · rw [if_pos qx, if_neg qy] at e
                exact absurd e.symm (hne y (by omega))
            · by_cases qy : y = k
              · rw [if_neg qx, if_pos qy] at e
                exact absurd e (hne x (by omega))
              · rw [if_neg qx, if_neg qy] at e
                exact hinj x y (by omega) (by omega) e)
  termination_by m => m
theorem rs_1 {β : Type} {n r : Nat} (hn : n ≤ 60) (hr : r < 4) {z : Nat → Int32} {M : Nat → Nat → Int32} (hz : z r = nI n) (K : (Nat → Int32) → Option β) : ∀ (m j fuel : Nat) (w : Nat → Int32), j + m = n → m < fuel → ∃ w', lp_X5_read_s4_22 (nI r) (nI n) z M K fuel (nI j) w = K w' ∧ (∀ y, y < j → w' y = w y) ∧ ∀ y, j ≤ y → y < n → w' y = M r y
  | 0, j, fuel + 1, w, h, _ => by
    refine ⟨w, ?_, fun _ _ => rfl, fun y h1 h2 => by omega⟩
    rw [lp_X5_read_s4_22, if_pos (nI_le (by omega) (by omega))]
  | m + 1, j, fuel + 1, w, h, hf => by
    obtain ⟨w', e, g1, g2⟩ := rs_1 hn hr hz K m (j + 1) fuel (upd w j (M r j)) (by omega) (by omega)
    refine ⟨w', ?_, ?_, ?_⟩
    · rw [lp_X5_read_s4_22, if_neg (nI_ge (by omega) (by omega)), pu_get4 hr hn (show j < n by omega) hz, Option.bind_some, pu_in (show j < 60 by omega) (by omega), nx_chk, nI_clamp (by omega), nI_1]
      exact e
    · intro y hy
      rw [g1 y (by omega), pk_un (by omega)]
    · intro y h3 h4
      by_cases q : y = j
      · subst q
        rw [g1 y (by omega), pk_us]
      · exact g2 y (by omega) h4
theorem rd_ {n r : Nat} (hn : n ≤ 60) (hr : r < 4) {z8 z9 : Nat → Int32} {M : Nat → Nat → Int32} {bytes : Nat → Int32} (h8 : z8 r = nI n) (h9 : z9 r = nI n) (hc : ∀ j, j < n → M r j = bytes (60 * r + j)) (a1 a2 : Int32) (sg : Nat → Int32) (b1 b2 b3 b4 : Int32) (d1 d2 d3 d4 d5 d6 : Nat → Int32) (c1 c2 c3 c4 : Int32) (e1 e2 : Nat → Int32) : (∃ (p : Nat) (sg' : Nat → Int32) (p2 x1 x2 x3 x4 : Int32) (y1 y2 y3 y4 y5 y6 : Nat → Int32) (u1 u2 u3 u4 : Int32) (v1 v2 : Nat → Int32), p ≤ n ∧ f_X5_read_s4 (nI r) a1 a2 sg z8 M b1 b2 b3 b4 d1 d2 d3 d4 d5 d6 = some (nI p, nI n, p2, sg', x1, x2, x3, x4, y1, y2, y3, y4, y5, y6) ∧ f_X9_faultOf (nI r) c1 c2 c3 c4 z9 bytes e1 e2 = some (nI p, u1, u2, u3, u4, v1, v2)) ∨ (∃ (N fd : Nat) (wd kd hm st br : Nat → Nat) (sg' y1 y2 y3 y4 y5 y6 v1 v2 : Nat → Int32), N ≠ 0 ∧ N ≤ 6 ∧ fd ≤ 40 ∧ f_X5_read_s4 (nI r) a1 a2 sg z8 M b1 b2 b3 b4 d1 d2 d3 d4 d5 d6 = some (-9, nI n, nI n, sg', nI N, nI fd, 0, 0, y1, y2, y3, y4, y5, y6) ∧ f_X9_faultOf (nI r) c1 c2 c3 c4 z9 bytes e1 e2 = some (-9, nI n, nI N, nI fd, 1, v1, v2) ∧ (∀ x, x < 4 → y1 x = nI (wd x) ∧ v1 x = nI (wd x) ∧ wd x < 10) ∧ hu_ N kd hm st br y2 y3 y4 y5 y6 v2 ∧ ∀ a b, a < N → b < N → hm a = hm b → a = b) := by
  obtain ⟨F, hF, hF2⟩ : ∃ F, F = gg_fuel ∧ 50000 ≤ F := ⟨_, rfl, pu_F⟩
  obtain ⟨sg', ks, -, kc⟩ := rs_1 hn hr h8 (M := M) (fun (c_signs_51 : Nat → Int32) => gg_b4 (f_X2_clear b1 b2 b3 b4) (fun v4_0 v4_1 v4_2 v4_3 => gg_b4 (f_X5_readHead (nI n) (0 : Int32) c_signs_51 v4_1 d1) (fun v5_0 v5_1 v5_2 v5_3 => gg_lt (fun (s0_80 : Int32) (c_place_80 : Int32) (c_p2_huts_80 : Int32) (c_p2_kind_80 : Nat → Int32) (c_p2_home_80 : Nat → Int32) (c_p2_strength_80 : Nat → Int32) (c_p2_brown_80 : Nat → Int32) (c_p2_brick_80 : Nat → Int32) => (some (s0_80, nI n, c_place_80, c_signs_51, c_p2_huts_80, v5_2, v4_2, v4_3, v5_3, c_p2_kind_80, c_p2_home_80, c_p2_strength_80, c_p2_brown_80, c_p2_brick_80))) (fun k80 => gg_lt (fun (c_place_76 : Int32) (c_p2_huts_76 : Int32) (c_p2_kind_76 : Nat → Int32) (c_p2_home_76 : Nat → Int32) (c_p2_strength_76 : Nat → Int32) (c_p2_brown_76 : Nat → Int32) (c_p2_brick_76 : Nat → Int32) => (k80 c_place_76 c_place_76 c_p2_huts_76 c_p2_kind_76 c_p2_home_76 c_p2_strength_76 c_p2_brown_76 c_p2_brick_76)) (fun k76 => (if v5_0 = (0 : Int32) then (k76 v5_1 v4_0 d2 d3 d4 d5 d6) else gg_b8 (f_X5_readHuts (nI n) v5_1 c_signs_51 v4_0 d2 d3 d4 d5 d6) (fun v6_0 v6_1 v6_2 v6_3 v6_4 v6_5 v6_6 v6_7 => (if v6_0 = (0 : Int32) then (k76 v6_1 v6_2 v6_3 v6_4 v6_5 v6_6 v6_7) else (k80 (-9 : Int32) v6_1 v6_2 v6_3 v6_4 v6_5 v6_6 v6_7)))))))))  n 0 F sg (by omega) (by omega)
  have T : tx_ n r sg' z9 bytes := ⟨hn, hr, h9, fun j hj => by rw [kc j (by omega) hj]; exact hc j hj⟩
  have e8 : ∀ R, gg_b4 (f_X5_readHead (nI n) (0 : Int32) sg' 0 d1) (fun v5_0 v5_1 v5_2 v5_3 => (if v5_0 = (0 : Int32) then (some (v5_1, nI n, v5_1, sg', (0 : Int32), v5_2, (0 : Int32), (0 : Int32), v5_3, d2, d3, d4, d5, d6)) else gg_b8 (f_X5_readHuts (nI n) v5_1 sg' 0 d2 d3 d4 d5 d6) (fun v6_0 v6_1 v6_2 v6_3 v6_4 v6_5 v6_6 v6_7 => (if v6_0 = (0 : Int32) then (some (v6_1, nI n, v6_1, sg', v6_2, v5_2, (0 : Int32), (0 : Int32), v5_3, v6_3, v6_4, v6_5, v6_6, v6_7)) else (some ((-9 : Int32), nI n, v6_1, sg', v6_2, v5_2, (0 : Int32), (0 : Int32), v5_3, v6_3, v6_4, v6_5, v6_6, v6_7)))))) = R → f_X5_read_s4 (nI r) a1 a2 sg z8 M b1 b2 b3 b4 d1 d2 d3 d4 d5 d6 = R := by
    intro R hR
    unfold f_X5_read_s4
    rw [pu_size4 hr, Option.bind_some, h8, show (60 : Int32) = nI 60 from rfl, fl_min (by omega) (by omega), Option.bind_some, Nat.min_eq_left hn, ← hF]
    exact ks.trans hR
  obtain ⟨s1, s2, s3⟩ := sb_sp (fun j => bytes (60 * r + j)) n 0
  obtain ⟨fu, u1, u2⟩ := sb_9 T (fun (c_readAt_81 : Int32) (c_readMany_81 : Int32) (c_readFood_81 : Int32) (c_isHead_81 : Int32) (c_readWinds_81 : Nat → Int32) (c_readHut_81 : Nat → Int32) => (some (c_readAt_81, c_readAt_81, c_readMany_81, c_readFood_81, c_isHead_81, c_readWinds_81, c_readHut_81))) (fun (c_readAt_86 : Int32) (c_readMany_86 : Int32) (c_readFood_86 : Int32) (c_isHead_86 : Int32) (c_readWinds_86 : Nat → Int32) (c_readHut_86 : Nat → Int32) => gg_lt (fun (s0_104 : Int32) => (some (s0_104, c_readAt_86, c_readMany_86, c_readFood_86, c_isHead_86, c_readWinds_86, c_readHut_86))) (fun k104 => (if c_readMany_86 = (0 : Int32) then gg_chk (gg_in (nI r) 4) ((k104 (z9 (nI r).toNatClampNeg))) else (k104 (-9 : Int32))))) 0 c3 0 e1 e2 n 0 F (by omega) (by omega)
  obtain ⟨G, rfl⟩ : ∃ G, fu = G + 1 := ⟨fu - 1, by omega⟩
  have e9 : ∀ R, lp_X9_faultOf_15 (nI r) z9 bytes (fun (c_readAt_81 : Int32) (c_readMany_81 : Int32) (c_readFood_81 : Int32) (c_isHead_81 : Int32) (c_readWinds_81 : Nat → Int32) (c_readHut_81 : Nat → Int32) => (some (c_readAt_81, c_readAt_81, c_readMany_81, c_readFood_81, c_isHead_81, c_readWinds_81, c_readHut_81))) (fun (c_readAt_86 : Int32) (c_readMany_86 : Int32) (c_readFood_86 : Int32) (c_isHead_86 : Int32) (c_readWinds_86 : Nat → Int32) (c_readHut_86 : Nat → Int32) => gg_lt (fun (s0_104 : Int32) => (some (s0_104, c_readAt_86, c_readMany_86, c_readFood_86, c_isHead_86, c_readWinds_86, c_readHut_86))) (fun k104 => (if c_readMany_86 = (0 : Int32) then gg_chk (gg_in (nI r) 4) ((k104 (z9 (nI r).toNatClampNeg))) else (k104 (-9 : Int32))))) (G + 1) (nI (sb_ (fun j => bytes (60 * r + j)) n 0)) 0 c3 0 e1 e2 = R → f_X9_faultOf (nI r) c1 c2 c3 c4 z9 bytes e1 e2 = R := by
    intro R hR
    unfold f_X9_faultOf
    rw [← hF]
    exact u2.trans hR
  by_cases q : sb_ (fun j => bytes (60 * r + j)) n 0 = n
  · left
    have g8 : f_X5_readHead (nI n) (nI 0) sg' 0 d1 = some (0, nI n, 0, d1) := by
      unfold f_X5_readHead
      rw [sb_f T (by omega), Nat.sub_zero, q, Option.bind_some, (sn_e T (Nat.le_refl n) (by omega)).1, Option.bind_some, if_neg (by decide)]
    refine ⟨n, sg', nI n, 0, 0, 0, 0, d1, d2, d3, d4, d5, d6, nI n, 0, c3, 0, e1, e2, by omega, e8 _ ?_, e9 _ ?_⟩
    · show gg_b4 (f_X5_readHead (nI n) (nI 0) sg' 0 d1) _ = _
      rw [g8, nx_b4, if_pos rfl]
    · rw [q, lp_X9_faultOf_15, pu_in hr (by omega), nx_chk, nI_clamp (by omega), h9, if_pos (nI_le (by omega) (by omega))]
      simp only [nx_let, nx_chk, if_true]
  · have hin : sb_ (fun j => bytes (60 * r + j)) n 0 < n := by omega
    have hbi := s3 (by omega)
    obtain ⟨i, hii⟩ : ∃ i, sb_ (fun j => bytes (60 * r + j)) n 0 = i := ⟨_, rfl⟩
    rw [hii] at hin hbi u1 e9
    have e9' : ∀ R, gg_b5 (f_X9_readsHead (nI r) (nI i) c3 0 z9 bytes e1) (fun v2_0 v2_1 v2_2 v2_3 v2_4 => (if v2_0 = (0 : Int32) then (some (v2_1, v2_1, 0, v2_2, v2_3, v2_4, e2)) else (lp_X9_faultOf_15 (nI r) z9 bytes (fun (c_readAt_81 : Int32) (c_readMany_81 : Int32) (c_readFood_81 : Int32) (c_isHead_81 : Int32) (c_readWinds_81 : Nat → Int32) (c_readHut_81 : Nat → Int32) => (some (c_readAt_81, c_readAt_81, c_readMany_81, c_readFood_81, c_isHead_81, c_readWinds_81, c_readHut_81))) (fun (c_readAt_86 : Int32) (c_readMany_86 : Int32) (c_readFood_86 : Int32) (c_isHead_86 : Int32) (c_readWinds_86 : Nat → Int32) (c_readHut_86 : Nat → Int32) => gg_lt (fun (s0_104 : Int32) => (some (s0_104, c_readAt_86, c_readMany_86, c_readFood_86, c_isHead_86, c_readWinds_86, c_readHut_86))) (fun k104 => (if c_readMany_86 = (0 : Int32) then gg_chk (gg_in (nI r) 4) ((k104 (z9 (nI r).toNatClampNeg))) else (k104 (-9 : Int32))))) G v2_1 0 v2_2 v2_3 v2_4 e2))) = R → f_X9_faultOf (nI r) c1 c2 c3 c4 z9 bytes e1 e2 = R := by
      intro R hR
      refine e9 _ (Eq.trans ?_ hR)
      rw [lp_X9_faultOf_15, pu_in hr (by omega), nx_chk, nI_clamp (by omega), h9, if_neg (nI_ge (by omega) (by omega)), sn_9 T hin, Option.bind_some, if_neg hbi, if_pos rfl]
    rcases hd_ T hin hii 0 c3 0 d1 e1 with ⟨p, f8', W8', f9', W9', hp, g8, g9⟩ | ⟨p, fd, W8', W9', w, hip, hp, hfd, g8, g9, hw⟩
    · left
      refine ⟨p, sg', nI p, 0, f8', 0, 0, W8', d2, d3, d4, d5, d6, nI p, 0, f9', 0, W9', e2, hp, e8 _ ?_, e9' _ ?_⟩
      · show gg_b4 (f_X5_readHead (nI n) (nI 0) sg' 0 d1) _ = _
        rw [g8, nx_b4, if_pos rfl]
      · rw [g9, nx_b5, if_pos rfl]
    · obtain ⟨t1, t2, t3⟩ := sb_sp (fun j => bytes (60 * r + j)) (n - p) p
      obtain ⟨fv, v1, v2⟩ := sb_9 T (fun (c_readAt_81 : Int32) (c_readMany_81 : Int32) (c_readFood_81 : Int32) (c_isHead_81 : Int32) (c_readWinds_81 : Nat → Int32) (c_readHut_81 : Nat → Int32) => (some (c_readAt_81, c_readAt_81, c_readMany_81, c_readFood_81, c_isHead_81, c_readWinds_81, c_readHut_81))) (fun (c_readAt_86 : Int32) (c_readMany_86 : Int32) (c_readFood_86 : Int32) (c_isHead_86 : Int32) (c_readWinds_86 : Nat → Int32) (c_readHut_86 : Nat → Int32) => gg_lt (fun (s0_104 : Int32) => (some (s0_104, c_readAt_86, c_readMany_86, c_readFood_86, c_isHead_86, c_readWinds_86, c_readHut_86))) (fun k104 => (if c_readMany_86 = (0 : Int32) then gg_chk (gg_in (nI r) 4) ((k104 (z9 (nI r).toNatClampNeg))) else (k104 (-9 : Int32))))) 0 (nI fd) 1 W9' e2 (n - p) p G (by omega) (by omega)
      have X8 : ∀ R, gg_b8 (f_X5_readHuts (nI n) (nI p) sg' (nI 0) d2 d3 d4 d5 d6) (fun v6_0 v6_1 v6_2 v6_3 v6_4 v6_5 v6_6 v6_7 => (if v6_0 = (0 : Int32) then (some (v6_1, nI n, v6_1, sg', v6_2, nI fd, (0 : Int32), (0 : Int32), W8', v6_3, v6_4, v6_5, v6_6, v6_7)) else (some ((-9 : Int32), nI n, v6_1, sg', v6_2, nI fd, (0 : Int32), (0 : Int32), W8', v6_3, v6_4, v6_5, v6_6, v6_7)))) = R → f_X5_read_s4 (nI r) a1 a2 sg z8 M b1 b2 b3 b4 d1 d2 d3 d4 d5 d6 = R := by
        intro R hR
        refine e8 _ ?_
        show gg_b4 (f_X5_readHead (nI n) (nI 0) sg' 0 d1) _ = _
        rw [g8, nx_b4, if_neg (show ¬ (1 : Int32) = 0 by decide)]
        exact hR
      have X9 : ∀ R, lp_X9_faultOf_15 (nI r) z9 bytes (fun (c_readAt_81 : Int32) (c_readMany_81 : Int32) (c_readFood_81 : Int32) (c_isHead_81 : Int32) (c_readWinds_81 : Nat → Int32) (c_readHut_81 : Nat → Int32) => (some (c_readAt_81, c_readAt_81, c_readMany_81, c_readFood_81, c_isHead_81, c_readWinds_81, c_readHut_81))) (fun (c_readAt_86 : Int32) (c_readMany_86 : Int32) (c_readFood_86 : Int32) (c_isHead_86 : Int32) (c_readWinds_86 : Nat → Int32) (c_readHut_86 : Nat → Int32) => gg_lt (fun (s0_104 : Int32) => (some (s0_104, c_readAt_86, c_readMany_86, c_readFood_86, c_isHead_86, c_readWinds_86, c_readHut_86))) (fun k104 => (if c_readMany_86 = (0 : Int32) then gg_chk (gg_in (nI r) 4) ((k104 (z9 (nI r).toNatClampNeg))) else (k104 (-9 : Int32))))) fv (nI (sb_ (fun j => bytes (60 * r + j)) (n - p) p)) 0 (nI fd) 1 W9' e2 = R → f_X9_faultOf (nI r) c1 c2 c3 c4 z9 bytes e1 e2 = R := by
        intro R hR
        refine e9' _ ?_
        rw [g9, nx_b5, if_neg (show ¬ (1 : Int32) = 0 by decide)]
        exact v2.trans hR
      have hh := hs_ T (nI fd) W9' 6 0 F fv (sb_ (fun j => bytes (60 * r + j)) (n - p) p) (fun _ => 0) (fun _ => 0) (fun _ => 0) (fun _ => 0) d2 d3 d4 d5 d6 e2 (by omega) (by omega) v1 (by omega) (fun z => t3 (by omega)) (fun j hj => by omega) (fun a b ha => by omega)
      have f8 : ∀ R, lp_X5_readHuts_6 (nI n) sg' (fun (c_place_31 : Int32) (c_p1_huts_31 : Int32) (c_p1_kind_31 : Nat → Int32) (c_p1_home_31 : Nat → Int32) (c_p1_strength_31 : Nat → Int32) (c_p1_brown_31 : Nat → Int32) (c_p1_brick_31 : Nat → Int32) => (some ((0 : Int32), c_place_31, c_p1_huts_31, c_p1_kind_31, c_p1_home_31, c_p1_strength_31, c_p1_brown_31, c_p1_brick_31))) (fun (c_place_43 : Int32) (c_p1_huts_43 : Int32) (c_p1_kind_43 : Nat → Int32) (c_p1_home_43 : Nat → Int32) (c_p1_strength_43 : Nat → Int32) (c_p1_brown_43 : Nat → Int32) (c_p1_brick_43 : Nat → Int32) => gg_lt (fun (s0_66 : Int32) => gg_chk (gg_isb s0_66) (some (s0_66, c_place_43, c_p1_huts_43, c_p1_kind_43, c_p1_home_43, c_p1_strength_43, c_p1_brown_43, c_p1_brick_43))) (fun k66 => gg_lt ((k66 (0 : Int32))) (fun k65 => (if c_place_43 = nI n then (if c_p1_huts_43 ≤ (0 : Int32) then k65 else (k66 (1 : Int32))) else k65)))) F (nI 0) (nI (sb_ (fun j => bytes (60 * r + j)) (n - p) p)) (nI 0) d2 d3 d4 d5 d6 = R → f_X5_readHuts (nI n) (nI p) sg' (nI 0) d2 d3 d4 d5 d6 = R := by
        intro R hR
        unfold f_X5_readHuts
        rw [sb_f T hp, Option.bind_some, ← hF]
        exact hR
      rcases hh with ⟨p', x2, y1, y2, y3, y4, y5, z1, z2, hp', k8, k9⟩ | ⟨N, kd', hm', st', br', y1, y2, y3, y4, y5, z2, hN0, hN6, k8, k9, hu', hinj⟩
      · left
        refine ⟨p', sg', nI p', x2, nI fd, 0, 0, W8', y1, y2, y3, y4, y5, nI p', z1, nI fd, 1, W9', z2, hp', X8 _ ?_, X9 _ k9⟩
        rw [f8 _ k8, nx_b8, if_pos rfl]
      · right
        refine ⟨N, fd, w, kd', hm', st', br', sg', W8', y1, y2, y3, y4, y5, W9', z2, hN0, hN6, hfd, X8 _ ?_, X9 _ k9, hw, hu', hinj⟩
        rw [f8 _ k8, nx_b8, if_neg (show ¬ (1 : Int32) = 0 by decide)]
