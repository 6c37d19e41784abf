theorem nx_b14 {α0 α1 α2 α3 α4 α5 α6 α7 α8 α9 α10 α11 α12 α13 β : Type} (a0 : α0) (a1 : α1) (a2 : α2) (a3 : α3) (a4 : α4) (a5 : α5) (a6 : α6) (a7 : α7) (a8 : α8) (a9 : α9) (a10 : α10) (a11 : α11) (a12 : α12) (a13 : α13) (F : α0 → α1 → α2 → α3 → α4 → α5 → α6 → α7 → α8 → α9 → α10 → α11 → α12 → α13 → Option β) : gg_b14 (some (a0, a1, a2, a3, a4, a5, a6, a7, a8, a9, a10, a11, a12, a13)) F = F a0 a1 a2 a3 a4 a5 a6 a7 a8 a9 a10 a11 a12 a13 := rfl
def tx_ (n r : Nat) (signs sizes bytes : Nat → Int32) : Prop := n ≤ 60 ∧ r < 4 ∧ sizes r = nI n ∧ ∀ j, j < n → signs j = bytes (60 * r + j)
theorem nI_n9 {b : Nat} (h : b < 2147483648) : ¬ nI b = -9 := by
  rw [nx_n9 h]
  exact id
theorem sn_8 {n r : Nat} {signs sizes bytes : Nat → Int32} (T : tx_ n r signs sizes bytes) {i : Nat} (hi : i < n) : f_X5_sign (nI n) (nI i) signs = some (bytes (60 * r + i)) := by
  obtain ⟨hn, hr, hz, hc⟩ := T
  unfold f_X5_sign
  rw [nx_let, if_neg (nI_ge (by omega) (by omega)), pu_in (show i < 60 by omega) (by omega), nx_chk, nI_clamp (by omega), hc i hi]
theorem sn_e {n r : Nat} {signs sizes bytes : Nat → Int32} (T : tx_ n r signs sizes bytes) {i : Nat} (hi : n ≤ i) (h2 : i ≤ 100) : f_X5_sign (nI n) (nI i) signs = some (-9) ∧ f_X9_byteAt (nI r) (nI i) sizes bytes = some 0 := by
  obtain ⟨hn, hr, hz, hc⟩ := T
  refine ⟨?_, ?_⟩
  · unfold f_X5_sign
    rw [nx_let, if_pos (nI_le (by omega) (by omega))]
  · unfold f_X9_byteAt
    rw [pu_in hr (by omega), nx_chk, nx_let, nI_clamp (by omega), hz, if_pos (nI_le (by omega) (by omega))]
theorem sn_9 {n r : Nat} {signs sizes bytes : Nat → Int32} (T : tx_ n r signs sizes bytes) {i : Nat} (hi : i < n) : f_X9_byteAt (nI r) (nI i) sizes bytes = some (bytes (60 * r + i)) := pu_byteAt T.2.1 hi T.1 T.2.2.1
theorem fg_ {n r : Nat} {signs sizes bytes : Nat → Int32} (T : tx_ n r signs sizes bytes) {i : Nat} (h100 : i ≤ 100) : (∃ d, d < 10 ∧ i < n ∧ f_X5_readFigure (nI n) (nI i) signs = some (nI d, nI (i + 1)) ∧ f_X9_figure (nI r) (nI i) sizes bytes = some (nI d, nI (i + 1))) ∨ (f_X5_readFigure (nI n) (nI i) signs = some (-9, nI i) ∧ f_X9_figure (nI r) (nI i) sizes bytes = some (-9, nI i)) := by
  unfold f_X5_readFigure f_X9_figure
  by_cases hi : i < n
  · rw [sn_8 T hi, sn_9 T hi]
    simp only [nx_let, Option.bind_some]
    rw [wi_9]
    simp only [Option.bind_some]
    obtain ⟨x, hx⟩ : ∃ x, x = bytes (60 * r + i) - 48 := ⟨_, rfl⟩
    rw [← hx, nI_1]
    by_cases h1 : x < 0
    · right
      rw [if_pos h1, decide_eq_false (fun z => i_le_n z.1 h1), if_pos (show (if false = true then (1 : Int32) else 0) = 0 from rfl)]
      exact ⟨rfl, rfl⟩
    · by_cases h2 : x ≤ 9
      · left
        obtain ⟨d, hd, e⟩ := nI_of2 (M := 9) (n := 9) (by decide) h1 h2
        rw [if_neg h1, if_pos h2, decide_eq_true ⟨i_nlt h1, h2⟩, if_neg (show ¬ (if true = true then (1 : Int32) else 0) = 0 by decide), e]
        exact ⟨d, by omega, hi, rfl, rfl⟩
      · right
        rw [if_neg h1, if_neg h2, decide_eq_false (fun z => h2 z.2), if_pos (show (if false = true then (1 : Int32) else 0) = 0 from rfl)]
        exact ⟨rfl, rfl⟩
  · obtain ⟨e1, e2⟩ := sn_e T (show n ≤ i by omega) h100
    rw [e1, e2]
    exact Or.inr ⟨rfl, rfl⟩
def sb_ (c : Nat → Int32) : Nat → Nat → Nat
  | 0, i => i
  | m + 1, i => if c i = 32 then sb_ c m (i + 1) else i
theorem sb_sp (c : Nat → Int32) : ∀ m i, i ≤ sb_ c m i ∧ sb_ c m i ≤ i + m ∧ (sb_ c m i < i + m → ¬ c (sb_ c m i) = 32)
  | 0, i => ⟨Nat.le_refl _, Nat.le_refl _, fun h => absurd h (Nat.lt_irrefl _)⟩
  | m + 1, i => by
    rw [sb_]
    by_cases q : c i = 32
    · rw [if_pos q]
      obtain ⟨a, b, d⟩ := sb_sp c m (i + 1)
      exact ⟨by omega, by omega, fun h => d (by omega)⟩
    · rw [if_neg q]
      exact ⟨Nat.le_refl _, by omega, fun _ => q⟩
theorem sb_8 {β : Type} {n r : Nat} {signs sizes bytes : Nat → Int32} (T : tx_ n r signs sizes bytes) (K : Int32 → Option β) : ∀ (m i fuel : Nat), i + m = n → m < fuel → lp_X5_skipBlanks_0 (nI n) signs K fuel (nI i) = K (nI (sb_ (fun j => bytes (60 * r + j)) m i))
  | 0, i, fuel + 1, h, _ => by
    have hn := T.1
    rw [lp_X5_skipBlanks_0, if_pos (nI_le (by omega) (by omega))]
    rfl
  | m + 1, i, fuel + 1, h, hf => by
    have hn := T.1
    rw [lp_X5_skipBlanks_0, if_neg (nI_ge (by omega) (by omega)), pu_in (show i < 60 by omega) (by omega), nx_chk, nI_clamp (by omega), T.2.2.2 i (by omega), sb_]
    by_cases q : bytes (60 * r + i) = 32
    · rw [if_pos q, if_pos q, nI_1]
      exact sb_8 T K m (i + 1) fuel (by omega) (by omega)
    · rw [if_neg q, if_neg q]
theorem sb_f {n r : Nat} {signs sizes bytes : Nat → Int32} (T : tx_ n r signs sizes bytes) {i : Nat} (h : i ≤ n) : f_X5_skipBlanks (nI n) (nI i) signs = some (nI (sb_ (fun j => bytes (60 * r + j)) (n - i) i)) := by
  obtain ⟨F, hF, hF2⟩ : ∃ F, F = gg_fuel ∧ 50000 ≤ F := ⟨_, rfl, pu_F⟩
  have hn := T.1
  unfold f_X5_skipBlanks
  rw [← hF]
  exact sb_8 T (fun x => some x) (n - i) i F (by omega) (by omega)
theorem sb_9 {β : Type} {n r : Nat} {signs sizes bytes : Nat → Int32} (T : tx_ n r signs sizes bytes) (k1 k2 : Int32 → Int32 → Int32 → Int32 → (Nat → Int32) → (Nat → Int32) → Option β) (a b h : Int32) (W A : Nat → Int32) : ∀ (m i fuel : Nat), i + m = n → m < fuel → ∃ fuel', n - sb_ (fun j => bytes (60 * r + j)) m i < fuel' ∧ lp_X9_faultOf_15 (nI r) sizes bytes k1 k2 fuel (nI i) a b h W A = lp_X9_faultOf_15 (nI r) sizes bytes k1 k2 fuel' (nI (sb_ (fun j => bytes (60 * r + j)) m i)) a b h W A
  | 0, i, fuel + 1, hh, hf => ⟨fuel + 1, by rw [sb_]; omega, rfl⟩
  | m + 1, i, fuel + 1, hh, hf => by
    have hn := T.1
    have hr := T.2.1
    by_cases q : bytes (60 * r + i) = 32
    · obtain ⟨f', g1, g2⟩ := sb_9 T k1 k2 a b h W A m (i + 1) fuel (by omega) (by omega)
      rw [sb_, if_pos q]
      refine ⟨f', g1, ?_⟩
      rw [lp_X9_faultOf_15, pu_in T.2.1 (by omega), nx_chk, nI_clamp (by omega), T.2.2.1, if_neg (nI_ge (by omega) (by omega)), sn_9 T (show i < n by omega), Option.bind_some, if_pos q, nI_1]
      exact g2
    · rw [sb_, if_neg q]
      exact ⟨fuel + 1, by omega, rfl⟩
theorem wl_ {β γ : Type} {n r : Nat} {signs sizes bytes : Nat → Int32} (T : tx_ n r signs sizes bytes) (k47 k62 : Int32 → (Nat → Int32) → Option β) (k55 k63 : Int32 → (Nat → Int32) → Option γ) : ∀ (m j f8 f9 i : Nat) (W8 W9 : Nat → Int32) (w : Nat → Nat), j + m = 4 → m < f8 → m < f9 → i ≤ n → (∀ x, x < j → W8 x = nI (w x) ∧ W9 x = nI (w x) ∧ w x < 10) → (∃ p W8' W9', p ≤ n ∧ lp_X5_readHead_27 (nI n) signs k47 k62 f8 (nI j) (nI i) W8 = k47 (nI p) W8' ∧ lp_X9_readsHead_28 (nI r) sizes bytes k55 k63 f9 (nI j) (nI i) W9 = k55 (nI p) W9') ∨ (∃ (p : Nat) (W8' W9' : Nat → Int32) (w' : Nat → Nat), p = i + m ∧ p ≤ n ∧ lp_X5_readHead_27 (nI n) signs k47 k62 f8 (nI j) (nI i) W8 = k62 (nI p) W8' ∧ lp_X9_readsHead_28 (nI r) sizes bytes k55 k63 f9 (nI j) (nI i) W9 = k63 (nI p) W9' ∧ ∀ x, x < 4 → W8' x = nI (w' x) ∧ W9' x = nI (w' x) ∧ w' x < 10)
  | 0, j, f8 + 1, f9 + 1, i, W8, W9, w, h, _, _, hi, hw => by
    right
    have hj : j = 4 := by omega
    subst hj
    refine ⟨i, W8, W9, w, rfl, hi, ?_, ?_, fun x hx => hw x hx⟩
    · rw [lp_X5_readHead_27, if_pos (show (4 : Int32) ≤ nI 4 by decide)]
    · rw [lp_X9_readsHead_28, if_pos (show (4 : Int32) ≤ nI 4 by decide)]
  | m + 1, j, f8 + 1, f9 + 1, i, W8, W9, w, h, hf8, hf9, hi, hw => by
    have hn := T.1
    have e8 : ∀ v q : Int32, f_X5_readFigure (nI n) (nI i) signs = some (v, q) → lp_X5_readHead_27 (nI n) signs k47 k62 (f8 + 1) (nI j) (nI i) W8 = if v = -9 then k47 q W8 else lp_X5_readHead_27 (nI n) signs k47 k62 f8 (nI (j + 1)) q (upd W8 j v) := by
      intro v q e
      rw [lp_X5_readHead_27, if_neg (show ¬ (4 : Int32) ≤ nI j from (nI_ge (by omega) (by omega) : ¬ nI 4 ≤ nI j)), e, nx_b2, pu_in (show j < 4 by omega) (by omega), nx_chk, nI_clamp (by omega), nI_1]
    have e9 : ∀ v q : Int32, f_X9_figure (nI r) (nI i) sizes bytes = some (v, q) → lp_X9_readsHead_28 (nI r) sizes bytes k55 k63 (f9 + 1) (nI j) (nI i) W9 = if v = -9 then k55 q (upd W9 j v) else lp_X9_readsHead_28 (nI r) sizes bytes k55 k63 f9 (nI (j + 1)) q (upd W9 j v) := by
      intro v q e
      rw [lp_X9_readsHead_28, if_neg (show ¬ (4 : Int32) ≤ nI j from (nI_ge (by omega) (by omega) : ¬ nI 4 ≤ nI j)), e, nx_b2, pu_in (show j < 4 by omega) (by omega), nx_chk, nx_chk, nI_clamp (by omega), pk_us, nI_1]
    rcases fg_ T (i := i) (by omega) with ⟨d, hd, hin, g8, g9⟩ | ⟨g8, g9⟩
    · rw [e8 _ _ g8, e9 _ _ g9, if_neg (nI_n9 (by omega)), if_neg (nI_n9 (by omega))]
      rw [show i + (m + 1) = i + 1 + m by omega]
      exact wl_ T k47 k62 k55 k63 m (j + 1) f8 f9 (i + 1) (upd W8 j (nI d)) (upd W9 j (nI d)) (gg_up w j d) (by omega) (by omega) (by omega) (by omega) (fun x hx => by
        by_cases q : x = j
        · subst q
          rw [pk_us, pk_us, nx_upn, if_pos rfl]
          exact ⟨rfl, rfl, hd⟩
        · rw [pk_un q, pk_un q, nx_upn, if_neg q]
          exact hw x (by omega))
    · left
      rw [e8 _ _ g8, e9 _ _ g9, if_pos rfl, if_pos rfl]
      exact ⟨i, W8, upd W9 j (-9), hi, rfl, rfl⟩
theorem hd_ {n r : Nat} {signs sizes bytes : Nat → Int32} (T : tx_ n r signs sizes bytes) {i : Nat} (hi : i < n) (hs : sb_ (fun j => bytes (60 * r + j)) n 0 = i) (f8 f9 h9 : Int32) (W8 W9 : Nat → Int32) : (∃ p f8' W8' f9' W9', p ≤ n ∧ f_X5_readHead (nI n) (nI 0) signs f8 W8 = some (0, nI p, f8', W8') ∧ f_X9_readsHead (nI r) (nI i) f9 h9 sizes bytes W9 = some (0, nI p, f9', h9, W9')) ∨ (∃ (p fd : Nat) (W8' W9' : Nat → Int32) (w : Nat → Nat), i < p ∧ p ≤ n ∧ fd ≤ 40 ∧ f_X5_readHead (nI n) (nI 0) signs f8 W8 = some (1, nI p, nI fd, W8') ∧ f_X9_readsHead (nI r) (nI i) f9 h9 sizes bytes W9 = some (1, nI p, nI fd, 1, W9') ∧ ∀ x, x < 4 → W8' x = nI (w x) ∧ W9' x = nI (w x) ∧ w x < 10) := by
  have hn := T.1
  obtain ⟨F, hF, hF2⟩ : ∃ F, F = gg_fuel ∧ 50000 ≤ F := ⟨_, rfl, pu_F⟩
  unfold f_X5_readHead f_X9_readsHead
  rw [sb_f T (by omega), Nat.sub_zero, hs, Option.bind_some, sn_8 T hi, sn_9 T hi, Option.bind_some, Option.bind_some, ← hF, nI_1]
  by_cases q : bytes (60 * r + i) = 102
  · rw [if_pos q, if_pos q]
    rcases wl_ T (fun (c_place_47 : Int32) (c_p1_winds_47 : Nat → Int32) => (some ((0 : Int32), c_place_47, f8, c_p1_winds_47))) (fun (c_place_62 : Int32) (c_p1_winds_62 : Nat → Int32) => gg_b3 (f_X5_readFood (nI n) c_place_62 signs f8) (fun v4_0 v4_1 v4_2 => gg_chk (gg_isb v4_0) (some (v4_0, v4_1, v4_2, c_p1_winds_62)))) (fun (c_readAt_55 : Int32) (c_readWinds_55 : Nat → Int32) => (some ((0 : Int32), c_readAt_55, f9, h9, c_readWinds_55))) (fun (c_readAt_63 : Int32) (c_readWinds_63 : Nat → Int32) => gg_b2 (f_X9_figure (nI r) c_readAt_63 sizes bytes) (fun v3_0 v3_1 => gg_lt (fun (s0_90 : Int32) (c_readAt_90 : Int32) => (if s0_90 = (-9 : Int32) then (some ((0 : Int32), c_readAt_90, f9, h9, c_readWinds_63)) else (if (((10 : Int32) * v3_0) + s0_90) ≤ (40 : Int32) then (some ((1 : Int32), c_readAt_90, (((10 : Int32) * v3_0) + s0_90), (1 : Int32), c_readWinds_63)) else (some ((0 : Int32), c_readAt_63, (((10 : Int32) * v3_0) + s0_90), h9, c_readWinds_63))))) (fun k90 => (if v3_0 = (-9 : Int32) then (k90 (-9 : Int32) v3_1) else gg_b2 (f_X9_figure (nI r) v3_1 sizes bytes) (fun v4_0 v4_1 => (k90 v4_0 v4_1)))))) 4 0 F F (i + 1) W8 W9 (fun _ => 0) (by omega) (by omega) (by omega) (by omega) (fun x hx => by omega) with ⟨p, W8', W9', hp, g8, g9⟩ | ⟨p, W8', W9', w, hpi, hp, g8, g9, hw⟩
    · left
      exact ⟨p, f8, W8', f9, W9', hp, g8, g9⟩
    · rcases fg_ T (i := p) (by omega) with ⟨d, hd, hin, k8, k9⟩ | ⟨k8, k9⟩
      · rcases fg_ T (i := p + 1) (by omega) with ⟨o, ho, hin2, l8, l9⟩ | ⟨l8, l9⟩
        · have e : (10 : Int32) * nI d + nI o = nI (10 * d + o) := by rw [nx_l10, pk_mul, nI_add]
          have z8 : f_X5_readFood (nI n) (nI p) signs f8 = if nI (10 * d + o) ≤ 40 then some (1, nI (p + 2), nI (10 * d + o)) else some (0, nI (p + 2) - 2, nI (10 * d + o)) := by
            unfold f_X5_readFood
            rw [k8, nx_b2]
            simp only [nx_let]
            rw [if_neg (nI_n9 (by omega)), l8, nx_b2, if_neg (nI_n9 (by omega)), e]
          by_cases q4 : 10 * d + o ≤ 40
          · have q4' : nI (10 * d + o) ≤ 40 := (nI_le q4 (by omega) : nI (10 * d + o) ≤ nI 40)
            rw [if_pos q4'] at z8
            right
            refine ⟨p + 2, 10 * d + o, W8', W9', w, by omega, by omega, q4, g8.trans ?_, g9.trans ?_, hw⟩
            · simp only [z8, nx_b3]
              rfl
            · simp only [k9, l9, nx_b2, nx_let, if_neg (nI_n9 (show d < 2147483648 by omega)), if_neg (nI_n9 (show o < 2147483648 by omega)), e, if_pos q4']
          · have q4' : ¬ nI (10 * d + o) ≤ 40 := (nI_ge (by omega) (by omega) : ¬ nI (10 * d + o) ≤ nI 40)
            rw [if_neg q4', show nI (p + 2) - 2 = nI p from (nx_sub (b := 2) (by omega) : nI (p + 2) - nI 2 = nI (p + 2 - 2))] at z8
            left
            refine ⟨p, nI (10 * d + o), W8', nI (10 * d + o), W9', hp, g8.trans ?_, g9.trans ?_⟩
            · simp only [z8, nx_b3]
              rfl
            · simp only [k9, l9, nx_b2, nx_let, if_neg (nI_n9 (show d < 2147483648 by omega)), if_neg (nI_n9 (show o < 2147483648 by omega)), e, if_neg q4']
        · have z8 : f_X5_readFood (nI n) (nI p) signs f8 = some (0, nI (p + 1), f8) := by
            unfold f_X5_readFood
            rw [k8, nx_b2]
            simp only [nx_let]
            rw [if_neg (nI_n9 (by omega)), l8, nx_b2, if_pos rfl]
          left
          refine ⟨p + 1, f8, W8', f9, W9', by omega, g8.trans ?_, g9.trans ?_⟩
          · simp only [z8, nx_b3]
            rfl
          · simp only [k9, l9, nx_b2, nx_let, if_neg (nI_n9 (show d < 2147483648 by omega)), if_true]
      · have z8 : f_X5_readFood (nI n) (nI p) signs f8 = some (0, nI p, f8) := by
          unfold f_X5_readFood
          rw [k8, nx_b2]
          simp only [nx_let, if_true]
        left
        refine ⟨p, f8, W8', f9, W9', hp, g8.trans ?_, g9.trans ?_⟩
        · simp only [z8, nx_b3]
          rfl
        · simp only [k9, nx_b2, nx_let, if_true]
  · rw [if_neg q, if_neg q]
    left
    exact ⟨i, f8, W8, f9, W9, by omega, rfl, rfl⟩
theorem kl_l {β : Type} (x : Int32) (k1 : Int32 → Option β) (k2 : Option β) : ∀ (m j fuel : Nat), j + m = 6 → m < fuel → lp_X3_byLetter_2 x k1 k2 fuel (nI j) = (match o_up (fun j => decide (gg_let j = x)) m j with | some y => k1 (nI y) | none => k2)
  | 0, j, fuel + 1, h, _ => by
    have : j = 6 := by omega
    subst this
    rw [lp_X3_byLetter_2, if_pos (show (6 : Int32) ≤ nI 6 by decide)]
    rfl
  | m + 1, j, fuel + 1, h, hf => by
    have ih := kl_l x k1 k2 m (j + 1) fuel (by omega) (by omega)
    rw [lp_X3_byLetter_2, if_neg (show ¬ (6 : Int32) ≤ nI j from (nI_ge (by omega) (by omega) : ¬ nI 6 ≤ nI j)), pu_in (show j < 6 by omega) (by omega), nx_chk, nI_clamp (by omega), nI_1, o_up]
    by_cases q : gg_let j = x
    · rw [if_pos q, if_pos (decide_eq_true q)]
    · rw [if_neg q, if_neg (by simpa using q)]
      exact ih
theorem kl_ (x : Int32) : (∃ y, y < 6 ∧ f_X3_byLetter x = some (nI y) ∧ f_X9_kindBy x = some (nI y)) ∨ (f_X3_byLetter x = some (-9) ∧ f_X9_kindBy x = some (-9)) := by
  obtain ⟨F, hF, hF2⟩ : ∃ F, F = gg_fuel ∧ 50000 ≤ F := ⟨_, rfl, pu_F⟩
  have e := kl_l x (fun y => some y) (some (-9)) 6 0 F (by omega) (by omega)
  have e' : f_X3_byLetter x = (match o_up (fun j => decide (gg_let j = x)) 6 0 with | some y => some (nI y) | none => some (-9)) := by
    unfold f_X3_byLetter
    rw [← hF]
    exact e
  rw [e']
  by_cases h0 : x = 104
  · subst h0
    exact Or.inl ⟨0, by omega, rfl, rfl⟩
  by_cases h1 : x = 112
  · subst h1
    exact Or.inl ⟨1, by omega, rfl, rfl⟩
  by_cases h2 : x = 108
  · subst h2
    exact Or.inl ⟨2, by omega, rfl, rfl⟩
  by_cases h3 : x = 103
  · subst h3
    exact Or.inl ⟨3, by omega, rfl, rfl⟩
  by_cases h4 : x = 99
  · subst h4
    exact Or.inl ⟨4, by omega, rfl, rfl⟩
  by_cases h5 : x = 107
  · subst h5
    exact Or.inl ⟨5, by omega, rfl, rfl⟩
  right
  refine ⟨?_, ?_⟩
  · have n0 : ¬ gg_let 0 = x := fun z => h0 z.symm
    have n1 : ¬ gg_let 1 = x := fun z => h1 z.symm
    have n2 : ¬ gg_let 2 = x := fun z => h2 z.symm
    have n3 : ¬ gg_let 3 = x := fun z => h3 z.symm
    have n4 : ¬ gg_let 4 = x := fun z => h4 z.symm
    have n5 : ¬ gg_let 5 = x := fun z => h5 z.symm
    have : o_up (fun j => decide (gg_let j = x)) 6 0 = none := by
      rw [o_up, if_neg (by simpa using n0), o_up, if_neg (by simpa using n1), o_up, if_neg (by simpa using n2), o_up, if_neg (by simpa using n3), o_up, if_neg (by simpa using n4), o_up, if_neg (by simpa using n5), o_up]
    rw [this]
  · unfold f_X9_kindBy
    simp only [nx_let, h0, h1, h2, h3, h4, h5, if_false, ite_self]
theorem ho_8 {β : Type} {k h : Nat} (hk : k ≤ 6) (hh : h < 10) {hm : Nat → Nat} {home : Nat → Int32} (hs : ∀ j, j < k → home j = nI (hm j) ∧ hm j < 10) (k1 k2 : Option β) : ∀ (m j fuel : Nat), j + m = k → m < fuel → lp_X2_hasHomeOn_2 (nI h) (nI k) home k1 k2 fuel (nI j) = if m_all (fun x => decide (hm x ≠ h)) m j = true then k2 else k1
  | 0, j, fuel + 1, e, _ => by
    rw [lp_X2_hasHomeOn_2, if_pos (nI_le (by omega) (by omega))]
    rfl
  | m + 1, j, fuel + 1, e, hf => by
    have hj : j < k := by omega
    have l := (hs j hj).2
    rw [lp_X2_hasHomeOn_2, if_neg (nI_ge (by omega) (by omega)), pu_in (show j < 6 by omega) (by omega), nx_chk, nI_clamp (by omega), (hs j hj).1, nI_1, ho_8 hk hh hs k1 k2 m (j + 1) fuel (by omega) (by omega), m_all]
    by_cases q : hm j = h
    · rw [if_pos (show nI (hm j) = nI h by rw [q]), decide_eq_false (fun z => z q), Bool.false_and, if_neg (by decide)]
    · rw [if_neg (fun z => q ((nI_eq (by omega) (by omega)).1 z)), decide_eq_true q, Bool.true_and]
theorem ho_9 {β : Type} {k h : Nat} (hk : k ≤ 6) (hh : h < 10) {hm : Nat → Nat} {A : Nat → Int32} (hs : ∀ j, j < k → A (4 * j + 1) = nI (hm j) ∧ hm j < 10) (K : Int32 → Option β) : ∀ (m j fuel : Nat) (b : Bool), j + m = k → m < fuel → lp_X9_isTold_4 (nI h) (nI k) A K fuel (if b = true then 1 else 0) (nI j) = K (if (b || !m_all (fun x => decide (hm x ≠ h)) m j) = true then 1 else 0)
  | 0, j, fuel + 1, b, e, _ => by
    rw [lp_X9_isTold_4, if_pos (nI_le (by omega) (by omega)), m_all, Bool.not_true, Bool.or_false]
  | m + 1, j, fuel + 1, b, e, hf => by
    have hj : j < k := by omega
    have l := (hs j hj).2
    have i1 := ho_9 hk hh hs K m (j + 1) fuel true (by omega) (by omega)
    have i0 := ho_9 hk hh hs K m (j + 1) fuel false (by omega) (by omega)
    rw [if_pos rfl, Bool.true_or, if_pos rfl] at i1
    rw [if_neg (by decide), Bool.false_or] at i0
    have ei : (4 : Int32) * nI j + 1 = nI (4 * j + 1) := by rw [nx_l4, pk_mul, nI_1]
    rw [lp_X9_isTold_4, if_neg (nI_ge (by omega) (by omega)), ei, pu_in (show 4 * j + 1 < 24 by omega) (by omega), nI_clamp (by omega), (hs j hj).1, nI_1, m_all]
    simp only [nx_let, nx_chk]
    rw [i1, i0]
    cases b with
    | true => rw [if_neg (show ¬ (if true = true then (1 : Int32) else 0) = 0 by decide), Bool.true_or, if_pos rfl]
    | false =>
      rw [if_pos (show (if false = true then (1 : Int32) else 0) = 0 from rfl), Bool.false_or]
      by_cases q : hm j = h
      · rw [if_pos (show nI (hm j) = nI h by rw [q]), decide_eq_false (fun z => z q), Bool.false_and, if_pos (by decide)]
      · rw [if_neg (fun z => q ((nI_eq (by omega) (by omega)).1 z)), decide_eq_true q, Bool.true_and]
theorem ho_ {k h : Nat} (hk : k ≤ 6) (hh : h < 10) {hm : Nat → Nat} {home A : Nat → Int32} (hs8 : ∀ j, j < k → home j = nI (hm j) ∧ hm j < 10) (hs9 : ∀ j, j < k → A (4 * j + 1) = nI (hm j) ∧ hm j < 10) : (f_X2_hasHomeOn (nI h) (nI k) home = some 1 ∧ f_X9_isTold (nI h) (nI k) A = some 1) ∨ (f_X2_hasHomeOn (nI h) (nI k) home = some 0 ∧ f_X9_isTold (nI h) (nI k) A = some 0 ∧ ∀ j, j < k → hm j ≠ h) := by
  obtain ⟨F, hF, hF2⟩ : ∃ F, F = gg_fuel ∧ 50000 ≤ F := ⟨_, rfl, pu_F⟩
  have e8 := ho_8 hk hh hs8 (some (1 : Int32)) (some (0 : Int32)) k 0 F (by omega) (by omega)
  have e9 := ho_9 hk hh hs9 (fun (x2_42 : Int32) => gg_chk (gg_isb x2_42) (some x2_42)) k 0 F false (by omega) (by omega)
  rw [Bool.false_or, if_neg (by decide)] at e9
  unfold f_X2_hasHomeOn f_X9_isTold
  rw [← hF]
  obtain ⟨b, hb⟩ : ∃ b, b = m_all (fun x => decide (hm x ≠ h)) k 0 := ⟨_, rfl⟩
  rw [← hb] at e8 e9
  cases b with
  | false => exact Or.inl ⟨e8, e9⟩
  | true =>
    right
    refine ⟨e8, e9, fun j hj => ?_⟩
    have := m_all_1 k 0 hb.symm j (by omega) (by omega)
    exact of_decide_eq_true this
