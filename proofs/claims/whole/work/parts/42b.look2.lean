theorem wr_1a6 {β : Type} {r n : Nat} (hr : r < 6) (hn : n ≤ 6) {z p : Nat → Int32} (hz : z r = nI n) (k : (Nat → Nat → Int32) → Option β) : ∀ (m j fuel : Nat) (M : Nat → Nat → Int32), j + m = n → m < fuel → ∃ M', lp_X6_write_s6_a6_9 (nI r) (nI n) z p k fuel (nI j) M = k M' ∧ (∀ a x, a ≠ r → M' a x = M a x) ∧ (∀ x, x < j → M' r x = M r x) ∧ ∀ x, j ≤ x → x < n → M' r x = p x
  | 0, j, fuel + 1, M, h, _ => by
    rw [lp_X6_write_s6_a6_9, if_pos (nI_le (by omega) (by omega))]
    exact ⟨M, rfl, fun _ _ _ => rfl, fun _ _ => rfl, fun x h1 h2 => by omega⟩
  | m + 1, j, fuel + 1, M, h, hf => by
    obtain ⟨M', h1, h2, h3, h4⟩ := wr_1a6 hr hn hz k m (j + 1) fuel (gg_up M r (upd (M r) j (p j))) (by omega) (by omega)
    refine ⟨M', ?_, ?_, ?_, ?_⟩
    · rw [lp_X6_write_s6_a6_9, if_neg (nI_ge (by omega) (by omega)), if_neg (show ¬ (6 : Int32) ≤ nI j from (nI_ge (by omega) (by omega) : ¬ nI 6 ≤ nI j)), pu_in (show j < 6 by omega) (by omega), nI_clamp (by omega), pu_set6 hr (show n ≤ 40 by omega) (show j < n by omega) hz, nI_1]
      exact h1
    · intro a x ha
      rw [h2 a x ha, nx_upn, if_neg ha]
    · intro x hx
      rw [h3 x (by omega), nx_upn, if_pos rfl, pk_un (by omega)]
    · intro x hx1 hx2
      by_cases q : x = j
      · subst q
        rw [h3 x (by omega), nx_upn, if_pos rfl, pk_us]
      · exact h4 x (by omega) hx2
theorem wr_a6 {r n : Nat} (hr : r < 6) (hn : n ≤ 6) (z : Nat → Int32) (M : Nat → Nat → Int32) (p : Nat → Int32) : ∃ M', f_X6_write_s6_a6 (nI r) (nI n) (nI 40) z M p = some (upd z r (nI n), M') ∧ (∀ a x, a ≠ r → M' a x = M a x) ∧ ∀ x, x < n → M' r x = p x := by
  obtain ⟨F, hF, hF2⟩ : ∃ F, F = gg_fuel ∧ 50000 ≤ F := ⟨_, rfl, pu_F⟩
  obtain ⟨M1, e1, e2, e3⟩ := pu_make6 hr (show n ≤ 40 by omega) z M
  obtain ⟨M2, g1, g2, g3, g4⟩ := wr_1a6 hr hn (z := upd z r (nI n)) (p := p) pk_us (fun x => some (upd z r (nI n), x)) n 0 F M1 (by omega) (by omega)
  refine ⟨M2, ?_, fun a x ha => by rw [g2 a x ha, e2 a x ha], fun x hx => g4 x (by omega) hx⟩
  unfold f_X6_write_s6_a6
  rw [e1, nx_b2, ← hF]
  exact g1
theorem wr_1a4 {β : Type} {r n : Nat} (hr : r < 6) (hn : n ≤ 4) {z p : Nat → Int32} (hz : z r = nI n) (k : (Nat → Nat → Int32) → Option β) : ∀ (m j fuel : Nat) (M : Nat → Nat → Int32), j + m = n → m < fuel → ∃ M', lp_X6_write_s6_a4_9 (nI r) (nI n) z p k fuel (nI j) M = k M' ∧ (∀ a x, a ≠ r → M' a x = M a x) ∧ (∀ x, x < j → M' r x = M r x) ∧ ∀ x, j ≤ x → x < n → M' r x = p x
  | 0, j, fuel + 1, M, h, _ => by
    rw [lp_X6_write_s6_a4_9, if_pos (nI_le (by omega) (by omega))]
    exact ⟨M, rfl, fun _ _ _ => rfl, fun _ _ => rfl, fun x h1 h2 => by omega⟩
  | m + 1, j, fuel + 1, M, h, hf => by
    obtain ⟨M', h1, h2, h3, h4⟩ := wr_1a4 hr hn hz k m (j + 1) fuel (gg_up M r (upd (M r) j (p j))) (by omega) (by omega)
    refine ⟨M', ?_, ?_, ?_, ?_⟩
    · rw [lp_X6_write_s6_a4_9, if_neg (nI_ge (by omega) (by omega)), if_neg (show ¬ (4 : Int32) ≤ nI j from (nI_ge (by omega) (by omega) : ¬ nI 4 ≤ nI j)), pu_in (show j < 4 by omega) (by omega), nI_clamp (by omega), pu_set6 hr (show n ≤ 40 by omega) (show j < n by omega) hz, nI_1]
      exact h1
    · intro a x ha
      rw [h2 a x ha, nx_upn, if_neg ha]
    · intro x hx
      rw [h3 x (by omega), nx_upn, if_pos rfl, pk_un (by omega)]
    · intro x hx1 hx2
      by_cases q : x = j
      · subst q
        rw [h3 x (by omega), nx_upn, if_pos rfl, pk_us]
      · exact h4 x (by omega) hx2
theorem wr_a4 {r n : Nat} (hr : r < 6) (hn : n ≤ 4) (z : Nat → Int32) (M : Nat → Nat → Int32) (p : Nat → Int32) : ∃ M', f_X6_write_s6_a4 (nI r) (nI n) (nI 40) z M p = some (upd z r (nI n), M') ∧ (∀ a x, a ≠ r → M' a x = M a x) ∧ ∀ x, x < n → M' r x = p x := by
  obtain ⟨F, hF, hF2⟩ : ∃ F, F = gg_fuel ∧ 50000 ≤ F := ⟨_, rfl, pu_F⟩
  obtain ⟨M1, e1, e2, e3⟩ := pu_make6 hr (show n ≤ 40 by omega) z M
  obtain ⟨M2, g1, g2, g3, g4⟩ := wr_1a4 hr hn (z := upd z r (nI n)) (p := p) pk_us (fun x => some (upd z r (nI n), x)) n 0 F M1 (by omega) (by omega)
  refine ⟨M2, ?_, fun a x ha => by rw [g2 a x ha, e2 a x ha], fun x hx => g4 x (by omega) hx⟩
  unfold f_X6_write_s6_a4
  rw [e1, nx_b2, ← hF]
  exact g1
theorem wr9o {β : Type} {r n : Nat} (hr : r < 6) (hn : n ≤ 6) {p : Nat → Int32} (k : (Nat → Int32) → Option β) : ∀ (m j fuel : Nat) (g : Nat → Int32), j + m = n → m < fuel → ∃ g', lp_X9_order_39 (nI r) (nI n) p k fuel (nI j) g = k g' ∧ (∀ x, x < 40 * r + j ∨ 40 * r + n ≤ x → g' x = g x) ∧ ∀ x, j ≤ x → x < n → g' (40 * r + x) = p x
  | 0, j, fuel + 1, g, h, _ => by
    rw [lp_X9_order_39, if_pos (nI_le (by omega) (by omega))]
    exact ⟨g, rfl, fun _ _ => rfl, fun x h1 h2 => by omega⟩
  | m + 1, j, fuel + 1, g, h, hf => by
    obtain ⟨g', h1, h2, h3⟩ := wr9o hr hn k m (j + 1) fuel (upd g (40 * r + j) (p j)) (by omega) (by omega)
    refine ⟨g', ?_, ?_, ?_⟩
    · rw [lp_X9_order_39, if_neg (nI_ge (by omega) (by omega)), show (40 : Int32) = nI 40 from rfl, pk_mul, nI_add, pu_in (show j < 6 by omega) (by omega), pu_in (show 40 * r + j < 240 by omega) (by omega), nI_clamp (by omega), nI_clamp (by omega), nI_1]
      exact h1
    · intro x hx
      rw [h2 x (by omega), pk_un (by omega)]
    · intro x h4 h5
      by_cases q : x = j
      · subst q
        rw [h2 _ (by omega), pk_us]
      · exact h3 x (by omega) h5
theorem rw_wr {z1 z2 : Nat → Int32} {M M' : Nat → Nat → Int32} {g g' p : Nat → Int32} {r n : Nat} (hr : r < 6) (hn : n ≤ 40) (hz : rl_sz 6 40 z1 z2) (hc : rl_ce 6 40 z1 M g) (h1 : ∀ a x, a ≠ r → M' a x = M a x) (h2 : ∀ x, x < n → M' r x = p x) (h3 : ∀ x, x < 40 * r ∨ 40 * r + n ≤ x → g' x = g x) (h4 : ∀ x, x < n → g' (40 * r + x) = p x) : rl_sz 6 40 (upd z1 r (nI n)) (upd z2 r (nI n)) ∧ rl_ce 6 40 (upd z1 r (nI n)) M' g' := by
  refine ⟨sz_up hz (Or.inr ⟨n, hn, rfl⟩), ?_⟩
  intro a i ha hi hzi
  by_cases q : a = r
  · subst q
    rw [pk_us] at hzi
    have hin : i < n := (nI_ltI (by omega) (by omega)).mp hzi
    rw [h2 i hin, h4 i hin]
  · rw [pk_un q] at hzi
    rw [h1 a i q, h3 (40 * a + i) (by rcases Nat.lt_or_ge a r with z | z <;> omega)]
    exact hc a i ha hi hzi
theorem nI_n0 {a : Nat} (h : a ≠ 0) (ha : a < 2147483648) : ¬ nI a = 0 := fun z => h ((nI_eq (b := 0) ha (by omega)).1 z)
theorem nd_9 {N : Nat} (h : N ≠ 0) (hN : N ≤ 6) : f_X9_need 1 (nI N) = some 0 := by
  unfold f_X9_need
  rw [nx_let, if_neg (by decide), if_neg (nI_n0 h (by omega))]
theorem sm_order : sim_order Rl_ := by
  intro s t h a0
  obtain ⟨hfd, ht, hu, ⟨hm, hz, hc⟩, htx, hfr⟩ := id h
  obtain ⟨N, kd, wd, f, nw⟩ := rl_nw h.2.2.2.2.2
  obtain ⟨hN, e10, eT2, kw, kt, fl, ar, ok, due⟩ := id nw
  obtain ⟨F, hF, hF2⟩ : ∃ F, F = gg_fuel ∧ 50000 ≤ F := ⟨_, rfl, pu_F⟩
  unfold f_X8_order f_X9_order
  rw [e10, eT2, ← hF]
  rcases pu_ix a0 6 (by omega) with q | ⟨r, hr, rfl⟩
  · rw [pu_kn6o q, pu_isRowO q]
    exact ⟨-1, s.2.2.1 0, s.2.2.2 0, s.1 14, s.1 15, s.1 16, s.1 17, s.2.2.1 17, s.2.2.1 18, s.2.2.1 19, s.2.2.1 20, s.2.2.1 21, s.2.2.1 22, s.2.2.1 23, -1, t.1 7, t.2.2.1 1, t.2.2.1 2, t.2.2.1 9, t.2.2.1 12, rfl, rfl, rfl, ⟨hfd, ht, hu, ⟨hm, hz, hc⟩, htx, hfr⟩⟩
  · rw [pu_kn6 hr, pu_isRow hr]
    by_cases q0 : N = 0
    · subst q0
      exact ⟨-4, s.2.2.1 0, s.2.2.2 0, s.1 14, s.1 15, s.1 16, s.1 17, s.2.2.1 17, s.2.2.1 18, s.2.2.1 19, s.2.2.1 20, s.2.2.1 21, s.2.2.1 22, s.2.2.1 23, -4, t.1 7, t.2.2.1 1, t.2.2.1 2, t.2.2.1 9, t.2.2.1 12, rfl, rfl, rfl, ⟨hfd, ht, hu, ⟨hm, hz, hc⟩, htx, hfr⟩⟩
    · have z0 : ¬ nI N = 0 := fun z => q0 ((nI_eq (b := 0) (by omega) (by omega)).1 z)
      obtain ⟨w', k', h', s', n', b', be, bw, ba⟩ := be_come (s.1 14) (s.1 15) (s.1 16) (s.1 17) (s.2.2.1 17) (s.2.2.1 18) (s.2.2.1 19) (s.2.2.1 20) (s.2.2.1 21) (s.2.2.1 22) (nI N) (s.1 11) (s.1 12) (s.2.2.1 10) (s.2.2.1 11) (s.2.2.1 12) (s.2.2.1 13) (s.2.2.1 14) (s.2.2.1 15)
      have kwa := fr_kw_c hN kw (fun j hj => (ba j hj).1) bw
      have fla := fr_fl_c hN fl (fun j hj => (ba j hj).2)
      obtain ⟨b9, cn, cn2⟩ := cn_ (t.2.2.1 8) (t.2.2.1 9)
      have ara := fr_ar_c hN ar cn2
      have bd : fr_bd N f := fr_bd_of ok (by omega)
      obtain ⟨x4, x5, x6, x7, y1, -, y3, y4, -, -⟩ := fl_winter hN kwa bd fla 0 (s.2.2.1 23)
      obtain ⟨z3, z2, u1, -, u3⟩ := ar_winter hN kt bd ara (t.1 7) (t.2.2.1 12)
      obtain ⟨L, hL⟩ : ∃ L, L = (w_fly N kd wd f).2.2.2 := ⟨_, rfl⟩
      rw [← hL] at y1 y3 y4 u1 u3
      obtain ⟨n, hn⟩ : ∃ n, n = L.length := ⟨_, rfl⟩
      rw [← hn] at y1 y3 y4 u1 u3
      obtain ⟨M', m1, m2, m3⟩ := wr_a6 hr (show n ≤ 6 by omega) (s.2.2.1 0) (s.2.2.2 0) x7
      obtain ⟨g', g1, g2, g3⟩ := wr9o hr (show n ≤ 6 by omega) (p := z3) (fun (c_rows_70 : Nat → Int32) => (some (nI n, nI n, (upd (t.2.2.1 1) (nI r).toNatClampNeg (nI n)), c_rows_70, z2, z3))) n 0 F (t.2.2.1 2) (by omega) (by omega)
      have hrw := rw_wr (p := x7) (M' := M') (g' := g') hr (show n ≤ 40 by omega) hz hc m2 m3 (fun x hx => g2 x (by omega)) (fun x hx => by rw [g3 x (by omega) hx, u3 x hx, y3 x hx])
      refine ⟨nI n, upd (s.2.2.1 0) r (nI n), M', nI N, nI (w_win N kd wd f).1, nI (w_win N kd wd f).2.1, nI n, w', k', h', x4, x5, x6, x7, nI n, nI n, upd (t.2.2.1 1) r (nI n), g', z2, z3, ?_, ?_, rfl, ⟨hfd, ht, hu, ⟨hm, hrw.1, hrw.2⟩, htx, hfr⟩⟩
      · rw [Option.bind_some, if_neg (show ¬ (1 : Int32) = 0 by decide), if_neg z0, be, nx_b10, y1, nx_b7, hm, m1]
        rfl
      · rw [Option.bind_some, nd_9 q0 hN, Option.bind_some, if_pos (show (0 : Int32) ≤ 0 by decide), cn, Option.bind_some, u1, nx_b3, pu_in hr (by omega)]
        refine Eq.trans g1 ?_
        rw [nI_clamp (by omega)]
def o_up (P : Nat → Bool) : Nat → Nat → Option Nat
  | 0, _ => none
  | m + 1, j => if P j = true then some j else o_up P m (j + 1)
def o_dn (P : Nat → Bool) : Nat → Option Nat → Option Nat
  | 0, acc => acc
  | m + 1, acc => o_dn P m (if P m = true then some m else acc)
def o_or (a b : Option Nat) : Option Nat := match a with
  | some x => some x
  | none => b
def o_I (a : Option Nat) : Int32 := match a with
  | some x => nI x
  | none => -9
theorem o_up_s (P : Nat → Bool) : ∀ (m j : Nat), o_up P (m + 1) j = o_or (o_up P m j) (if P (j + m) = true then some (j + m) else none)
  | 0, j => rfl
  | m + 1, j => by
    rw [o_up, o_up_s P m (j + 1), o_up, show j + 1 + m = j + (m + 1) by omega]
    by_cases q : P j = true
    · rw [if_pos q, if_pos q]
      rfl
    · rw [if_neg q, if_neg q]
theorem o_dn_e (P : Nat → Bool) : ∀ (m : Nat) (acc : Option Nat), o_dn P m acc = o_or (o_up P m 0) acc
  | 0, acc => rfl
  | m + 1, acc => by
    rw [o_dn, o_dn_e P m, o_up_s, Nat.zero_add]
    cases o_up P m 0 with
    | some x => rfl
    | none =>
      by_cases q : P m = true
      · rw [if_pos q, if_pos q]
        rfl
      · rw [if_neg q, if_neg q]
        rfl
def w_more (i x : Nat) (f : FS_) : FS_ := (f.1, f.2.1, f.2.2.1, gg_up f.2.2.2.1 i (f.2.2.2.1 i + x), f.2.2.2.2.1, f.2.2.2.2.2)
def w_lP (N : Nat) (kd wd : Nat → Nat) (i n : Nat) (f : FS_) (x : Nat) : Bool := decide ((w_wins N kd wd n (w_more i x f)).2.2.2.2.2 i ≠ 10)
theorem w_more_bd {N i x : Nat} {f : FS_} (ok : fr_ok N f) (hd : f.2.1 < 99) (hx : x ≤ 20) : fr_bd N (w_more i x f) := by
  refine ⟨Nat.lt_of_le_of_lt ok.1 (by omega), hd, fun j hj => ?_⟩
  obtain ⟨h1, h2, h3, h4⟩ := ok.2.1 j hj
  refine ⟨h1, ?_, h3, h4⟩
  show gg_up f.2.2.2.1 i (f.2.2.2.1 i + x) j < 1000
  rw [nx_upn]
  split
  · rename_i q
    subst q
    omega
  · omega
theorem fl_least {β : Type} {N : Nat} (hN : N ≤ 6) {kd wd : Nat → Nat} {kind winds : Nat → Int32} (hk : fr_kw N kd wd kind winds) {i n : Nat} (hi : i < N) (hn : n ≤ 40) {f : FS_} (ok : fr_ok N f) (hd : f.2.1 ≤ 40) {food due : Int32} {home st br bk : Nat → Int32} (hl : fr_fl N f food due home st br bk) (k1 : Int32 → Int32 → Int32 → Int32 → Int32 → (Nat → Int32) → (Nat → Int32) → (Nat → Int32) → (Nat → Int32) → (Nat → Int32) → (Nat → Int32) → (Nat → Int32) → Option β) (k2 : Int32 → Int32 → Int32 → Int32 → (Nat → Int32) → (Nat → Int32) → (Nat → Int32) → (Nat → Int32) → (Nat → Int32) → (Nat → Int32) → (Nat → Int32) → Option β) : ∀ (m j fuel : Nat) (b1 b2 b3 b4 : Int32) (c1 c2 c3 c4 c5 c6 c7 : Nat → Int32), j + m = 21 → m < fuel → ∃ b1' b2' b3' b4' c1' c2' c3' c4' c5' c6' c7', lp_X8_least_25 (nI i) (nI n) (nI N) food due winds kind home st br bk k1 k2 fuel (nI j) b1 b2 b3 b4 c1 c2 c3 c4 c5 c6 c7 = (match o_up (w_lP N kd wd i n f) m j with | some x => k1 (nI x) b1' b2' b3' b4' c1' c2' c3' c4' c5' c6' c7' | none => k2 b1' b2' b3' b4' c1' c2' c3' c4' c5' c6' c7')
  | 0, j, fuel + 1, b1, b2, b3, b4, c1, c2, c3, c4, c5, c6, c7, hj, hf => by
    refine ⟨b1, b2, b3, b4, c1, c2, c3, c4, c5, c6, c7, ?_⟩
    rw [lp_X8_least_25, if_pos (show (20 : Int32) < nI j from (nI_lt (by omega) (by omega) : nI 20 < nI j))]
    rfl
  | m + 1, j, fuel + 1, b1, b2, b3, b4, c1, c2, c3, c4, c5, c6, c7, hj, hf => by
    obtain ⟨w', k', h', s', n', b', be, bw, ba⟩ := be_come b1 b2 b3 b4 c1 c2 c3 c4 c5 c6 (nI N) food due winds kind home st br bk
    have kwa := fr_kw_c hN hk (fun j hj => (ba j hj).1) bw
    have fla := fr_fl_c hN hl (fun j hj => (ba j hj).2)
    have s1 := (fla.2.2 i hi).2.1
    have flb : fr_fl N (w_more i j f) food due h' (upd s' i (nI (f.2.2.2.1 i + j))) n' b' := by
      refine ⟨fla.1, fla.2.1, fun a ha => ?_⟩
      obtain ⟨g1, g2, g3, g4⟩ := fla.2.2 a ha
      refine ⟨g1, ?_, g3, g4⟩
      show upd s' i (nI (f.2.2.2.1 i + j)) a = nI (gg_up f.2.2.2.1 i (f.2.2.2.1 i + j) a)
      rw [nx_upd, nx_upn]
      split
      · rfl
      · exact g2
    have bd : fr_bd N (w_more i j f) := w_more_bd ok (by omega) (by omega)
    obtain ⟨x1, x2, x3, x4, x5, x6, x7, y1, y2⟩ := fl_passWinters hN kwa hn 0 c7 bd (show f.2.1 + n < 98 by omega) flb
    have bds := w_bds hN hk n (w_more i j f) bd (show f.2.1 + n < 98 by omega)
    have t8 := fl_th hi hN (bds.2.2 i hi).2.2.2 (y2.2.2 i hi).2.2.2
    have hst : lp_X8_least_25 (nI i) (nI n) (nI N) food due winds kind home st br bk k1 k2 (fuel + 1) (nI j) b1 b2 b3 b4 c1 c2 c3 c4 c5 c6 c7 = if (if (w_wins N kd wd n (w_more i j f)).2.2.2.2.2 i = 10 then nI 0 else nI 1) = 0 then lp_X8_least_25 (nI i) (nI n) (nI N) food due winds kind home st br bk k1 k2 fuel (nI (j + 1)) (nI N) x1 x2 x3 w' k' h' x4 x5 x6 x7 else k1 (nI j) (nI N) x1 x2 x3 w' k' h' x4 x5 x6 x7 := by
      rw [lp_X8_least_25, if_neg (show ¬ (20 : Int32) < nI j from (nI_nlt (by omega) (by omega) : ¬ nI 20 < nI j)), be, nx_b10, pu_in (show i < 6 by omega) (by omega), nx_chk, nx_chk, nI_clamp (by omega), s1, nI_add, y1, nx_b7, t8, Option.bind_some, nI_1]
    by_cases q : (w_wins N kd wd n (w_more i j f)).2.2.2.2.2 i = 10
    · obtain ⟨a1, a2, a3, a4, a5, a6, a7, a8, a9, a10, a11, g1⟩ := fl_least hN hk hi hn ok hd hl k1 k2 m (j + 1) fuel (nI N) x1 x2 x3 w' k' h' x4 x5 x6 x7 (by omega) (by omega)
      refine ⟨a1, a2, a3, a4, a5, a6, a7, a8, a9, a10, a11, ?_⟩
      rw [hst, if_pos q, if_pos (show nI 0 = 0 from rfl), g1, o_up, if_neg (show ¬ w_lP N kd wd i n f j = true by unfold w_lP; simp [q])]
    · refine ⟨nI N, x1, x2, x3, w', k', h', x4, x5, x6, x7, ?_⟩
      rw [hst, if_neg q, if_neg (show ¬ nI 1 = 0 by decide), o_up, if_pos (show w_lP N kd wd i n f j = true by unfold w_lP; simp [q])]
theorem ar_least {β : Type} {N : Nat} (hN : N ≤ 6) {kd wd : Nat → Nat} {kind winds : Nat → Int32} (hk : fr_kw N kd wd kind winds) {i n : Nat} (hi : i < N) (hn : n ≤ 40) {f : FS_} (ok : fr_ok N f) (hd : f.2.1 ≤ 40) {a : Nat → Int32} (ha : fr_ar N f a) (k1 : Int32 → Int32 → (Nat → Int32) → (Nat → Int32) → Option β) : ∀ (m fuel : Nat) (acc : Option Nat) (bm : Int32) (b c : Nat → Int32), m ≤ 21 → m < fuel → ∃ bm' b' c', lp_X9_least_27 (nI i) (nI n) (nI N) kind winds a k1 fuel (o_I acc) (nI m + (-1)) bm b c = k1 (o_I (o_dn (w_lP N kd wd i n f) m acc)) bm' b' c'
  | 0, fuel + 1, acc, bm, b, c, hj, hf => by
    refine ⟨bm, b, c, ?_⟩
    rw [lp_X9_least_27, if_pos (show nI 0 + (-1) < (0 : Int32) by decide)]
    rfl
  | m + 1, fuel + 1, acc, bm, b, c, hj, hf => by
    obtain ⟨F, hF, hF2⟩ : ∃ F, F = gg_fuel ∧ 50000 ≤ F := ⟨_, rfl, pu_F⟩
    obtain ⟨b9, cn, cn2⟩ := cn_ a b
    have ara := fr_ar_c hN ha cn2
    have s1 := (ara.2.2 i hi).2.1
    have arb : fr_ar N (w_more i m f) (upd b9 (8 + i) (nI (f.2.2.2.1 i + m))) := ar_st (st' := gg_up f.2.2.2.1 i (f.2.2.2.1 i + m)) hN (show fr_ar N (f.1, f.2.1, f.2.2.1, f.2.2.2.1, f.2.2.2.2.1, f.2.2.2.2.2) b9 from ara) hi (by rw [nx_upn, if_pos rfl]) (fun j hj => by rw [nx_upn, if_neg hj])
    have bd : fr_bd N (w_more i m f) := w_more_bd ok (by omega) (by omega)
    have bds := w_bds hN hk n (w_more i m f) bd (show f.2.1 + n < 98 by omega)
    have e8 : (8 : Int32) + nI i = nI (8 + i) := nI_add 8 i
    obtain ⟨z1, z2, z3, u1, u2⟩ := ar_winsL hN hk hn (fun (c_backMany_73 : Int32) (c_tried_73 : Nat → Int32) (c_back_73 : Nat → Int32) => (f_X9_isThere_a26 (nI i) c_tried_73).bind (fun v5 => gg_lt (fun (s0_90 : Int32) => (lp_X9_least_27 (nI i) (nI n) (nI N) kind winds a k1 fuel s0_90 (nI m + (-1 : Int32)) c_backMany_73 c_tried_73 c_back_73)) (fun k90 => (if v5 = (0 : Int32) then (k90 (o_I acc)) else (k90 (nI m)))))) n 0 F (w_more i m f) bm (upd b9 (8 + i) (nI (f.2.2.2.1 i + m))) c (by omega) (by omega) bd (show f.2.1 + n < 98 by omega) arb
    have t9 := ar_th hi hN (bds.2.2 i hi).2.2.2 (u2.2.2 i hi).2.2.2
    have hst : lp_X9_least_27 (nI i) (nI n) (nI N) kind winds a k1 (fuel + 1) (o_I acc) (nI (m + 1) + (-1)) bm b c = lp_X9_least_27 (nI i) (nI n) (nI N) kind winds a k1 fuel (o_I (if w_lP N kd wd i n f m = true then some m else acc)) (nI m + (-1)) z1 z2 z3 := by
      rw [nx_m1 (show 0 < m + 1 by omega), show m + 1 - 1 = m from rfl, lp_X9_least_27, if_neg (nI_pos (by omega)), cn, Option.bind_some, e8, pu_in (show 8 + i < 26 by omega) (by omega), nx_chk, nx_chk, nI_clamp (by omega), s1, nI_add, ← hF]
      refine Eq.trans u1 ?_
      rw [t9, Option.bind_some, nx_let]
      by_cases q : (w_wins N kd wd n (w_more i m f)).2.2.2.2.2 i = 10
      · rw [if_pos q, if_pos (show nI 0 = 0 from rfl), if_neg (show ¬ w_lP N kd wd i n f m = true by unfold w_lP; simp [q])]
      · rw [if_neg q, if_neg (show ¬ nI 1 = 0 by decide), if_pos (show w_lP N kd wd i n f m = true by unfold w_lP; simp [q])]
        rfl
    obtain ⟨a1, a2, a3, g1⟩ := ar_least hN hk hi hn ok hd ha k1 m fuel (if w_lP N kd wd i n f m = true then some m else acc) z1 z2 z3 (by omega) (by omega)
    exact ⟨a1, a2, a3, hst.trans g1⟩
theorem sm_least : sim_least Rl_ := by
  intro s t h a0 a1
  obtain ⟨N, kd, wd, f, nw⟩ := rl_nw h.2.2.2.2.2
  obtain ⟨hN, e10, eT2, kw, kt, fl, ar, ok, due⟩ := id nw
  obtain ⟨F, hF, hF2⟩ : ∃ F, F = gg_fuel ∧ 50000 ≤ F := ⟨_, rfl, pu_F⟩
  unfold f_X8_least f_X9_least
  rw [e10, eT2, ← hF]
  rcases pu_ix a0 N (by omega) with q | ⟨i, hi, rfl⟩
  · rw [fl_knO q, ar_hutO hN q]
    exact ⟨-1, s.1 14, s.1 15, s.1 16, s.1 17, s.2.2.1 17, s.2.2.1 18, s.2.2.1 19, s.2.2.1 20, s.2.2.1 21, s.2.2.1 22, s.2.2.1 23, -1, t.1 7, t.2.2.1 9, t.2.2.1 12, rfl, rfl, rfl, ⟨h.1, h.2.1, h.2.2⟩⟩
  · rw [fl_kn hi hN, ar_hut hi hN]
    rcases pu_rng a1 40 40 (by omega) rfl with ⟨q1, q2⟩ | ⟨n, hn, rfl, q1, q2⟩
    · rw [q1, q2]
      exact ⟨-1, s.1 14, s.1 15, s.1 16, s.1 17, s.2.2.1 17, s.2.2.1 18, s.2.2.1 19, s.2.2.1 20, s.2.2.1 21, s.2.2.1 22, s.2.2.1 23, -1, t.1 7, t.2.2.1 9, t.2.2.1 12, rfl, rfl, rfl, ⟨h.1, h.2.1, h.2.2⟩⟩
    · obtain ⟨c1, c2, c3, c4, d1, d2, d3, d4, d5, d6, d7, y1⟩ := fl_least hN kw hi hn ok due fl (fun (x3_74 : Int32) (c_aside_huts_74 : Int32) (c_aside_food_74 : Int32) (c_aside_due_74 : Int32) (c_aside_backs_74 : Int32) (c_aside_winds_74 : Nat → Int32) (c_aside_kind_74 : Nat → Int32) (c_aside_home_74 : Nat → Int32) (c_aside_strength_74 : Nat → Int32) (c_aside_brown_74 : Nat → Int32) (c_aside_brick_74 : Nat → Int32) (c_aside_back_74 : Nat → Int32) => (some (x3_74, c_aside_huts_74, c_aside_food_74, c_aside_due_74, c_aside_backs_74, c_aside_winds_74, c_aside_kind_74, c_aside_home_74, c_aside_strength_74, c_aside_brown_74, c_aside_brick_74, c_aside_back_74))) (fun (c_aside_huts_82 : Int32) (c_aside_food_82 : Int32) (c_aside_due_82 : Int32) (c_aside_backs_82 : Int32) (c_aside_winds_82 : Nat → Int32) (c_aside_kind_82 : Nat → Int32) (c_aside_home_82 : Nat → Int32) (c_aside_strength_82 : Nat → Int32) (c_aside_brown_82 : Nat → Int32) (c_aside_brick_82 : Nat → Int32) (c_aside_back_82 : Nat → Int32) => (some ((-9 : Int32), c_aside_huts_82, c_aside_food_82, c_aside_due_82, c_aside_backs_82, c_aside_winds_82, c_aside_kind_82, c_aside_home_82, c_aside_strength_82, c_aside_brown_82, c_aside_brick_82, c_aside_back_82))) 21 0 F (s.1 14) (s.1 15) (s.1 16) (s.1 17) (s.2.2.1 17) (s.2.2.1 18) (s.2.2.1 19) (s.2.2.1 20) (s.2.2.1 21) (s.2.2.1 22) (s.2.2.1 23) (by omega) (by omega)
      obtain ⟨z1, z2, z3, u1⟩ := ar_least hN kt hi hn ok due ar (fun (x3_97 : Int32) (c_backMany_97 : Int32) (c_tried_97 : Nat → Int32) (c_back_97 : Nat → Int32) => (some (x3_97, c_backMany_97, c_tried_97, c_back_97))) 21 F none (t.1 7) (t.2.2.1 9) (t.2.2.1 12) (by omega) (by omega)
      rw [o_dn_e] at u1
      rw [q1, q2]
      rw [Option.bind_some, nx_let, if_neg (show ¬ nI 1 = 0 by decide), Option.bind_some, if_neg (show ¬ nI 1 = 0 by decide), Option.bind_some, nx_let, if_neg (show ¬ nI 1 = 0 by decide), Option.bind_some, if_neg (show ¬ nI 1 = 0 by decide)]
      obtain ⟨O, hO⟩ : ∃ O, O = o_up (w_lP N kd wd i n f) 21 0 := ⟨_, rfl⟩
      rw [← hO] at y1 u1
      cases O with
      | none => exact ⟨-9, c1, c2, c3, c4, d1, d2, d3, d4, d5, d6, d7, -9, z1, z2, z3, y1, u1, rfl, ⟨h.1, h.2.1, h.2.2⟩⟩
      | some x => exact ⟨nI x, c1, c2, c3, c4, d1, d2, d3, d4, d5, d6, d7, nI x, z1, z2, z3, y1, u1, rfl, ⟨h.1, h.2.1, h.2.2⟩⟩
