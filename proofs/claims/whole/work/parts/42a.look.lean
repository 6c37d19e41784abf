def w_wins (N : Nat) (kd wd : Nat → Nat) : Nat → FS_ → FS_
  | 0, f => f
  | m + 1, f => w_wins N kd wd m (w_win N kd wd f)
theorem w_bd {N : Nat} (hN : N ≤ 6) {kd wd : Nat → Nat} {kind winds : Nat → Int32} (hk : fr_kw N kd wd kind winds) {f : FS_} (hb : fr_bd N f) (h : f.2.1 < 98) : fr_bd N (w_win N kd wd f) := by
  obtain ⟨_, _, _, _, _, _, _, _, _, e⟩ := fl_winter hN hk hb (food := nI f.1) (due := nI f.2.1) (home := fun i => nI (f.2.2.1 i)) (strength := fun i => nI (f.2.2.2.1 i)) (brown := fun i => nI (f.2.2.2.2.1 i)) (brick := fun i => k_bI (f.2.2.2.2.2 i)) ⟨rfl, rfl, fun i hi => ⟨rfl, rfl, rfl, rfl⟩⟩ 0 (fun _ => 0)
  exact e h
theorem w_bds {N : Nat} (hN : N ≤ 6) {kd wd : Nat → Nat} {kind winds : Nat → Int32} (hk : fr_kw N kd wd kind winds) : ∀ (m : Nat) (f : FS_), fr_bd N f → f.2.1 + m < 98 → fr_bd N (w_wins N kd wd m f)
  | 0, f, hb, _ => hb
  | m + 1, f, hb, h => w_bds hN hk m (w_win N kd wd f) (w_bd hN hk hb (by omega)) (by show f.2.1 + 1 + m < 98; omega)
theorem fl_wins {β : Type} {N : Nat} (hN : N ≤ 6) {kd wd : Nat → Nat} {kind winds : Nat → Int32} (hk : fr_kw N kd wd kind winds) {n : Nat} (hn : n ≤ 40) {home : Nat → Int32} (k : Int32 → Int32 → Int32 → (Nat → Int32) → (Nat → Int32) → (Nat → Int32) → (Nat → Int32) → Option β) : ∀ (m j fuel : Nat) (f : FS_) (food due backs : Int32) (st br bk ba : Nat → Int32), j + m = n → m < fuel → fr_bd N f → f.2.1 + m < 98 → fr_fl N f food due home st br bk → ∃ food' due' backs' st' br' bk' ba', lp_X2_passWinters_2 (nI n) (nI N) winds kind home k fuel (nI j) food due backs st br bk ba = k food' due' backs' st' br' bk' ba' ∧ fr_fl N (w_wins N kd wd m f) food' due' home st' br' bk'
  | 0, j, fuel + 1, f, food, due, backs, st, br, bk, ba, hj, hf, hb, hd, hl => by
    refine ⟨food, due, backs, st, br, bk, ba, ?_, hl⟩
    rw [lp_X2_passWinters_2, if_pos (nI_le (by omega) (by omega))]
  | m + 1, j, fuel + 1, f, food, due, backs, st, br, bk, ba, hj, hf, hb, hd, hl => by
    obtain ⟨s', n', b', k', e1, e2, -, -, -, e3⟩ := fl_winter hN hk hb hl backs ba
    obtain ⟨a1, a2, a3, a4, a5, a6, a7, g1, g2⟩ := fl_wins hN hk hn k m (j + 1) fuel (w_win N kd wd f) (nI (w_win N kd wd f).1) (nI (w_win N kd wd f).2.1) (nI (w_fly N kd wd f).2.2.2.length) s' n' b' k' (by omega) (by omega) (e3 (by omega)) (by show f.2.1 + 1 + m < 98; omega) e2
    refine ⟨a1, a2, a3, a4, a5, a6, a7, ?_, g2⟩
    rw [lp_X2_passWinters_2, if_neg (nI_ge (by omega) (by omega)), e1, nx_b7, nI_1]
    exact g1
theorem fl_passWinters {N : Nat} (hN : N ≤ 6) {kd wd : Nat → Nat} {kind winds : Nat → Int32} (hk : fr_kw N kd wd kind winds) {n : Nat} (hn : n ≤ 40) {home : Nat → Int32} {f : FS_} {food due : Int32} (backs : Int32) {st br bk : Nat → Int32} (ba : Nat → Int32) (hb : fr_bd N f) (hd : f.2.1 + n < 98) (hl : fr_fl N f food due home st br bk) : ∃ food' due' backs' st' br' bk' ba', f_X2_passWinters (nI n) (nI N) food due backs winds kind home st br bk ba = some (food', due', backs', st', br', bk', ba') ∧ fr_fl N (w_wins N kd wd n f) food' due' home st' br' bk' := by
  obtain ⟨F, hF, hF2⟩ : ∃ F, F = gg_fuel ∧ 50000 ≤ F := ⟨_, rfl, pu_F⟩
  unfold f_X2_passWinters
  rw [← hF]
  exact fl_wins hN hk hn (fun a b c d e f g => some (a, b, c, d, e, f, g)) n 0 F f food due backs st br bk ba (by omega) (by omega) hb hd hl
theorem ar_winsT {β : Type} {N : Nat} (hN : N ≤ 6) {kd wd : Nat → Nat} {kind winds : Nat → Int32} (hk : fr_kw N kd wd kind winds) {n : Nat} (hn : n ≤ 40) (k : Int32 → (Nat → Int32) → (Nat → Int32) → Option β) : ∀ (m j fuel : Nat) (f : FS_) (bm : Int32) (a ba : Nat → Int32), j + m = n → m < fuel → fr_bd N f → f.2.1 + m < 98 → fr_ar N f a → ∃ bm' a' ba', lp_X9_then_26 (nI n) (nI N) kind winds k fuel (nI j) bm a ba = k bm' a' ba' ∧ fr_ar N (w_wins N kd wd m f) a'
  | 0, j, fuel + 1, f, bm, a, ba, hj, hf, hb, hd, hl => by
    refine ⟨bm, a, ba, ?_, hl⟩
    rw [lp_X9_then_26, if_pos (nI_le (by omega) (by omega))]
  | m + 1, j, fuel + 1, f, bm, a, ba, hj, hf, hb, hd, hl => by
    obtain ⟨k', a', e1, e2, -⟩ := ar_winter hN hk hb hl bm ba
    obtain ⟨a1, a2, a3, g1, g2⟩ := ar_winsT hN hk hn k m (j + 1) fuel (w_win N kd wd f) (nI (w_fly N kd wd f).2.2.2.length) a' k' (by omega) (by omega) (w_bd hN hk hb (by omega)) (by show f.2.1 + 1 + m < 98; omega) e2
    refine ⟨a1, a2, a3, ?_, g2⟩
    rw [lp_X9_then_26, if_neg (nI_ge (by omega) (by omega)), e1, nx_b3, nI_1]
    exact g1
theorem ar_winsL {β : Type} {N : Nat} (hN : N ≤ 6) {kd wd : Nat → Nat} {kind winds : Nat → Int32} (hk : fr_kw N kd wd kind winds) {n : Nat} (hn : n ≤ 40) (k : Int32 → (Nat → Int32) → (Nat → Int32) → Option β) : ∀ (m j fuel : Nat) (f : FS_) (bm : Int32) (a ba : Nat → Int32), j + m = n → m < fuel → fr_bd N f → f.2.1 + m < 98 → fr_ar N f a → ∃ bm' a' ba', lp_X9_least_53 (nI n) (nI N) kind winds k fuel (nI j) bm a ba = k bm' a' ba' ∧ fr_ar N (w_wins N kd wd m f) a'
  | 0, j, fuel + 1, f, bm, a, ba, hj, hf, hb, hd, hl => by
    refine ⟨bm, a, ba, ?_, hl⟩
    rw [lp_X9_least_53, if_pos (nI_le (by omega) (by omega))]
  | m + 1, j, fuel + 1, f, bm, a, ba, hj, hf, hb, hd, hl => by
    obtain ⟨k', a', e1, e2, -⟩ := ar_winter hN hk hb hl bm ba
    obtain ⟨a1, a2, a3, g1, g2⟩ := ar_winsL hN hk hn k m (j + 1) fuel (w_win N kd wd f) (nI (w_fly N kd wd f).2.2.2.length) a' k' (by omega) (by omega) (w_bd hN hk hb (by omega)) (by show f.2.1 + 1 + m < 98; omega) e2
    refine ⟨a1, a2, a3, ?_, g2⟩
    rw [lp_X9_least_53, if_neg (nI_ge (by omega) (by omega)), e1, nx_b3, nI_1]
    exact g1
theorem tl_9 (x y z : Int32) : f_X9_tells x y z = some (y, x) := rfl
theorem sm_then : sim_then Rl_ := by
  intro s t h a0 a1
  obtain ⟨N, kd, wd, f, nw⟩ := rl_nw h.2.2.2.2.2
  obtain ⟨hN, e10, eT2, kw, kt, fl, ar, ok, due⟩ := id nw
  obtain ⟨F, hF, hF2⟩ : ∃ F, F = gg_fuel ∧ 50000 ≤ F := ⟨_, rfl, pu_F⟩
  unfold f_X8_then f_X9_then
  rw [e10, eT2, ← hF]
  rcases pu_ix a0 N (by omega) with q | ⟨i, hi, rfl⟩
  · rw [fl_knO q, ar_hutO hN q]
    exact ⟨-1, s.1 1, s.1 14, s.1 15, s.1 16, s.1 17, s.2.2.1 17, s.2.2.1 18, s.2.2.1 19, s.2.2.1 20, s.2.2.1 21, s.2.2.1 22, s.2.2.1 23, -1, t.1 1, t.1 7, t.2.2.1 9, t.2.2.1 12, rfl, rfl, rfl, ⟨h.1, h.2.1, h.2.2⟩⟩
  · rw [fl_kn hi hN, ar_hut hi hN]
    rcases pu_rng a1 40 40 (by omega) rfl with ⟨q1, q2⟩ | ⟨n, hn, rfl, q1, q2⟩
    · rw [q1, q2]
      exact ⟨-1, s.1 1, s.1 14, s.1 15, s.1 16, s.1 17, s.2.2.1 17, s.2.2.1 18, s.2.2.1 19, s.2.2.1 20, s.2.2.1 21, s.2.2.1 22, s.2.2.1 23, -1, t.1 1, t.1 7, t.2.2.1 9, t.2.2.1 12, rfl, rfl, rfl, ⟨h.1, h.2.1, h.2.2⟩⟩
    · obtain ⟨w', k', h', s', n', b', be, bw, ba⟩ := be_come (s.1 14) (s.1 15) (s.1 16) (s.1 17) (s.2.2.1 17) (s.2.2.1 18) (s.2.2.1 19) (s.2.2.1 20) (s.2.2.1 21) (s.2.2.1 22) (nI N) (s.1 11) (s.1 12) (s.2.2.1 10) (s.2.2.1 11) (s.2.2.1 12) (s.2.2.1 13) (s.2.2.1 14) (s.2.2.1 15)
      have kwa := fr_kw_c hN kw (fun j hj => (ba j hj).1) bw
      have fla := fr_fl_c hN fl (fun j hj => (ba j hj).2)
      obtain ⟨b9, cn, cn2⟩ := cn_ (t.2.2.1 8) (t.2.2.1 9)
      have ara := fr_ar_c hN ar cn2
      have bd : fr_bd N f := fr_bd_of ok (by omega)
      obtain ⟨x1, x2, x3, x4, x5, x6, x7, y1, y2⟩ := fl_passWinters hN kwa hn (nI 0) (s.2.2.1 23) bd (by omega) fla
      obtain ⟨z1, z2, z3, u1, u2⟩ := ar_winsT hN kt hn (fun (c_backMany_45 : Int32) (c_tried_45 : Nat → Int32) (c_back_45 : Nat → Int32) => (f_X9_isThere_a26 (nI i) c_tried_45).bind (fun v5 => gg_lt (fun (s0_83 : Int32) (c_asked_83 : Int32) => (some (s0_83, c_asked_83, c_backMany_45, c_tried_45, c_back_45))) (fun k83 => (if v5 = (0 : Int32) then (k83 (-9 : Int32) (t.1 1)) else gg_chk (gg_in ((8 : Int32) + (nI i)) 26) (gg_chk (gg_in ((20 : Int32) + (nI i)) 26) (gg_b2 (f_X9_tells (c_tried_45 ((8 : Int32) + (nI i)).toNatClampNeg) (c_tried_45 ((20 : Int32) + (nI i)).toNatClampNeg) (t.1 1)) (fun v6_0 v6_1 => (k83 v6_0 v6_1)))))))) n 0 F f (t.1 7) b9 (t.2.2.1 12) (by omega) (by omega) bd (by omega) ara
      have bds := w_bds hN kw n f bd (by omega)
      have hx := (bds.2.2 i hi).2.2.2
      obtain ⟨X, hX⟩ : ∃ X, X = (w_wins N kd wd n f).2.2.2.2.2 i := ⟨_, rfl⟩
      obtain ⟨S, hS⟩ : ∃ S, S = (w_wins N kd wd n f).2.2.2.1 i := ⟨_, rfl⟩
      have c1 := (y2.2.2 i hi).2.2.2
      have c2 := (u2.2.2 i hi).2.2.2
      have d1 := (y2.2.2 i hi).2.1
      have d2 := (u2.2.2 i hi).2.1
      rw [← hX] at hx c1 c2
      rw [← hS] at d1 d2
      have t8 := fl_th hi hN hx c1
      have t9 := ar_th hi hN hx c2
      rw [q1, q2]
      by_cases qx : X = 10
      · refine ⟨x6 i, s.1 1, nI N, x1, x2, x3, w', k', h', x4, x5, x6, x7, -9, t.1 1, z1, z2, z3, ?_, ?_, by rw [c1, qx]; rfl, ⟨h.1, h.2.1, h.2.2⟩⟩
        · simp (disch := omega) only [nx_chk, nx_let, nx_b2, nx_b3, nx_b4, nx_b5, nx_b7, nx_b8, Option.bind_some, nx_l0, nx_l1, nx_l2, nx_l3, nx_l4, nx_l5, nx_l6, nx_l7, nx_l8, nx_l9, nx_l10, nx_l11, nx_l12, nx_l14, nx_l20, nx_l26, nx_l40, nx_l60, nx_l100, nx_l1000, nI_add, nx_sub, nx_m1, nx_in, nx_cl, nx_le, nx_ltI, nx_eq, nx_isb0, nx_isb1, nx_n9, nx_n9', nx_b9, nx_b9', nx_m1', Nat.reduceEqDiff, Nat.reduceLeDiff, Nat.reduceLT, Nat.reduceAdd, Nat.reduceSub, Nat.reduceMul, Nat.reduceDiv, Nat.reduceMod, Bool.false_eq_true, reduceIte, ite_true, ite_false, if_true, if_false, be, nx_b10, y1, t8, qx]
        · rw [Option.bind_some, nx_let, if_neg (show ¬ nI 1 = 0 by decide), Option.bind_some, if_neg (show ¬ nI 1 = 0 by decide), cn, Option.bind_some]
          refine Eq.trans u1 ?_
          simp (disch := omega) only [nx_chk, nx_let, nx_b2, nx_b3, nx_b4, nx_b5, nx_b7, nx_b8, Option.bind_some, nx_l0, nx_l1, nx_l2, nx_l3, nx_l4, nx_l5, nx_l6, nx_l7, nx_l8, nx_l9, nx_l10, nx_l11, nx_l12, nx_l14, nx_l20, nx_l26, nx_l40, nx_l60, nx_l100, nx_l1000, nI_add, nx_sub, nx_m1, nx_in, nx_cl, nx_le, nx_ltI, nx_eq, nx_isb0, nx_isb1, nx_n9, nx_n9', nx_b9, nx_b9', nx_m1', Nat.reduceEqDiff, Nat.reduceLeDiff, Nat.reduceLT, Nat.reduceAdd, Nat.reduceSub, Nat.reduceMul, Nat.reduceDiv, Nat.reduceMod, Bool.false_eq_true, reduceIte, ite_true, ite_false, if_true, if_false, t9, qx]
      · refine ⟨x6 i, x4 i, nI N, x1, x2, x3, w', k', h', x4, x5, x6, x7, z2 (20 + i), z2 (8 + i), z1, z2, z3, ?_, ?_, by rw [c1, c2], ⟨h.1, d1.trans d2.symm, h.2.2⟩⟩
        · simp (disch := omega) only [nx_chk, nx_let, nx_b2, nx_b3, nx_b4, nx_b5, nx_b7, nx_b8, Option.bind_some, nx_l0, nx_l1, nx_l2, nx_l3, nx_l4, nx_l5, nx_l6, nx_l7, nx_l8, nx_l9, nx_l10, nx_l11, nx_l12, nx_l14, nx_l20, nx_l26, nx_l40, nx_l60, nx_l100, nx_l1000, nI_add, nx_sub, nx_m1, nx_in, nx_cl, nx_le, nx_ltI, nx_eq, nx_isb0, nx_isb1, nx_n9, nx_n9', nx_b9, nx_b9', nx_m1', Nat.reduceEqDiff, Nat.reduceLeDiff, Nat.reduceLT, Nat.reduceAdd, Nat.reduceSub, Nat.reduceMul, Nat.reduceDiv, Nat.reduceMod, Bool.false_eq_true, reduceIte, ite_true, ite_false, if_true, if_false, be, nx_b10, y1, t8, qx]
        · rw [Option.bind_some, nx_let, if_neg (show ¬ nI 1 = 0 by decide), Option.bind_some, if_neg (show ¬ nI 1 = 0 by decide), cn, Option.bind_some]
          refine Eq.trans u1 ?_
          simp (disch := omega) only [nx_chk, nx_let, nx_b2, nx_b3, nx_b4, nx_b5, nx_b7, nx_b8, Option.bind_some, nx_l0, nx_l1, nx_l2, nx_l3, nx_l4, nx_l5, nx_l6, nx_l7, nx_l8, nx_l9, nx_l10, nx_l11, nx_l12, nx_l14, nx_l20, nx_l26, nx_l40, nx_l60, nx_l100, nx_l1000, nI_add, nx_sub, nx_m1, nx_in, nx_cl, nx_le, nx_ltI, nx_eq, nx_isb0, nx_isb1, nx_n9, nx_n9', nx_b9, nx_b9', nx_m1', Nat.reduceEqDiff, Nat.reduceLeDiff, Nat.reduceLT, Nat.reduceAdd, Nat.reduceSub, Nat.reduceMul, Nat.reduceDiv, Nat.reduceMod, Bool.false_eq_true, reduceIte, ite_true, ite_false, if_true, if_false, t9, qx, tl_9]
def w_lost (N : Nat) (kd wd : Nat → Nat) (i : Nat) : Nat → Nat → FS_ → Option Nat
  | 0, _, _ => none
  | m + 1, j, f => if f.2.2.2.2.2 i = 10 then some j else w_lost N kd wd i m (j + 1) (w_win N kd wd f)
theorem fl_lost {β : Type} {N : Nat} (hN : N ≤ 6) {kd wd : Nat → Nat} {kind winds : Nat → Int32} (hk : fr_kw N kd wd kind winds) {i : Nat} (hi : i < N) {home : Nat → Int32} (k1 : Int32 → Int32 → Int32 → Int32 → (Nat → Int32) → (Nat → Int32) → (Nat → Int32) → (Nat → Int32) → Option β) (k2 : Int32 → Int32 → Int32 → (Nat → Int32) → (Nat → Int32) → (Nat → Int32) → (Nat → Int32) → Option β) : ∀ (m j fuel : Nat) (f : FS_) (food due backs : Int32) (st br bk ba : Nat → Int32), j + m = 41 → m < fuel → fr_bd N f → f.2.1 + m < 98 → fr_fl N f food due home st br bk → ∃ food' due' backs' st' br' bk' ba', lp_X8_lost_26 (nI i) (nI N) winds kind home k1 k2 fuel (nI j) food due backs st br bk ba = (match w_lost N kd wd i m j f with | some x => k1 (nI x) food' due' backs' st' br' bk' ba' | none => k2 food' due' backs' st' br' bk' ba')
  | 0, j, fuel + 1, f, food, due, backs, st, br, bk, ba, hj, hf, hb, hd, hl => by
    refine ⟨food, due, backs, st, br, bk, ba, ?_⟩
    rw [lp_X8_lost_26, if_pos (show (40 : Int32) < nI j from (nI_lt (by omega) (by omega) : nI 40 < nI j))]
    rfl
  | m + 1, j, fuel + 1, f, food, due, backs, st, br, bk, ba, hj, hf, hb, hd, hl => by
    have t8 := fl_th hi hN (hb.2.2 i hi).2.2.2 (hl.2.2 i hi).2.2.2
    by_cases q : f.2.2.2.2.2 i = 10
    · refine ⟨food, due, backs, st, br, bk, ba, ?_⟩
      rw [lp_X8_lost_26, if_neg (show ¬ (40 : Int32) < nI j from (nI_nlt (by omega) (by omega) : ¬ nI 40 < nI j)), t8, if_pos q, w_lost, if_pos q]
      rfl
    · obtain ⟨s', n', b', k', e1, e2, -, -, -, e3⟩ := fl_winter hN hk hb hl backs ba
      obtain ⟨a1, a2, a3, a4, a5, a6, a7, g1⟩ := fl_lost hN hk hi k1 k2 m (j + 1) fuel (w_win N kd wd f) (nI (w_win N kd wd f).1) (nI (w_win N kd wd f).2.1) (nI (w_fly N kd wd f).2.2.2.length) s' n' b' k' (by omega) (by omega) (e3 (by omega)) (by show f.2.1 + 1 + m < 98; omega) e2
      refine ⟨a1, a2, a3, a4, a5, a6, a7, ?_⟩
      rw [lp_X8_lost_26, if_neg (show ¬ (40 : Int32) < nI j from (nI_nlt (by omega) (by omega) : ¬ nI 40 < nI j)), t8, if_neg q, Option.bind_some, if_neg (show ¬ nI 1 = 0 by decide), e1, nx_b7, nI_1, w_lost, if_neg q]
      exact g1
theorem ar_lost {β : Type} {N : Nat} (hN : N ≤ 6) {kd wd : Nat → Nat} {kind winds : Nat → Int32} (hk : fr_kw N kd wd kind winds) {i : Nat} (hi : i < N) (k1 : Int32 → Int32 → (Nat → Int32) → (Nat → Int32) → Option β) (k2 : Int32 → (Nat → Int32) → (Nat → Int32) → Option β) : ∀ (m j fuel : Nat) (f : FS_) (bm : Int32) (a ba : Nat → Int32), j + m = 41 → m < fuel → fr_bd N f → f.2.1 + m < 98 → fr_ar N f a → ∃ bm' a' ba', lp_X9_lost_16 (nI i) (nI N) kind winds k1 k2 fuel (nI j) bm a ba = (match w_lost N kd wd i m j f with | some x => k1 (nI x) bm' a' ba' | none => k2 bm' a' ba')
  | 0, j, fuel + 1, f, bm, a, ba, hj, hf, hb, hd, hl => by
    refine ⟨bm, a, ba, ?_⟩
    rw [lp_X9_lost_16, if_pos (show (40 : Int32) < nI j from (nI_lt (by omega) (by omega) : nI 40 < nI j))]
    rfl
  | m + 1, j, fuel + 1, f, bm, a, ba, hj, hf, hb, hd, hl => by
    have t9 := ar_th hi hN (hb.2.2 i hi).2.2.2 (hl.2.2 i hi).2.2.2
    by_cases q : f.2.2.2.2.2 i = 10
    · refine ⟨bm, a, ba, ?_⟩
      rw [lp_X9_lost_16, if_neg (show ¬ (40 : Int32) < nI j from (nI_nlt (by omega) (by omega) : ¬ nI 40 < nI j)), t9, if_pos q, w_lost, if_pos q]
      rfl
    · obtain ⟨k', a', e1, e2, -⟩ := ar_winter hN hk hb hl bm ba
      obtain ⟨a1, a2, a3, g1⟩ := ar_lost hN hk hi k1 k2 m (j + 1) fuel (w_win N kd wd f) (nI (w_fly N kd wd f).2.2.2.length) a' k' (by omega) (by omega) (w_bd hN hk hb (by omega)) (by show f.2.1 + 1 + m < 98; omega) e2
      refine ⟨a1, a2, a3, ?_⟩
      rw [lp_X9_lost_16, if_neg (show ¬ (40 : Int32) < nI j from (nI_nlt (by omega) (by omega) : ¬ nI 40 < nI j)), t9, if_neg q, Option.bind_some, if_neg (show ¬ nI 1 = 0 by decide), e1, nx_b3, nI_1, w_lost, if_neg q]
      exact g1
theorem sm_lost : sim_lost Rl_ := by
  intro s t h a0
  obtain ⟨N, kd, wd, f, nw⟩ := rl_nw h.2.2.2.2.2
  obtain ⟨hN, e10, eT2, kw, kt, fl, ar, ok, due⟩ := id nw
  obtain ⟨F, hF, hF2⟩ : ∃ F, F = gg_fuel ∧ 50000 ≤ F := ⟨_, rfl, pu_F⟩
  unfold f_X8_lost f_X9_lost
  rw [e10, eT2, ← hF]
  rcases pu_ix a0 N (by omega) with q | ⟨i, hi, rfl⟩
  · rw [fl_knO q, ar_hutO hN q]
    exact ⟨-1, s.1 14, s.1 15, s.1 16, s.1 17, s.2.2.1 17, s.2.2.1 18, s.2.2.1 19, s.2.2.1 20, s.2.2.1 21, s.2.2.1 22, s.2.2.1 23, -1, t.1 7, t.2.2.1 9, t.2.2.1 12, rfl, rfl, rfl, ⟨h.1, h.2.1, h.2.2⟩⟩
  · rw [fl_kn hi hN, ar_hut hi hN]
    obtain ⟨w', k', h', s', n', b', be, bw, ba⟩ := be_come (s.1 14) (s.1 15) (s.1 16) (s.1 17) (s.2.2.1 17) (s.2.2.1 18) (s.2.2.1 19) (s.2.2.1 20) (s.2.2.1 21) (s.2.2.1 22) (nI N) (s.1 11) (s.1 12) (s.2.2.1 10) (s.2.2.1 11) (s.2.2.1 12) (s.2.2.1 13) (s.2.2.1 14) (s.2.2.1 15)
    have kwa := fr_kw_c hN kw (fun j hj => (ba j hj).1) bw
    have fla := fr_fl_c hN fl (fun j hj => (ba j hj).2)
    obtain ⟨b9, cn, cn2⟩ := cn_ (t.2.2.1 8) (t.2.2.1 9)
    have ara := fr_ar_c hN ar cn2
    have bd : fr_bd N f := fr_bd_of ok (by omega)
    obtain ⟨x1, x2, x3, x4, x5, x6, x7, y1⟩ := fl_lost hN kwa hi (fun (x2_43 : Int32) (c_aside_food_43 : Int32) (c_aside_due_43 : Int32) (c_aside_backs_43 : Int32) (c_aside_strength_43 : Nat → Int32) (c_aside_brown_43 : Nat → Int32) (c_aside_brick_43 : Nat → Int32) (c_aside_back_43 : Nat → Int32) => (some (x2_43, nI N, c_aside_food_43, c_aside_due_43, c_aside_backs_43, w', k', h', c_aside_strength_43, c_aside_brown_43, c_aside_brick_43, c_aside_back_43))) (fun (c_aside_food_58 : Int32) (c_aside_due_58 : Int32) (c_aside_backs_58 : Int32) (c_aside_strength_58 : Nat → Int32) (c_aside_brown_58 : Nat → Int32) (c_aside_brick_58 : Nat → Int32) (c_aside_back_58 : Nat → Int32) => (some ((-9 : Int32), nI N, c_aside_food_58, c_aside_due_58, c_aside_backs_58, w', k', h', c_aside_strength_58, c_aside_brown_58, c_aside_brick_58, c_aside_back_58))) 41 0 F f (s.1 11) (s.1 12) (nI 0) s' n' b' (s.2.2.1 23) (by omega) (by omega) bd (by omega) fla
    obtain ⟨z1, z2, z3, u1⟩ := ar_lost hN kt hi (fun (x2_33 : Int32) (c_backMany_33 : Int32) (c_tried_33 : Nat → Int32) (c_back_33 : Nat → Int32) => (some (x2_33, c_backMany_33, c_tried_33, c_back_33))) (fun (c_backMany_49 : Int32) (c_tried_49 : Nat → Int32) (c_back_49 : Nat → Int32) => (some ((-9 : Int32), c_backMany_49, c_tried_49, c_back_49))) 41 0 F f (t.1 7) b9 (t.2.2.1 12) (by omega) (by omega) bd (by omega) ara
    rw [Option.bind_some, if_neg (show ¬ nI 1 = 0 by decide), be, nx_b10, Option.bind_some, if_neg (show ¬ nI 1 = 0 by decide), cn, Option.bind_some]
    obtain ⟨O, hO⟩ : ∃ O, O = w_lost N kd wd i 41 0 f := ⟨_, rfl⟩
    rw [← hO] at y1 u1
    cases O with
    | none => exact ⟨-9, nI N, x1, x2, x3, w', k', h', x4, x5, x6, x7, -9, z1, z2, z3, y1, u1, rfl, ⟨h.1, h.2.1, h.2.2⟩⟩
    | some x => exact ⟨nI x, nI N, x1, x2, x3, w', k', h', x4, x5, x6, x7, nI x, z1, z2, z3, y1, u1, rfl, ⟨h.1, h.2.1, h.2.2⟩⟩
