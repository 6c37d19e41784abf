theorem w_p2_len {N : Nat} {kd hm : Nat → Nat} : ∀ (l : List Nat) (br bk : Nat → Nat) (j : Nat), j ∉ l → (w_p2 N kd hm l br bk).1 j = br j ∧ (w_p2 N kd hm l br bk).2 j = bk j
  | [], br, bk, j, h => ⟨rfl, rfl⟩
  | i :: l, br, bk, j, h => by
    have hji : ¬ j = i := fun z => h (by rw [z]; simp)
    have := w_p2_len (N := N) (kd := kd) (hm := hm) l (gg_up br i (min (br i + 1) 9)) (gg_up bk i (w_near (w_free N bk) (k_want (kd i) (hm i)) 10 0)) j (fun z => h (List.mem_cons_of_mem _ z))
    rw [nx_upn, nx_upn, if_neg hji, if_neg hji] at this
    exact this
theorem fl_winter {N : Nat} (hN : N ≤ 6) {kd wd : Nat → Nat} {kind winds : Nat → Int32} (hk : fr_kw N kd wd kind winds) {f : FS_} (hb : fr_bd N f) {food due : Int32} {home strength brown brick : Nat → Int32} (hf : fr_fl N f food due home strength brown brick) (backs : Int32) (back : Nat → Int32) :
    ∃ strength' brown' brick' back', f_X2_passWinter (nI N) food due backs winds kind home strength brown brick back = some (nI (w_win N kd wd f).1, nI (w_win N kd wd f).2.1, nI (w_fly N kd wd f).2.2.2.length, strength', brown', brick', back') ∧
      fr_fl N (w_win N kd wd f) (nI (w_win N kd wd f).1) (nI (w_win N kd wd f).2.1) home strength' brown' brick' ∧ (∀ p, p < (w_fly N kd wd f).2.2.2.length → back' p = nI ((w_fly N kd wd f).2.2.2.reverse.getD p 0)) ∧ (w_fly N kd wd f).2.2.2.length ≤ N ∧ (∀ x, x ∈ (w_fly N kd wd f).2.2.2 → x < N) ∧
      (f.2.1 < 98 → fr_bd N (w_win N kd wd f)) := by
  obtain ⟨hfd, hdu, hall⟩ := hf
  obtain ⟨bf, bd, bi⟩ := hb
  subst hfd hdu
  have hw := (hk.2 (f.2.1 % 4) (by omega)).1
  obtain ⟨F, hF, hF2⟩ : ∃ F, F = gg_fuel ∧ 50000 ≤ F := ⟨_, rfl, pu_F⟩
  obtain ⟨s', b', k', e, h1, h2, h3, h4, h5, h6⟩ := fl_p1 hN hk hw (fun (c_food_64 : Int32) (c_backs_64 : Int32) (c_strength_64 : Nat → Int32) (c_brick_64 : Nat → Int32) (c_back_64 : Nat → Int32) => (lp_X2_passWinter_66 (nI N) c_backs_64 kind home c_back_64 (fun (c_brown_90 : Nat → Int32) (c_brick_90 : Nat → Int32) => (some (c_food_64, (nI f.2.1 + (1 : Int32)), c_backs_64, c_strength_64, c_brown_90, c_brick_90, c_back_64))) F (0 : Int32) brown c_brick_64)) N 0 F f.1 f.2.2.2.1 f.2.2.2.2.2 [] strength brick back (by omega) (by omega) bf (fun j hj => ⟨(hall j hj).2.1, (bi j hj).2.1⟩) (fun j hj => ⟨(hall j hj).2.2.2, (bi j hj).2.2.2⟩) trivial (by simp) (fun x hx => absurd hx (by simp))
  have hfw : w_p1 kd (wd (f.2.1 % 4)) N 0 f.1 f.2.2.2.1 f.2.2.2.2.2 [] = w_fly N kd wd f := rfl
  rw [hfw] at e h1 h2 h3 h4 h5 h6
  have hB := fl_arr_f h4
  obtain ⟨n', c', e2, h7, h8⟩ := fl_p2 (L := (w_fly N kd wd f).2.2.2.reverse) hN hk (fun j hj => ⟨(hall j hj).1, (bi j hj).1⟩ : fl_h N f.2.2.1 home) (by rw [List.length_reverse]; omega) (fun x hx => h6 x (List.mem_reverse.1 hx)) (fun p hp => hB p (by rw [List.length_reverse] at hp; exact hp)) (fun (c_brown_90 : Nat → Int32) (c_brick_90 : Nat → Int32) => (some (nI (w_fly N kd wd f).1, (nI f.2.1 + (1 : Int32)), nI (w_fly N kd wd f).2.2.2.length, s', c_brown_90, c_brick_90, k'))) (w_fly N kd wd f).2.2.2.reverse [] F f.2.2.2.2.1 (w_fly N kd wd f).2.2.1 brown b' rfl (by rw [List.length_reverse]; omega) (fun j hj => ⟨(hall j hj).2.2.1, (bi j hj).2.2.1⟩) h3
  refine ⟨s', n', c', k', ?_, ⟨rfl, rfl, fun j hj => ⟨(hall j hj).1, (h2 j hj).1, (h7 j hj).1, (h8 j hj).1⟩⟩, hB, h5, h6, fun h98 => ⟨?_, ?_, fun j hj => ⟨(bi j hj).1, (h2 j hj).2, (h7 j hj).2, (h8 j hj).2⟩⟩⟩
  · unfold f_X2_passWinter
    rw [fl_wd hk (by omega), Option.bind_some, ← hF]
    refine e.trans ?_
    rw [List.length_reverse] at e2
    rw [show nI (w_win N kd wd f).2.1 = nI f.2.1 + 1 from (nI_1 _).symm]
    exact e2
  · show (w_fly N kd wd f).1 < 1000
    omega
  · show f.2.1 + 1 < 99
    omega
