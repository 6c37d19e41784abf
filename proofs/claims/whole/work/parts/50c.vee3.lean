theorem iI_T2 {y : Int} (h1 : -10000000 ≤ y) (h2 : y ≤ 10000000) : (iI y).toInt = y := Int32.toInt_ofInt_of_le (by omega) (by omega)
theorem iI_le2 {a b : Int} (h1 : -10000000 ≤ a) (h2 : a ≤ 10000000) (h3 : -10000000 ≤ b) (h4 : b ≤ 10000000) : (iI a ≤ iI b) ↔ a ≤ b := by
  rw [Int32.le_iff_toInt_le, iI_T2 h1 h2, iI_T2 h3 h4]
theorem m_all_2 {P : Nat → Bool} : ∀ (m j : Nat), (∀ x, j ≤ x → x < j + m → P x = true) → m_all P m j = true
  | 0, _, _ => rfl
  | m + 1, j, h => by rw [m_all, h j (by omega) (by omega), m_all_2 m (j + 1) (fun x h1 h2 => h x (by omega) (by omega))]; rfl
def gd_ (T : Nat → Bool) (N : Nat) : Nat → Nat → Bool
  | 0, _ => true
  | m + 1, c => T (c % N) && gd_ T N m (c / N)
theorem gd_sp {T : Nat → Bool} {N : Nat} : ∀ m c, gd_ T N m c = true ↔ ∀ k, k < m → T (rw_ N m c k) = true
  | 0, c => ⟨fun _ k hk => by omega, fun _ => rfl⟩
  | m + 1, c => by
    rw [gd_, Bool.and_eq_true, gd_sp m (c / N)]
    have e : ∀ k, rw_ N (m + 1) c k = if k = m then c % N else rw_ N m (c / N) k := fun k => rfl
    constructor
    · intro h k hk
      rw [e]
      by_cases q : k = m
      · rw [if_pos q]; exact h.1
      · rw [if_neg q]; exact h.2 k (by omega)
    · intro h
      refine ⟨?_, fun k hk => ?_⟩
      · have := h m (by omega)
        rw [e, if_pos rfl] at this
        exact this
      · have := h k (by omega)
        rw [e, if_neg (by omega)] at this
        exact this
theorem vV_c {N L : Nat} {kd st : Nat → Nat} {w : Nat} {T : Nat → Bool} {φ ψ : Nat → Nat} (h : ∀ k, k < L → φ k = ψ k) : vV N L kd st w T φ = vV N L kd st w T ψ := by
  unfold vV
  apply mn_c
  intro i _ _
  exact vs_c L (fun j hj => by rw [h j hj])
def Vr_ (N L : Nat) (kd st : Nat → Nat) (w : Nat) (T : Nat → Bool) (c : Nat) : Int := if gd_ T N L c = true then vV N L kd st w T (rw_ N L c) else -2000000
theorem ve_main {N L : Nat} (hN : N ≤ 6) (hL : L ≤ 4) {kd st : Nat → Nat} {w : Nat} (hw : w < 10) (hk : ∀ i, i < N → kd i < 6) (hs : ∀ i, i < N → st i ≤ 9) {T : Nat → Bool} (h1 : 1 ≤ m_ct T N) {rest : List Nat} (hr : rl_ (m_ct T N) L = 0 :: rest) : (al_ (fun d => vV N L kd st w T (fun k => ww_ T N (rw_ 6 L d k))) rest 0 (vV N L kd st w T (fun k => ww_ T N (rw_ 6 L 0 k)))).2 = (am_ (Vr_ N L kd st w T) (N ^ L) 0 0 (-2000000)).2 ∧ ∀ k, k < L → ww_ T N (rw_ 6 L (al_ (fun d => vV N L kd st w T (fun k => ww_ T N (rw_ 6 L d k))) rest 0 (vV N L kd st w T (fun k => ww_ T N (rw_ 6 L 0 k)))).1 k) = rw_ N L (am_ (Vr_ N L kd st w T) (N ^ L) 0 0 (-2000000)).1 k := by
  obtain ⟨w1, w2, w3⟩ := ww_sp T N
  have hz : m_ct T N ≤ 6 := Nat.le_trans (m_ct_le T N) hN
  have hN0 : 0 < N := by
    have := m_ct_le T N
    omega
  have hmem : ∀ d, d ∈ rl_ (m_ct T N) L ↔ (d < 6 ^ L ∧ rs_ (m_ct T N) L d = true) := by
    intro d
    unfold rl_
    rw [List.mem_filter, List.mem_range]
  have hpw : (rl_ (m_ct T N) L).Pairwise (· < ·) := List.Pairwise.filter _ List.pairwise_lt_range
  obtain ⟨Vc, hVc⟩ : ∃ Vc : Nat → Int, Vc = fun d => vV N L kd st w T (fun k => ww_ T N (rw_ 6 L d k)) := ⟨_, rfl⟩
  have hV0 : vV N L kd st w T (fun k => ww_ T N (rw_ 6 L 0 k)) = Vc 0 := by rw [hVc]
  rw [hV0, ← hVc]
  rw [hr] at hpw hmem
  have hpw2 := List.pairwise_cons.1 hpw
  obtain ⟨a1, a2, a3⟩ := al_sp Vc rest 0 (Vc 0) hpw2.2
  obtain ⟨b, hb⟩ : ∃ b, b = (al_ Vc rest 0 (Vc 0)).1 := ⟨_, rfl⟩
  obtain ⟨M, hM⟩ : ∃ M, M = (al_ Vc rest 0 (Vc 0)).2 := ⟨_, rfl⟩
  rw [← hb, ← hM] at a3
  rw [← hM] at a1 a2
  have A1 : b ∈ (0 :: rest) ∧ Vc b = M ∧ (∀ d, d ∈ (0 :: rest) → Vc d ≤ M) ∧ ∀ d, d ∈ (0 :: rest) → d < b → Vc d < M := by
    have hall : ∀ d, d ∈ (0 :: rest) → Vc d ≤ M := by
      intro d hd
      rcases List.mem_cons.1 hd with z | z
      · subst z
        exact a1
      · exact a2 d z
    rcases a3 with ⟨z1, z2⟩ | ⟨z1, z2, z3, z4⟩
    · refine ⟨by rw [z1]; exact List.mem_cons_self .., by rw [z1, z2], hall, fun d _ hl => by omega⟩
    · refine ⟨List.mem_cons_of_mem _ z1, z2, hall, fun d hd hl => ?_⟩
      rcases List.mem_cons.1 hd with y | y
      · subst y
        exact z3
      · exact z4 d y hl
  have dig : ∀ d, d ∈ (0 :: rest) → ∀ k, k < L → rw_ 6 L d k < m_ct T N := fun d hd k hk => rs_lt ((hmem d).1 hd).2 hk
  have hh : ∀ d, d ∈ (0 :: rest) → cd_ N (fun k => ww_ T N (rw_ 6 L d k)) L < N ^ L ∧ Vr_ N L kd st w T (cd_ N (fun k => ww_ T N (rw_ 6 L d k)) L) = Vc d := by
    intro d hd
    have g : ∀ k, k < L → ww_ T N (rw_ 6 L d k) < N := fun k hk => (w1 _ (dig d hd k hk)).1
    refine ⟨cd_lt L g, ?_⟩
    unfold Vr_
    rw [if_pos ((gd_sp L _).2 (fun k hk => by rw [rw_cd hN0 L g k hk]; exact (w1 _ (dig d hd k hk)).2)), hVc]
    exact vV_c (fun k hk => rw_cd hN0 L g k hk)
  have hlow : ∀ φ : Nat → Nat, -100 ≤ vV N L kd st w T φ := fun φ => (mn_bd (T := T) (fun i hi _ => vV_b hL hw hk hs φ i hi)).1
  obtain ⟨c1, c2, c3⟩ := am_sp (Vr_ N L kd st w T) (N ^ L) 0 0 (-2000000)
  obtain ⟨c, hc⟩ : ∃ c, c = (am_ (Vr_ N L kd st w T) (N ^ L) 0 0 (-2000000)).1 := ⟨_, rfl⟩
  obtain ⟨M', hM'⟩ : ∃ M', M' = (am_ (Vr_ N L kd st w T) (N ^ L) 0 0 (-2000000)).2 := ⟨_, rfl⟩
  rw [← hc, ← hM'] at c3
  rw [← hM'] at c1 c2
  rw [← hb, ← hM, ← hc, ← hM']
  have m0 : (0 : Nat) ∈ (0 :: rest) := List.mem_cons_self ..
  have hbig : -100 ≤ M' := by
    obtain ⟨g1, g2⟩ := hh 0 m0
    have g3 := c2 _ (Nat.zero_le _) (by rw [Nat.zero_add]; exact g1)
    rw [g2, hVc] at g3
    have := hlow (fun k => ww_ T N (rw_ 6 L 0 k))
    have g3 : vV N L kd st w T (fun k => ww_ T N (rw_ 6 L 0 k)) ≤ M' := g3
    omega
  rcases c3 with ⟨z1, z2⟩ | ⟨z1, z2, z3, z4, z5⟩
  · omega
  rw [Nat.zero_add] at z2
  have hg : gd_ T N L c = true := by
    cases hgd : gd_ T N L c with
    | true => rfl
    | false =>
      exfalso
      have : Vr_ N L kd st w T c = -2000000 := by
        unfold Vr_
        rw [hgd, if_neg (by decide)]
      omega
  have hth := (gd_sp L c).1 hg
  have hdg : ∀ k, k < L → rw_ N L c k < N := fun k hk => rw_lt hN0 L c k hk
  have hVrc : vV N L kd st w T (rw_ N L c) = M' := by
    rw [← z3]
    unfold Vr_
    rw [if_pos hg]
  have hris : ∀ k, k + 1 < L → rw_ N L c k ≤ rw_ N L c (k + 1) := by
    intro k hk1
    apply Decidable.byContradiction
    intro hn
    have hlt : rw_ N L c (k + 1) < rw_ N L c k := by omega
    have s0 : sw_ (rw_ N L c) k k = rw_ N L c (k + 1) := by unfold sw_; rw [if_pos rfl]
    have sd : ∀ j, j < L → sw_ (rw_ N L c) k j < N := by
      intro j hj
      unfold sw_
      split
      · exact hdg _ (by omega)
      · split
        · exact hdg _ (by omega)
        · exact hdg _ hj
    have st' : ∀ j, j < L → T (sw_ (rw_ N L c) k j) = true := by
      intro j hj
      unfold sw_
      split
      · exact hth _ (by omega)
      · split
        · exact hth _ (by omega)
        · exact hth _ hj
    have l1 : cd_ N (sw_ (rw_ N L c) k) L < c := by
      have := lx_2 (b := N) (φ := sw_ (rw_ N L c) k) (ψ := rw_ N L c) (L := L) (k := k) (by omega) sd (fun j hj => by unfold sw_; rw [if_neg (by omega), if_neg (by omega)]) (by rw [s0]; exact hlt)
      rw [cd_rw hN0 L c z2] at this
      exact this
    have v1 : Vr_ N L kd st w T (cd_ N (sw_ (rw_ N L c) k) L) = M' := by
      unfold Vr_
      rw [if_pos ((gd_sp L _).2 (fun j hj => by rw [rw_cd hN0 L sd j hj]; exact st' j hj)), ← hVrc, vV_c (fun j hj => rw_cd hN0 L sd j hj)]
      unfold vV
      apply mn_c
      intro i _ _
      exact vs_sw hk1
    have := z5 _ (Nat.zero_le _) l1
    omega
  obtain ⟨ρ, hρ⟩ : ∃ ρ : Nat → Nat, ∀ k, k < L → ρ k < m_ct T N ∧ ww_ T N (ρ k) = rw_ N L c k := by
    refine ⟨fun k => if h : k < L then Classical.choose (w3 _ (hdg k h) (hth k h)) else 0, fun k hk => ?_⟩
    have := Classical.choose_spec (w3 _ (hdg k hk) (hth k hk))
    simp only [dif_pos hk]
    exact this
  have ρ6 : ∀ k, k < L → ρ k < 6 := fun k hk => by have := (hρ k hk).1; omega
  obtain ⟨d0, hd0⟩ : ∃ d0, d0 = cd_ 6 ρ L := ⟨_, rfl⟩
  have dd : ∀ k, k < L → rw_ 6 L d0 k = ρ k := fun k hk => by rw [hd0]; exact rw_cd (by omega) L ρ6 k hk
  have hd0m : d0 ∈ (0 :: rest) := by
    rw [hmem]
    refine ⟨by rw [hd0]; exact cd_lt L ρ6, ?_⟩
    unfold rs_
    rw [Bool.and_eq_true]
    refine ⟨m_all_2 L 0 (fun k _ hk => ?_), m_all_2 (L - 1) 0 (fun k _ hk => ?_)⟩
    · rw [dd k (by omega)]
      exact decide_eq_true (hρ k (by omega)).1
    · rw [dd k (by omega), dd (k + 1) (by omega)]
      apply decide_eq_true
      have r := hris k (by omega)
      rw [← (hρ k (by omega)).2, ← (hρ (k + 1) (by omega)).2] at r
      have := (ww_in (T := T) (n := N) (hρ (k + 1) (by omega)).1 (hρ k (by omega)).1).2
      omega
  have hww : ∀ k, k < L → ww_ T N (rw_ 6 L d0 k) = rw_ N L c k := fun k hk => by rw [dd k hk]; exact (hρ k hk).2
  have hVd0 : Vc d0 = M' := by
    rw [hVc, ← hVrc]
    exact vV_c hww
  obtain ⟨B1, B2, B3, B4⟩ := A1
  have e1 : M' ≤ M := by rw [← hVd0]; exact B3 d0 hd0m
  obtain ⟨hb1, hb2⟩ := hh b B1
  have e2 : M ≤ M' := by
    have := c2 _ (Nat.zero_le _) (by rw [Nat.zero_add]; exact hb1)
    rw [hb2, B2] at this
    exact this
  have eM : M = M' := by omega
  refine ⟨eM, ?_⟩
  have ed : d0 = b := by
    rcases Nat.lt_trichotomy d0 b with q | q | q
    · have := B4 d0 hd0m q
      omega
    · exact q
    · exfalso
      have lb : b < 6 ^ L := ((hmem b).1 B1).1
      have ld : d0 < 6 ^ L := ((hmem d0).1 hd0m).1
      obtain ⟨k, hk, he, hl⟩ := lx_1 (b := 6) (φ := rw_ 6 L b) (ψ := rw_ 6 L d0) (by omega) L (fun j hj => rw_lt (by omega) L b j hj) (fun j hj => rw_lt (by omega) L d0 j hj) (by rw [cd_rw (by omega) L b lb, cd_rw (by omega) L d0 ld]; exact q)
      have l2 := lx_2 (b := N) (φ := fun k => ww_ T N (rw_ 6 L b k)) (ψ := rw_ N L c) (L := L) (k := k) hk (fun j hj => (w1 _ (dig b B1 j hj)).1) (fun j hj => by
        show ww_ T N (rw_ 6 L b j) = _
        rw [he j hj]
        exact hww j (by omega)) (by
        show ww_ T N (rw_ 6 L b k) < _
        rw [← hww k hk]
        exact (ww_in (dig b B1 k hk) (dig d0 hd0m k hk)).2.2 hl)
      rw [cd_rw hN0 L c z2] at l2
      have := z5 _ (Nat.zero_le _) l2
      rw [hb2, B2] at this
      omega
  intro k hk
  rw [← ed]
  exact hww k hk
theorem k_tf : ∀ k, k < 6 → k ≠ 2 → ∀ w, w < 10 → k_tire k w = k_fly k w := by decide +kernel
theorem fy_9 {N : Nat} (hN : N ≤ 6) {kd wd : Nat → Nat} {kind winds now : Nat → Int32} (hk : fr_kw N kd wd kind winds) {d : Nat} (hd : d < 1000) (h0 : now 0 = nI d) {i : Nat} (hi : i < N) : f_X9_flying (nI i) kind winds now = some (nI (k_fly (kd i) (wd (d % 4)))) := by
  have k1 := hk.1 i hi
  have hwd := (hk.2 (d % 4) (by omega)).1
  unfold f_X9_flying
  rw [pu_in (show i < 6 by omega) (by omega), nx_chk, nI_clamp (by omega), k1.2, ar_wd hk hd h0]
  simp only [nx_let, nx_chk, Option.bind_some]
  by_cases q : kd i = 2
  · rw [q, if_pos (show nI 2 = 2 from rfl)]
    rfl
  · have n2 : ¬ nI (kd i) = 2 := fun z => q ((nI_eq (b := 2) (by omega) (by omega)).1 z)
    rw [if_neg n2, e_tire9 _ k1.1 _ hwd, Option.bind_some, k_tf _ k1.1 q _ hwd]
theorem wk_106 {β : Type} {N L i s f : Nat} (hN : N ≤ 6) (hL : L ≤ 4) (hi : i < N) (hf : f ≤ 11) {kind winds now fr : Nat → Int32} {φ : Nat → Nat} (hfy : f_X9_flying (nI i) kind winds now = some (nI f)) (hφ : ∀ k, k < L → φ k < 6) (he : en_ L fr φ) (K : (Nat → Int32) → Option β) : ∀ (m j fuel : Nat) (S : Nat → Int32), j + m = L → m < fuel → S i = iI (vs_ s f φ i j) → ∃ S', lp_X9_weakest_106 (nI L) (nI i) kind winds now fr K fuel (nI j) S = K S' ∧ S' i = iI (vs_ s f φ i L)
  | 0, j, fuel + 1, S, h, _, hS => by
    have : j = L := by omega
    subst this
    refine ⟨S, ?_, hS⟩
    rw [lp_X9_weakest_106, if_pos (nI_le (by omega) (by omega))]
  | m + 1, j, fuel + 1, S, h, hfu, hS => by
    have hr := hφ j (by omega)
    obtain ⟨S', e, g⟩ := wk_106 hN hL hi hf hfy hφ he K m (j + 1) fuel (upd S i (iI (vs_ s f φ i (j + 1)))) (by omega) (by omega) pk_us
    refine ⟨S', ?_, g⟩
    rw [lp_X9_weakest_106, if_neg (nI_ge (by omega) (by omega)), pu_in (show i < 6 by omega) (by omega), pu_in (show j < 4 by omega) (by omega), nI_clamp (by omega), nI_clamp (by omega), he j (by omega), hfy, hS, nI_1]
    simp only [nx_let, nx_chk, Option.bind_some]
    rw [vs_] at e
    by_cases q : φ j = i
    · rw [if_pos q] at e
      rw [if_pos (show nI (φ j) = nI i by rw [q]), iI_sn (by omega)]
      exact e
    · rw [if_neg q] at e
      rw [if_neg (fun x => q ((nI_eq (by omega) (by omega)).1 x)), nx_l2, nx_div (by omega) (by omega) (by omega), iI_sn (by omega)]
      exact e
theorem wk_77 {β : Type} {N L : Nat} (hN : N ≤ 6) (hL : L ≤ 4) {kd wd st bk : Nat → Nat} {kind winds now fr : Nat → Int32} (hk : fr_kw N kd wd kind winds) {d : Nat} (hd : d < 1000) (h0 : now 0 = nI d) (hs : ∀ i, i < N → now (8 + i) = nI (st i) ∧ st i ≤ 9) (hb : ∀ i, i < N → now (20 + i) = k_bI (bk i) ∧ bk i ≤ 10) {φ : Nat → Nat} (hφ : ∀ k, k < L → φ k < 6) (he : en_ L fr φ) (K : Int32 → (Nat → Int32) → Option β) : ∀ (m j fuel : Nat) (S : Nat → Int32), j + m = N → m < fuel → ∃ S', lp_X9_weakest_77 (nI L) (nI N) kind winds now fr K fuel (iI (mn_ (fun i => vs_ (st i) (k_fly (kd i) (wd (d % 4))) φ i L) (w_th bk) j)) (nI j) S = K (iI (vV N L kd st (wd (d % 4)) (w_th bk) φ)) S'
  | 0, j, fuel + 1, S, h, _ => by
    have : j = N := by omega
    subst this
    refine ⟨S, ?_⟩
    rw [lp_X9_weakest_77, if_pos (nI_le (by omega) (by omega))]
    rfl
  | m + 1, j, fuel + 1, S, h, hfu => by
    obtain ⟨F, hF, hF2⟩ : ∃ F, F = gg_fuel ∧ 50000 ≤ F := ⟨_, rfl, pu_F⟩
    have hj : j < N := by omega
    have hwd := (hk.2 (d % 4) (by omega)).1
    have hfl : k_fly (kd j) (wd (d % 4)) ≤ 11 := by
      have : ∀ k, k < 6 → ∀ w, w < 10 → k_fly k w ≤ 11 := by decide +kernel
      exact this _ (hk.1 j hj).1 _ hwd
    have bd := vV_b hL hwd (fun i hi => (hk.1 i hi).1) (fun i hi => (hs i hi).2) φ
    have mb := mn_bd (T := w_th bk) (n := j) (v := fun i => vs_ (st i) (k_fly (kd i) (wd (d % 4))) φ i L) (fun i hi _ => bd i (by omega))
    have vb := bd j hj
    obtain ⟨S1, e1, g1⟩ := wk_106 (s := st j) hN hL hj hfl (fy_9 hN hk hd h0 hj) hφ he (fun (c_strengths_157 : Nat → Int32) => (f_X9_isThere_a26 (nI j) now).bind (fun v4 => gg_lt (fun (s0_193 : Int32) => (lp_X9_weakest_77 (nI L) (nI N) kind winds now fr K fuel s0_193 (nI (j + 1)) c_strengths_157)) (fun k193 => gg_lt ((k193 (iI (mn_ (fun i => vs_ (st i) (k_fly (kd i) (wd (d % 4))) φ i L) (w_th bk) j)))) (fun k191 => (if v4 = (0 : Int32) then k191 else gg_chk (gg_in (nI j) 6) ((if (iI (mn_ (fun i => vs_ (st i) (k_fly (kd i) (wd (d % 4))) φ i L) (w_th bk) j)) ≤ (c_strengths_157 (nI j).toNatClampNeg) then k191 else gg_chk (gg_in (nI j) 6) ((k193 (c_strengths_157 (nI j).toNatClampNeg)))))))))) L 0 F (upd S j (nI (st j))) (by omega) (by omega) (by rw [pk_us, iI_nat (by have := (hs j hj).2; omega)]; rfl)
    obtain ⟨S2, e2⟩ := wk_77 hN hL hk hd h0 hs hb hφ he K m (j + 1) fuel S1 (by omega) (by omega)
    refine ⟨S2, ?_⟩
    rw [lp_X9_weakest_77, if_neg (nI_ge (by omega) (by omega)), show (8 : Int32) + nI j = nI (8 + j) from nI_add 8 j, pu_in (show 8 + j < 26 by omega) (by omega), nx_chk, nI_clamp (show 8 + j < 2 ^ 31 by omega), (hs j hj).1, nI_1]
    rw [pu_in (show j < 6 by omega) (by omega), nx_chk, nI_clamp (by omega), ← hF]
    rw [pu_in (show j < 6 by omega) (by omega), nI_clamp (by omega)] at e1
    refine Eq.trans e1 ?_
    rw [ar_th hj hN (hb j hj).2 (hb j hj).1, g1, ← e2, mn_]
    simp only [nx_let, nx_chk, Option.bind_some]
    by_cases q : bk j = 10
    · have tf : ¬ (w_th bk j = true ∧ vs_ (st j) (k_fly (kd j) (wd (d % 4))) φ j L < mn_ (fun i => vs_ (st i) (k_fly (kd i) (wd (d % 4))) φ i L) (w_th bk) j) := fun z => absurd z.1 (by unfold w_th; simp [q])
      rw [if_pos q, if_pos (show nI 0 = 0 from rfl), if_neg tf]
    · have tt : w_th bk j = true := by unfold w_th; simp [q]
      rw [if_neg q, if_neg (show ¬ nI 1 = 0 by decide)]
      by_cases q2 : vs_ (st j) (k_fly (kd j) (wd (d % 4))) φ j L < mn_ (fun i => vs_ (st i) (k_fly (kd i) (wd (d % 4))) φ i L) (w_th bk) j
      · rw [if_neg (fun z => absurd ((iI_le2 (by omega) (by omega) (by omega) (by omega)).1 z) (by omega)), if_pos ⟨tt, q2⟩]
      · rw [if_pos ((iI_le2 (by omega) (by omega) (by omega) (by omega)).2 (by omega)), if_neg (fun z => q2 z.2)]
theorem wk_10 {β : Type} {N : Nat} (hN : N ≤ 6) (hN0 : N ≠ 0) {bk : Nat → Nat} {now : Nat → Int32} (hb : ∀ i, i < N → now (20 + i) = k_bI (bk i) ∧ bk i ≤ 10) (K : Int32 → (Nat → Int32) → Option β) : ∀ (m fuel c : Nat) (b : Bool) (fr : Nat → Int32), m ≤ 4 → m < fuel → c < 2000 → ∃ fr', lp_X9_weakest_10 (nI N) now K fuel (nI c) (if b = true then 1 else 0) (nI m + (-1)) fr = K (if (b && gd_ (w_th bk) N m c) = true then 1 else 0) fr' ∧ en_ m fr' (rw_ N m c) ∧ ∀ k, m ≤ k → fr' k = fr k
  | 0, fuel + 1, c, b, fr, h, _, hc => by
    refine ⟨fr, ?_, fun k hk => by omega, fun _ _ => rfl⟩
    rw [lp_X9_weakest_10, if_pos (show nI 0 + (-1) < (0 : Int32) by decide), gd_, Bool.and_true]
  | m + 1, fuel + 1, c, b, fr, h, hf, hc => by
    have hm : c % N < N := Nat.mod_lt _ (by omega)
    have hdv : c / N ≤ c := Nat.div_le_self c N
    have ez : (!decide (nI N = 0)) = true := by rw [decide_eq_false (nI_n0 hN0 (by omega))]; rfl
    have e1 : nI c - nI c / nI N * nI N = nI (c % N) := by
      rw [nx_div (by omega) (by omega) (by omega), pk_mul, nx_sub (Nat.div_mul_le_self c N)]
      congr 1
      exact nx_mod c N
    have e2 : nI c / nI N = nI (c / N) := nx_div (by omega) (by omega) (by omega)
    have th := ar_th hm hN (hb _ hm).2 (hb _ hm).1
    obtain ⟨fr', g1, g2, g3⟩ := wk_10 hN hN0 hb K m fuel (c / N) (b && w_th bk (c % N)) (upd fr m (nI (c % N))) (by omega) (by omega) (by omega)
    refine ⟨fr', ?_, ?_, ?_⟩
    · rw [nx_m1 (show 0 < m + 1 by omega), show m + 1 - 1 = m from rfl, lp_X9_weakest_10, if_neg (nI_pos (by omega)), ez, e1, e2, pu_in (show m < 4 by omega) (by omega), nI_clamp (by omega), pk_us, th, gd_, ← Bool.and_assoc, ← g1]
      simp only [nx_let, nx_chk, Option.bind_some]
      cases b with
      | false => rw [if_pos (show (if false = true then (1 : Int32) else 0) = 0 from rfl), Bool.false_and, if_neg (by decide)]
      | true =>
        rw [if_neg (show ¬ (if true = true then (1 : Int32) else 0) = 0 by decide), Bool.true_and]
        by_cases q : bk (c % N) = 10
        · rw [if_pos q, if_pos (show nI 0 = 0 from rfl), show w_th bk (c % N) = false by unfold w_th; simp [q], if_neg (by decide)]
        · rw [if_neg q, if_neg (show ¬ nI 1 = 0 by decide), show w_th bk (c % N) = true by unfold w_th; simp [q], if_pos rfl]
    · intro k hk
      show fr' k = nI (gg_up (rw_ N m (c / N)) m (c % N) k)
      rw [nx_upn]
      by_cases q : k = m
      · rw [if_pos q, q, g3 m (Nat.le_refl m), pk_us]
      · rw [if_neg q]
        exact g2 k (by omega)
    · intro k hk
      rw [g3 k (by omega), pk_un (by omega)]
theorem wk_ {N L : Nat} (hN : N ≤ 6) (hN0 : N ≠ 0) (hL : L ≤ 4) {kd wd st bk : Nat → Nat} {kind winds now : Nat → Int32} (hk : fr_kw N kd wd kind winds) {d : Nat} (hd : d < 1000) (h0 : now 0 = nI d) (hs : ∀ i, i < N → now (8 + i) = nI (st i) ∧ st i ≤ 9) (hb : ∀ i, i < N → now (20 + i) = k_bI (bk i) ∧ bk i ≤ 10) {c : Nat} (hc : c < 2000) (fr S : Nat → Int32) : ∃ fr' S', f_X9_weakest (nI c) (nI L) (nI N) kind winds now fr S = some (iI (Vr_ N L kd st (wd (d % 4)) (w_th bk) c), fr', S') ∧ en_ L fr' (rw_ N L c) := by
  obtain ⟨F, hF, hF2⟩ : ∃ F, F = gg_fuel ∧ 50000 ≤ F := ⟨_, rfl, pu_F⟩
  obtain ⟨fr', e1, g1, -⟩ := wk_10 hN hN0 hb (fun (x4_70 : Int32) (c_fronts_70 : Nat → Int32) => (lp_X9_weakest_77 (nI L) (nI N) kind winds now c_fronts_70 (fun (x5_201 : Int32) (c_strengths_201 : Nat → Int32) => gg_lt (fun (s0_213 : Int32) => (some (s0_213, c_fronts_70, c_strengths_201))) (fun k213 => (if x4_70 = (0 : Int32) then (k213 (-2000000 : Int32)) else (k213 x5_201)))) F (1000000 : Int32) (0 : Int32) S)) L F c true fr hL (by omega) hc
  rw [Bool.true_and, if_pos rfl] at e1
  obtain ⟨S', e2⟩ := wk_77 hN hL hk hd h0 hs hb (φ := rw_ N L c) (fun k hk => by have := rw_lt (b := N) (by omega) L c k hk; omega) g1 (fun (x5_201 : Int32) (c_strengths_201 : Nat → Int32) => gg_lt (fun (s0_213 : Int32) => (some (s0_213, fr', c_strengths_201))) (fun k213 => (if (if gd_ (w_th bk) N L c = true then (1 : Int32) else 0) = (0 : Int32) then (k213 (-2000000 : Int32)) else (k213 x5_201)))) N 0 F S (by omega) (by omega)
  refine ⟨fr', S', ?_, g1⟩
  unfold f_X9_weakest
  rw [← hF, show nI L - (1 : Int32) = nI L + (-1) from Int32.sub_eq_add_neg ..]
  refine Eq.trans e1 (Eq.trans e2 ?_)
  unfold Vr_
  rw [nx_let]
  by_cases q : gd_ (w_th bk) N L c = true
  · rw [if_pos q, if_pos q, if_neg (show ¬ (1 : Int32) = 0 by decide)]
  · rw [if_neg q, if_neg q, if_pos rfl]
    rfl
theorem ve_37 {β : Type} {N L : Nat} (hL : L ≤ 4) (K : Int32 → Option β) : ∀ (m j fuel : Nat), j + m = L → m < fuel → lp_X9_vee_37 (nI L) (nI N) K fuel (nI (N ^ j)) (nI j) = K (nI (N ^ L))
  | 0, j, fuel + 1, h, _ => by
    have : j = L := by omega
    subst this
    rw [lp_X9_vee_37, if_pos (nI_le (by omega) (by omega))]
  | m + 1, j, fuel + 1, h, hf => by
    rw [lp_X9_vee_37, if_neg (nI_ge (by omega) (by omega)), pk_mul, ← Nat.pow_succ, nI_1]
    exact ve_37 hL K m (j + 1) fuel (by omega) (by omega)
theorem p6_ {N L : Nat} (hN : N ≤ 6) (hL : L ≤ 4) : N ^ L ≤ 1296 := by
  have h1 : N ^ L ≤ 6 ^ L := Nat.pow_le_pow_left hN L
  have h2 : 6 ^ L ≤ 6 ^ 4 := Nat.pow_le_pow_right (by omega) hL
  have h3 : (6 : Nat) ^ 4 = 1296 := by decide
  omega
theorem Vr_b {N L : Nat} (hL : L ≤ 4) {kd st : Nat → Nat} {w : Nat} (hw : w < 10) (hk : ∀ i, i < N → kd i < 6) (hs : ∀ i, i < N → st i ≤ 9) (T : Nat → Bool) (c : Nat) : -2000000 ≤ Vr_ N L kd st w T c ∧ Vr_ N L kd st w T c ≤ 1000000 := by
  unfold Vr_
  split
  · have := mn_bd (T := T) (fun i hi _ => vV_b hL hw hk hs (rw_ N L c) i hi)
    unfold vV
    omega
  · omega
theorem ve_66 {β : Type} {N L : Nat} (hN : N ≤ 6) (hN0 : N ≠ 0) (hL : L ≤ 4) {kd wd st bk : Nat → Nat} {kind winds now : Nat → Int32} (hk : fr_kw N kd wd kind winds) {d : Nat} (hd : d < 1000) (h0 : now 0 = nI d) (hs : ∀ i, i < N → now (8 + i) = nI (st i) ∧ st i ≤ 9) (hb : ∀ i, i < N → now (20 + i) = k_bI (bk i) ∧ bk i ≤ 10) (K : Int32 → Int32 → (Nat → Int32) → (Nat → Int32) → Option β) : ∀ (m c fuel b : Nat) (M : Int) (fr S : Nat → Int32), c + m = N ^ L → m < fuel → -2000000 ≤ M → M ≤ 1000000 → ∃ fr' S', lp_X9_vee_66 (nI L) (nI (N ^ L)) (nI N) kind winds now K fuel (nI b) (iI M) (nI c) fr S = K (nI (am_ (Vr_ N L kd st (wd (d % 4)) (w_th bk)) m c b M).1) (iI (am_ (Vr_ N L kd st (wd (d % 4)) (w_th bk)) m c b M).2) fr' S'
  | 0, c, fuel + 1, b, M, fr, S, h, _, _, _ => by
    have hp := p6_ hN hL
    refine ⟨fr, S, ?_⟩
    rw [lp_X9_vee_66, if_pos (nI_le (by omega) (by omega))]
    rfl
  | m + 1, c, fuel + 1, b, M, fr, S, h, hf, h1, h2 => by
    have hp := p6_ hN hL
    have hwd := (hk.2 (d % 4) (by omega)).1
    have hv := Vr_b (N := N) hL hwd (fun i hi => (hk.1 i hi).1) (fun i hi => (hs i hi).2) (w_th bk) c
    obtain ⟨fr1, S1, e1, -⟩ := wk_ hN hN0 hL hk hd h0 hs hb (show c < 2000 by omega) fr S
    rw [lp_X9_vee_66, if_neg (nI_ge (by omega) (by omega)), e1, nx_b3, nI_1, am_]
    simp only [nx_let]
    by_cases q : Vr_ N L kd st (wd (d % 4)) (w_th bk) c ≤ M
    · have q' := (iI_le2 (a := Vr_ N L kd st (wd (d % 4)) (w_th bk) c) (b := M) (by omega) (by omega) (by omega) (by omega)).2 q
      rw [if_pos q', if_pos q', if_pos q]
      exact ve_66 hN hN0 hL hk hd h0 hs hb K m (c + 1) fuel b M fr1 S1 (by omega) (by omega) h1 h2
    · have q' := fun z => q ((iI_le2 (a := Vr_ N L kd st (wd (d % 4)) (w_th bk) c) (b := M) (by omega) (by omega) (by omega) (by omega)).1 z)
      rw [if_neg q', if_neg q', if_neg q]
      exact ve_66 hN hN0 hL hk hd h0 hs hb K m (c + 1) fuel c _ fr1 S1 (by omega) (by omega) hv.1 hv.2
theorem ve_137 {β : Type} {r n : Nat} (hr : r < 6) (hn : n ≤ 4) {p : Nat → Int32} (k : (Nat → Int32) → Option β) : ∀ (m j fuel : Nat) (g : Nat → Int32), j + m = n → m < fuel → ∃ g', lp_X9_vee_137 (nI n) (nI r) p k fuel (nI j) g = k g' ∧ (∀ x, x < 40 * r + j ∨ 40 * r + n ≤ x → g' x = g x) ∧ ∀ x, j ≤ x → x < n → g' (40 * r + x) = p x
  | 0, j, fuel + 1, g, h, _ => by
    rw [lp_X9_vee_137, if_pos (nI_le (by omega) (by omega))]
    exact ⟨g, rfl, fun _ _ => rfl, fun x h1 h2 => by omega⟩
  | m + 1, j, fuel + 1, g, h, hf => by
    obtain ⟨g', h1, h2, h3⟩ := ve_137 hr hn k m (j + 1) fuel (upd g (40 * r + j) (p j)) (by omega) (by omega)
    refine ⟨g', ?_, ?_, ?_⟩
    · rw [lp_X9_vee_137, if_neg (nI_ge (by omega) (by omega)), show (40 : Int32) = nI 40 from rfl, pk_mul, nI_add, pu_in (show j < 4 by omega) (by omega), pu_in (show 40 * r + j < 240 by omega) (by omega), nI_clamp (by omega), nI_clamp (by omega), nI_1]
      exact h1
    · intro x hx
      rw [h2 x (by omega), pk_un (by omega)]
    · intro x h4 h5
      by_cases q : x = j
      · subst q
        rw [h2 _ (by omega), pk_us]
      · exact h3 x (by omega) h5
theorem bg_16 {β : Type} {N : Nat} (hN : N ≤ 6) {bk : Nat → Nat} {brick : Nat → Int32} (hb : fl_b N bk brick) (K : Int32 → (Nat → Int32) → Option β) : ∀ (m j fuel : Nat) (a : Nat → Int32), j + m = N → m < fuel → en_ (m_ct (w_th bk) j) a (ww_ (w_th bk) j) → ∃ a', lp_X7_begin_16 (nI N) brick K fuel (nI j) (nI (m_ct (w_th bk) j)) a = K (nI (m_ct (w_th bk) N)) a' ∧ en_ (m_ct (w_th bk) N) a' (ww_ (w_th bk) N)
  | 0, j, fuel + 1, a, h, _, he => by
    have : j = N := by omega
    subst this
    refine ⟨a, ?_, he⟩
    rw [lp_X7_begin_16, if_pos (nI_le (by omega) (by omega))]
  | m + 1, j, fuel + 1, a, h, hf, he => by
    have hj : j < N := by omega
    have hcj := m_ct_le (w_th bk) j
    rw [lp_X7_begin_16, if_neg (nI_ge (by omega) (by omega)), fl_th hj hN (hb j hj).2 (hb j hj).1, Option.bind_some]
    simp only [nx_let]
    rw [nI_1]
    by_cases q : bk j = 10
    · have tf : ¬ w_th bk j = true := by unfold w_th; simp [q]
      have ec : m_ct (w_th bk) (j + 1) = m_ct (w_th bk) j := by rw [m_ct_s, if_neg tf]
      have ew : ww_ (w_th bk) (j + 1) = ww_ (w_th bk) j := by rw [ww_, if_neg tf]
      rw [if_pos q, if_pos (show nI 0 = 0 from rfl), ← ec]
      exact bg_16 hN hb K m (j + 1) fuel a (by omega) (by omega) (by rw [ec, ew]; exact he)
    · have tt : w_th bk j = true := by unfold w_th; simp [q]
      have ec : m_ct (w_th bk) (j + 1) = m_ct (w_th bk) j + 1 := by rw [m_ct_s, if_pos tt]
      have ew : ww_ (w_th bk) (j + 1) = gg_up (ww_ (w_th bk) j) (m_ct (w_th bk) j) j := by rw [ww_, if_pos tt]
      rw [if_neg q, if_neg (show ¬ nI 1 = 0 by decide), pu_in (show m_ct (w_th bk) j < 6 by omega) (by omega), nx_chk, nI_clamp (by omega), nI_1, ← ec]
      refine bg_16 hN hb K m (j + 1) fuel _ (by omega) (by omega) ?_
      rw [ec, ew]
      intro k hk
      rw [nx_upn]
      by_cases y : k = m_ct (w_th bk) j
      · rw [if_pos y, y, pk_us]
      · rw [if_neg y, pk_un y]
        exact he k (by omega)
theorem bg_60 {β : Type} {L : Nat} (hL : L ≤ 4) (K : (Nat → Int32) → Option β) : ∀ (m j fuel : Nat) (a : Nat → Int32), j + m = L → m < fuel → ∃ a', lp_X7_begin_60 (nI L) K fuel (nI j) a = K a' ∧ (∀ k, k < j → a' k = a k) ∧ ∀ k, j ≤ k → k < L → a' k = 0
  | 0, j, fuel + 1, a, h, _ => by
    refine ⟨a, ?_, fun _ _ => rfl, fun k h1 h2 => by omega⟩
    rw [lp_X7_begin_60, if_pos (nI_le (by omega) (by omega))]
  | m + 1, j, fuel + 1, a, h, hf => by
    obtain ⟨a', e, g1, g2⟩ := bg_60 hL K m (j + 1) fuel (upd a j 0) (by omega) (by omega)
    refine ⟨a', ?_, ?_, ?_⟩
    · rw [lp_X7_begin_60, if_neg (nI_ge (by omega) (by omega)), pu_in (show j < 4 by omega) (by omega), nx_chk, nI_clamp (by omega), nI_1]
      exact e
    · intro k hk
      rw [g1 k (by omega), pk_un (by omega)]
    · intro k h3 h4
      by_cases q : k = j
      · subst q
        rw [g1 k (by omega), pk_us]
      · exact g2 k (by omega) h4
theorem rw_0 (b : Nat) : ∀ L k, rw_ b L 0 k = 0
  | 0, k => rfl
  | L + 1, k => by
    show gg_up (rw_ b L (0 / b)) L (0 % b) k = 0
    rw [Nat.zero_div, Nat.zero_mod, nx_upn, rw_0 b L k, ite_self]
theorem bg_ {N L : Nat} (hN : N ≤ 6) (hL : L ≤ 4) {bk : Nat → Nat} {brick : Nat → Int32} (hb : fl_b N bk brick) (h1 : 1 ≤ m_ct (w_th bk) N) (a1 a2 : Int32) (wa fr be : Nat → Int32) : ∃ wa' fr' be', f_X7_begin (nI L) a1 a2 wa fr be (nI N) brick = some (nI (m_ct (w_th bk) N), nI L, wa', fr', be') ∧ (∀ j, j < m_ct (w_th bk) N → wa' j = nI (ww_ (w_th bk) N j)) ∧ en_ L fr' (rw_ 6 L 0) ∧ en_ L be' (fun k => ww_ (w_th bk) N (rw_ 6 L 0 k)) := by
  obtain ⟨F, hF, hF2⟩ : ∃ F, F = gg_fuel ∧ 50000 ≤ F := ⟨_, rfl, pu_F⟩
  have hz : m_ct (w_th bk) N ≤ 6 := Nat.le_trans (m_ct_le _ N) hN
  obtain ⟨wa', e1, g1⟩ := bg_16 hN hb (fun (c_size_58 : Int32) (c_who_58 : Nat → Int32) => (lp_X7_begin_60 (nI L) (fun (c_fronts_81 : Nat → Int32) => (f_X7_takeAsBest (nI L) c_who_58 c_fronts_81 be).bind (fun v3 => (some (c_size_58, nI L, c_who_58, c_fronts_81, v3)))) F (0 : Int32) fr)) N 0 F wa (by omega) (by omega) (fun k hk => absurd hk (by simp [m_ct]))
  obtain ⟨fr', e2, -, g2⟩ := bg_60 hL (fun (c_fronts_81 : Nat → Int32) => (f_X7_takeAsBest (nI L) wa' c_fronts_81 be).bind (fun v3 => (some (nI (m_ct (w_th bk) N), nI L, wa', c_fronts_81, v3)))) L 0 F fr (by omega) (by omega)
  have hen : en_ L fr' (rw_ 6 L 0) := fun k hk => by rw [g2 k (by omega) hk, rw_0]; rfl
  obtain ⟨be', t1, t2⟩ := tk_ hL hz g1 (ρ := rw_ 6 L 0) (fun k hk => by rw [rw_0]; omega) hen be
  refine ⟨wa', fr', be', ?_, g1, hen, t2⟩
  unfold f_X7_begin
  rw [show (4 : Int32) = nI 4 from rfl, fl_min (by omega) (by omega), Option.bind_some, Nat.min_eq_left hL, ← hF]
  refine Eq.trans e1 (Eq.trans e2 ?_)
  rw [t1, Option.bind_some]
theorem vb_1 {N : Nat} {bk : Nat → Nat} (h : w_set N bk ≠ 0) : 1 ≤ m_ct (w_th bk) N := by
  apply Decidable.byContradiction
  intro hn
  apply h
  have h0 : m_ct (w_th bk) N = 0 := by omega
  apply Nat.eq_of_testBit_eq
  intro i
  rw [Nat.zero_testBit]
  unfold w_set
  rw [m_bitsB]
  by_cases q : i < N
  · cases ht : w_th bk i with
    | false => simp
    | true =>
      exfalso
      obtain ⟨j, hj, -⟩ := (ww_sp (w_th bk) N).2.2 i q ht
      omega
  · simp [q]
theorem sm_vee : sim_vee Rl_ := by
  intro s t h a0 a1
  obtain ⟨hfd, htt, hu, ⟨hm, hz, hc⟩, htx, hfr⟩ := id h
  obtain ⟨N, kd, wd, f, nw⟩ := rl_nw h.2.2.2.2.2
  obtain ⟨hN, e10, eT2, kw, kt, fl, ar, ok, due⟩ := id nw
  obtain ⟨F, hF, hF2⟩ : ∃ F, F = gg_fuel ∧ 50000 ≤ F := ⟨_, rfl, pu_F⟩
  have hsa : Rl_ (nH_vee s (s.2.2.1 0) (s.2.2.2 0) (s.1 19) (s.1 20) (s.2.2.1 26) (s.2.2.1 27) (s.2.2.1 28)) (nR_vee t (t.2.2.1 1) (t.2.2.1 2) (t.2.2.1 18) (t.2.2.1 19)) := ⟨hfd, htt, hu, ⟨hm, hz, hc⟩, htx, hfr⟩
  unfold f_X8_vee f_X9_vee
  rw [e10, eT2, ← hF]
  rcases pu_rng a0 4 4 (by omega) rfl with ⟨q1, q2⟩ | ⟨L, hL, rfl, q1, q2⟩
  · rw [q1, q2]
    refine ⟨-1, s.2.2.1 0, s.2.2.2 0, s.1 19, s.1 20, s.2.2.1 26, s.2.2.1 27, s.2.2.1 28, -1, t.2.2.1 1, t.2.2.1 2, t.2.2.1 18, t.2.2.1 19, ?_, ?_, rfl, hsa⟩ <;> rfl
  · rw [q1, q2, Option.bind_some, nx_let, if_neg (show ¬ nI 1 = 0 by decide), Option.bind_some, nx_let, if_neg (show ¬ nI 1 = 0 by decide)]
    rcases pu_ix a1 6 (by omega) with q | ⟨r, hr, rfl⟩
    · rw [pu_kn6o q, pu_isRowO q]
      refine ⟨-1, s.2.2.1 0, s.2.2.2 0, s.1 19, s.1 20, s.2.2.1 26, s.2.2.1 27, s.2.2.1 28, -1, t.2.2.1 1, t.2.2.1 2, t.2.2.1 18, t.2.2.1 19, ?_, ?_, rfl, hsa⟩ <;> rfl
    · have hV := w_set_64 hN f.2.2.2.2.2
      have hmm := fl_many hN (fr_fl_b fl ok)
      have ht9 := ar_there hN (fr_ar_b ar ok)
      rw [pu_kn6 hr, pu_isRow hr, Option.bind_some, if_neg (show ¬ (1 : Int32) = 0 by decide), Option.bind_some, if_neg (show ¬ (1 : Int32) = 0 by decide), hmm, Option.bind_some, ht9, Option.bind_some]
      by_cases q : w_set N f.2.2.2.2.2 = 0
      · rw [q]
        refine ⟨-4, s.2.2.1 0, s.2.2.2 0, s.1 19, s.1 20, s.2.2.1 26, s.2.2.1 27, s.2.2.1 28, -4, t.2.2.1 1, t.2.2.1 2, t.2.2.1 18, t.2.2.1 19, ?_, ?_, rfl, hsa⟩ <;> rfl
      · have h1 := vb_1 q
        have pz : m_pc (w_set N f.2.2.2.2.2) ≠ 0 := fun x => q ((m_pc_0 _ hV).1 x)
        have pl := m_pc_le _ hV
        have hN0 : N ≠ 0 := by
          have := m_ct_le (w_th f.2.2.2.2.2) N
          omega
        have hp := p6_ hN hL
        have hz6 : m_ct (w_th f.2.2.2.2.2) N ≤ 6 := Nat.le_trans (m_ct_le _ N) hN
        have hs8 : ∀ i, i < N → s.2.2.1 13 i = nI (f.2.2.2.1 i) ∧ f.2.2.2.1 i ≤ 9 := fun i hi => ⟨(fl.2.2 i hi).2.1, (ok.2.1 i hi).2.1⟩
        have hs9 : ∀ i, i < N → t.2.2.1 8 (8 + i) = nI (f.2.2.2.1 i) ∧ f.2.2.2.1 i ≤ 9 := fun i hi => ⟨(ar.2.2 i hi).2.1, (ok.2.1 i hi).2.1⟩
        have hwd := (kw.2 (f.2.1 % 4) (by omega)).1
        have d8 := fl.2.1
        obtain ⟨rc1, rc2, rc3⟩ := rl_ch (m_ct (w_th f.2.2.2.2.2) N) (by omega) h1 L (by omega)
        obtain ⟨rest, hrest⟩ : ∃ rest, rl_ (m_ct (w_th f.2.2.2.2.2) N) L = 0 :: rest := by
          cases hl : rl_ (m_ct (w_th f.2.2.2.2.2) N) L with
          | nil => rw [hl] at rc3; exact absurd rc3 (by simp)
          | cons x y =>
            rw [hl] at rc3
            have := Option.some.inj (show some x = some 0 from rc3)
            subst this
            exact ⟨y, rfl⟩
        obtain ⟨mM, mB⟩ := ve_main hN hL hwd (fun i hi => (kw.1 i hi).1) (fun i hi => (ok.2.1 i hi).2.1) h1 hrest
        rw [hrest] at rc1 rc2
        rw [ch_, Bool.and_eq_true] at rc1
        have rc2' : rest.length + 1 ≤ 126 := rc2
        have hmr : ∀ d, d ∈ (0 :: rest) → rs_ (m_ct (w_th f.2.2.2.2.2) N) L d = true := by
          intro d hd
          rw [← hrest] at hd
          unfold rl_ at hd
          exact (List.mem_filter.1 hd).2
        obtain ⟨wa', fr', be', b1, b2, b3, b4⟩ := bg_ hN hL (fr_fl_b fl ok) h1 (s.1 19) (s.1 20) (s.2.2.1 26) (s.2.2.1 27) (s.2.2.1 28)
        have v0 := vl_ hN hL kw (show f.2.1 < 100 by omega) hs8 h1 b2 (fun k hk => rs_lt (hmr 0 (List.mem_cons_self ..)) hk) b3
        have vb := (mn_bd (T := w_th f.2.2.2.2.2) (fun i hi _ => vV_b hL hwd (fun i hi => (kw.1 i hi).1) (fun i hi => (hs8 i hi).2) (fun k => ww_ (w_th f.2.2.2.2.2) N (rw_ 6 L 0 k)) i hi)).1
        have vb2 : vV N L kd f.2.2.2.1 (wd (f.2.1 % 4)) (w_th f.2.2.2.2.2) (fun k => ww_ (w_th f.2.2.2.2.2) N (rw_ 6 L 0 k)) ≤ 100 := by
          obtain ⟨w1, -, -⟩ := ww_sp (w_th f.2.2.2.2.2) N
          have a := (mn_sp (fun i => vs_ (f.2.2.2.1 i) (k_fly (kd i) (wd (f.2.1 % 4))) (fun k => ww_ (w_th f.2.2.2.2.2) N (rw_ 6 L 0 k)) i L) (w_th f.2.2.2.2.2) N).1 (ww_ (w_th f.2.2.2.2.2) N 0) (w1 0 (by omega)).1 (w1 0 (by omega)).2
          have c := (vV_b hL hwd (fun i hi => (kw.1 i hi).1) (fun i hi => (hs8 i hi).2) (fun k => ww_ (w_th f.2.2.2.2.2) N (rw_ 6 L 0 k)) (ww_ (w_th f.2.2.2.2.2) N 0) (w1 0 (by omega)).1).2
          unfold vV
          omega
        have seek : ∃ fr2 be2, f_X7_seek (nI L) (s.1 19) (s.1 20) (s.2.2.1 26) (s.2.2.1 27) (s.2.2.1 28) (nI N) (s.1 12) (s.2.2.1 10) (s.2.2.1 11) (s.2.2.1 13) (s.2.2.1 15) = some (iI (am_ (Vr_ N L kd f.2.2.2.1 (wd (f.2.1 % 4)) (w_th f.2.2.2.2.2)) (N ^ L) 0 0 (-2000000)).2, nI (m_ct (w_th f.2.2.2.2.2) N), nI L, wa', fr2, be2) ∧ en_ L be2 (rw_ N L (am_ (Vr_ N L kd f.2.2.2.1 (wd (f.2.1 % 4)) (w_th f.2.2.2.2.2)) (N ^ L) 0 0 (-2000000)).1) := by
          unfold f_X7_seek
          rw [d8, b1, nx_b5, v0, Option.bind_some, ← hF]
          have fin : ∀ fr3, (∀ d t, rest = d :: t → en_ L fr3 (rw_ 6 L d)) → ∃ fr2 be2, lp_X7_seek_21 (nI (m_ct (w_th f.2.2.2.2.2) N)) (nI L) wa' (nI f.2.1) (s.2.2.1 10) (s.2.2.1 11) (s.2.2.1 13) (fun (x3_66 : Int32) (c_fronts_66 : Nat → Int32) (c_best_66 : Nat → Int32) => (some (x3_66, nI (m_ct (w_th f.2.2.2.2.2) N), nI L, wa', c_fronts_66, c_best_66))) F (iI (vV N L kd f.2.2.2.1 (wd (f.2.1 % 4)) (w_th f.2.2.2.2.2) (fun k => ww_ (w_th f.2.2.2.2.2) N (rw_ 6 L 0 k)))) (match rest with | [] => 0 | _ :: _ => 1) (nI 0) fr3 be' = some (iI (am_ (Vr_ N L kd f.2.2.2.1 (wd (f.2.1 % 4)) (w_th f.2.2.2.2.2)) (N ^ L) 0 0 (-2000000)).2, nI (m_ct (w_th f.2.2.2.2.2) N), nI L, wa', fr2, be2) ∧ en_ L be2 (rw_ N L (am_ (Vr_ N L kd f.2.2.2.1 (wd (f.2.1 % 4)) (w_th f.2.2.2.2.2)) (N ^ L) 0 0 (-2000000)).1) := by
            intro fr3 hfr3
            obtain ⟨fr2, be2, s1, s2⟩ := sk_21 hN hL kw (show f.2.1 < 100 by omega) hs8 h1 b2 (fun (x3_66 : Int32) (c_fronts_66 : Nat → Int32) (c_best_66 : Nat → Int32) => (some (x3_66, nI (m_ct (w_th f.2.2.2.2.2) N), nI L, wa', c_fronts_66, c_best_66))) rest F 0 0 (vV N L kd f.2.2.2.1 (wd (f.2.1 % 4)) (w_th f.2.2.2.2.2) (fun k => ww_ (w_th f.2.2.2.2.2) N (rw_ 6 L 0 k))) fr3 be' (by omega) (by omega) rc1.2 (fun d hd => hmr d (List.mem_cons_of_mem _ hd)) hfr3 b4 vb vb2
            rw [mM] at s1
            exact ⟨fr2, be2, s1, fun k hk => by rw [s2 k hk]; show nI (ww_ _ _ _) = _; rw [mB k hk]⟩
          rcases go_ h1 hz6 hL b3 with ⟨g1, g2⟩ | ⟨e, fr3, g1, g2, g3⟩
          · have hl : rest = [] := by
              cases rest with
              | nil => rfl
              | cons e t =>
                exfalso
                have := of_decide_eq_true rc1.1
                rw [g1] at this
                exact absurd (show (none : Option Nat) = some e from this) (by simp)
            subst hl
            rw [g2, nx_b2]
            exact fin fr' (fun d t hh => absurd hh (by simp))
          · cases rest with
            | nil =>
              exfalso
              have := of_decide_eq_true rc1.1
              rw [g1] at this
              exact absurd (show some e = none from this) (by simp)
            | cons e' t =>
              have := of_decide_eq_true rc1.1
              rw [g1] at this
              have := Option.some.inj (show some e = some e' from this)
              subst this
              rw [g2, nx_b2]
              exact fin fr3 (fun d2 t2 hh => by
                have := (List.cons.inj hh).1
                subst this
                exact g3)
        obtain ⟨fr2, be2, sk1, sk2⟩ := seek
        obtain ⟨B, hB⟩ : ∃ B, B = (am_ (Vr_ N L kd f.2.2.2.1 (wd (f.2.1 % 4)) (w_th f.2.2.2.2.2)) (N ^ L) 0 0 (-2000000)).1 := ⟨_, rfl⟩
        obtain ⟨M, hM⟩ : ∃ M, M = (am_ (Vr_ N L kd f.2.2.2.1 (wd (f.2.1 % 4)) (w_th f.2.2.2.2.2)) (N ^ L) 0 0 (-2000000)).2 := ⟨_, rfl⟩
        have hBl : B < 2000 := by
          have := (am_sp (Vr_ N L kd f.2.2.2.1 (wd (f.2.1 % 4)) (w_th f.2.2.2.2.2)) (N ^ L) 0 0 (-2000000)).2.2
          rw [← hB] at this
          omega
        rw [← hB] at sk2
        rw [← hM] at sk1
        obtain ⟨M', m1, m2, m3⟩ := wr_a4 hr hL (s.2.2.1 0) (s.2.2.2 0) be2
        have e37 := ve_37 (N := N) hL (fun (x3_56 : Int32) => (lp_X9_vee_66 (nI L) x3_56 (nI N) (t.2.2.1 6) (t.2.2.1 7) (t.2.2.1 8) (fun (x4_119 : Int32) (x5_119 : Int32) (c_fronts_119 : Nat → Int32) (c_strengths_119 : Nat → Int32) => gg_b3 (f_X9_weakest x4_119 (nI L) (nI N) (t.2.2.1 6) (t.2.2.1 7) (t.2.2.1 8) c_fronts_119 c_strengths_119) (fun v5_0 v5_1 v5_2 => gg_chk (gg_in (nI r) 6) ((lp_X9_vee_137 (nI L) (nI r) v5_1 (fun (c_rows_168 : Nat → Int32) => (some ((x5_119 + (100 : Int32)), (upd (t.2.2.1 1) (nI r).toNatClampNeg (nI L)), c_rows_168, v5_1, v5_2))) F (0 : Int32) (t.2.2.1 2))))) F (0 : Int32) (-2000000 : Int32) (0 : Int32) (t.2.2.1 18) (t.2.2.1 19))) L 0 F (by omega) (by omega)
        obtain ⟨fx, Sx, e66⟩ := ve_66 hN hN0 hL kt (show f.2.1 < 1000 by omega) ar.1 hs9 (fr_ar_b ar ok) (fun (x4_119 : Int32) (x5_119 : Int32) (c_fronts_119 : Nat → Int32) (c_strengths_119 : Nat → Int32) => gg_b3 (f_X9_weakest x4_119 (nI L) (nI N) (t.2.2.1 6) (t.2.2.1 7) (t.2.2.1 8) c_fronts_119 c_strengths_119) (fun v5_0 v5_1 v5_2 => gg_chk (gg_in (nI r) 6) ((lp_X9_vee_137 (nI L) (nI r) v5_1 (fun (c_rows_168 : Nat → Int32) => (some ((x5_119 + (100 : Int32)), (upd (t.2.2.1 1) (nI r).toNatClampNeg (nI L)), c_rows_168, v5_1, v5_2))) F (0 : Int32) (t.2.2.1 2))))) (N ^ L) 0 F 0 (-2000000) (t.2.2.1 18) (t.2.2.1 19) (by omega) (by omega) (by omega) (by omega)
        rw [← hB, ← hM] at e66
        obtain ⟨fy, Sy, ewk, enk⟩ := wk_ hN hN0 hL kt (show f.2.1 < 1000 by omega) ar.1 hs9 (fr_ar_b ar ok) hBl fx Sx
        obtain ⟨g', g1, g2, g3⟩ := ve_137 hr hL (p := fy) (fun (c_rows_168 : Nat → Int32) => (some ((iI M + (100 : Int32)), (upd (t.2.2.1 1) (nI r).toNatClampNeg (nI L)), c_rows_168, fy, Sy))) L 0 F (t.2.2.1 2) (by omega) (by omega)
        have hrw := rw_wr (p := be2) (M' := M') (g' := g') hr (show L ≤ 40 by omega) hz hc m2 m3 (fun x hx => g2 x (by omega)) (fun x hx => by rw [g3 x (by omega) hx, enk x hx, sk2 x hx])
        rw [if_neg (nI_n0 pz (by omega)), if_neg (nI_n0 q (by omega)), sk1, nx_b6, hm, m1, nx_b2]
        refine ⟨iI M + 100, upd (s.2.2.1 0) r (nI L), M', nI (m_ct (w_th f.2.2.2.2.2) N), nI L, wa', fr2, be2, iI M + 100, upd (t.2.2.1 1) r (nI L), g', fy, Sy, rfl, ?_, rfl, ⟨hfd, htt, hu, ⟨hm, hrw.1, hrw.2⟩, htx, hfr⟩⟩
        refine Eq.trans e37 (Eq.trans e66 ?_)
        rw [ewk, nx_b3, pu_in hr (by omega), nx_chk]
        refine Eq.trans g1 ?_
        rw [nI_clamp (by omega)]
