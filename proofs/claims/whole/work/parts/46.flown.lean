def ds_ (T : Nat → Nat) : Nat → Nat → Nat
  | 0, _ => 0
  | k + 1, c => T (c % 10) + ds_ T k (c / 10)
theorem ds_top (T : Nat → Nat) : ∀ (k d r : Nat), d < 10 → r < 10 ^ k → ds_ T (k + 1) (d * 10 ^ k + r) = ds_ T k r + T d
  | 0, d, r, hd, hr => by
    have : r = 0 := by
      rw [Nat.pow_zero] at hr
      omega
    subst this
    show T ((d * 10 ^ 0 + 0) % 10) + 0 = 0 + T d
    rw [Nat.pow_zero, show (d * 1 + 0) % 10 = d by omega]
    omega
  | k + 1, d, r, hd, hr => by
    have hp : 10 ^ (k + 1) = 10 * 10 ^ k := by rw [Nat.pow_succ, Nat.mul_comm]
    rw [hp] at hr
    have e : d * 10 ^ (k + 1) = 10 * (d * 10 ^ k) := by rw [hp, ← Nat.mul_assoc, Nat.mul_comm d 10, Nat.mul_assoc]
    have h1 : (d * 10 ^ (k + 1) + r) % 10 = r % 10 := by rw [e]; omega
    have h2 : (d * 10 ^ (k + 1) + r) / 10 = d * 10 ^ k + r / 10 := by rw [e]; omega
    have ih := ds_top T k d (r / 10) hd (by omega)
    show T ((d * 10 ^ (k + 1) + r) % 10) + ds_ T (k + 1) ((d * 10 ^ (k + 1) + r) / 10) = T (r % 10) + ds_ T k (r / 10) + T d
    rw [h1, h2, ih]
    omega
def cn_n (P : Nat → Bool) : Nat → Nat → Nat
  | 0, _ => 0
  | m + 1, j => (if P j = true then 1 else 0) + cn_n P m (j + 1)
theorem cn_add (P : Nat → Bool) : ∀ (a b j : Nat), cn_n P (a + b) j = cn_n P a j + cn_n P b (j + a)
  | 0, b, j => by rw [Nat.zero_add, Nat.add_zero]; exact (Nat.zero_add _).symm
  | a + 1, b, j => by
    rw [show a + 1 + b = a + b + 1 by omega, cn_n, cn_add P a b (j + 1), cn_n, show j + 1 + a = j + (a + 1) by omega]
    omega
theorem cn_sh {P Q : Nat → Bool} (a : Nat) : ∀ (m x : Nat), (∀ y, x ≤ y → y < x + m → P (a + y) = Q y) → cn_n P m (a + x) = cn_n Q m x
  | 0, _, _ => rfl
  | m + 1, x, h => by
    rw [cn_n, cn_n, h x (by omega) (by omega), Nat.add_assoc, cn_sh a m (x + 1) (fun y h1 h2 => h y (by omega) (by omega))]
theorem cn_le (P : Nat → Bool) : ∀ (m j : Nat), cn_n P m j ≤ m
  | 0, _ => Nat.le_refl _
  | m + 1, j => by
    have := cn_le P m (j + 1)
    rw [cn_n]
    split <;> omega
theorem cn_0 (P : Nat → Bool) : ∀ (m j : Nat), (∀ y, j ≤ y → y < j + m → P y = false) → cn_n P m j = 0
  | 0, _, _ => rfl
  | m + 1, j, h => by rw [cn_n, h j (by omega) (by omega), cn_0 P m (j + 1) (fun y h1 h2 => h y (by omega) (by omega))]; rfl
theorem cn_up0 (P : Nat → Bool) : ∀ (m j : Nat), cn_n P m j = 0 → o_up P m j = none
  | 0, _, _ => rfl
  | m + 1, j, h => by
    rw [cn_n] at h
    by_cases q : P j = true
    · rw [if_pos q] at h
      omega
    · rw [if_neg q] at h
      rw [o_up, if_neg q]
      exact cn_up0 P m (j + 1) (by omega)
def sg_n (G : Nat → Nat) : Nat → Nat
  | 0 => 0
  | n + 1 => sg_n G n + G n
theorem sg_c {G H : Nat → Nat} : ∀ n, (∀ x, x < n → G x = H x) → sg_n G n = sg_n H n
  | 0, _ => rfl
  | n + 1, h => by rw [sg_n, sg_n, sg_c n (fun x hx => h x (by omega)), h n (by omega)]
theorem sg_0 {G : Nat → Nat} : ∀ n, (∀ x, x < n → G x = 0) → sg_n G n = 0
  | 0, _ => rfl
  | n + 1, h => by rw [sg_n, sg_0 n (fun x hx => h x (by omega)), h n (by omega)]
theorem cn_bl (P : Nat → Bool) (p : Nat) : ∀ n, cn_n P (n * p) 0 = sg_n (fun d => cn_n P p (d * p)) n
  | 0 => by rw [Nat.zero_mul]; rfl
  | n + 1 => by rw [Nat.succ_mul, cn_add, cn_bl P p n, Nat.zero_add]; rfl
def wy_ (T : Nat → Nat) : Nat → Nat → Nat
  | 0, s => if s = 0 then 1 else 0
  | k + 1, s => sg_n (fun w => if T w ≤ s then wy_ T k (s - T w) else 0) 10
def dP (T : Nat → Nat) (k v c : Nat) : Bool := decide (ds_ T k c = v)
theorem dP_b {T : Nat → Nat} {k d v y : Nat} (hd : d < 10) (hy : y < 10 ^ k) (h : T d ≤ v) : dP T (k + 1) v (d * 10 ^ k + y) = dP T k (v - T d) y := by
  unfold dP
  rw [ds_top T k d y hd hy]
  by_cases q : ds_ T k y = v - T d
  · rw [decide_eq_true q, decide_eq_true (by omega)]
  · rw [decide_eq_false q, decide_eq_false (by omega)]
theorem dP_n {T : Nat → Nat} {k d v y : Nat} (hd : d < 10) (hy : y < 10 ^ k) (h : ¬ T d ≤ v) : dP T (k + 1) v (d * 10 ^ k + y) = false := by
  unfold dP
  rw [ds_top T k d y hd hy, decide_eq_false (by omega)]
theorem wy_cn (T : Nat → Nat) : ∀ (k v : Nat), cn_n (dP T k v) (10 ^ k) 0 = wy_ T k v
  | 0, v => by
    rw [Nat.pow_zero]
    show (if dP T 0 v 0 = true then 1 else 0) + 0 = if v = 0 then 1 else 0
    unfold dP ds_
    by_cases q : v = 0
    · subst q
      rfl
    · rw [if_neg q, if_neg (by simp; omega)]
  | k + 1, v => by
    rw [Nat.pow_succ, Nat.mul_comm, cn_bl]
    show sg_n _ 10 = sg_n _ 10
    apply sg_c
    intro d hd
    by_cases q : T d ≤ v
    · rw [if_pos q, ← wy_cn T k (v - T d)]
      have := cn_sh (P := dP T (k + 1) v) (Q := dP T k (v - T d)) (d * 10 ^ k) (10 ^ k) 0 (fun y _ h2 => dP_b hd (by omega) q)
      rw [Nat.add_zero] at this
      exact this
    · rw [if_neg q]
      apply cn_0
      intro y h1 h2
      have := dP_n (T := T) (k := k) (v := v) (y := y - d * 10 ^ k) hd (by omega) q
      rw [show d * 10 ^ k + (y - d * 10 ^ k) = y by omega] at this
      exact this
theorem p4_ {n : Nat} (h : n ≤ 4) : 10 ^ n ≤ 10000 := Nat.pow_le_pow_right (n := 10) (by omega) h
theorem wy_le (T : Nat → Nat) {k : Nat} (h : k ≤ 4) (v : Nat) : wy_ T k v ≤ 10000 := by
  rw [← wy_cn]
  exact Nat.le_trans (cn_le _ _ _) (p4_ h)
theorem ou_add (P : Nat → Bool) : ∀ (a b j : Nat), o_up P (a + b) j = o_or (o_up P a j) (o_up P b (j + a))
  | 0, b, j => by rw [Nat.zero_add, Nat.add_zero]; rfl
  | a + 1, b, j => by
    rw [show a + 1 + b = a + b + 1 by omega, o_up, ou_add P a b (j + 1), o_up, show j + 1 + a = j + (a + 1) by omega]
    by_cases q : P j = true
    · rw [if_pos q, if_pos q]
      rfl
    · rw [if_neg q, if_neg q]
theorem ou_sh {P Q : Nat → Bool} (a : Nat) : ∀ (m x : Nat), (∀ y, x ≤ y → y < x + m → P (a + y) = Q y) → o_up P m (a + x) = (o_up Q m x).map (fun z => a + z)
  | 0, _, _ => rfl
  | m + 1, x, h => by
    rw [o_up, o_up, h x (by omega) (by omega), Nat.add_assoc, ou_sh a m (x + 1) (fun y h1 h2 => h y (by omega) (by omega))]
    by_cases q : Q x = true
    · rw [if_pos q, if_pos q]
      rfl
    · rw [if_neg q, if_neg q]
theorem ou_no (P : Nat → Bool) : ∀ (m j : Nat), o_up P m j = none → ∀ y, j ≤ y → y < j + m → P y = false
  | 0, _, _, y, h1, h2 => by omega
  | m + 1, j, h, y, h1, h2 => by
    rw [o_up] at h
    by_cases q : P j = true
    · rw [if_pos q] at h
      exact absurd h (by simp)
    · rw [if_neg q] at h
      by_cases e : y = j
      · subst e
        simpa using q
      · exact ou_no P m (j + 1) h y (by omega) (by omega)
theorem ou_so (P : Nat → Bool) : ∀ (m j x : Nat), o_up P m j = some x → j ≤ x ∧ x < j + m ∧ P x = true ∧ ∀ y, j ≤ y → y < x → P y = false
  | 0, _, _, h => absurd h (by simp [o_up])
  | m + 1, j, x, h => by
    rw [o_up] at h
    by_cases q : P j = true
    · rw [if_pos q] at h
      have e : j = x := Option.some.inj h
      subst e
      exact ⟨Nat.le_refl _, by omega, q, fun y h1 h2 => by omega⟩
    · rw [if_neg q] at h
      obtain ⟨a, b, c, d⟩ := ou_so P m (j + 1) x h
      refine ⟨by omega, by omega, c, fun y h1 h2 => ?_⟩
      by_cases e : y = j
      · subst e
        simpa using q
      · exact d y (by omega) h2
theorem ou_bn (P : Nat → Bool) (p : Nat) : ∀ n, (∀ d, d < n → o_up P p (d * p) = none) → o_up P (n * p) 0 = none
  | 0, _ => by rw [Nat.zero_mul]; rfl
  | n + 1, h => by
    rw [Nat.succ_mul, ou_add, ou_bn P p n (fun d hd => h d (by omega)), Nat.zero_add, h n (by omega)]
    rfl
theorem ou_bl (P : Nat → Bool) (p w x : Nat) (h1 : ∀ d, d < w → o_up P p (d * p) = none) (h2 : o_up P p (w * p) = some x) : ∀ n, w < n → o_up P (n * p) 0 = some x
  | 0, h => by omega
  | n + 1, h => by
    rw [Nat.succ_mul, ou_add, Nat.zero_add]
    by_cases q : w = n
    · subst q
      rw [ou_bn P p w h1, h2]
      rfl
    · rw [ou_bl P p w x h1 h2 n (by omega)]
      rfl
def fG (T : Nat → Nat) (k v w : Nat) : Nat := if T w ≤ v then wy_ T k (v - T w) else 0
def fw_ (T : Nat → Nat) (k v : Nat) : Option Nat := o_up (fun w => decide (0 < fG T k v w)) 10 0
def fv_ (T : Nat → Nat) : Nat → Nat → Nat
  | 0, _ => 0
  | k + 1, v => (fw_ T k v).getD 0 * 10 ^ k + fv_ T k (v - T ((fw_ T k v).getD 0))
theorem fw_so {T : Nat → Nat} {k v : Nat} (h : 0 < wy_ T (k + 1) v) : ∃ w, fw_ T k v = some w ∧ w < 10 ∧ T w ≤ v ∧ 0 < wy_ T k (v - T w) ∧ ∀ d, d < w → fG T k v d = 0 := by
  obtain ⟨O, hO⟩ : ∃ O, O = fw_ T k v := ⟨_, rfl⟩
  cases O with
  | none =>
    exfalso
    have := ou_no _ 10 0 hO.symm
    have z : wy_ T (k + 1) v = 0 := sg_0 10 (fun x hx => by
      have := this x (by omega) (by omega)
      have h3 : ¬ 0 < fG T k v x := by simpa using this
      show fG T k v x = 0
      omega)
    omega
  | some w =>
    obtain ⟨a, b, c, d⟩ := ou_so _ 10 0 w hO.symm
    have c' : 0 < fG T k v w := by simpa using c
    have hT : T w ≤ v := by
      by_cases q : T w ≤ v
      · exact q
      · exfalso
        unfold fG at c'
        rw [if_neg q] at c'
        omega
    refine ⟨w, hO.symm, by omega, hT, ?_, fun y hy => ?_⟩
    · unfold fG at c'
      rw [if_pos hT] at c'
      exact c'
    · have := d y (by omega) hy
      have h3 : ¬ 0 < fG T k v y := by simpa using this
      omega
theorem bl_cn {T : Nat → Nat} {k v d : Nat} (hd : d < 10) : cn_n (dP T (k + 1) v) (10 ^ k) (d * 10 ^ k) = fG T k v d := by
  unfold fG
  by_cases q : T d ≤ v
  · rw [if_pos q, ← wy_cn T k (v - T d)]
    have := cn_sh (P := dP T (k + 1) v) (Q := dP T k (v - T d)) (d * 10 ^ k) (10 ^ k) 0 (fun y _ h2 => dP_b hd (by omega) q)
    rw [Nat.add_zero] at this
    exact this
  · rw [if_neg q]
    apply cn_0
    intro y h1 h2
    have := dP_n (T := T) (k := k) (v := v) (y := y - d * 10 ^ k) hd (by omega) q
    rw [show d * 10 ^ k + (y - d * 10 ^ k) = y by omega] at this
    exact this
theorem fv_ou (T : Nat → Nat) : ∀ (k v : Nat), 0 < wy_ T k v → o_up (dP T k v) (10 ^ k) 0 = some (fv_ T k v)
  | 0, v, h => by
    have : v = 0 := by
      by_cases q : v = 0
      · exact q
      · rw [wy_, if_neg q] at h
        omega
    subst this
    rfl
  | k + 1, v, h => by
    obtain ⟨w, e, hw, hT, hp, hz⟩ := fw_so h
    have ih := fv_ou T k (v - T w) hp
    have sh := ou_sh (P := dP T (k + 1) v) (Q := dP T k (v - T w)) (w * 10 ^ k) (10 ^ k) 0 (fun y _ h2 => dP_b hw (by omega) hT)
    rw [Nat.add_zero, ih] at sh
    rw [Nat.pow_succ, Nat.mul_comm, fv_, e]
    exact ou_bl _ (10 ^ k) w _ (fun d hd => cn_up0 _ _ _ (by rw [bl_cn (by omega)]; exact hz d hd)) sh 10 hw
theorem wo_neg : ∀ s, s ≤ 40 → ∀ t, t ≤ 11 → s < t → nI s - nI t < 0 := by decide +kernel
theorem wo_8 {k s t : Nat} (hk : k ≤ 4) (hs : s ≤ 40) (ht : t ≤ 11) (W : Nat → Nat → Int32) : f_X1_waysOf (nI k) (nI s - nI t) W = some (if t ≤ s then W k (s - t) else 0) := by
  unfold f_X1_waysOf
  rw [nx_let, nx_let, if_neg (nI_pos (by omega)), if_neg (show ¬ (4 : Int32) < nI k from (nI_nlt (by omega) (by omega) : ¬ nI 4 < nI k))]
  by_cases q : t ≤ s
  · rw [nx_sub q, if_neg (nI_pos (by omega)), if_neg (show ¬ (40 : Int32) < nI (s - t) from (nI_nlt (by omega) (by omega) : ¬ nI 40 < nI (s - t))), pu_in (show k < 5 by omega) (by omega), pu_in (show s - t < 41 by omega) (by omega), nx_chk, nx_chk, nI_clamp (by omega), nI_clamp (by omega), if_pos q]
  · rw [if_pos (wo_neg s hs t ht (by omega)), if_neg q]
theorem wl_8 {β : Type} {kd : Nat} (hkd : kd < 6) {k s : Nat} (hk : k < 4) (hs : s ≤ 40) {W : Nat → Nat → Int32} (hW : ∀ x, x ≤ 40 → W k x = nI (wy_ (k_tire kd) k x)) (K : Int32 → Option β) : ∀ (m j fuel : Nat), j + m = 10 → m < fuel → lp_X1_waysByLast_6 (nI kd) (nI (k + 1)) (nI s) W K fuel (nI (sg_n (fG (k_tire kd) k s) j)) (nI j) = K (nI (sg_n (fG (k_tire kd) k s) 10))
  | 0, j, fuel + 1, h1, _ => by
    have : j = 10 := by omega
    subst this
    rw [lp_X1_waysByLast_6, if_pos (show (10 : Int32) ≤ nI 10 by decide)]
  | m + 1, j, fuel + 1, h1, hf => by
    have ih := wl_8 hkd hk hs hW K m (j + 1) fuel (by omega) (by omega)
    have hT := k_tire_le kd hkd j (by omega)
    rw [lp_X1_waysByLast_6, if_neg (show ¬ (10 : Int32) ≤ nI j from (nI_ge (by omega) (by omega) : ¬ nI 10 ≤ nI j)), e_tire8 kd hkd j (by omega), Option.bind_some, show nI (k + 1) - 1 = nI k from nx_sub (b := 1) (by omega), wo_8 (by omega) hs hT, Option.bind_some, nI_1, ← ih]
    have e : (if k_tire kd j ≤ s then W k (s - k_tire kd j) else 0) = nI (fG (k_tire kd) k s j) := by
      unfold fG
      by_cases q : k_tire kd j ≤ s
      · rw [if_pos q, if_pos q, hW _ (by omega)]
      · rw [if_neg q, if_neg q]
        rfl
    rw [e, nI_add]
    rfl
theorem wb_8 {kd : Nat} (hkd : kd < 6) {k s : Nat} (hk : k < 4) (hs : s ≤ 40) {W : Nat → Nat → Int32} (hW : ∀ x, x ≤ 40 → W k x = nI (wy_ (k_tire kd) k x)) : f_X1_waysByLast (nI kd) (nI (k + 1)) (nI s) W = some (nI (wy_ (k_tire kd) (k + 1) s)) := by
  obtain ⟨F, hF, hF2⟩ : ∃ F, F = gg_fuel ∧ 50000 ≤ F := ⟨_, rfl, pu_F⟩
  unfold f_X1_waysByLast
  rw [← hF]
  exact wl_8 hkd hk hs hW (fun x => some x) 10 0 F (by omega) (by omega)
theorem sk_8 {β : Type} {kd : Nat} (hkd : kd < 6) {k : Nat} (hk : k ≤ 4) (K : (Nat → Nat → Int32) → Option β) : ∀ (m s fuel : Nat) (W : Nat → Nat → Int32), s + m = 41 → m < fuel → (∀ j, k = j + 1 → ∀ x, x ≤ 40 → W j x = nI (wy_ (k_tire kd) j x)) → ∃ W', lp_X1_seek_18 (nI kd) (nI k) K fuel (nI s) W = K W' ∧ (∀ a x, a ≠ k → W' a x = W a x) ∧ (∀ x, x < s → W' k x = W k x) ∧ ∀ x, s ≤ x → x ≤ 40 → W' k x = nI (wy_ (k_tire kd) k x)
  | 0, s, fuel + 1, W, h1, _, hW => by
    refine ⟨W, ?_, fun _ _ _ => rfl, fun _ _ => rfl, fun x h2 h3 => by omega⟩
    rw [lp_X1_seek_18, if_pos (show (40 : Int32) < nI s from (nI_lt (by omega) (by omega) : nI 40 < nI s))]
  | m + 1, s, fuel + 1, W, h1, hf, hW => by
    obtain ⟨W', e, g1, g2, g3⟩ := sk_8 hkd hk K m (s + 1) fuel (gg_up W k (upd (W k) s (nI (wy_ (k_tire kd) k s)))) (by omega) (by omega) (fun j hj x hx => by rw [nx_upn, if_neg (by omega)]; exact hW j hj x hx)
    refine ⟨W', ?_, ?_, ?_, ?_⟩
    · rw [lp_X1_seek_18, if_neg (show ¬ (40 : Int32) < nI s from (nI_nlt (by omega) (by omega) : ¬ nI 40 < nI s)), pu_in (show k < 5 by omega) (by omega), nx_chk, pu_in (show s < 41 by omega) (by omega)]
      simp only [nx_let, nx_chk]
      rw [nI_clamp (by omega), nI_clamp (by omega), nI_1]
      cases k with
      | zero =>
        rw [if_pos (show nI 0 = 0 from rfl)]
        by_cases q : s = 0
        · subst q
          rw [if_pos (show nI 0 = 0 from rfl)]
          exact e
        · rw [if_neg (nI_n0 q (by omega))]
          rw [show wy_ (k_tire kd) 0 s = 0 by rw [wy_, if_neg q]] at e
          exact e
      | succ j =>
        rw [if_neg (nI_n0 (show j + 1 ≠ 0 by omega) (by omega)), wb_8 hkd (by omega) (by omega) (hW j rfl), Option.bind_some]
        exact e
    · intro a x ha
      rw [g1 a x ha, nx_upn, if_neg ha]
    · intro x hx
      rw [g2 x (by omega), nx_upn, if_pos rfl, pk_un (by omega)]
    · intro x h3 h4
      by_cases q : x = s
      · subst q
        rw [g2 x (by omega), nx_upn, if_pos rfl, pk_us]
      · exact g3 x (by omega) h4
theorem se_8 {β : Type} {kd : Nat} (hkd : kd < 6) {n : Nat} (hn : n ≤ 4) (K : (Nat → Nat → Int32) → Option β) : ∀ (m k fuel : Nat) (W : Nat → Nat → Int32), k + m = n + 1 → m < fuel → (∀ a x, a < k → x ≤ 40 → W a x = nI (wy_ (k_tire kd) a x)) → ∃ W', lp_X1_seek_3 (nI kd) (nI n) K fuel (nI k) W = K W' ∧ ∀ a x, a ≤ n → x ≤ 40 → W' a x = nI (wy_ (k_tire kd) a x)
  | 0, k, fuel + 1, W, h1, _, hW => by
    refine ⟨W, ?_, fun a x ha hx => hW a x (by omega) hx⟩
    rw [lp_X1_seek_3, if_pos (nI_lt (by omega) (by omega))]
  | m + 1, k, fuel + 1, W, h1, hf, hW => by
    obtain ⟨F, hF, hF2⟩ : ∃ F, F = gg_fuel ∧ 50000 ≤ F := ⟨_, rfl, pu_F⟩
    obtain ⟨W1, e1, g1, -, g3⟩ := sk_8 hkd (show k ≤ 4 by omega) (fun (c_ways_68 : Nat → Nat → Int32) => (lp_X1_seek_3 (nI kd) (nI n) K fuel (nI (k + 1)) c_ways_68)) 41 0 F W (by omega) (by omega) (fun j hj x hx => hW j x (by omega) hx)
    obtain ⟨W2, e2, g4⟩ := se_8 hkd hn K m (k + 1) fuel W1 (by omega) (by omega) (fun a x ha hx => by
      by_cases q : a = k
      · subst q
        exact g3 x (by omega) hx
      · rw [g1 a x q]
        exact hW a x (by omega) hx)
    refine ⟨W2, ?_, g4⟩
    rw [lp_X1_seek_3, if_neg (nI_nlt (by omega) (by omega)), if_neg (show ¬ (4 : Int32) < nI k from (nI_nlt (by omega) (by omega) : ¬ nI 4 < nI k)), ← hF, nI_1]
    exact e1.trans e2
theorem fi_8 {β : Type} {kd : Nat} (hkd : kd < 6) {k v : Nat} (hk : k < 4) (hv : v ≤ 40) {W : Nat → Nat → Int32} (hW : ∀ x, x ≤ 40 → W k x = nI (wy_ (k_tire kd) k x)) (k1 : Int32 → Option β) (k2 : Option β) : ∀ (m j fuel : Nat), j + m = 10 → m < fuel → lp_X1_firstWind_3 (nI kd) (nI (k + 1)) (nI v) W k1 k2 fuel (nI j) = (match o_up (fun w => decide (0 < fG (k_tire kd) k v w)) m j with | some x => k1 (nI x) | none => k2)
  | 0, j, fuel + 1, h1, _ => by
    have : j = 10 := by omega
    subst this
    rw [lp_X1_firstWind_3, if_pos (show (10 : Int32) ≤ nI 10 by decide)]
    rfl
  | m + 1, j, fuel + 1, h1, hf => by
    have ih := fi_8 hkd hk hv hW k1 k2 m (j + 1) fuel (by omega) (by omega)
    have hT := k_tire_le kd hkd j (by omega)
    have e : (if k_tire kd j ≤ v then W k (v - k_tire kd j) else 0) = nI (fG (k_tire kd) k v j) := by
      unfold fG
      by_cases q : k_tire kd j ≤ v
      · rw [if_pos q, if_pos q, hW _ (by omega)]
      · rw [if_neg q, if_neg q]
        rfl
    have hb : fG (k_tire kd) k v j ≤ 10000 := by
      unfold fG
      split
      · exact wy_le _ (by omega) _
      · omega
    rw [lp_X1_firstWind_3, if_neg (show ¬ (10 : Int32) ≤ nI j from (nI_ge (by omega) (by omega) : ¬ nI 10 ≤ nI j)), e_tire8 kd hkd j (by omega), Option.bind_some, show nI (k + 1) - 1 = nI k from nx_sub (b := 1) (by omega), wo_8 (by omega) hv hT, Option.bind_some, nI_1, e, o_up]
    by_cases q : 0 < fG (k_tire kd) k v j
    · rw [if_neg (show ¬ nI (fG (k_tire kd) k v j) ≤ 0 from (nI_ge q (by omega) : ¬ nI (fG (k_tire kd) k v j) ≤ nI 0)), if_pos (decide_eq_true q)]
    · rw [if_pos (show nI (fG (k_tire kd) k v j) ≤ 0 from (nI_le (by omega) (by omega) : nI (fG (k_tire kd) k v j) ≤ nI 0)), if_neg (by simpa using q)]
      exact ih
theorem fo_8 {β : Type} {kd : Nat} (hkd : kd < 6) {W : Nat → Nat → Int32} {n : Nat} (hn : n ≤ 4) (hW : ∀ a x, a ≤ n → x ≤ 40 → W a x = nI (wy_ (k_tire kd) a x)) (K : Int32 → Option β) : ∀ (k fuel row v : Nat), k ≤ n → k < fuel → v ≤ 40 → 0 < wy_ (k_tire kd) k v → lp_X1_firstRow_9 (nI kd) W K fuel (nI row) (nI v) (nI k) = K (nI (row * 10 ^ k + fv_ (k_tire kd) k v))
  | 0, fuel + 1, row, v, h1, _, hv, hp => by
    rw [lp_X1_firstRow_9, if_pos (show nI 0 ≤ 0 by decide), Nat.pow_zero, Nat.mul_one]
    rfl
  | k + 1, fuel + 1, row, v, h1, hf, hv, hp => by
    obtain ⟨F, hF, hF2⟩ : ∃ F, F = gg_fuel ∧ 50000 ≤ F := ⟨_, rfl, pu_F⟩
    obtain ⟨w, e, hw, hT, hp2, hz⟩ := fw_so hp
    have hwl : f_X1_firstWind (nI kd) (nI (k + 1)) (nI v) W = some (nI w) := by
      unfold f_X1_firstWind
      rw [← hF]
      refine Eq.trans (fi_8 hkd (show k < 4 by omega) hv (fun x hx => hW k x (by omega) hx) (fun x => some x) (some 0) 10 0 F (by omega) (by omega)) ?_
      show (match fw_ (k_tire kd) k v with | some x => some (nI x) | none => some 0) = _
      rw [e]
    rw [lp_X1_firstRow_9, if_neg (show ¬ nI (k + 1) ≤ 0 from (nI_ge (by omega) (by omega) : ¬ nI (k + 1) ≤ nI 0)), hwl, Option.bind_some, e_tire8 kd hkd w hw, Option.bind_some, nx_sub hT, nx_m1 (show 0 < k + 1 by omega), nx_l10, pk_mul, nI_add, show k + 1 - 1 = k from rfl, fo_8 hkd hn hW K k fuel (10 * row + w) (v - k_tire kd w) (by omega) (by omega) (by omega) hp2]
    congr 2
    rw [fv_, e]
    show (10 * row + w) * 10 ^ k + fv_ (k_tire kd) k (v - k_tire kd w) = row * 10 ^ (k + 1) + (w * 10 ^ k + fv_ (k_tire kd) k (v - k_tire kd w))
    rw [Nat.add_mul, Nat.pow_succ, Nat.mul_comm (10 ^ k) 10, ← Nat.mul_assoc row 10, Nat.mul_comm row 10]
    omega
theorem see_8 {kd : Nat} (hkd : kd < 6) {n v : Nat} (hn : n ≤ 4) (hv : v ≤ 40) (ea : Int32) (W : Nat → Nat → Int32) : ∃ W', f_X1_seek (nI kd) (nI n) (nI v) ea W = some (nI (wy_ (k_tire kd) n v), (if wy_ (k_tire kd) n v = 0 then ea else nI (fv_ (k_tire kd) n v)), W') := by
  obtain ⟨F, hF, hF2⟩ : ∃ F, F = gg_fuel ∧ 50000 ≤ F := ⟨_, rfl, pu_F⟩
  unfold f_X1_seek
  rw [← hF]
  obtain ⟨W', e, hW⟩ := se_8 hkd hn (fun (c_ways_74 : Nat → Nat → Int32) => (f_X1_waysOf (nI n) (nI v) c_ways_74).bind (fun v2 => gg_lt (fun (c_earliest_98 : Int32) => (some (v2, c_earliest_98, c_ways_74))) (fun k98 => (if v2 ≤ (0 : Int32) then (k98 ea) else (f_X1_firstRow (nI kd) (nI n) (nI v) c_ways_74).bind (fun v3 => (k98 v3)))))) (n + 1) 0 F W (by omega) (by omega) (fun a x ha hx => by omega)
  refine ⟨W', Eq.trans e ?_⟩
  have e1 : f_X1_waysOf (nI n) (nI v) W' = some (nI (wy_ (k_tire kd) n v)) := by
    have := wo_8 hn hv (show 0 ≤ 11 by omega) W'
    rw [nx_sub (by omega), Nat.sub_zero, if_pos (by omega), hW n v (by omega) hv] at this
    exact this
  have hb := wy_le (k_tire kd) hn v
  rw [e1, Option.bind_some, nx_let]
  by_cases q : wy_ (k_tire kd) n v = 0
  · rw [if_pos q, if_pos (show nI (wy_ (k_tire kd) n v) ≤ 0 from (nI_le (by omega) (by omega) : nI (wy_ (k_tire kd) n v) ≤ nI 0))]
  · rw [if_neg q, if_neg (show ¬ nI (wy_ (k_tire kd) n v) ≤ 0 from (nI_ge (by omega) (by omega) : ¬ nI (wy_ (k_tire kd) n v) ≤ nI 0))]
    have := fo_8 hkd hn hW (fun x => some x) n F 0 v (by omega) (by omega) hv (by omega)
    unfold f_X1_firstRow
    rw [← hF, show (0 : Int32) = nI 0 from rfl, this, Option.bind_some, Nat.zero_mul, Nat.zero_add]
theorem p9_ {β : Type} {n : Nat} (hn : n ≤ 4) (K : Int32 → Option β) : ∀ (m j fuel : Nat), j + m = n → m < fuel → lp_X9_flown_35 (nI n) K fuel (nI (10 ^ j)) (nI j) = K (nI (10 ^ n))
  | 0, j, fuel + 1, h1, _ => by
    have : j = n := by omega
    subst this
    rw [lp_X9_flown_35, if_pos (nI_le (by omega) (by omega))]
  | m + 1, j, fuel + 1, h1, hf => by
    rw [lp_X9_flown_35, if_neg (nI_ge (by omega) (by omega)), nx_l10, pk_mul, nI_1, ← Nat.pow_succ]
    exact p9_ hn K m (j + 1) fuel (by omega) (by omega)
theorem d9_ {β : Type} {kd i n : Nat} (hkd : kd < 6) (hi : i < 6) (hn : n ≤ 4) {kind : Nat → Int32} (hk : kind i = nI kd) (K : Int32 → Option β) : ∀ (m j fuel acc c : Nat), j + m = n → m < fuel → c ≤ 10000 → lp_X9_flown_81 (nI i) (nI n) kind K fuel (nI acc) (nI c) (nI j) = K (nI (acc + ds_ (k_tire kd) m c))
  | 0, j, fuel + 1, acc, c, h1, _, hc => by
    rw [lp_X9_flown_81, if_pos (nI_le (by omega) (by omega))]
    rfl
  | m + 1, j, fuel + 1, acc, c, h1, hf, hc => by
    have e1 : nI c - nI c / 10 * 10 = nI (c % 10) := by
      rw [nx_l10, nx_div (by omega) (by omega) (by omega), pk_mul, nx_sub (by omega)]
      congr 1
      omega
    have e2 : nI c / 10 = nI (c / 10) := by rw [nx_l10, nx_div (by omega) (by omega) (by omega)]
    rw [lp_X9_flown_81, if_neg (nI_ge (by omega) (by omega)), pu_in hi (by omega), nx_chk, nI_clamp (by omega), hk, e1, e2, e_tire9 kd hkd (c % 10) (by omega), Option.bind_some, nI_add, nI_1, d9_ hkd hi hn hk K m (j + 1) fuel (acc + k_tire kd (c % 10)) (c / 10) (by omega) (by omega) (by omega), ds_, Nat.add_assoc]
def fx_ (r : Nat) (O : Option Nat) (x : Int32) : Int32 := if r = 0 then (match O with | some y => nI y | none => x) else x
theorem c9_ {β : Type} {kd i n v : Nat} (hkd : kd < 6) (hi : i < 6) (hn : n ≤ 4) (hv : v ≤ 40) {kind : Nat → Int32} (hk : kind i = nI kd) (K : Int32 → Int32 → Option β) : ∀ (m c fuel r : Nat) (x : Int32), c + m = 10 ^ n → m < fuel → r ≤ c → lp_X9_flown_64 (nI i) (nI n) (nI v) (nI (10 ^ n)) kind K fuel (nI r) x (nI c) = K (nI (r + cn_n (dP (k_tire kd) n v) m c)) (fx_ r (o_up (dP (k_tire kd) n v) m c) x)
  | 0, c, fuel + 1, r, x, h1, _, hr => by
    have hp := p4_ hn
    rw [lp_X9_flown_64, if_pos (nI_le (by omega) (by omega))]
    unfold fx_ cn_n o_up
    by_cases q : r = 0
    · rw [if_pos q]
      rfl
    · rw [if_neg q]
      rfl
  | m + 1, c, fuel + 1, r, x, h1, hf, hr => by
    have hp := p4_ hn
    obtain ⟨F, hF, hF2⟩ : ∃ F, F = gg_fuel ∧ 50000 ≤ F := ⟨_, rfl, pu_F⟩
    have ih := fun r' x' (h : r' ≤ c + 1) => c9_ hkd hi hn hv hk K m (c + 1) fuel r' x' (by omega) (by omega) h
    have e := d9_ hkd hi hn hk (fun (x8_119 : Int32) => gg_lt (fun (s0_137 : Int32) => gg_lt (fun (s1_152 : Int32) => (lp_X9_flown_64 (nI i) (nI n) (nI v) (nI (10 ^ n)) kind K fuel (nI r + s1_152) s0_137 (nI (c + 1)))) (fun k152 => (if x8_119 = nI v then (k152 (1 : Int32)) else (k152 (0 : Int32))))) (fun k137 => gg_lt ((k137 x)) (fun k135 => (if x8_119 = nI v then (if nI r = (0 : Int32) then (k137 (nI c)) else k135) else k135)))) n 0 F 0 c (by omega) (by omega) (by omega)
    rw [lp_X9_flown_64, if_neg (nI_ge (by omega) (by omega)), ← hF, nI_1]
    refine Eq.trans e ?_
    have hds : ∀ a b, a + b = n → ∀ c, ds_ (k_tire kd) b c ≤ 11 * b := by
      intro a b
      induction b generalizing a with
      | zero => intro _ c; exact Nat.le_refl _
      | succ b ih2 =>
        intro h c
        have h1 := ih2 (a + 1) (by omega) (c / 10)
        have h2 := k_tire_le kd hkd (c % 10) (by omega)
        rw [ds_]
        omega
    have hd := hds 0 n (by omega) c
    simp only [nx_let]
    rw [Nat.zero_add, cn_n, o_up]
    by_cases q : ds_ (k_tire kd) n c = v
    · have qd : dP (k_tire kd) n v c = true := decide_eq_true q
      rw [q, if_pos rfl, if_pos rfl, qd, if_pos rfl, if_pos rfl]
      by_cases q0 : r = 0
      · subst q0
        rw [if_pos (show nI 0 = 0 from rfl), nI_1, ih 1 (nI c) (by omega), Nat.zero_add, if_pos rfl]
        rfl
      · rw [if_neg (nI_n0 q0 (by omega)), nI_1, ih (r + 1) x (by omega), Nat.add_assoc]
        unfold fx_
        rw [if_neg (show ¬ r + 1 = 0 by omega), if_neg q0]
    · have qd : dP (k_tire kd) n v c = false := decide_eq_false q
      have qn : ¬ nI (ds_ (k_tire kd) n c) = nI v := fun z => q ((nI_eq (by omega) (by omega)).1 z)
      rw [if_neg qn, if_neg qn, qd, if_neg (by decide), if_neg (by decide), nx_l0, nI_add, Nat.add_zero, ih r x (by omega), Nat.zero_add]
theorem sm_flown : sim_flown Rl_ := by
  intro s t h a0 a1 a2
  obtain ⟨N, kd, wd, f, nw⟩ := rl_nw h.2.2.2.2.2
  obtain ⟨hN, e10, eT2, kw, kt, fl, ar, ok, due⟩ := id nw
  obtain ⟨F, hF, hF2⟩ : ∃ F, F = gg_fuel ∧ 50000 ≤ F := ⟨_, rfl, pu_F⟩
  have hsa : Rl_ (nH_flown s (s.1 1) (s.1 24) (s.2.2.2 3)) (nR_flown t (t.1 1)) := ⟨h.1, h.2.1, h.2.2⟩
  unfold f_X8_flown f_X9_flown
  rw [e10, eT2, ← hF]
  rcases pu_ix a0 N (by omega) with q | ⟨i, hi, rfl⟩
  · rw [fl_knO q, ar_hutO hN q]
    exact ⟨-1, s.1 1, s.1 24, s.2.2.2 3, -1, t.1 1, rfl, rfl, rfl, hsa⟩
  · rw [fl_kn hi hN, ar_hut hi hN, Option.bind_some, nx_let, if_neg (show ¬ nI 1 = 0 by decide), Option.bind_some, nx_let, if_neg (show ¬ nI 1 = 0 by decide)]
    rcases pu_rng a1 4 4 (by omega) rfl with ⟨q1, q2⟩ | ⟨n, hn, rfl, q1, q2⟩
    · rw [q1, q2]
      exact ⟨-1, s.1 1, s.1 24, s.2.2.2 3, -1, t.1 1, rfl, rfl, rfl, hsa⟩
    · rw [q1, q2, Option.bind_some, if_neg (show ¬ nI 1 = 0 by decide), Option.bind_some, if_neg (show ¬ nI 1 = 0 by decide)]
      rcases pu_rng a2 40 40 (by omega) rfl with ⟨q1, q2⟩ | ⟨v, hv, rfl, q1, q2⟩
      · rw [q1, q2]
        exact ⟨-1, s.1 1, s.1 24, s.2.2.2 3, -1, t.1 1, rfl, rfl, rfl, hsa⟩
      · rw [q1, q2, Option.bind_some, if_neg (show ¬ nI 1 = 0 by decide), Option.bind_some, if_neg (show ¬ nI 1 = 0 by decide)]
        have k1 := (kw.1 i hi).2
        have k2 := (kt.1 i hi).2
        have k6 := (kw.1 i hi).1
        have hp := p4_ hn
        obtain ⟨W', e8⟩ := see_8 k6 hn hv (s.1 24) (s.2.2.2 3)
        have e9 := p9_ hn (fun (x4_54 : Int32) => (lp_X9_flown_64 (nI i) (nI n) (nI v) x4_54 (t.2.2.1 6) (fun (x5_161 : Int32) (x6_161 : Int32) => gg_lt (fun (s0_179 : Int32) (c_asked_179 : Int32) => (some (s0_179, c_asked_179))) (fun k179 => (if x5_161 = (0 : Int32) then (k179 (-9 : Int32) (t.1 1)) else gg_b2 (f_X9_tells x6_161 x5_161 (t.1 1)) (fun v5_0 v5_1 => (k179 v5_0 v5_1))))) F (0 : Int32) (-9 : Int32) (0 : Int32))) n 0 F (by omega) (by omega)
        have e9b := c9_ k6 (show i < 6 by omega) hn hv k2 (fun (x5_161 : Int32) (x6_161 : Int32) => gg_lt (fun (s0_179 : Int32) (c_asked_179 : Int32) => (some (s0_179, c_asked_179))) (fun k179 => (if x5_161 = (0 : Int32) then (k179 (-9 : Int32) (t.1 1)) else gg_b2 (f_X9_tells x6_161 x5_161 (t.1 1)) (fun v5_0 v5_1 => (k179 v5_0 v5_1))))) (10 ^ n) 0 F 0 (-9) (by omega) (by omega) (by omega)
        rw [wy_cn, Nat.zero_add] at e9b
        have hb := wy_le (k_tire (kd i)) hn v
        rw [pu_in (show i < 6 by omega) (by omega), nx_chk, nI_clamp (by omega), k1, e8, nx_b3]
        by_cases q : wy_ (k_tire (kd i)) n v = 0
        · rw [q] at e9b ⊢
          rw [if_pos rfl, if_pos (show nI 0 = 0 from rfl)]
          exact ⟨-9, s.1 1, s.1 24, W', -9, t.1 1, rfl, e9.trans e9b, rfl, ⟨h.1, h.2.1, h.2.2⟩⟩
        · have zq : ¬ nI (wy_ (k_tire (kd i)) n v) = 0 := fun z => q ((nI_eq (b := 0) (by omega) (by omega)).1 z)
          rw [fv_ou _ n v (by omega), nx_let, if_neg zq, tl_9, nx_b2] at e9b
          rw [if_neg q, if_neg zq]
          exact ⟨_, _, _, W', _, _, rfl, e9.trans e9b, rfl, ⟨h.1, rfl, h.2.2⟩⟩
