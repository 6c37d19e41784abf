abbrev FS_ : Type := Nat × Nat × (Nat → Nat) × (Nat → Nat) × (Nat → Nat) × (Nat → Nat)
def k_stay (k w : Nat) : Bool := decide (k = 2) && decide (5 ≤ w)
def k_fly (k w : Nat) : Nat := if k = 1 ∨ k = 4 then w + 1 else if k = 3 then w / 2 else if k = 5 then w / 2 + 1 else w
def k_tire (k w : Nat) : Nat := if k_stay k w = true then 0 else k_fly k w
def k_late (k : Nat) : Nat := if k = 1 then 3 else if k = 3 then 0 else if k = 4 ∨ k = 5 then 2 else 1
def k_want (k h : Nat) : Nat := if k = 4 then (if h < 9 then h + 1 else 0) else h
def k_bI (x : Nat) : Int32 := if x = 10 then -9 else nI x
def w_ahead (kd st : Nat → Nat) (i j : Nat) : Bool := if k_late (kd i) = k_late (kd j) then decide (st j < st i) else decide (k_late (kd i) < k_late (kd j))
def w_ins (kd st : Nat → Nat) (i : Nat) : List Nat → List Nat
  | [] => [i]
  | x :: xs => if w_ahead kd st i x = true then x :: w_ins kd st i xs else i :: x :: xs
def w_p1 (kd : Nat → Nat) (w : Nat) : Nat → Nat → Nat → (Nat → Nat) → (Nat → Nat) → List Nat → Nat × (Nat → Nat) × (Nat → Nat) × List Nat
  | 0, _, fd, st, bk, fl => (fd, st, bk, fl)
  | m + 1, i, fd, st, bk, fl =>
    if bk i = 10 then w_p1 kd w m (i + 1) fd st bk fl
    else if k_stay (kd i) w = true then (if 0 < fd then w_p1 kd w m (i + 1) (fd - 1) st bk fl else w_p1 kd w m (i + 1) fd (gg_up st i (st i - 1)) bk fl)
    else if st i < k_tire (kd i) w then w_p1 kd w m (i + 1) fd st (gg_up bk i 10) fl
    else w_p1 kd w m (i + 1) fd (gg_up st i (st i - k_tire (kd i) w)) (gg_up bk i 10) (w_ins kd (gg_up st i (st i - k_tire (kd i) w)) i fl)
def w_free (N : Nat) (bk : Nat → Nat) (b : Nat) : Bool := (List.range N).all (fun i => bk i != b)
def w_near (fr : Nat → Bool) (p : Nat) : Nat → Nat → Nat
  | 0, _ => 10
  | m + 1, far => if far ≤ p ∧ fr (p - far) = true then p - far else if p + far < 10 ∧ fr (p + far) = true then p + far else w_near fr p m (far + 1)
def w_p2 (N : Nat) (kd hm : Nat → Nat) : List Nat → (Nat → Nat) → (Nat → Nat) → (Nat → Nat) × (Nat → Nat)
  | [], br, bk => (br, bk)
  | i :: l, br, bk => w_p2 N kd hm l (gg_up br i (min (br i + 1) 9)) (gg_up bk i (w_near (w_free N bk) (k_want (kd i) (hm i)) 10 0))
def w_fly (N : Nat) (kd wd : Nat → Nat) (f : FS_) : Nat × (Nat → Nat) × (Nat → Nat) × List Nat := w_p1 kd (wd (f.2.1 % 4)) N 0 f.1 f.2.2.2.1 f.2.2.2.2.2 []
def w_win (N : Nat) (kd wd : Nat → Nat) (f : FS_) : FS_ :=
  ((w_fly N kd wd f).1, f.2.1 + 1, f.2.2.1, (w_fly N kd wd f).2.1, (w_p2 N kd f.2.2.1 (w_fly N kd wd f).2.2.2.reverse f.2.2.2.2.1 (w_fly N kd wd f).2.2.1).1, (w_p2 N kd f.2.2.1 (w_fly N kd wd f).2.2.2.reverse f.2.2.2.2.1 (w_fly N kd wd f).2.2.1).2)
def w_feed (i : Nat) (f : FS_) : FS_ := (f.1 - 1, f.2.1, f.2.2.1, gg_up f.2.2.2.1 i (min (f.2.2.2.1 i + 2) 9), f.2.2.2.2.1, f.2.2.2.2.2)
def w_sell (i j : Nat) (f : FS_) : FS_ := (f.1, f.2.1, gg_up (gg_up f.2.2.1 i (f.2.2.1 j)) j (f.2.2.1 i), f.2.2.2.1, f.2.2.2.2.1, f.2.2.2.2.2)
def w_lose (i : Nat) (f : FS_) : FS_ := (f.1, f.2.1, f.2.2.1, f.2.2.2.1, f.2.2.2.2.1, gg_up f.2.2.2.2.2 i 10)
theorem e_stay8 : ∀ k, k < 6 → ∀ w, w < 10 → f_X3_stays (nI k) (nI w) = some (if k_stay k w = true then 1 else 0) := by decide +kernel
theorem e_stay9 : ∀ k, k < 6 → ∀ w, w < 10 → f_X9_stays (nI k) (nI w) = some (if k_stay k w = true then 1 else 0) := by decide +kernel
theorem e_fly8 : ∀ k, k < 6 → ∀ w, w < 10 → f_X3_tiredInFlight (nI k) (nI w) = some (nI (k_fly k w)) := by decide +kernel
theorem e_tire8 : ∀ k, k < 6 → ∀ w, w < 10 → f_X3_tiredBy (nI k) (nI w) = some (nI (k_tire k w)) := by decide +kernel
theorem e_tire9 : ∀ k, k < 6 → ∀ w, w < 10 → f_X9_tiredBy (nI k) (nI w) = some (nI (k_tire k w)) := by decide +kernel
theorem e_late8 : ∀ k, k < 6 → f_X3_lateBy (nI k) = some (nI (k_late k)) := by decide +kernel
theorem e_late9 : ∀ k, k < 6 → f_X9_lateBy (nI k) = some (nI (k_late k)) := by decide +kernel
theorem e_want8 : ∀ k, k < 6 → ∀ h, h < 10 → f_X3_wants (nI k) (nI h) = some (nI (k_want k h)) := by decide +kernel
theorem k_tire_le : ∀ k, k < 6 → ∀ w, w < 10 → k_tire k w ≤ 11 := by decide +kernel
theorem k_want_lt : ∀ k, k < 6 → ∀ h, h < 10 → k_want k h < 10 := by decide +kernel
theorem e_isOf : ∀ k, k < 6 → ∀ j, j < 6 → f_X3_isOf (nI k) (nI j) = some (if j = k ∨ j = 0 ∨ (j = 1 ∧ k = 4) ∨ (j = 3 ∧ k = 5) then 1 else 0) := by decide +kernel
theorem e_bI : ∀ x, x < 11 → (k_bI x = -9 ↔ x = 10) := by decide +kernel
theorem e_floorMod : ∀ d, d < 100 → f_J9_floorMod_7cf53 (nI d) 4 = some (nI (d % 4)) := by decide +kernel
