def fr_ok (N : Nat) (f : FS_) : Prop := f.1 ≤ 40 ∧ (∀ i, i < N → f.2.2.1 i < 10 ∧ f.2.2.2.1 i ≤ 9 ∧ f.2.2.2.2.1 i ≤ 9 ∧ f.2.2.2.2.2 i ≤ 10) ∧ ∀ i j, i < N → j < N → f.2.2.2.2.2 i = f.2.2.2.2.2 j → f.2.2.2.2.2 i ≠ 10 → i = j
def fr_fl (N : Nat) (f : FS_) (food due : Int32) (home strength brown brick : Nat → Int32) : Prop := food = nI f.1 ∧ due = nI f.2.1 ∧ ∀ i, i < N → home i = nI (f.2.2.1 i) ∧ strength i = nI (f.2.2.2.1 i) ∧ brown i = nI (f.2.2.2.2.1 i) ∧ brick i = k_bI (f.2.2.2.2.2 i)
def fr_ar (N : Nat) (f : FS_) (a : Nat → Int32) : Prop := a 0 = nI f.2.1 ∧ a 1 = nI f.1 ∧ ∀ i, i < N → a (2 + i) = nI (f.2.2.1 i) ∧ a (8 + i) = nI (f.2.2.2.1 i) ∧ a (14 + i) = nI (f.2.2.2.2.1 i) ∧ a (20 + i) = k_bI (f.2.2.2.2.2 i)
def fr_deed (N : Nat) (kd wd : Nat → Nat) (c : Nat) (f : FS_) : FS_ :=
  if c / 100 = 0 then w_win N kd wd f
  else if c / 100 = 1 then (if f.2.2.2.2.2 (c / 10 % 10) ≠ 10 ∧ 0 < f.1 then w_feed (c / 10 % 10) f else f)
  else if c / 100 = 2 then w_sell (c / 10 % 10) (c % 10) f
  else w_lose (c / 10 % 10) f
def fr_ch (N : Nat) (kd wd : Nat → Nat) (f0 : FS_) (cs : Nat → Nat) : Nat → FS_
  | 0 => f0
  | d + 1 => fr_deed N kd wd (cs d) (fr_ch N kd wd f0 cs d)
def fr_cv (N : Nat) (c : Nat) : Prop := c = 0 ∨ (∃ i, i < N ∧ c = 100 + 10 * i) ∨ (∃ i j, i < N ∧ j < N ∧ i ≠ j ∧ c = 200 + 10 * i + j) ∨ ∃ i, i < N ∧ c = 300 + 10 * i
/-- a log of D deeds in the class (codes lc) and in the reference (its states, 26 places each, in ml) over the same beginning -/
def fr_lg (N : Nat) (kd wd : Nat → Nat) (f0 : FS_) (cs : Nat → Nat) (D : Nat) (lc : Nat → Int32) (ml : Nat → Int32) : Prop := D ≤ 40 ∧ (∀ d, d < D → lc d = nI (cs d) ∧ fr_cv N (cs d)) ∧ ∀ d, d < D → fr_ar N (fr_ch N kd wd f0 cs d) (fun k => ml (26 * d + k))
def fr_kw (N : Nat) (kd wd : Nat → Nat) (kind winds : Nat → Int32) : Prop := (∀ i, i < N → kd i < 6 ∧ kind i = nI (kd i)) ∧ ∀ j, j < 4 → wd j < 10 ∧ winds j = nI (wd j)
def fr_all (N : Nat) (kd wd : Nat → Nat) (f0 : FS_) (cs : Nat → Nat) (D : Nat) (s t : ll_S) : Prop :=
  N ≤ 6 ∧ fr_ok N f0 ∧ f0.2.1 = 0 ∧ (N = 0 → D = 0) ∧
  s.1 6 = nI N ∧ s.1 10 = nI N ∧ t.1 2 = nI N ∧ fr_kw N kd wd (s.2.2.1 4) (s.2.2.1 3) ∧ fr_kw N kd wd (s.2.2.1 11) (s.2.2.1 10) ∧ fr_kw N kd wd (t.2.2.1 6) (t.2.2.1 7) ∧
  fr_fl N f0 (s.1 7) (s.1 8) (s.2.2.1 5) (s.2.2.1 6) (s.2.2.1 7) (s.2.2.1 8) ∧
  fr_fl N (fr_ch N kd wd f0 cs D) (s.1 11) (s.1 12) (s.2.2.1 12) (s.2.2.1 13) (s.2.2.1 14) (s.2.2.1 15) ∧
  fr_ar N (fr_ch N kd wd f0 cs D) (t.2.2.1 8) ∧ s.1 18 = nI D ∧ t.1 8 = nI D ∧ fr_lg N kd wd f0 cs D (s.2.2.1 24) (t.2.2.1 13) ∧
  ∀ q, q < 3 → (t.2.2.1 14 q = 0 ∧ s.2.2.1 25 q = -1) ∨ (N ≠ 0 ∧ t.2.2.1 14 q = 1 ∧ ∃ (ks : Nat → Nat) (E : Nat), s.2.2.1 25 q = nI E ∧ t.2.2.1 15 q = nI E ∧ fr_ar N (fr_ch N kd wd f0 ks E) (fun k => t.2.2.1 16 (26 * q + k)) ∧ fr_lg N kd wd f0 ks E (s.2.2.2 2 q) (fun k => t.2.2.1 17 (1040 * q + k)))
