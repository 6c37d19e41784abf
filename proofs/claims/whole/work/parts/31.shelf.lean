theorem pu_kn4 {r : Nat} (h : r < 4) : f_X6_knows_s4 (nI r) = some 1 := by
  rcases (show r = 0 ∨ r = 1 ∨ r = 2 ∨ r = 3 by omega) with rfl | rfl | rfl | rfl <;> rfl
theorem pu_kn4o {a : Int32} (h : a < 0 ∨ nI 4 ≤ a) : f_X6_knows_s4 a = some 0 := by
  unfold f_X6_knows_s4
  simp only [gg_lt]
  rcases h with h | h
  · rw [if_pos h]; rfl
  · by_cases h0 : a < 0
    · rw [if_pos h0]; rfl
    · rw [if_neg h0, if_pos (show (4 : Int32) ≤ a from h)]; rfl
theorem pu_isText {r : Nat} (h : r < 4) : f_X9_isText (nI r) = some 1 := by
  rcases (show r = 0 ∨ r = 1 ∨ r = 2 ∨ r = 3 by omega) with rfl | rfl | rfl | rfl <;> rfl
theorem pu_isTextO {a : Int32} (h : a < 0 ∨ nI 4 ≤ a) : f_X9_isText a = some 0 := by
  unfold f_X9_isText
  rw [pu_inO (by
    rcases h with h | h
    · exact Or.inl h
    · right
      rw [Int32.le_iff_toInt_le] at h
      rw [Int32.lt_iff_toInt_lt]
      have h1 : (nI 4).toInt = 4 := nI_toInt (by omega)
      have h2 : (3 : Int32).toInt = 3 := by decide
      omega)]
  rfl
theorem pu_fi1 (l : Int32) (d : Nat → Int32) : f_X8_find 1 l d = some (-3, 1, upd d 1 (d 1 + 1)) := rfl
theorem pu_fi2 (l : Int32) (d : Nat → Int32) : f_X8_find 2 l d = some (-3, 2, upd d 2 (d 2 + 1)) := rfl
theorem pu_fi3 (l : Int32) (d : Nat → Int32) : f_X8_find 3 l d = some (-3, 3, upd d 3 (d 3 + 1)) := rfl
theorem pu_fi4 (l : Int32) (d : Nat → Int32) : f_X8_find 4 l d = some (-3, 4, upd d 4 (d 4 + 1)) := rfl
theorem pu_fi5 (l : Int32) (d : Nat → Int32) : f_X8_find 5 l d = some (-3, 5, upd d 5 (d 5 + 1)) := rfl
theorem pu_me1 (l : Int32) (d : Nat → Int32) : f_X9_meets 1 l d = some (-3, 1, upd d 1 (d 1 + 1)) := rfl
theorem pu_me2 (l : Int32) (d : Nat → Int32) : f_X9_meets 2 l d = some (-3, 2, upd d 2 (d 2 + 1)) := rfl
theorem pu_me3 (l : Int32) (d : Nat → Int32) : f_X9_meets 3 l d = some (-3, 3, upd d 3 (d 3 + 1)) := rfl
theorem pu_me4 (l : Int32) (d : Nat → Int32) : f_X9_meets 4 l d = some (-3, 4, upd d 4 (d 4 + 1)) := rfl
theorem pu_me5 (l : Int32) (d : Nat → Int32) : f_X9_meets 5 l d = some (-3, 5, upd d 5 (d 5 + 1)) := rfl
theorem pu_up {f g : Nat → Int32} (h : ∀ j, j < 6 → f j = g j) {k : Nat} (hk : k < 6) : ∀ j, j < 6 → upd f k (f k + 1) j = upd g k (g k + 1) j := by
  intro j hj
  by_cases q : j = k
  · subst q
    rw [pk_us, pk_us, h j hj]
  · rw [pk_un q, pk_un q, h j hj]
theorem pu_m1 {n : Nat} (h : n < 2 ^ 31) : ¬ nI n = -1 := by
  intro q
  have h1 := congrArg Int32.toInt q
  rw [nI_toInt h] at h1
  have h2 : (-1 : Int32).toInt = -1 := by decide
  omega
theorem pu_m1n {n : Nat} (h : n < 2 ^ 31) : (0 : Int32) ≤ nI n := nI_pos' h
theorem pu_lt1 {a : Int32} {n : Nat} (hn : n < 2 ^ 31) (h0 : ¬ a < 0) (h1 : ¬ nI n ≤ a) : ∃ j, j < n ∧ a = nI j := by
  rcases pu_ix a n hn with (q | q) | q
  · exact absurd q h0
  · exact absurd q h1
  · exact q
theorem pu_pred {a : Int32} {n : Nat} (hn : n < 2 ^ 30) : (nI n - 1 < a) ↔ nI n ≤ a := by
  have h1 : (nI n - nI 1).toInt = (n : Int) - 1 := pk_sub_toInt (by omega) (by omega)
  rw [Int32.lt_iff_toInt_lt, Int32.le_iff_toInt_le, show (1 : Int32) = nI 1 from rfl, h1, nI_toInt (by omega)]
  omega
theorem pu_has6a {r : Nat} (h : r < 6) {z : Nat → Int32} (hz : z r = -1) : f_X6_has_s6 (nI r) z = some 0 := by
  unfold f_X6_has_s6
  rw [pu_kn6 h, pu_in h (by omega), nI_clamp (by omega), hz]
  rfl
theorem pu_has6b {r : Nat} (h : r < 6) {z : Nat → Int32} (hz : ¬ z r = -1) : f_X6_has_s6 (nI r) z = some 1 := by
  unfold f_X6_has_s6
  rw [pu_kn6 h, pu_in h (by omega), nI_clamp (by omega)]
  simp only [gg_lt, Option.bind_some, gg_chk]
  rw [if_neg (by decide), if_neg hz]
  rfl
theorem pu_ho6a {r : Nat} (h : r < 6) {z : Nat → Int32} {a : Int32} (ha : a < 0 ∨ z r ≤ a) : f_X6_holds_s6 (nI r) a z = some 0 := by
  unfold f_X6_holds_s6
  rw [pu_kn6 h, pu_in h (by omega), nI_clamp (by omega)]
  simp only [gg_lt, Option.bind_some, gg_chk]
  rw [if_neg (by decide)]
  by_cases q : a < 0
  · rw [if_pos q]; rfl
  · rw [if_neg q, if_pos (ha.resolve_left q)]; rfl
theorem pu_ho6b {r : Nat} (h : r < 6) {z : Nat → Int32} {a : Int32} (h0 : ¬ a < 0) (h1 : ¬ z r ≤ a) : f_X6_holds_s6 (nI r) a z = some 1 := by
  unfold f_X6_holds_s6
  rw [pu_kn6 h, pu_in h (by omega), nI_clamp (by omega)]
  simp only [gg_lt, Option.bind_some, gg_chk]
  rw [if_neg (by decide), if_neg h0, if_neg h1]
  rfl
theorem pu_rm6o {a : Int32} (h : a < 0 ∨ nI 6 ≤ a) (l : Int32) (d z : Nat → Int32) : f_X8_refusedMissing_s6 a l d z = some (-1, l, d) := by
  unfold f_X8_refusedMissing_s6
  rw [pu_kn6o h]
  rfl
theorem pu_rm6a {r : Nat} (h : r < 6) (l : Int32) (d : Nat → Int32) {z : Nat → Int32} (hz : z r = -1) : f_X8_refusedMissing_s6 (nI r) l d z = some (-3, 1, upd d 1 (d 1 + 1)) := by
  unfold f_X8_refusedMissing_s6
  rw [pu_kn6 h, pu_has6a h hz]
  rfl
theorem pu_rm6b {r : Nat} (h : r < 6) (l : Int32) (d : Nat → Int32) {z : Nat → Int32} (hz : ¬ z r = -1) : f_X8_refusedMissing_s6 (nI r) l d z = some (0, l, d) := by
  unfold f_X8_refusedMissing_s6
  rw [pu_kn6 h, pu_has6b h hz]
  rfl
theorem pu_rp6o {a : Int32} (h : a < 0 ∨ nI 6 ≤ a) (b l : Int32) (d z : Nat → Int32) : f_X8_refusedPlace_s6 a b l d z = some (-1, l, d) := by
  unfold f_X8_refusedPlace_s6
  rw [pu_rm6o h]
  rfl
theorem pu_rp6a {r : Nat} (h : r < 6) (b l : Int32) (d : Nat → Int32) {z : Nat → Int32} (hz : z r = -1) : f_X8_refusedPlace_s6 (nI r) b l d z = some (-3, 1, upd d 1 (d 1 + 1)) := by
  unfold f_X8_refusedPlace_s6
  rw [pu_rm6a h l d hz]
  rfl
theorem pu_rp6b {r : Nat} (h : r < 6) (b l : Int32) (d : Nat → Int32) {z : Nat → Int32} (hz : ¬ z r = -1) (hb : b < 0 ∨ z r ≤ b) : f_X8_refusedPlace_s6 (nI r) b l d z = some (-3, 2, upd d 2 (d 2 + 1)) := by
  unfold f_X8_refusedPlace_s6
  rw [pu_rm6b h l d hz, pu_ho6a h hb]
  rfl
theorem pu_rp6c {r : Nat} (h : r < 6) (b l : Int32) (d : Nat → Int32) {z : Nat → Int32} (hz : ¬ z r = -1) (h0 : ¬ b < 0) (h1 : ¬ z r ≤ b) : f_X8_refusedPlace_s6 (nI r) b l d z = some (0, l, d) := by
  unfold f_X8_refusedPlace_s6
  rw [pu_rm6b h l d hz, pu_ho6b h h0 h1]
  rfl
theorem pu_get6 {r i n : Nat} (h : r < 6) (hn : n ≤ 40) (hi : i < n) {z : Nat → Int32} {M : Nat → Nat → Int32} (hz : z r = nI n) : f_X6_get_s6 (nI r) (nI i) z M = some (M r i) := by
  unfold f_X6_get_s6
  rw [pu_ho6b h (nI_pos (by omega)) (by rw [hz]; exact nI_ge hi (by omega)), pu_in h (by omega), pu_in (show i < 40 by omega) (by omega), nI_clamp (by omega), nI_clamp (by omega)]
  rfl
theorem pu_set6 {r i n : Nat} (h : r < 6) (hn : n ≤ 40) (hi : i < n) {z : Nat → Int32} {M : Nat → Nat → Int32} (hz : z r = nI n) (x : Int32) : f_X6_set_s6 (nI r) (nI i) x z M = some (gg_up M r (upd (M r) i x)) := by
  unfold f_X6_set_s6
  rw [pu_ho6b h (nI_pos (by omega)) (by rw [hz]; exact nI_ge hi (by omega)), pu_in h (by omega), pu_in (show i < 40 by omega) (by omega), nI_clamp (by omega), nI_clamp (by omega)]
  rfl
theorem pu_size6 {r : Nat} (h : r < 6) (z : Nat → Int32) : f_X6_size_s6 (nI r) z = some (z r) := by
  unfold f_X6_size_s6
  rw [pu_kn6 h, pu_in h (by omega), nI_clamp (by omega)]
  rfl
theorem pu_has4a {r : Nat} (h : r < 4) {z : Nat → Int32} (hz : z r = -1) : f_X6_has_s4 (nI r) z = some 0 := by
  unfold f_X6_has_s4
  rw [pu_kn4 h, pu_in h (by omega), nI_clamp (by omega), hz]
  rfl
theorem pu_has4b {r : Nat} (h : r < 4) {z : Nat → Int32} (hz : ¬ z r = -1) : f_X6_has_s4 (nI r) z = some 1 := by
  unfold f_X6_has_s4
  rw [pu_kn4 h, pu_in h (by omega), nI_clamp (by omega)]
  simp only [gg_lt, Option.bind_some, gg_chk]
  rw [if_neg (by decide), if_neg hz]
  rfl
theorem pu_ho4a {r : Nat} (h : r < 4) {z : Nat → Int32} {a : Int32} (ha : a < 0 ∨ z r ≤ a) : f_X6_holds_s4 (nI r) a z = some 0 := by
  unfold f_X6_holds_s4
  rw [pu_kn4 h, pu_in h (by omega), nI_clamp (by omega)]
  simp only [gg_lt, Option.bind_some, gg_chk]
  rw [if_neg (by decide)]
  by_cases q : a < 0
  · rw [if_pos q]; rfl
  · rw [if_neg q, if_pos (ha.resolve_left q)]; rfl
theorem pu_ho4b {r : Nat} (h : r < 4) {z : Nat → Int32} {a : Int32} (h0 : ¬ a < 0) (h1 : ¬ z r ≤ a) : f_X6_holds_s4 (nI r) a z = some 1 := by
  unfold f_X6_holds_s4
  rw [pu_kn4 h, pu_in h (by omega), nI_clamp (by omega)]
  simp only [gg_lt, Option.bind_some, gg_chk]
  rw [if_neg (by decide), if_neg h0, if_neg h1]
  rfl
theorem pu_rm4o {a : Int32} (h : a < 0 ∨ nI 4 ≤ a) (l : Int32) (d z : Nat → Int32) : f_X8_refusedMissing_s4 a l d z = some (-1, l, d) := by
  unfold f_X8_refusedMissing_s4
  rw [pu_kn4o h]
  rfl
theorem pu_rm4a {r : Nat} (h : r < 4) (l : Int32) (d : Nat → Int32) {z : Nat → Int32} (hz : z r = -1) : f_X8_refusedMissing_s4 (nI r) l d z = some (-3, 1, upd d 1 (d 1 + 1)) := by
  unfold f_X8_refusedMissing_s4
  rw [pu_kn4 h, pu_has4a h hz]
  rfl
theorem pu_rm4b {r : Nat} (h : r < 4) (l : Int32) (d : Nat → Int32) {z : Nat → Int32} (hz : ¬ z r = -1) : f_X8_refusedMissing_s4 (nI r) l d z = some (0, l, d) := by
  unfold f_X8_refusedMissing_s4
  rw [pu_kn4 h, pu_has4b h hz]
  rfl
theorem pu_rp4o {a : Int32} (h : a < 0 ∨ nI 4 ≤ a) (b l : Int32) (d z : Nat → Int32) : f_X8_refusedPlace_s4 a b l d z = some (-1, l, d) := by
  unfold f_X8_refusedPlace_s4
  rw [pu_rm4o h]
  rfl
theorem pu_rp4a {r : Nat} (h : r < 4) (b l : Int32) (d : Nat → Int32) {z : Nat → Int32} (hz : z r = -1) : f_X8_refusedPlace_s4 (nI r) b l d z = some (-3, 1, upd d 1 (d 1 + 1)) := by
  unfold f_X8_refusedPlace_s4
  rw [pu_rm4a h l d hz]
  rfl
theorem pu_rp4b {r : Nat} (h : r < 4) (b l : Int32) (d : Nat → Int32) {z : Nat → Int32} (hz : ¬ z r = -1) (hb : b < 0 ∨ z r ≤ b) : f_X8_refusedPlace_s4 (nI r) b l d z = some (-3, 2, upd d 2 (d 2 + 1)) := by
  unfold f_X8_refusedPlace_s4
  rw [pu_rm4b h l d hz, pu_ho4a h hb]
  rfl
theorem pu_rp4c {r : Nat} (h : r < 4) (b l : Int32) (d : Nat → Int32) {z : Nat → Int32} (hz : ¬ z r = -1) (h0 : ¬ b < 0) (h1 : ¬ z r ≤ b) : f_X8_refusedPlace_s4 (nI r) b l d z = some (0, l, d) := by
  unfold f_X8_refusedPlace_s4
  rw [pu_rm4b h l d hz, pu_ho4b h h0 h1]
  rfl
theorem pu_get4 {r i n : Nat} (h : r < 4) (hn : n ≤ 60) (hi : i < n) {z : Nat → Int32} {M : Nat → Nat → Int32} (hz : z r = nI n) : f_X6_get_s4 (nI r) (nI i) z M = some (M r i) := by
  unfold f_X6_get_s4
  rw [pu_ho4b h (nI_pos (by omega)) (by rw [hz]; exact nI_ge hi (by omega)), pu_in h (by omega), pu_in (show i < 60 by omega) (by omega), nI_clamp (by omega), nI_clamp (by omega)]
  rfl
theorem pu_set4 {r i n : Nat} (h : r < 4) (hn : n ≤ 60) (hi : i < n) {z : Nat → Int32} {M : Nat → Nat → Int32} (hz : z r = nI n) (x : Int32) : f_X6_set_s4 (nI r) (nI i) x z M = some (gg_up M r (upd (M r) i x)) := by
  unfold f_X6_set_s4
  rw [pu_ho4b h (nI_pos (by omega)) (by rw [hz]; exact nI_ge hi (by omega)), pu_in h (by omega), pu_in (show i < 60 by omega) (by omega), nI_clamp (by omega), nI_clamp (by omega)]
  rfl
theorem pu_size4 {r : Nat} (h : r < 4) (z : Nat → Int32) : f_X6_size_s4 (nI r) z = some (z r) := by
  unfold f_X6_size_s4
  rw [pu_kn4 h, pu_in h (by omega), nI_clamp (by omega)]
  rfl
theorem pu_rowAt {r i : Nat} (h : r < 6) (hi : i < 40) (g : Nat → Int32) : f_X9_rowAt (nI r) (nI i) g = some (g (40 * r + i)) := by
  unfold f_X9_rowAt
  rw [show (40 : Int32) = nI 40 from rfl, pk_mul, nI_add, pu_in (show 40 * r + i < 240 by omega) (by omega), nI_clamp (by omega)]
  rfl
theorem pu_ce_up {many most : Nat} {z : Nat → Int32} {f : Nat → Nat → Int32} {g : Nat → Int32} (h : rl_ce many most z f g) {r i : Nat} (hi : i < most) (x : Int32) : rl_ce many most z (gg_up f r (upd (f r) i x)) (upd g (most * r + i) x) := by
  intro r' i' hr hi' hz
  by_cases q : r' = r
  · subst q
    show (if r' = r' then upd (f r') i x else f r') i' = _
    rw [if_pos rfl]
    by_cases q2 : i' = i
    · subst q2
      rw [pk_us, pk_us]
    · rw [pk_un q2, pk_un (by omega)]
      exact h r' i' hr hi' hz
  · show (if r' = r then upd (f r) i x else f r') i' = _
    rw [if_neg q, pk_un ?_]
    · exact h r' i' hr hi' hz
    · intro e
      apply q
      have h1 : (most * r' + i') / most = r' := by rw [Nat.mul_add_div (by omega), Nat.div_eq_of_lt hi']; rfl
      have h2 : (most * r + i) / most = r := by rw [Nat.mul_add_div (by omega), Nat.div_eq_of_lt hi]; rfl
      rw [← h1, ← h2, e]
theorem pu_ce_z {many most : Nat} {z : Nat → Int32} {f : Nat → Nat → Int32} {g : Nat → Int32} (hm : most ≤ 60) (h : rl_ce many most z f g) (r : Nat) : rl_ce many most (upd z r (-1)) f g := by
  intro r' i' hr hi' hz
  by_cases q : r' = r
  · subst q
    rw [pk_us] at hz
    exfalso
    rw [Int32.lt_iff_toInt_lt] at hz
    have h2 : (-1 : Int32).toInt = -1 := by decide
    rw [nI_toInt (by omega)] at hz
    omega
  · rw [pk_un q] at hz
    exact h r' i' hr hi' hz
