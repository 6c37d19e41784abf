theorem gg_t1 : ∀ w ∈ tables_1_1, w ∈ lw_tbl := fun w h => List.mem_append_right _ (List.mem_append_left _ h)
theorem gg_t2 : ∀ w ∈ tables_1_2, w ∈ lw_tbl := fun w h => List.mem_append_right _ (List.mem_append_right _ (List.mem_append_left _ h))
theorem gg_t3 : ∀ w ∈ tables_1_3, w ∈ lw_tbl := fun w h => List.mem_append_right _ (List.mem_append_right _ (List.mem_append_right _ (List.mem_append_left _ h)))
theorem gg_t4 : ∀ w ∈ tables_1_4, w ∈ lw_tbl := fun w h => List.mem_append_right _ (List.mem_append_right _ (List.mem_append_right _ (List.mem_append_right _ (List.mem_append_left _ h))))
theorem gg_t5 : ∀ w ∈ tables_1_5, w ∈ lw_tbl := fun w h => List.mem_append_right _ (List.mem_append_right _ (List.mem_append_right _ (List.mem_append_right _ (List.mem_append_right _ (List.mem_append_left _ h)))))
theorem gg_t6 : ∀ w ∈ tables_1_6, w ∈ lw_tbl := fun w h => List.mem_append_right _ (List.mem_append_right _ (List.mem_append_right _ (List.mem_append_right _ (List.mem_append_right _ (List.mem_append_right _ (h))))))
def gg_fuel : Nat := 100000
def gg_chk {β : Type} (b : Bool) (A : Option β) : Option β := match b with
  | true => A
  | false => none
theorem gg_ck {β : Type} {b : Bool} {A : Option β} {x : β} (h : gg_chk b A = some x) : b = true ∧ A = some x := by
  cases b with
  | true => exact ⟨rfl, h⟩
  | false => exact nomatch (show (none : Option β) = some x from h)
theorem gg_th {α : Type} {c : Prop} [hc : Decidable c] {A B x : α} (h : (if c then A else B) = x) (q : c) : A = x := by
  rwa [if_pos q] at h
theorem gg_el {α : Type} {c : Prop} [hc : Decidable c] {A B x : α} (h : (if c then A else B) = x) (q : ¬ c) : B = x := by
  rwa [if_neg q] at h
def gg_lt {γ β : Type} (F : γ) (B : γ → Option β) : Option β := B F
theorem gg_lte {γ β : Type} {F : γ} {B : γ → Option β} {x : Option β} (h : gg_lt F B = x) : ∃ k : γ, k = F ∧ B k = x := ⟨F, rfl, h⟩
theorem gg_bd {α β : Type} {a : Option α} {f : α → Option β} {x : β} (h : a.bind f = some x) : ∃ v, a = some v ∧ f v = some x := by
  cases a with
  | none => cases h
  | some v => exact ⟨v, rfl, h⟩
def gg_up {α : Type} (f : Nat → α) (k : Nat) (v : α) : Nat → α := fun j => if j = k then v else f j
def gg_rf (b s : Nat) : Nat → Option Nat := fun j => some (b + s * j)
def gg_sg (bs : List Nat) (j : Nat) : Nat := if j = 499 then 499 else bs.getD (j / 100) 0 + j % 100
theorem gg_in_lt {i : Int32} {n : Nat} (h : gg_in i n = true) : i.toNatClampNeg < n := Nat.not_le.mp fun q => gg_in_ok h (Or.inr q)
theorem gg_ad (a b r : Nat) : a + (b + 1 * r) = a + b + r := by omega
def gg_k3 {β : Type} (k : Int32) (A B C : Option β) : Option β := if k = 0 then A else if k = 1 then B else if k = 2 then C else none
theorem gg_k3c {β : Type} {k : Int32} {A B C : Option β} {x : β} (h : gg_k3 k A B C = some x) : (k = 0 ∧ A = some x) ∨ (k = 1 ∧ B = some x) ∨ (k = 2 ∧ C = some x) := by
  unfold gg_k3 at h
  split at h
  · exact Or.inl ⟨by assumption, h⟩
  · split at h
    · exact Or.inr (Or.inl ⟨by assumption, h⟩)
    · split at h
      · exact Or.inr (Or.inr ⟨by assumption, h⟩)
      · cases h
theorem gg_nz {α : Type} {y z : α} [Decidable (y = z)] (h : (!decide (y = z)) = true) : ¬ y = z := by
  simpa using h
theorem gg_ne32 {x y : Int32} {n : Int} (h : ¬ x = y) (hy : y.toInt = n) : x.toInt ≠ n := fun q => h (Int32.toInt_inj.mp (q.trans hy.symm))
def gg_mask : List Bool → List (Option Value) → List (Option Value)
  | b :: bs, x :: xs => (match b with
    | true => x
    | false => none) :: gg_mask bs xs
  | _, _ => []
theorem gg_mask_le : ∀ (m : List Bool) (ls : List (Option Value)) (j : Nat) (v : Value), (gg_mask m ls)[j]? = some (some v) → ls[j]? = some (some v)
  | [], ls, j, v, h => by simp [gg_mask] at h
  | b :: bs, [], j, v, h => by simp [gg_mask] at h
  | b :: bs, x :: xs, 0, v, h => by
    cases b with
    | true => exact h
    | false => simp [gg_mask] at h
  | b :: bs, x :: xs, j + 1, v, h => by
    simp only [gg_mask, List.getElem?_cons_succ] at h ⊢
    exact gg_mask_le bs xs j v h
def gg_cpk (sp dp n : Int32) (n0 n1 : Nat) : Bool := decide (0 ≤ sp) && decide (0 ≤ dp) && decide (0 ≤ n) && decide (sp.toNatClampNeg + n.toNatClampNeg ≤ n0) && decide (dp.toNatClampNeg + n.toNatClampNeg ≤ n1)
theorem gg_nlt0 {x : Int32} (h : 0 ≤ x) : ¬ x < 0 := by
  intro q
  rw [Int32.le_iff_toInt_le] at h
  rw [Int32.lt_iff_toInt_lt] at q
  omega
theorem gg_acn : Cond.native arraycopyName ∈ gg_tbl := gg_mem (by decide +kernel) rfl
theorem gg_acs : Cond.static arraycopyName ∈ gg_tbl := gg_mem (by decide +kernel) rfl
theorem gg_aci : Cond.initialized "java/lang/System" ∈ gg_tbl := gg_mem (by decide +kernel) rfl
theorem gg_pick4 {P : Nat → Prop} (h0 : P 0) (h1 : P 1) (h2 : P 2) (h3 : P 3) {t : Nat} (ht : t < 4) : P t := by
  rcases (show t = 0 ∨ t = 1 ∨ t = 2 ∨ t = 3 by omega) with rfl | rfl | rfl | rfl
  · exact h0
  · exact h1
  · exact h2
  · exact h3
theorem gg_rows4 {w : va_W} {q b N : Nat} {M : Nat → Nat → Int32} (h0 : w[q + 0]? = some (b + 0, .inl (0, N, .inl (M 0)))) (h1 : w[q + 1]? = some (b + 1, .inl (0, N, .inl (M 1)))) (h2 : w[q + 2]? = some (b + 2, .inl (0, N, .inl (M 2)))) (h3 : w[q + 3]? = some (b + 3, .inl (0, N, .inl (M 3)))) {t : Nat} (ht : t < 4) : w[q + t]? = some (b + t, .inl (0, N, .inl (M t))) := gg_pick4 (P := fun t => w[q + t]? = some (b + t, .inl (0, N, .inl (M t)))) h0 h1 h2 h3 ht
theorem gg_pick5 {P : Nat → Prop} (h0 : P 0) (h1 : P 1) (h2 : P 2) (h3 : P 3) (h4 : P 4) {t : Nat} (ht : t < 5) : P t := by
  rcases (show t = 0 ∨ t = 1 ∨ t = 2 ∨ t = 3 ∨ t = 4 by omega) with rfl | rfl | rfl | rfl | rfl
  · exact h0
  · exact h1
  · exact h2
  · exact h3
  · exact h4
theorem gg_rows5 {w : va_W} {q b N : Nat} {M : Nat → Nat → Int32} (h0 : w[q + 0]? = some (b + 0, .inl (0, N, .inl (M 0)))) (h1 : w[q + 1]? = some (b + 1, .inl (0, N, .inl (M 1)))) (h2 : w[q + 2]? = some (b + 2, .inl (0, N, .inl (M 2)))) (h3 : w[q + 3]? = some (b + 3, .inl (0, N, .inl (M 3)))) (h4 : w[q + 4]? = some (b + 4, .inl (0, N, .inl (M 4)))) {t : Nat} (ht : t < 5) : w[q + t]? = some (b + t, .inl (0, N, .inl (M t))) := gg_pick5 (P := fun t => w[q + t]? = some (b + t, .inl (0, N, .inl (M t)))) h0 h1 h2 h3 h4 ht
theorem gg_pick6 {P : Nat → Prop} (h0 : P 0) (h1 : P 1) (h2 : P 2) (h3 : P 3) (h4 : P 4) (h5 : P 5) {t : Nat} (ht : t < 6) : P t := by
  rcases (show t = 0 ∨ t = 1 ∨ t = 2 ∨ t = 3 ∨ t = 4 ∨ t = 5 by omega) with rfl | rfl | rfl | rfl | rfl | rfl
  · exact h0
  · exact h1
  · exact h2
  · exact h3
  · exact h4
  · exact h5
theorem gg_rows6 {w : va_W} {q b N : Nat} {M : Nat → Nat → Int32} (h0 : w[q + 0]? = some (b + 0, .inl (0, N, .inl (M 0)))) (h1 : w[q + 1]? = some (b + 1, .inl (0, N, .inl (M 1)))) (h2 : w[q + 2]? = some (b + 2, .inl (0, N, .inl (M 2)))) (h3 : w[q + 3]? = some (b + 3, .inl (0, N, .inl (M 3)))) (h4 : w[q + 4]? = some (b + 4, .inl (0, N, .inl (M 4)))) (h5 : w[q + 5]? = some (b + 5, .inl (0, N, .inl (M 5)))) {t : Nat} (ht : t < 6) : w[q + t]? = some (b + t, .inl (0, N, .inl (M t))) := gg_pick6 (P := fun t => w[q + t]? = some (b + t, .inl (0, N, .inl (M t)))) h0 h1 h2 h3 h4 h5 ht
section GGE
variable {M : gg_M} {pc : Nat} {ls : List (Option Value)} {st : List Value} {w w' : va_W} {r : Option Value}
theorem gg_fg (m : List Bool) (ls2 : List (Option Value)) (h2 : gg_mask m ls = ls2) (kk : gg_G M pc ls2 st w r w') : gg_G M pc ls st w r w' := by
  intro l p e s m2 args below meth c D k A i X H locs arr hP hD hS hl
  subst h2
  exact kk l p e s m2 args below meth c D k A i X H locs arr hP hD hS ⟨hl.1, hl.2.1, fun j v hv => hl.2.2 j v (gg_mask_le m ls j v hv)⟩
theorem gg_acopy {idx a0 a1 n0 n1 : Nat} {f g : Nat → Int32} {sp dp n : Int32} (q0 q1 : Nat) (w2 : va_W) (hd : decode M.2.1 pc = .ok (.invokestatic idx, 3)) (hlk : Cond.methodLink M.1.cls idx arraycopyName ∈ gg_tbl) (hw0 : w[q0]? = some (a0, .inl (0, n0, .inl f))) (hw1 : w[q1]? = some (a1, .inl (0, n1, .inl g))) (hok : gg_cpk sp dp n n0 n1 = true) (h2 : w.set q1 (a1, .inl (0, n1, .inl (va_cpy f g sp.toNatClampNeg dp.toNatClampNeg n.toNatClampNeg))) = w2) (hfr : 1 ≤ (gg_R M).frames) (hlo : (st.map fun v => v.category).sum + (nativeFrameWords "java/lang/System" "arraycopy" 5 + 11) ≤ (gg_R M).locals) (kk : gg_G M (pc + 3) ls st w2 r w') : gg_G M pc ls (.int n :: .int dp :: .ref a1 :: .int sp :: .ref a0 :: st) w r w' := by
  intro l p e s m args below meth c D k A i X H locs arr hP hD hS hl
  subst h2
  unfold gg_cpk at hok
  simp only [Bool.and_eq_true, decide_eq_true_eq] at hok
  obtain ⟨⟨⟨⟨c1, c2⟩, c3⟩, c4⟩, c5⟩ := hok
  have hts := X.2.2.2.2.2.1
  refine va_copyi X.1 X.2.1 (X.2.2.2.1.trans hl.1.symm) X.2.2.2.2.1 (hts _ hlk) (hts _ gg_acn) (hts _ gg_acs) (hts _ gg_aci) X.2.2.2.2.2.2.2.1 hP hD hS q0 q1 0 0 (c0 := k 0) (c1 := k 0) (gg_at (i := i) (k := k) hw0) (gg_at (i := i) (k := k) hw1) rfl rfl rfl (gg_nlt0 c1) (gg_nlt0 c2) (gg_nlt0 c3) c4 c5 (fun _ _ => rfl) hfr ?_ hd (fun H1 locs1 hP1 hD1 hS1 => ?_)
  · rw [List.map_map]
    have e2 : ((fun v : Value => v.category) ∘ gg_v i) = fun v => v.category := funext fun v => gg_cat i v
    rw [e2]
    exact hlo
  · have he2 := gg_set i k w q1 (a1, .inl (0, n1, .inl (va_cpy f g sp.toNatClampNeg dp.toNatClampNeg n.toNatClampNeg)))
    exact kk l p e s m args below meth c D k A i X H1 locs1 arr (by rw [he2]; exact hP1) (by rw [he2]; exact hD1) hS1 hl
end GGE
