def gg_in (i : Int32) (n : Nat) : Bool := decide (0 ≤ i) && decide (i.toNatClampNeg < n)
theorem gg_in_ok {i : Int32} {n : Nat} (h : gg_in i n = true) : vp_in i n := by
  unfold gg_in at h
  simp only [Bool.and_eq_true, decide_eq_true_eq] at h
  rintro (q | q)
  · have h1 := h.1
    rw [Int32.le_iff_toInt_le] at h1
    rw [Int32.lt_iff_toInt_lt] at q
    omega
  · omega
def gg_isb (x : Int32) : Bool := decide (x = 0) || decide (x = 1)
theorem gg_isb_ok {x : Int32} (h : gg_isb x = true) : narrow .boolean (.int x) = .int x := by
  unfold gg_isb at h
  simp only [Bool.or_eq_true, decide_eq_true_eq] at h
  rcases h with rfl | rfl <;> rfl
section GGH
variable {M : gg_M} {pc : Nat} {ls : List (Option Value)} {st : List Value} {w w' : va_W} {r : Option Value}
theorem gg_get {idx ci kf a : Nat} {fin : Bool} {ty : FieldType} {fs : List Value} {v : Value} (q : Nat) (hf : gg_F M.1.cls idx ci kf fin ty) (hd : decode M.2.1 pc = .ok (.getfield idx, 3)) (hw : w[q]? = some (a, .inr (ci, fs))) (hv : fs[kf]? = some v) (kk : gg_G M (pc + 3) ls (v :: st) w r w') : gg_G M pc ls (.ref a :: st) w r w' := by
  intro l p e s m args below meth c D k A i X H locs arr hP hD hS hl
  obtain ⟨C, T, N, ty0, hc, hk, hin, hty, hnm, hlk, hfin, hty2⟩ := hf
  have he := gg_at (i := i) (k := k) hw
  refine va_get X.1 X.2.1 X.2.2.2.2.2.1 hin X.2.2.2.2.1 X.2.2.2.2.2.2.2.1 hP q (fs := fs.map (gg_v i)) he hc kf hk (X.2.2.2.2.2.1 _ hlk) (fun _ h => h) (v := gg_v i v) (by rw [List.getElem?_map, hv]; rfl) hd ?_
  exact kk l p e s m args below meth c D k A i X H locs arr hP hD hS hl
theorem gg_putf {idx ci kf a : Nat} {ty : FieldType} {fs : List Value} {v : Value} (q : Nat) (w2 : va_W) (hf : gg_F M.1.cls idx ci kf false ty) (hd : decode M.2.1 pc = .ok (.putfield idx, 3)) (hw : w[q]? = some (a, .inr (ci, fs))) (hkl : kf < fs.length) (hnf : ∀ i, narrow ty (gg_v i v) = gg_v i v ∧ fits ty (gg_v i v) = true) (h2 : w.set q (a, .inr (ci, fs.set kf v)) = w2) (kk : gg_G M (pc + 3) ls st w2 r w') : gg_G M pc ls (v :: .ref a :: st) w r w' := by
  intro l p e s m args below meth c D k A i X H locs arr hP hD hS hl
  subst h2
  obtain ⟨C, T, N, ty0, hc, hk, hin, hty, hnm, hlk, hfin, hty2⟩ := hf
  have he := gg_at (i := i) (k := k) hw
  have ht2 : parseFieldDescriptor (T kf).2.2.1 = some ty := by rw [hty kf hk, hty2]
  refine va_put X.1 X.2.1 X.2.2.2.2.2.1 hin ty0 hty hnm X.2.2.2.2.1 X.2.2.2.2.2.2.2.1 hP hD hS q (fs := fs.map (gg_v i)) he hc kf hk (X.2.2.2.2.2.1 _ hlk) (fun _ h => h) hfin ht2 (hnf i).1 (hnf i).2 (by rw [List.length_map]; exact hkl) hd (fun H1 locs1 hP1 hD1 hS1 => ?_)
  have he2 : gg_w i k (w.set q (a, .inr (ci, fs.set kf v))) = (gg_w i k w).set q (i a, .inr (ci, (fs.map (gg_v i)).set kf (gg_v i v))) := by
    rw [gg_set]
    show List.set _ q (i a, Sum.inr (ci, (fs.set kf v).map (gg_v i))) = _
    rw [List.map_set]
  exact kk l p e s m args below meth c D k A i X H1 locs1 arr (by rw [he2]; exact hP1) (by rw [he2]; exact hD1) hS1 hl
theorem gg_iald {a n : Nat} {f : Nat → Int32} {j : Int32} (q : Nat) (hd : decode M.2.1 pc = .ok (.iaload, 1)) (hw : w[q]? = some (a, .inl (0, n, .inl f))) (hj : gg_in j n = true) (kk : gg_G M (pc + 1) ls (.int (f j.toNatClampNeg) :: st) w r w') : gg_G M pc ls (.int j :: .ref a :: st) w r w' := by
  intro l p e s m args below meth c D k A i X H locs arr hP hD hS hl
  exact va_iald X.1 X.2.1 X.2.2.2.2.2.2.2.1 hP q 0 (cA := k 0) (gg_at (i := i) (k := k) hw) rfl (gg_in_ok hj) hd (kk l p e s m args below meth c D k A i X H locs arr hP hD hS hl)
theorem gg_bald {a n : Nat} {f : Nat → Int32} {j : Int32} (q : Nat) (hd : decode M.2.1 pc = .ok (.baload, 1)) (hw : w[q]? = some (a, .inl (1, n, .inl f))) (hj : gg_in j n = true) (kk : gg_G M (pc + 1) ls (.int (f j.toNatClampNeg) :: st) w r w') : gg_G M pc ls (.int j :: .ref a :: st) w r w' := by
  intro l p e s m args below meth c D k A i X H locs arr hP hD hS hl
  exact va_bald X.1 X.2.1 X.2.2.2.2.2.2.2.1 hP q 1 (cA := k 1) (gg_at (i := i) (k := k) hw) rfl (gg_in_ok hj) hd (kk l p e s m args below meth c D k A i X H locs arr hP hD hS hl)
theorem gg_zald {a n : Nat} {f : Nat → Int32} {j : Int32} (q : Nat) (hd : decode M.2.1 pc = .ok (.baload, 1)) (hw : w[q]? = some (a, .inl (2, n, .inl f))) (hj : gg_in j n = true) (kk : gg_G M (pc + 1) ls (.int (f j.toNatClampNeg) :: st) w r w') : gg_G M pc ls (.int j :: .ref a :: st) w r w' := by
  intro l p e s m args below meth c D k A i X H locs arr hP hD hS hl
  exact va_zald X.1 X.2.1 X.2.2.2.2.2.2.2.1 hP q 2 (cA := k 2) (gg_at (i := i) (k := k) hw) rfl (gg_in_ok hj) hd (kk l p e s m args below meth c D k A i X H locs arr hP hD hS hl)
theorem gg_iast {a n : Nat} {f : Nat → Int32} {j x : Int32} (q : Nat) (w2 : va_W) (hd : decode M.2.1 pc = .ok (.iastore, 1)) (hw : w[q]? = some (a, .inl (0, n, .inl f))) (hj : gg_in j n = true) (h2 : w.set q (a, .inl (0, n, .inl (upd f j.toNatClampNeg x))) = w2) (kk : gg_G M (pc + 1) ls st w2 r w') : gg_G M pc ls (.int x :: .int j :: .ref a :: st) w r w' := by
  intro l p e s m args below meth c D k A i X H locs arr hP hD hS hl
  subst h2
  refine va_iast X.1 X.2.1 X.2.2.2.2.2.2.2.1 hP hD hS q 0 (cA := k 0) (gg_at (i := i) (k := k) hw) rfl (gg_in_ok hj) hd (fun H1 locs1 hP1 hD1 hS1 => ?_)
  have he2 := gg_set i k w q (a, .inl (0, n, .inl (upd f j.toNatClampNeg x)))
  exact kk l p e s m args below meth c D k A i X H1 locs1 arr (by rw [he2]; exact hP1) (by rw [he2]; exact hD1) hS1 hl
theorem gg_bast {a n : Nat} {f : Nat → Int32} {j x : Int32} (q : Nat) (w2 : va_W) (hd : decode M.2.1 pc = .ok (.bastore, 1)) (hw : w[q]? = some (a, .inl (1, n, .inl f))) (hj : gg_in j n = true) (h2 : w.set q (a, .inl (1, n, .inl (upd f j.toNatClampNeg (vp_nar .byte x)))) = w2) (kk : gg_G M (pc + 1) ls st w2 r w') : gg_G M pc ls (.int x :: .int j :: .ref a :: st) w r w' := by
  intro l p e s m args below meth c D k A i X H locs arr hP hD hS hl
  subst h2
  refine va_bast X.1 X.2.1 X.2.2.2.2.2.2.2.1 hP hD hS q 1 (cA := k 1) (gg_at (i := i) (k := k) hw) rfl (gg_in_ok hj) hd (fun H1 locs1 hP1 hD1 hS1 => ?_)
  have he2 := gg_set i k w q (a, .inl (1, n, .inl (upd f j.toNatClampNeg (vp_nar .byte x))))
  exact kk l p e s m args below meth c D k A i X H1 locs1 arr (by rw [he2]; exact hP1) (by rw [he2]; exact hD1) hS1 hl
theorem gg_zast {a n : Nat} {f : Nat → Int32} {j x : Int32} (q : Nat) (w2 : va_W) (hd : decode M.2.1 pc = .ok (.bastore, 1)) (hw : w[q]? = some (a, .inl (2, n, .inl f))) (hj : gg_in j n = true) (h2 : w.set q (a, .inl (2, n, .inl (upd f j.toNatClampNeg (vp_nar .boolean x)))) = w2) (kk : gg_G M (pc + 1) ls st w2 r w') : gg_G M pc ls (.int x :: .int j :: .ref a :: st) w r w' := by
  intro l p e s m args below meth c D k A i X H locs arr hP hD hS hl
  subst h2
  refine va_zast X.1 X.2.1 X.2.2.2.2.2.2.2.1 hP hD hS q 2 (cA := k 2) (gg_at (i := i) (k := k) hw) rfl (gg_in_ok hj) hd (fun H1 locs1 hP1 hD1 hS1 => ?_)
  have he2 := gg_set i k w q (a, .inl (2, n, .inl (upd f j.toNatClampNeg (vp_nar .boolean x))))
  exact kk l p e s m args below meth c D k A i X H1 locs1 arr (by rw [he2]; exact hP1) (by rw [he2]; exact hD1) hS1 hl
theorem gg_alen {a t n : Nat} {x : (Nat → Int32) ⊕ (Nat → Int64) ⊕ (Nat → UInt32) ⊕ (Nat → UInt64) ⊕ (Nat → Option Nat)} (v : Int32) (q : Nat) (hd : decode M.2.1 pc = .ok (.arraylength, 1)) (hw : w[q]? = some (a, .inl (t, n, x))) (ht : t < 5) (hv : Int32.ofNat n = v) (kk : gg_G M (pc + 1) ls (.int v :: st) w r w') : gg_G M pc ls (.ref a :: st) w r w' := by
  intro l p e s m args below meth c D k A i X H locs arr hP hD hS hl
  have hty : ∃ ty, (gg_tys k)[t]? = some (k t, ty) := by
    rcases (show t = 0 ∨ t = 1 ∨ t = 2 ∨ t = 3 ∨ t = 4 by omega) with rfl | rfl | rfl | rfl | rfl <;> exact ⟨_, rfl⟩
  obtain ⟨ty, hty⟩ := hty
  have hn : (gg_a i a (n, x)).1 = n := by
    rcases x with x | x | x | x | x <;> rfl
  exact va_alen X.1 X.2.1 X.2.2.2.2.2.2.2.1 hP q t (cA := k t) (x := gg_a i a (n, x)) (gg_at (i := i) (k := k) hw) hty (by rw [hn]; exact hv) hd (kk l p e s m args below meth c D k A i X H locs arr hP hD hS hl)
theorem gg_aldq {a n d : Nat} {f : Nat → Option Nat} {j : Int32} (q b : Nat) (hd : decode M.2.1 pc = .ok (.aaload, 1)) (hw : w[q]? = some (a, .inl (3, n, .inr (.inr (.inr (.inr f)))))) (hj : gg_in j n = true) (hb : f j.toNatClampNeg = some d) (hb2 : a + d = b) (kk : gg_G M (pc + 1) ls (.ref b :: st) w r w') : gg_G M pc ls (.int j :: .ref a :: st) w r w' := by
  intro l p e s m args below meth c D k A i X H locs arr hP hD hS hl
  have hin := gg_in_ok hj
  have hlt : j.toNatClampNeg < n := Nat.not_le.mp fun q => hin (Or.inr q)
  refine va_aldq X.1 X.2.1 X.2.2.2.2.2.2.2.1 hP q 3 (cA := k 3) (f := fun j => if j < n then (f j).map (fun d => i (a + d)) else none) (gg_at (i := i) (k := k) hw) rfl hin hd ?_
  show W _ _ _ _ _ _ _ _ _ _ _ _ _ _ _ (F0 m (pc + 1) arr (va_rf (if j.toNatClampNeg < n then (f j.toNatClampNeg).map (fun d => i (a + d)) else none) :: st.map (gg_v i)))
  rw [if_pos hlt, hb, ← hb2] at *
  exact kk l p e s m args below meth c D k A i X H locs arr hP hD hS hl
theorem gg_aldA {a n d : Nat} {f : Nat → Option Nat} {j : Int32} (q b : Nat) (hd : decode M.2.1 pc = .ok (.aaload, 1)) (hw : w[q]? = some (a, .inl (4, n, .inr (.inr (.inr (.inr f)))))) (hj : gg_in j n = true) (hb : f j.toNatClampNeg = some d) (hb2 : a + d = b) (kk : gg_G M (pc + 1) ls (.ref b :: st) w r w') : gg_G M pc ls (.int j :: .ref a :: st) w r w' := by
  intro l p e s m args below meth c D k A i X H locs arr hP hD hS hl
  have hin := gg_in_ok hj
  have hlt : j.toNatClampNeg < n := Nat.not_le.mp fun q => hin (Or.inr q)
  refine W.aald (v := va_rf (if j.toNatClampNeg < n then (f j.toNatClampNeg).map (fun d => i (a + d)) else none)) (ty := .array .int) X.1 X.2.1 (hP q _ (gg_at (i := i) (k := k) hw)) ((X.2.2.2.2.2.2.2.1.2 4 (k 4, .array .int) rfl).1 n (fun j => va_rf (if j < n then (f j).map (fun d => i (a + d)) else none))) rfl (fun q => by cases q) (by show ¬ (j < 0 ∨ (arrV (k 4) n (fun j => va_rf (if j < n then (f j).map (fun d => i (a + d)) else none))).slots.size ≤ _); rw [arrV_size]; exact hin) (by show (arrV (k 4) n (fun j => va_rf (if j < n then (f j).map (fun d => i (a + d)) else none))).slots[_]? = _; rw [arrV_read _ _ hlt]) rfl rfl hd ?_
  rw [if_pos hlt, hb, ← hb2] at *
  exact kk l p e s m args below meth c D k A i X H locs arr hP hD hS hl
theorem gg_getL {idx : Nat} (hd : decode M.2.1 pc = .ok (.getstatic idx, 3)) (hlk : Cond.fieldLink M.1.cls idx "HutFlock$Kind" "LETTERS" "[I" ∈ gg_tbl) (kk : gg_G M (pc + 3) ls (.ref 499 :: st) w r w') : gg_G M pc ls st w r w' := by
  intro l p e s m args below meth c D k A i X H locs arr hP hD hS hl
  exact va_gets X.1 X.2.1 X.2.2.2.2.2.2.2.2.2.1 hS X.2.2.2.2.1 (X.2.2.2.2.2.1 _ hlk) (fun _ h => h) hd (kk l p e s m args below meth c D k A i X H locs arr hP hD hS hl)
theorem gg_lenL (hd : decode M.2.1 pc = .ok (.arraylength, 1)) (kk : gg_G M (pc + 1) ls (.int 6 :: st) w r w') : gg_G M pc ls (.ref 499 :: st) w r w' := by
  intro l p e s m args below meth c D k A i X H locs arr hP hD hS hl
  exact va_tlen X.1 X.2.1 X.2.2.2.2.2.2.2.2.2.2 hS rfl hd (kk l p e s m args below meth c D k A i X H locs arr hP hD hS hl)
theorem gg_aldL {j : Int32} (hd : decode M.2.1 pc = .ok (.iaload, 1)) (hj : gg_in j 6 = true) (kk : gg_G M (pc + 1) ls (.int (gg_let j.toNatClampNeg) :: st) w r w') : gg_G M pc ls (.int j :: .ref 499 :: st) w r w' := by
  intro l p e s m args below meth c D k A i X H locs arr hP hD hS hl
  exact va_ti X.1 X.2.1 X.2.2.2.2.2.2.2.2.2.2 hS (gg_in_ok hj) rfl hd (kk l p e s m args below meth c D k A i X H locs arr hP hD hS hl)
theorem gg_iret {x : Int32} (hd : decode M.2.1 pc = .ok (.ireturn, 1)) (hr : M.2.2.2.1 = some .int) : gg_G M pc ls [.int x] w (some (.int x)) w := by
  intro l p e s m args below meth c D k A i X H locs arr hP hD hS hl
  exact W.iret X.1 X.2.1 (X.2.2.1.trans hr) (fun t ht _ => ⟨⟨rfl, by rw [ht]; exact hP, hD⟩, hS.F ht⟩) hS.2.2 hd (hlocks := X.2.2.2.2.2.2.1)
theorem gg_zret {x : Int32} (hd : decode M.2.1 pc = .ok (.ireturn, 1)) (hr : M.2.2.2.1 = some .boolean) (hb : gg_isb x = true) : gg_G M pc ls [.int x] w (some (.int x)) w := by
  intro l p e s m args below meth c D k A i X H locs arr hP hD hS hl
  exact W.zret X.1 X.2.1 (X.2.2.1.trans hr) (gg_isb_ok hb) (fun t ht _ => ⟨⟨rfl, by rw [ht]; exact hP, hD⟩, hS.F ht⟩) hS.2.2 hd (hlocks := X.2.2.2.2.2.2.1)
theorem gg_lret {x : Int64} (hd : decode M.2.1 pc = .ok (.lreturn, 1)) (hr : M.2.2.2.1 = some .long) : gg_G M pc ls [.long x] w (some (.long x)) w := by
  intro l p e s m args below meth c D k A i X H locs arr hP hD hS hl
  exact W.lret X.1 X.2.1 (X.2.2.1.trans hr) (fun t ht _ => ⟨⟨rfl, by rw [ht]; exact hP, hD⟩, hS.F ht⟩) hS.2.2 hd (hlocks := X.2.2.2.2.2.2.1)
theorem gg_vret (hd : decode M.2.1 pc = .ok (.return_, 1)) (hr : M.2.2.2.1 = none) : gg_G M pc ls [] w none w := by
  intro l p e s m args below meth c D k A i X H locs arr hP hD hS hl
  exact W.vret X.1 X.2.1 (X.2.2.1.trans hr) (fun t ht _ => ⟨⟨rfl, by rw [ht]; exact hP, hD⟩, hS.F ht⟩) hS.2.2 hd (hlocks := X.2.2.2.2.2.2.1)
end GGH
