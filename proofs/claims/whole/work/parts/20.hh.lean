theorem hh_AOA_mv {t : FieldType} {u U : State} (hvm : u.vm.Alike U.vm) (h : va_AOA t u) : va_AOA t U := by
  have hi : ∀ comp : ClassId, (U.vm.classes.findIdx? fun (x : Class) => match x.kind with | .array component _ => component == comp | _ => false) = (u.vm.classes.findIdx? fun (x : Class) => match x.kind with | .array component _ => component == comp | _ => false) := by
    intro comp
    have h1 := va_idx_bare U.vm comp
    have h2 := va_idx_bare u.vm comp
    first
      | (rw [hvm.bare_eq] at h1; exact h1.symm.trans h2)
      | (rw [← hvm.bare_eq] at h1; exact h1.symm.trans h2)
  unfold va_AOA Cond.before Cond.holds at h ⊢
  simp only [Cond.value] at h ⊢
  simp only [hvm.findClass]
  revert h
  cases hf : u.vm.findClass (FieldType.array t).toString with
  | none => intro h; simp at h
  | some comp =>
    simp only [Option.bind_some]
    intro h
    have hj := hi comp
    generalize hg : (u.vm.classes.findIdx? fun (x : Class) => match x.kind with | .array component _ => component == comp | _ => false) = o at *
    cases o with
    | none => simp at h
    | some c =>
      refine (congrArg (fun z : Option Nat => (z.bind (fun c => (U.vm.classes[c]?).map fun (k : Class) => match k.kind with | .array _ ty => decide (ty = FieldType.array t) && decide (u.vm.findClass ("[" ++ (FieldType.array t).toString) = some c) | _ => false) == some true)) hj).trans ?_
      simp only [Option.bind_some] at h ⊢
      cases hk : u.vm.classes[c]? with
      | none => rw [hk] at h; simp at h
      | some kk =>
        obtain ⟨k', hk', he⟩ := hvm.2.2 _ _ hk
        rw [hk] at h
        rw [hk']
        simp only [Option.map_some] at h ⊢
        rw [he]
        exact h
def hh_N (U : State) : Prop := va_Nw (.methodLinkNest "HutFlock" 23 yX5_init "HutFlock") U ∧ va_Nw (.methodLinkNest "HutFlock" 30 yX2_init "HutFlock") U ∧ va_Nw (.methodLinkNest "HutFlock" 56 yX7_init "HutFlock") U ∧ va_Nw (.methodLinkNest "HutFlock" 63 yX0_init "HutFlock") U ∧ va_Nw (.methodLinkNest "HutFlock" 70 yX1_init "HutFlock") U
def hh_O (U : State) : Prop := va_AOA .int U ∧ va_AO "HutFlock$Log" U ∧ hh_N U
theorem hh_O_mv {s U : State} (hW : s.WarmedH U.vm) (h : hh_O s) : hh_O U := ⟨hh_AOA_mv hW.alike h.1, va_AO.moved hW.alike h.2.1, va_Nw.warmM hW h.2.2.1, va_Nw.warmM hW h.2.2.2.1, va_Nw.warmM hW h.2.2.2.2.1, va_Nw.warmM hW h.2.2.2.2.2.1, va_Nw.warmM hW h.2.2.2.2.2.2⟩
theorem hh_O_sm {s U : State} (hv : s.vm = U.vm) (h : hh_O s) : hh_O U := by
  have ha : s.vm.Alike U.vm := by rw [hv]; exact Vm.Alike.refl U.vm
  exact ⟨hh_AOA_mv ha h.1, va_AO.moved ha h.2.1, va_Nw.same rfl hv h.2.2.1, va_Nw.same rfl hv h.2.2.2.1, va_Nw.same rfl hv h.2.2.2.2.1, va_Nw.same rfl hv h.2.2.2.2.2.1, va_Nw.same rfl hv h.2.2.2.2.2.2⟩
def hh_R (M : gg_M) (mc ms : Nat) : Room := { frames := M.2.2.2.2.1, cells := mc, slots := ms, locals := M.2.2.2.2.2 }
def hh_X (p : Program) (s : State) (m : MethodId) (args : Array Value) (meth : Method) (c : Code) (M : gg_M) (D : va_G) (k : Nat → Nat) (A : Nat → Prop) : Prop :=
  p.tables.exec = Jvm.exec ∧ c.code = M.2.1 ∧ meth.sig.returnType = M.2.2.2.1 ∧ c.maxLocals = M.2.2.1 ∧ s.vm.findClass M.1.cls = some m.cls ∧ (∀ w ∈ gg_tbl, w.before args s = true) ∧ meth.locks = false ∧ va_K D vwCl (gg_tys k) s ∧ (∀ q, s.heap.size ≤ q → A q) ∧ meth.name = "<init>" ∧ hh_O s
def hh_Q (D : va_G) (k : Nat → Nat) (A : Nat → Prop) (i : Nat → Nat) (ns : List Nat) (w' : va_W) : Array Value → State → Outcome → State → Prop := fun _ st oc t => (∃ i1 : Nat → Nat, (∀ j, j ∉ ns → i1 j = i j) ∧ oc = .returned none ∧ va_P D vwCl (gg_w i1 k w') t.heap ∧ va_D A (gg_w i1 k w')) ∧ va_F A st t
def hh_G (M : gg_M) (mc ms : Nat) (ns : List Nat) (pc : Nat) (ls : List (Option Value)) (st : List Value) (w : va_W) (u v : Nat) (w' : va_W) : Prop :=
  ∀ (l : Launch) (p : Program) (e : Env) (s : State) (m : MethodId) (args : Array Value) (below : List Frame) (meth : Method) (c : Code) (D : va_G) (k : Nat → Nat) (A : Nat → Prop) (i0 : Nat → Nat), hh_X p s m args meth c M D k A →
  ∀ (i : Nat → Nat) (H : Heap) (locs : List Loc) (arr : Array Slot), (∀ j, j ∉ ns → i j = i0 j) → va_P D vwCl (gg_w i k w) H → va_D A (gg_w i k w) → va_S A s.heap H locs → gg_l i arr M.2.2.1 ls →
  W p l e (hh_R M mc ms) s m args below meth c H locs u v (MQ below (hh_Q D k A i0 ns w') args s mc ms A) (F0 m pc arr (st.map (gg_v i)))
def hh_C (M : gg_M) (mc ms : Nat) (ns : List Nat) (as : List Value) (w w' : va_W) : Prop := ∀ (l : Launch) (D : va_G) (k i : Nat → Nat) (sz : Nat),
  Met l M.1 (Cond.code M.1 M.2.1 M.2.2.1 M.2.2.2.1 :: gg_tbl) (hh_R M mc ms) (va_Pc (as.map (gg_v i)) (fun U => U.heap.size = sz ∧ va_P D vwCl (gg_w i k w) U.heap ∧ va_K D vwCl (gg_tys k) U ∧ va_D (fun _ => True) (gg_w i k w) ∧ hh_O U))
    (hh_Q D k (va_A (gg_w i k w) sz) i ns w') mc ms (va_A (gg_w i k w) sz)
def hh_fv (ns : List Nat) : Value → Bool
  | .ref k => !ns.contains k
  | _ => true
def hh_fe (ns : List Nat) (b : Nat) : va_E → Bool
  | .inl (_, N, .inr (.inr (.inr (.inr f)))) => (List.range N).all (fun a => match f a with
    | some d => !ns.contains (b + d)
    | none => true)
  | .inl _ => true
  | .inr (_, fs) => fs.all (hh_fv ns)
def hh_fw (ns : List Nat) : va_W → Bool
  | [] => true
  | (b, e) :: w => !ns.contains b && hh_fe ns b e && hh_fw ns w
def hh_fl (ns : List Nat) : List (Option Value) → Bool
  | [] => true
  | none :: l => hh_fl ns l
  | some v :: l => hh_fv ns v && hh_fl ns l
theorem hh_cv {ns : List Nat} {i i1 : Nat → Nat} (h : ∀ j, j ∉ ns → i1 j = i j) {v : Value} (hv : hh_fv ns v = true) : gg_v i1 v = gg_v i v := by
  cases v with
  | ref k =>
    show Value.ref (i1 k) = Value.ref (i k)
    rw [h k (by simpa [hh_fv] using hv)]
  | _ => rfl
theorem hh_cs {ns : List Nat} {i i1 : Nat → Nat} (h : ∀ j, j ∉ ns → i1 j = i j) {st : List Value} (hv : st.all (hh_fv ns) = true) : st.map (gg_v i1) = st.map (gg_v i) := by
  apply List.map_congr_left
  intro v hm
  exact hh_cv h (List.all_eq_true.mp hv v hm)
theorem hh_ce {ns : List Nat} {i i1 k : Nat → Nat} (h : ∀ j, j ∉ ns → i1 j = i j) {b : Nat} {e : va_E} (hv : hh_fe ns b e = true) : gg_c i1 k b e = gg_c i k b e := by
  rcases e with ⟨t, n, a⟩ | ⟨ci, fs⟩
  · rcases a with a | a | a | a | a
    · rfl
    · rfl
    · rfl
    · rfl
    · show Sum.inl (k t, n, _) = Sum.inl (k t, n, _)
      have e2 : (fun x => if x < n then (a x).map (fun d => i1 (b + d)) else none) = (fun x => if x < n then (a x).map (fun d => i (b + d)) else none) := by
        funext x
        by_cases hx : x < n
        · rw [if_pos hx, if_pos hx]
          have h1 := List.all_eq_true.mp hv x (List.mem_range.mpr hx)
          cases ha : a x with
          | none => rfl
          | some d =>
            rw [ha] at h1
            have h2 : b + d ∉ ns := by simpa using h1
            show some (i1 (b + d)) = some (i (b + d))
            rw [h _ h2]
        · rw [if_neg hx, if_neg hx]
      rw [e2]
  · show Sum.inr (ci, fs.map (gg_v i1)) = Sum.inr (ci, fs.map (gg_v i))
    rw [hh_cs h hv]
theorem hh_cw {ns : List Nat} {i i1 k : Nat → Nat} (h : ∀ j, j ∉ ns → i1 j = i j) : ∀ {w : va_W}, hh_fw ns w = true → gg_w i1 k w = gg_w i k w
  | [], _ => rfl
  | (b, e) :: w, hv => by
    have h2 : (!ns.contains b && hh_fe ns b e && hh_fw ns w) = true := hv
    simp only [Bool.and_eq_true] at h2
    show (i1 b, gg_c i1 k b e) :: gg_w i1 k w = (i b, gg_c i k b e) :: gg_w i k w
    rw [hh_cw h h2.2, hh_ce h h2.1.2, h b (by simpa using h2.1.1)]
theorem hh_cl {ns : List Nat} {i i1 : Nat → Nat} (h : ∀ j, j ∉ ns → i1 j = i j) : ∀ {ls : List (Option Value)}, hh_fl ns ls = true → ∀ (j : Nat) (v : Value), ls[j]? = some (some v) → gg_v i1 v = gg_v i v
  | [], _, j, v, hj => by simp at hj
  | none :: l, hv, j, v, hj => by
    cases j with
    | zero => simp at hj
    | succ j => exact hh_cl h (ls := l) hv j v (by simpa using hj)
  | some x :: l, hv, j, v, hj => by
    have h2 : (hh_fv ns x && hh_fl ns l) = true := hv
    rw [Bool.and_eq_true] at h2
    cases j with
    | zero =>
      simp at hj
      subst hj
      exact hh_cv h h2.1
    | succ j => exact hh_cl h (ls := l) h2.2 j v (by simpa using hj)
theorem hh_lv {ns : List Nat} {i i1 : Nat → Nat} {arr : Array Slot} {nL : Nat} {ls : List (Option Value)} (h : ∀ j, j ∉ ns → i1 j = i j) (hv : hh_fl ns ls = true) (hl : gg_l i arr nL ls) : gg_l i1 arr nL ls :=
  ⟨hl.1, hl.2.1, fun j v hj => by rw [hh_cl h hv j v hj]; exact hl.2.2 j v hj⟩
theorem hh_app (i k : Nat → Nat) (w x : va_W) : gg_w i k (w ++ x) = gg_w i k w ++ gg_w i k x := by
  unfold gg_w
  rw [List.map_append]
def hh_F (own : String) (idx ci kf : Nat) (ty : FieldType) : Prop := ∃ (C : String) (T : u_T) (N : Nat) (ty0 : Nat → FieldType), vwCl[ci]? = some (C, T, N) ∧ kf < N ∧ (∀ w ∈ u_ws C T N, w ∈ gg_tbl) ∧ (∀ k, k < N → parseFieldDescriptor (T k).2.2.1 = some (ty0 k)) ∧ (∀ a, a < N → ∀ b, b < N → a ≠ b → (T a).2.1 ≠ (T b).2.1) ∧ Cond.fieldLink own idx (T kf).1 (T kf).2.1 (T kf).2.2.1 ∈ gg_tbl ∧ (T kf).2.2.2 = true ∧ ty0 kf = ty ∧ (T kf).1 = own
section HHR
variable {M : gg_M} {mc ms : Nat} {ns : List Nat} {pc : Nat} {ls : List (Option Value)} {st : List Value} {w w' : va_W} {u v : Nat}
theorem hh_iconst {n : Int} (x : Int32) (hd : decode M.2.1 pc = .ok (.iconst n, 1)) (hv : Int32.ofInt n = x) (kk : hh_G M mc ms ns (pc + 1) ls (.int x :: st) w u v w') : hh_G M mc ms ns pc ls (st) w u v w' := by
  intro l p e s m args below meth c D k A i0 X i H locs arr hi hP hD hS hl
  exact lv_iconst X.1 X.2.1 hd hv (kk l p e s m args below meth c D k A i0 X i H locs arr hi hP hD hS hl)
theorem hh_bipush {n : Int} (x : Int32) (hd : decode M.2.1 pc = .ok (.bipush n, 2)) (hv : (Int8.ofInt n).toInt32 = x) (kk : hh_G M mc ms ns (pc + 2) ls (.int x :: st) w u v w') : hh_G M mc ms ns pc ls (st) w u v w' := by
  intro l p e s m args below meth c D k A i0 X i H locs arr hi hP hD hS hl
  exact lv_bipush X.1 X.2.1 hd hv (kk l p e s m args below meth c D k A i0 X i H locs arr hi hP hD hS hl)
theorem hh_sipush {n : Int} (x : Int32) (hd : decode M.2.1 pc = .ok (.sipush n, 3)) (hv : (Int16.ofInt n).toInt32 = x) (kk : hh_G M mc ms ns (pc + 3) ls (.int x :: st) w u v w') : hh_G M mc ms ns pc ls (st) w u v w' := by
  intro l p e s m args below meth c D k A i0 X i H locs arr hi hP hD hS hl
  exact lv_sipush X.1 X.2.1 hd hv (kk l p e s m args below meth c D k A i0 X i H locs arr hi hP hD hS hl)
theorem hh_lconst {n : Fin 2} (x : Int64) (hd : decode M.2.1 pc = .ok (.lconst n, 1)) (hv : Int64.ofNat (n : Nat) = x) (kk : hh_G M mc ms ns (pc + 1) ls (.long x :: st) w u v w') : hh_G M mc ms ns pc ls (st) w u v w' := by
  intro l p e s m args below meth c D k A i0 X i H locs arr hi hP hD hS hl
  exact lv_lconst X.1 X.2.1 hd hv (kk l p e s m args below meth c D k A i0 X i H locs arr hi hP hD hS hl)
theorem hh_iload_n {b : Fin 4} {x : Int32} (hd : decode M.2.1 pc = .ok (.iload_n b, 1)) (hv : ls[(b : Nat)]? = some (some (.int x))) (kk : hh_G M mc ms ns (pc + 1) ls (.int x :: st) w u v w') : hh_G M mc ms ns pc ls st w u v w' := by
  intro l p e s m args below meth c D k A i0 X i H locs arr hi hP hD hS hl
  exact lv_iload_n X.1 X.2.1 hd rfl (hl.2.2 _ _ hv) (kk l p e s m args below meth c D k A i0 X i H locs arr hi hP hD hS hl)
theorem hh_aload_n {b : Fin 4} {x : Nat} (hd : decode M.2.1 pc = .ok (.aload_n b, 1)) (hv : ls[(b : Nat)]? = some (some (.ref x))) (kk : hh_G M mc ms ns (pc + 1) ls (.ref x :: st) w u v w') : hh_G M mc ms ns pc ls st w u v w' := by
  intro l p e s m args below meth c D k A i0 X i H locs arr hi hP hD hS hl
  exact lv_aload_n X.1 X.2.1 hd rfl (hl.2.2 _ _ hv) (kk l p e s m args below meth c D k A i0 X i H locs arr hi hP hD hS hl)
theorem hh_dup {a : Value} (hd : decode M.2.1 pc = .ok (.dup, 1)) (ha : a.category = 1) (kk : hh_G M mc ms ns (pc + 1) ls (a :: a :: st) w u v w') : hh_G M mc ms ns pc ls (a :: st) w u v w' := by
  intro l p e s m args below meth c D k A i0 X i H locs arr hi hP hD hS hl
  exact lv_dup X.1 X.2.1 hd (by rw [gg_cat]; exact ha) (kk l p e s m args below meth c D k A i0 X i H locs arr hi hP hD hS hl)
theorem hh_goto {off : Int} (tgt : Nat) (hd : decode M.2.1 pc = .ok (.goto off, 3)) (ht : (pc : Int) + off = (tgt : Int)) (kk : hh_G M mc ms ns tgt ls st w u v w') : hh_G M mc ms ns pc ls st w u v w' := by
  intro l p e s m args below meth c D k A i0 X i H locs arr hi hP hD hS hl
  exact lv_goto X.1 X.2.1 hd ht (kk l p e s m args below meth c D k A i0 X i H locs arr hi hP hD hS hl)
theorem hh_geT {x y : Int32} {off : Int} (tgt : Nat) (hd : decode M.2.1 pc = .ok (.if_icmp .ge off, 3)) (ht : (pc : Int) + off = (tgt : Int)) (hc : y ≤ x) (kk : hh_G M mc ms ns tgt ls st w u v w') : hh_G M mc ms ns pc ls (.int y :: .int x :: st) w u v w' := by
  intro l p e s m args below meth c D k A i0 X i H locs arr hi hP hD hS hl
  exact lv_icmp_ge X.1 X.2.1 hd ht (fun _ => kk l p e s m args below meth c D k A i0 X i H locs arr hi hP hD hS hl) (fun q => absurd hc q)
theorem hh_geF {x y : Int32} {off : Int} (tgt : Nat) (hd : decode M.2.1 pc = .ok (.if_icmp .ge off, 3)) (ht : (pc : Int) + off = (tgt : Int)) (hc : ¬ y ≤ x) (kk : hh_G M mc ms ns (pc + 3) ls st w u v w') : hh_G M mc ms ns pc ls (.int y :: .int x :: st) w u v w' := by
  intro l p e s m args below meth c D k A i0 X i H locs arr hi hP hD hS hl
  exact lv_icmp_ge X.1 X.2.1 hd ht (fun q => absurd q hc) (fun _ => kk l p e s m args below meth c D k A i0 X i H locs arr hi hP hD hS hl)
theorem hh_istore_n {b : Fin 4} {x : Int32} (ls2 : List (Option Value)) (hd : decode M.2.1 pc = .ok (.istore_n b, 1)) (hlow : gg_low ls (b : Nat) = true) (hn : (b : Nat) < M.2.2.1) (h2 : ls.set (b : Nat) (some (.int x)) = ls2) (kk : hh_G M mc ms ns (pc + 1) ls2 st w u v w') : hh_G M mc ms ns pc ls (.int x :: st) w u v w' := by
  intro l p e s m args below meth c D k A i0 X i H locs arr hi hP hD hS hl
  subst h2
  exact lv_istore_n X.1 X.2.1 hd rfl (gg_lp_has hl) hn rfl (fun ls' hl' => kk l p e s m args below meth c D k A i0 X i H locs ls' hi hP hD hS (gg_st1 hlow hl'))
theorem hh_iinc {j : Nat} {n : Int} {x : Int32} (y : Int32) (ls2 : List (Option Value)) (hd : decode M.2.1 pc = .ok (.iinc j n, 3)) (hv : ls[j]? = some (some (.int x))) (hx : x + Int32.ofInt n = y) (hlow : gg_low ls j = true) (hn : j < M.2.2.1) (h2 : ls.set j (some (.int y)) = ls2) (kk : hh_G M mc ms ns (pc + 3) ls2 st w u v w') : hh_G M mc ms ns pc ls st w u v w' := by
  intro l p e s m args below meth c D k A i0 X i H locs arr hi hP hD hS hl
  subst h2
  obtain ⟨q, hq⟩ := List.getElem?_of_mem (gg_lp_mem (i := i) (ls := ls) (q := (j, .int x)) |>.mpr ⟨.int x, hv, rfl⟩)
  exact lv_iinc X.1 X.2.1 hd (gg_lp_has hl) hq hx hn rfl (fun ls' hl' => kk l p e s m args below meth c D k A i0 X i H locs ls' hi hP hD hS (gg_st1 (x := .int y) hlow hl'))
theorem hh_get {idx ci kf a : Nat} {fin : Bool} {ty : FieldType} {fs : List Value} {x : Value} (q : Nat) (hf : gg_F M.1.cls idx ci kf fin ty) (hd : decode M.2.1 pc = .ok (.getfield idx, 3)) (hw : w[q]? = some (a, .inr (ci, fs))) (hv : fs[kf]? = some x) (kk : hh_G M mc ms ns (pc + 3) ls (x :: st) w u v w') : hh_G M mc ms ns pc ls (.ref a :: st) w u v w' := by
  intro l p e s m args below meth c D k A i0 X i H locs arr hi hP hD hS hl
  obtain ⟨C, T, N, ty0, hc, hk, hin, hty, hnm, hlk, hfin, hty2⟩ := hf
  have he := gg_at (i := i) (k := k) hw
  refine va_get X.1 X.2.1 X.2.2.2.2.2.1 hin X.2.2.2.2.1 X.2.2.2.2.2.2.2.1 hP q (fs := fs.map (gg_v i)) he hc kf hk (X.2.2.2.2.2.1 _ hlk) (fun _ h => h) (v := gg_v i x) (by rw [List.getElem?_map, hv]; rfl) hd ?_
  exact kk l p e s m args below meth c D k A i0 X i H locs arr hi hP hD hS hl
theorem hh_putf {idx ci kf a : Nat} {ty : FieldType} {fs : List Value} {x : Value} (q : Nat) (w2 : va_W) (hf : gg_F M.1.cls idx ci kf false ty) (hd : decode M.2.1 pc = .ok (.putfield idx, 3)) (hw : w[q]? = some (a, .inr (ci, fs))) (hkl : kf < fs.length) (hnf : ∀ i, narrow ty (gg_v i x) = gg_v i x ∧ fits ty (gg_v i x) = true) (h2 : w.set q (a, .inr (ci, fs.set kf x)) = w2) (kk : hh_G M mc ms ns (pc + 3) ls st w2 u v w') : hh_G M mc ms ns pc ls (x :: .ref a :: st) w u v w' := by
  intro l p e s m args below meth c D k A i0 X i H locs arr hi hP hD hS hl
  subst h2
  obtain ⟨C, T, N, ty0, hc, hk, hin, hty, hnm, hlk, hfin, hty2⟩ := hf
  have he := gg_at (i := i) (k := k) hw
  have ht2 : parseFieldDescriptor (T kf).2.2.1 = some ty := by rw [hty kf hk, hty2]
  refine va_put X.1 X.2.1 X.2.2.2.2.2.1 hin ty0 hty hnm X.2.2.2.2.1 X.2.2.2.2.2.2.2.1 hP hD hS q (fs := fs.map (gg_v i)) he hc kf hk (X.2.2.2.2.2.1 _ hlk) (fun _ h => h) hfin ht2 (hnf i).1 (hnf i).2 (by rw [List.length_map]; exact hkl) hd (fun H1 locs1 hP1 hD1 hS1 => ?_)
  have he2 : gg_w i k (w.set q (a, .inr (ci, fs.set kf x))) = (gg_w i k w).set q (i a, .inr (ci, (fs.map (gg_v i)).set kf (gg_v i x))) := by
    rw [gg_set]
    show List.set _ q (i a, Sum.inr (ci, (fs.set kf x).map (gg_v i))) = _
    rw [List.map_set]
  exact kk l p e s m args below meth c D k A i0 X i H1 locs1 arr hi (by rw [he2]; exact hP1) (by rw [he2]; exact hD1) hS1 hl
theorem hh_putF {idx ci kf a : Nat} {ty : FieldType} {fs : List Value} {x : Value} (q : Nat) (w2 : va_W) (hf : hh_F M.1.cls idx ci kf ty) (hd : decode M.2.1 pc = .ok (.putfield idx, 3)) (hw : w[q]? = some (a, .inr (ci, fs))) (hkl : kf < fs.length) (hnf : ∀ i, narrow ty (gg_v i x) = gg_v i x ∧ fits ty (gg_v i x) = true) (h2 : w.set q (a, .inr (ci, fs.set kf x)) = w2) (kk : hh_G M mc ms ns (pc + 3) ls st w2 u v w') : hh_G M mc ms ns pc ls (x :: .ref a :: st) w u v w' := by
  intro l p e s m args below meth c D k A i0 X i H locs arr hi hP hD hS hl
  subst h2
  obtain ⟨C, T, N, ty0, hc, hk, hin, hty, hnm, hlk, hfin, hty2, hdecl⟩ := hf
  have he := gg_at (i := i) (k := k) hw
  have ht2 : parseFieldDescriptor (T kf).2.2.1 = some ty := by rw [hty kf hk, hty2]
  refine va_putF X.1 X.2.1 X.2.2.2.2.2.1 hin ty0 hty hnm X.2.2.2.2.1 X.2.2.2.2.2.2.2.1 hP hD hS q (fs := fs.map (gg_v i)) he hc kf hk (X.2.2.2.2.2.1 _ hlk) (fun _ h => h) hfin X.2.2.2.2.2.2.2.2.2.1 hdecl ht2 (hnf i).1 (hnf i).2 (by rw [List.length_map]; exact hkl) hd (fun H1 locs1 hP1 hD1 hS1 => ?_)
  have he2 : gg_w i k (w.set q (a, .inr (ci, fs.set kf x))) = (gg_w i k w).set q (i a, .inr (ci, (fs.map (gg_v i)).set kf (gg_v i x))) := by
    rw [gg_set]
    show List.set _ q (i a, Sum.inr (ci, (fs.set kf x).map (gg_v i))) = _
    rw [List.map_set]
  exact kk l p e s m args below meth c D k A i0 X i H1 locs1 arr hi (by rw [he2]; exact hP1) (by rw [he2]; exact hD1) hS1 hl
theorem hh_iast {a n : Nat} {f : Nat → Int32} {j x : Int32} (q : Nat) (w2 : va_W) (hd : decode M.2.1 pc = .ok (.iastore, 1)) (hw : w[q]? = some (a, .inl (0, n, .inl f))) (hj : gg_in j n = true) (h2 : w.set q (a, .inl (0, n, .inl (upd f j.toNatClampNeg x))) = w2) (kk : hh_G M mc ms ns (pc + 1) ls st w2 u v w') : hh_G M mc ms ns pc ls (.int x :: .int j :: .ref a :: st) w u v w' := by
  intro l p e s m args below meth c D k A i0 X i H locs arr hi hP hD hS hl
  subst h2
  refine va_iast X.1 X.2.1 X.2.2.2.2.2.2.2.1 hP hD hS q 0 (cA := k 0) (gg_at (i := i) (k := k) hw) rfl (gg_in_ok hj) hd (fun H1 locs1 hP1 hD1 hS1 => ?_)
  have he2 := gg_set i k w q (a, .inl (0, n, .inl (upd f j.toNatClampNeg x)))
  exact kk l p e s m args below meth c D k A i0 X i H1 locs1 arr hi (by rw [he2]; exact hP1) (by rw [he2]; exact hD1) hS1 hl
theorem hh_objInit {idx a : Nat} (hd : decode M.2.1 pc = .ok (.invokespecial idx, 3)) (hlk : Cond.methodLink M.1.cls idx objectInit ∈ gg_tbl) (hin : Cond.instanceMethod objectInit ∈ gg_tbl) (hcd : Cond.code objectInit ⟨#[0xb1]⟩ 1 none ∈ gg_tbl) (hfr : 1 ≤ M.2.2.2.2.1) (hlo : (st.map fun v => v.category).sum + 12 ≤ M.2.2.2.2.2) (kk : hh_G M mc ms ns (pc + 3) ls st w u v w') : hh_G M mc ms ns pc ls (.ref a :: st) w u v w' := by
  intro l p e s m args below meth c D k A i0 X i H locs arr hi hP hD hS hl
  have hts := X.2.2.2.2.2.1
  refine W.objInit X.1 X.2.1 X.2.2.2.2.1 (hts _ hlk) (hts _ hin) (hts _ hcd) rfl (hl.1.trans X.2.2.2.1.symm) rfl hd hfr ?_ (kk l p e s m args below meth c D k A i0 X i H locs arr hi hP hD hS hl)
  rw [List.map_map]
  have e2 : ((fun v : Value => v.category) ∘ gg_v i) = fun v => v.category := funext fun v => gg_cat i v
  rw [e2]
  show 2 * 0 + _ + 12 ≤ M.2.2.2.2.2
  omega
theorem hh_vret (hd : decode M.2.1 pc = .ok (.return_, 1)) (hr : M.2.2.2.1 = none) (hu : u ≤ mc) (hv : v ≤ ms) : hh_G M mc ms ns pc ls [] w u v w := by
  intro l p e s m args below meth c D k A i0 X i H locs arr hi hP hD hS hl
  refine W.widen hu hv ?_
  exact W.vret X.1 X.2.1 (X.2.2.1.trans hr) (fun t ht _ => ⟨⟨i, hi, rfl, by rw [ht]; exact hP, hD⟩, hS.F ht⟩) hS.2.2 hd (hlocks := X.2.2.2.2.2.2.1)
theorem hh_newa {ty : FieldType} {at0 : ArrayType} {n : Int32} (t nid N : Nat) (hd : decode M.2.1 pc = .ok (.newarray at0, 2)) (hty : newarray.typeOf at0 = ty) (hac : Cond.arrayClass (newarray.typeOf at0) ∈ gg_tbl) (ht : ∀ k : Nat → Nat, (gg_tys k)[t]? = some (k t, ty)) (hra : ∀ (s : State) (c1 c2 : ClassId), va_RA s c1 ty → va_RA s c2 ty → c1 = c2) (hdv : ∀ cA : ClassId, vp_cell cA (N, .inl (fun _ => 0)) = arrV cA N (fun _ => defaultValue ty)) (hn : ¬ n < 0) (hN : n.toNatClampNeg = N) (hbt : N * componentBytes ty ≤ 536870912) (hu : u + 1 ≤ mc) (hv : v + N ≤ ms) (hns : nid ∈ ns) (hfw : hh_fw [nid] w = true) (hfl : hh_fl [nid] ls = true) (hfs : st.all (hh_fv [nid]) = true) (w2 : va_W) (h2 : w ++ [(nid, .inl (t, N, .inl (fun _ => 0)))] = w2) (kk : hh_G M mc ms ns (pc + 2) ls (.ref nid :: st) w2 (u + 1) (v + N) w') : hh_G M mc ms ns pc ls (.int n :: st) w u v w' := by
  intro l p e s m args below meth c D k A i0 X i H locs arr hi hP hD hS hl
  subst h2
  refine va_newa X.1 X.2.1 (X.2.2.2.2.2.1 _ hac) hty X.2.2.2.2.2.2.2.1 hP hD hS X.2.2.2.2.2.2.2.2.1 hdv hn hN hbt hu hv hd (fun q cA H1 hK1 hP1 hD1 hS1 => ?_)
  have hcA : cA = k t := by
    have h1 := (hK1.2 5 (cA, ty) (by simp [gg_tys])).2
    have h3 := (X.2.2.2.2.2.2.2.1.2 t _ (ht k)).2
    exact hra s _ _ h1 h3
  subst hcA
  have hi1 : ∀ j, j ∉ [nid] → (fun j => if j = nid then q else i j) j = i j := fun j hj => if_neg (by simpa using hj)
  have ew : gg_w (fun j => if j = nid then q else i j) k (w ++ [(nid, .inl (t, N, .inl (fun _ => 0)))]) = gg_w i k w ++ [(q, .inl (k t, N, .inl (fun _ => 0)))] := by
    rw [hh_app, hh_cw hi1 hfw]
    show _ ++ [((if nid = nid then q else i nid), _)] = _
    rw [if_pos rfl]
    rfl
  have es := hh_cs hi1 hfs
  have e1 : (Value.ref q :: st.map (gg_v i)) = ((.ref nid :: st) : List Value).map (gg_v (fun j => if j = nid then q else i j)) := by
    rw [List.map_cons, es]
    show _ = Value.ref (if nid = nid then q else i nid) :: _
    rw [if_pos rfl]
  rw [e1]
  exact kk l p e s m args below meth c D k A i0 X (fun j => if j = nid then q else i j) H1 locs arr (fun j hj => (hi1 j (by intro h; simp at h; subst h; exact hj hns)).trans (hi j hj)) (by rw [ew]; exact hP1) (by rw [ew]; exact hD1) hS1 (hh_lv hi1 hfl hl)
theorem hh_new {idx ci N : Nat} {C : String} {T : u_T} {fs : List Value} (nid : Nat) (ty0 : Nat → FieldType) (hd : decode M.2.1 pc = .ok (.new idx, 3)) (hc : vwCl[ci]? = some (C, T, N)) (hin : ∀ w ∈ u_ws C T N, w ∈ gg_tbl) (hty : ∀ k, k < N → parseFieldDescriptor (T k).2.2.1 = some (ty0 k)) (hcl : Cond.classLink M.1.cls idx C ∈ gg_tbl) (hins : Cond.instantiable C N ∈ gg_tbl) (hini : Cond.initialized C ∈ gg_tbl) (hdf : ∀ i j, j < N → defaultValue (ty0 j) = vp_V (fs.map (gg_v i)) j) (hu : u + 1 ≤ mc) (hv : v + N ≤ ms) (hns : nid ∈ ns) (hfw : hh_fw [nid] w = true) (hfl : hh_fl [nid] ls = true) (hfs : st.all (hh_fv [nid]) = true) (hf0 : fs.all (hh_fv [nid]) = true) (w2 : va_W) (h2 : w ++ [(nid, .inr (ci, fs))] = w2) (kk : hh_G M mc ms ns (pc + 3) ls (.ref nid :: st) w2 (u + 1) (v + N) w') : hh_G M mc ms ns pc ls st w u v w' := by
  intro l p e s m args below meth c D k A i0 X i H locs arr hi hP hD hS hl
  subst h2
  have hts := X.2.2.2.2.2.1
  refine va_new X.1 X.2.1 hts hin ty0 hty X.2.2.2.2.1 (hts _ hcl) (hts _ hins) (hts _ hini) X.2.2.2.2.2.2.2.1 hP hD hS X.2.2.2.2.2.2.2.2.1 hc (fs := fs.map (gg_v i)) (hdf i) hu hv hd (fun q H1 hP1 hD1 hS1 => ?_)
  have hi1 : ∀ j, j ∉ [nid] → (fun j => if j = nid then q else i j) j = i j := fun j hj => if_neg (by simpa using hj)
  have ew : gg_w (fun j => if j = nid then q else i j) k (w ++ [(nid, .inr (ci, fs))]) = gg_w i k w ++ [(q, .inr (ci, fs.map (gg_v i)))] := by
    rw [hh_app, hh_cw hi1 hfw]
    show _ ++ [((if nid = nid then q else i nid), Sum.inr (ci, fs.map _))] = _
    rw [if_pos rfl, hh_cs hi1 hf0]
  have es := hh_cs hi1 hfs
  have e1 : (Value.ref q :: st.map (gg_v i)) = ((.ref nid :: st) : List Value).map (gg_v (fun j => if j = nid then q else i j)) := by
    rw [List.map_cons, es]
    show _ = Value.ref (if nid = nid then q else i nid) :: _
    rw [if_pos rfl]
  rw [e1]
  exact kk l p e s m args below meth c D k A i0 X (fun j => if j = nid then q else i j) H1 locs arr (fun j hj => (hi1 j (by intro h; simp at h; subst h; exact hj hns)).trans (hi j hj)) (by rw [ew]; exact hP1) (by rw [ew]; exact hD1) hS1 (hh_lv hi1 hfl hl)
end HHR
