abbrev gg_M : Type := MethodName × ByteArray × Nat × Option FieldType × Nat × Nat
def gg_R (M : gg_M) : Room := { frames := M.2.2.2.2.1, cells := 0, slots := 0, locals := M.2.2.2.2.2 }
def gg_v (i : Nat → Nat) : Value → Value
  | .ref k => .ref (i k)
  | v => v
def gg_a (i : Nat → Nat) (b : Nat) : vp_A → vp_A
  | (n, .inr (.inr (.inr (.inr f)))) => (n, .inr (.inr (.inr (.inr (fun j => if j < n then (f j).map (fun d => i (b + d)) else none)))))
  | a => a
def gg_c (i k : Nat → Nat) (b : Nat) : va_E → va_E
  | .inl (t, a) => .inl (k t, gg_a i b a)
  | .inr (ci, fs) => .inr (ci, fs.map (gg_v i))
def gg_w (i k : Nat → Nat) (w : va_W) : va_W := w.map (fun q => (i q.1, gg_c i k q.1 q.2))
def gg_re (j : Nat → Nat) : va_E → va_E
  | .inl x => .inl x
  | .inr (ci, fs) => .inr (ci, fs.map (gg_v j))
def gg_rn (j : Nat → Nat) : va_W → va_W
  | [] => []
  | (n, e) :: w => (j n, gg_re j e) :: gg_rn j w
theorem gg_rn_eq (j : Nat → Nat) : ∀ w : va_W, gg_rn j w = w.map (fun q => (j q.1, gg_re j q.2))
  | [] => rfl
  | (n, e) :: w => by
    show (j n, gg_re j e) :: gg_rn j w = (j n, gg_re j e) :: w.map (fun q => (j q.1, gg_re j q.2))
    rw [gg_rn_eq j w]
def gg_sok (j : Nat → Nat) (b : Nat) : va_E → Bool
  | .inl (_, n, .inr (.inr (.inr (.inr f)))) => (List.range n).all (fun a => match f a with
    | some d => j (b + d) == j b + d
    | none => true)
  | _ => true
def gg_ok (j : Nat → Nat) : va_W → Bool
  | [] => true
  | (n, e) :: w => gg_sok j n e && gg_ok j w
theorem gg_ok_all (j : Nat → Nat) : ∀ w : va_W, gg_ok j w = true → ∀ q ∈ w, gg_sok j q.1 q.2 = true
  | [], _, q, hq => by cases hq
  | (n, e) :: w, h, q, hq => by
    have h2 : (gg_sok j n e && gg_ok j w) = true := h
    rw [Bool.and_eq_true] at h2
    rcases List.mem_cons.mp hq with rfl | hq
    · exact h2.1
    · exact gg_ok_all j w h2.2 q hq
def gg_l (i : Nat → Nat) (arr : Array Slot) (nL : Nat) (ls : List (Option Value)) : Prop := arr.size = nL ∧ lv_wf arr ∧ ∀ (j : Nat) (v : Value), ls[j]? = some (some v) → arr[j]? = some (.val (gg_v i v))
def gg_tys (k : Nat → Nat) : List (ClassId × FieldType) := [(k 0, .int), (k 1, .byte), (k 2, .boolean), (k 3, .object "HutFlock$Log"), (k 4, .array .int)]
def gg_let (j : Nat) : Int32 := match j with
  | 0 => 104
  | 1 => 112
  | 2 => 108
  | 3 => 103
  | 4 => 99
  | _ => 107
def gg_L (lt : Nat) (A : Nat → Prop) (U : State) : Prop := va_Z "HutFlock$Kind" "LETTERS" "[I" (.ref lt) A U U.heap ∧ va_T .int lt 6 (fun j => .int (gg_let j)) A U U.heap
def gg_X (p : Program) (s : State) (m : MethodId) (args : Array Value) (meth : Method) (c : Code) (M : gg_M) (D : va_G) (k : Nat → Nat) (A : Nat → Prop) (i : Nat → Nat) : Prop :=
  p.tables.exec = Jvm.exec ∧ c.code = M.2.1 ∧ meth.sig.returnType = M.2.2.2.1 ∧ c.maxLocals = M.2.2.1 ∧ s.vm.findClass M.1.cls = some m.cls ∧ (∀ w ∈ gg_tbl, w.before args s = true) ∧ meth.locks = false ∧ va_K D vwCl (gg_tys k) s ∧ (∀ q, s.heap.size ≤ q → A q) ∧ gg_L (i 499) A s
def gg_Q (D : va_G) (k : Nat → Nat) (A : Nat → Prop) (i : Nat → Nat) (r : Option Value) (w' : va_W) : Array Value → State → Outcome → State → Prop := fun _ st oc t => (oc = .returned (r.map (gg_v i)) ∧ va_P D vwCl (gg_w i k w') t.heap ∧ va_D A (gg_w i k w')) ∧ va_F A st t
def gg_G (M : gg_M) (pc : Nat) (ls : List (Option Value)) (st : List Value) (w : va_W) (r : Option Value) (w' : va_W) : Prop :=
  ∀ (l : Launch) (p : Program) (e : Env) (s : State) (m : MethodId) (args : Array Value) (below : List Frame) (meth : Method) (c : Code) (D : va_G) (k : Nat → Nat) (A : Nat → Prop) (i : Nat → Nat), gg_X p s m args meth c M D k A i →
  ∀ (H : Heap) (locs : List Loc) (arr : Array Slot), va_P D vwCl (gg_w i k w) H → va_D A (gg_w i k w) → va_S A s.heap H locs → gg_l i arr M.2.2.1 ls →
  W p l e (gg_R M) s m args below meth c H locs 0 0 (MQ below (gg_Q D k A i r w') args s 0 0 A) (F0 m pc arr (st.map (gg_v i)))
def gg_C (M : gg_M) (as : List Value) (w : va_W) (r : Option Value) (w' : va_W) : Prop := ∀ (l : Launch) (D : va_G) (k i : Nat → Nat) (sz : Nat),
  Met l M.1 (Cond.code M.1 M.2.1 M.2.2.1 M.2.2.2.1 :: gg_tbl) (gg_R M) (va_Pc (as.map (gg_v i)) (fun U => U.heap.size = sz ∧ va_P D vwCl (gg_w i k w) U.heap ∧ va_K D vwCl (gg_tys k) U ∧ va_D (fun _ => True) (gg_w i k w) ∧ gg_L (i 499) (va_A (gg_w i k w) sz) U))
    (gg_Q D k (va_A (gg_w i k w) sz) i r w') 0 0 (va_A (gg_w i k w) sz)
theorem gg_at {i k : Nat → Nat} {w : va_W} {q : Nat} {x : Nat × va_E} (h : w[q]? = some x) : (gg_w i k w)[q]? = some (i x.1, gg_c i k x.1 x.2) := by
  simp [gg_w, h]
theorem gg_set (i k : Nat → Nat) (w : va_W) (q : Nat) (x : Nat × va_E) : gg_w i k (w.set q x) = (gg_w i k w).set q (i x.1, gg_c i k x.1 x.2) := by
  simp [gg_w, List.map_set]
theorem gg_cat (i : Nat → Nat) (v : Value) : (gg_v i v).category = v.category := by cases v <;> rfl
theorem gg_vv (i j : Nat → Nat) (v : Value) : gg_v i (gg_v j v) = gg_v (i ∘ j) v := by cases v <;> rfl
theorem gg_cc (i j k : Nat → Nat) (b : Nat) (e : va_E) (h : gg_sok j b e = true) : gg_c i k (j b) (gg_re j e) = gg_c (i ∘ j) k b e := by
  rcases e with ⟨t, n, a⟩ | ⟨ci, fs⟩
  · rcases a with a | a | a | a | a
    · rfl
    · rfl
    · rfl
    · rfl
    · show Sum.inl (k t, n, _) = Sum.inl (k t, n, _)
      have e2 : (fun x => if x < n then (a x).map (fun d => i (j b + d)) else none) = (fun x => if x < n then (a x).map (fun d => (i ∘ j) (b + d)) else none) := by
        funext x
        by_cases hx : x < n
        · rw [if_pos hx, if_pos hx]
          have h1 := List.all_eq_true.mp h x (List.mem_range.mpr hx)
          cases ha : a x with
          | none => rfl
          | some d =>
            rw [ha] at h1
            have h2 : j (b + d) = j b + d := by simpa using h1
            show some (i (j b + d)) = some (i (j (b + d)))
            rw [h2]
        · rw [if_neg hx, if_neg hx]
      rw [e2]
  · show Sum.inr (ci, (fs.map (gg_v j)).map (gg_v i)) = Sum.inr (ci, fs.map (gg_v (i ∘ j)))
    rw [List.map_map]
    congr 2
    apply List.map_congr_left
    intro v _
    exact gg_vv i j v
theorem gg_ww (i j k : Nat → Nat) (w : va_W) (h : gg_ok j w = true) : gg_w i k (gg_rn j w) = gg_w (i ∘ j) k w := by
  rw [gg_rn_eq]
  unfold gg_w
  rw [List.map_map]
  apply List.map_congr_left
  intro q hq
  show (i (j q.1), gg_c i k (j q.1) (gg_re j q.2)) = _
  rw [gg_cc i j k q.1 q.2 (gg_ok_all j w h q hq)]
  rfl
def gg_sel (w : va_W) : List Nat → List (Option (Nat × va_E))
  | [] => []
  | j :: js => w[j]? :: gg_sel w js
theorem gg_sel_eq (w : va_W) : ∀ js : List Nat, gg_sel w js = js.map (fun j => w[j]?)
  | [] => rfl
  | j :: js => by
    show w[j]? :: gg_sel w js = w[j]? :: js.map (fun j => w[j]?)
    rw [gg_sel_eq w js]
def gg_som : va_W → List (Option (Nat × va_E))
  | [] => []
  | (n, e) :: w => some (n, e) :: gg_som w
theorem gg_som_eq : ∀ w : va_W, gg_som w = w.map some
  | [] => rfl
  | (n, e) :: w => by
    show some (n, e) :: gg_som w = some (n, e) :: w.map some
    rw [gg_som_eq w]
def gg_ids : va_W → List Nat
  | [] => []
  | (n, _) :: w => n :: gg_ids w
theorem gg_ids_eq : ∀ w : va_W, gg_ids w = w.map Prod.fst
  | [] => rfl
  | (n, e) :: w => by
    show n :: gg_ids w = n :: w.map Prod.fst
    rw [gg_ids_eq w]
theorem gg_D_fst {A : Nat → Prop} {ws ws' : va_W} (h : ws'.map Prod.fst = ws.map Prod.fst) (hD : va_D A ws) : va_D A ws' := by
  have key : ∀ (j : Nat) (q : Nat × va_E), ws'[j]? = some q → ∃ q0, ws[j]? = some q0 ∧ q0.1 = q.1 := by
    intro j q hj
    have h1 : (ws'.map Prod.fst)[j]? = some q.1 := by rw [List.getElem?_map, hj]; rfl
    rw [h, List.getElem?_map] at h1
    cases hq : ws[j]? with
    | none => rw [hq] at h1; cases h1
    | some q0 => rw [hq] at h1; exact ⟨q0, rfl, Option.some.inj h1⟩
  refine ⟨fun a b x y ha hb hxy => ?_, fun a q ha => ?_⟩
  · obtain ⟨x0, h1, h2⟩ := key a x ha
    obtain ⟨y0, h3, h4⟩ := key b y hb
    exact hD.1 a b x0 y0 h1 h3 (h2.trans (hxy.trans h4.symm))
  · obtain ⟨q0, h1, h2⟩ := key a q ha
    rw [← h2]
    exact hD.2 a q0 h1
theorem gg_join {A0 : Nat → Prop} {D : va_G} {cl : List vw_C} {ws ws2 wc w1 : va_W} {isC isR : List Nat} {H H1 : Heap} (hP : va_P D cl ws H) (hD : va_D A0 ws) (hC : isC.map (fun i => ws[i]?) = wc.map some) (hC2 : isC.map (fun i => ws2[i]?) = w1.map some) (hR : isR.map (fun i => ws2[i]?) = isR.map (fun i => ws[i]?)) (hcov : ∀ j, j < ws.length → j ∈ isC ∨ j ∈ isR) (hfst : ws2.map Prod.fst = ws.map Prod.fst)
    (hk : ∀ q : Nat, q < H.size → ¬ va_A wc H.size q → H1[q]? = H[q]?) (hP1 : va_P D cl w1 H1) : va_P D cl ws2 H1 ∧ va_D A0 ws2 := by
  refine ⟨fun j q hj => ?_, gg_D_fst hfst hD⟩
  by_cases hm : j ∈ isC
  · obtain ⟨a, ha⟩ := List.getElem?_of_mem hm
    have h1 : (isC.map (fun i => ws2[i]?))[a]? = some (ws2[j]?) := by rw [List.getElem?_map, ha]; rfl
    rw [hC2, List.getElem?_map, hj] at h1
    cases hq : w1[a]? with
    | none => rw [hq] at h1; cases h1
    | some q1 =>
      rw [hq] at h1
      cases h1
      exact hP1 a q hq
  · have hjl : j < ws.length := by
      have h1 := (List.getElem?_eq_some_iff.mp hj).1
      have h2 := congrArg List.length hfst
      rw [List.length_map, List.length_map] at h2
      omega
    have hmr : j ∈ isR := (hcov j hjl).resolve_left hm
    obtain ⟨a, ha⟩ := List.getElem?_of_mem hmr
    have h1 : (isR.map (fun i => ws2[i]?))[a]? = some (ws2[j]?) := by rw [List.getElem?_map, ha]; rfl
    have h2 : (isR.map (fun i => ws[i]?))[a]? = some (ws[j]?) := by rw [List.getElem?_map, ha]; rfl
    rw [hR, h2] at h1
    have hj' : ws[j]? = some q := (Option.some.inj h1).trans hj
    have hlt := (hP j q hj').lt
    refine (hP j q hj').kept (hk q.1 hlt ?_)
    rintro (⟨a, e, h⟩ | h)
    · have h1 : (isC.map (fun i => ws[i]?))[a]? = some (some (q.1, e)) := by rw [hC, List.getElem?_map, h]; rfl
      rw [List.getElem?_map] at h1
      cases hi : isC[a]? with
      | none => rw [hi] at h1; cases h1
      | some b =>
        rw [hi] at h1
        have hb : ws[b]? = some (q.1, e) := Option.some.inj h1
        have := hD.1 j b q (q.1, e) hj' hb rfl
        subst this
        exact hm (List.mem_of_getElem? hi)
    · omega
theorem gg_goodIn {M : gg_M} (h : Cond.code M.1 M.2.1 M.2.2.1 M.2.2.2.1 ∈ gg_tbl) : GoodIn gg_tbl (Cond.code M.1 M.2.1 M.2.2.1 M.2.2.2.1 :: gg_tbl) := by
  intro w hw
  have hm : w ∈ gg_tbl := by
    rcases List.mem_cons.mp hw with rfl | hw
    · exact h
    · exact hw
  exact ⟨hm, good_of_word (List.mem_filter.mp hm).2⟩
