def gg_tbl : List Cond := lw_tbl.filter goodWord
theorem gg_mem {w : Cond} (h : w ∈ lw_tbl) (hg : goodWord w = true) : w ∈ gg_tbl := List.mem_filter.mpr ⟨h, hg⟩
theorem gg_sub {args : Array Value} {s : State} (h : ∀ w ∈ lw_tbl, w.before args s = true) : ∀ w ∈ gg_tbl, w.before args s = true := fun w hw => h w (List.mem_filter.mp hw).1
abbrev gg_M : Type := MethodName × ByteArray × Nat × Option FieldType × Nat × Nat
def gg_R (M : gg_M) : Room := { frames := M.2.2.2.2.1, cells := 0, slots := 0, locals := M.2.2.2.2.2 }
def gg_v (i : Nat → Nat) : Value → Value
  | .ref k => .ref (i k)
  | v => v
def gg_a (i : Nat → Nat) (b : Nat) : vp_A → vp_A
  | (n, .inr (.inr (.inr (.inr f)))) => (n, .inr (.inr (.inr (.inr (fun j => if j < n then (f j).map (fun d => i (b + d)) else none)))))
  | a => a
def gg_c (i k : Nat → Nat) (b : Nat) : va_E → va_E
  | .inl (t, a) => .inl (k t, gg_a i b a)
  | .inr (ci, fs) => .inr (ci, fs.map (gg_v i))
def gg_w (i k : Nat → Nat) (w : va_W) : va_W := w.map (fun q => (i q.1, gg_c i k q.1 q.2))
def gg_re (j : Nat → Nat) : va_E → va_E
  | .inl x => .inl x
  | .inr (ci, fs) => .inr (ci, fs.map (gg_v j))
def gg_rn (j : Nat → Nat) : va_W → va_W
  | [] => []
  | (n, e) :: w => (j n, gg_re j e) :: gg_rn j w
theorem gg_rn_eq (j : Nat → Nat) : ∀ w : va_W, gg_rn j w = w.map (fun q => (j q.1, gg_re j q.2))
  | [] => rfl
  | (n, e) :: w => by
    show (j n, gg_re j e) :: gg_rn j w = (j n, gg_re j e) :: w.map (fun q => (j q.1, gg_re j q.2))
    rw [gg_rn_eq j w]
def gg_sok (j : Nat → Nat) (b : Nat) : va_E → Bool
  | .inl (_, n, .inr (.inr (.inr (.inr f)))) => (List.range n).all (fun a => match f a with
    | some d => j (b + d) == j b + d
    | none => true)
  | _ => true
def gg_ok (j : Nat → Nat) : va_W → Bool
  | [] => true
  | (n, e) :: w => gg_sok j n e && gg_ok j w
theorem gg_ok_all (j : Nat → Nat) : ∀ w : va_W, gg_ok j w = true → ∀ q ∈ w, gg_sok j q.1 q.2 = true
  | [], _, q, hq => by cases hq
  | (n, e) :: w, h, q, hq => by
    have h2 : (gg_sok j n e && gg_ok j w) = true := h
    rw [Bool.and_eq_true] at h2
    rcases List.mem_cons.mp hq with rfl | hq
    · exact h2.1
    · exact gg_ok_all j w h2.2 q hq
def gg_l (i : Nat → Nat) (arr : Array Slot) (nL : Nat) (ls : List (Option Value)) : Prop := arr.size = nL ∧ lv_wf arr ∧ ∀ (j : Nat) (v : Value), ls[j]? = some (some v) → arr[j]? = some (.val (gg_v i v))
def gg_tys (k : Nat → Nat) : List (ClassId × FieldType) := [(k 0, .int), (k 1, .byte), (k 2, .boolean), (k 3, .object "HutFlock$Log"), (k 4, .array .int)]
def gg_let (j : Nat) : Int32 := match j with
  | 0 => 104
  | 1 => 112
  | 2 => 108
  | 3 => 103
  | 4 => 99
  | _ => 107
def gg_L (lt : Nat) (A : Nat → Prop) (U : State) : Prop := va_Z "HutFlock$Kind" "LETTERS" "[I" (.ref lt) A U U.heap ∧ va_T .int lt 6 (fun j => .int (gg_let j)) A U U.heap
def gg_X (p : Program) (s : State) (m : MethodId) (args : Array Value) (meth : Method) (c : Code) (M : gg_M) (D : va_G) (k : Nat → Nat) (A : Nat → Prop) (i : Nat → Nat) : Prop :=
  p.tables.exec = Jvm.exec ∧ c.code = M.2.1 ∧ meth.sig.returnType = M.2.2.2.1 ∧ c.maxLocals = M.2.2.1 ∧ s.vm.findClass M.1.cls = some m.cls ∧ (∀ w ∈ gg_tbl, w.before args s = true) ∧ meth.locks = false ∧ va_K D vwCl (gg_tys k) s ∧ (∀ q, s.heap.size ≤ q → A q) ∧ gg_L (i 499) A s
def gg_Q (D : va_G) (k : Nat → Nat) (A : Nat → Prop) (i : Nat → Nat) (r : Option Value) (w' : va_W) : Array Value → State → Outcome → State → Prop := fun _ st oc t => (oc = .returned (r.map (gg_v i)) ∧ va_P D vwCl (gg_w i k w') t.heap ∧ va_D A (gg_w i k w')) ∧ va_F A st t
def gg_G (M : gg_M) (pc : Nat) (ls : List (Option Value)) (st : List Value) (w : va_W) (r : Option Value) (w' : va_W) : Prop :=
  ∀ (l : Launch) (p : Program) (e : Env) (s : State) (m : MethodId) (args : Array Value) (below : List Frame) (meth : Method) (c : Code) (D : va_G) (k : Nat → Nat) (A : Nat → Prop) (i : Nat → Nat), gg_X p s m args meth c M D k A i →
  ∀ (H : Heap) (locs : List Loc) (arr : Array Slot), va_P D vwCl (gg_w i k w) H → va_D A (gg_w i k w) → va_S A s.heap H locs → gg_l i arr M.2.2.1 ls →
  W p l e (gg_R M) s m args below meth c H locs 0 0 (MQ below (gg_Q D k A i r w') args s 0 0 A) (F0 m pc arr (st.map (gg_v i)))
def gg_C (M : gg_M) (as : List Value) (w : va_W) (r : Option Value) (w' : va_W) : Prop := ∀ (l : Launch) (D : va_G) (k i : Nat → Nat) (sz : Nat),
  Met l M.1 (Cond.code M.1 M.2.1 M.2.2.1 M.2.2.2.1 :: gg_tbl) (gg_R M) (va_Pc (as.map (gg_v i)) (fun U => U.heap.size = sz ∧ va_P D vwCl (gg_w i k w) U.heap ∧ va_K D vwCl (gg_tys k) U ∧ va_D (fun _ => True) (gg_w i k w) ∧ gg_L (i 499) (va_A (gg_w i k w) sz) U))
    (gg_Q D k (va_A (gg_w i k w) sz) i r w') 0 0 (va_A (gg_w i k w) sz)
theorem gg_at {i k : Nat → Nat} {w : va_W} {q : Nat} {x : Nat × va_E} (h : w[q]? = some x) : (gg_w i k w)[q]? = some (i x.1, gg_c i k x.1 x.2) := by
  simp [gg_w, h]
theorem gg_set (i k : Nat → Nat) (w : va_W) (q : Nat) (x : Nat × va_E) : gg_w i k (w.set q x) = (gg_w i k w).set q (i x.1, gg_c i k x.1 x.2) := by
  simp [gg_w, List.map_set]
theorem gg_cat (i : Nat → Nat) (v : Value) : (gg_v i v).category = v.category := by cases v <;> rfl
theorem gg_vv (i j : Nat → Nat) (v : Value) : gg_v i (gg_v j v) = gg_v (i ∘ j) v := by cases v <;> rfl
theorem gg_cc (i j k : Nat → Nat) (b : Nat) (e : va_E) (h : gg_sok j b e = true) : gg_c i k (j b) (gg_re j e) = gg_c (i ∘ j) k b e := by
  rcases e with ⟨t, n, a⟩ | ⟨ci, fs⟩
  · rcases a with a | a | a | a | a
    · rfl
    · rfl
    · rfl
    · rfl
    · show Sum.inl (k t, n, _) = Sum.inl (k t, n, _)
      have e2 : (fun x => if x < n then (a x).map (fun d => i (j b + d)) else none) = (fun x => if x < n then (a x).map (fun d => (i ∘ j) (b + d)) else none) := by
        funext x
        by_cases hx : x < n
        · rw [if_pos hx, if_pos hx]
          have h1 := List.all_eq_true.mp h x (List.mem_range.mpr hx)
          cases ha : a x with
          | none => rfl
          | some d =>
            rw [ha] at h1
            have h2 : j (b + d) = j b + d := by simpa using h1
            show some (i (j b + d)) = some (i (j (b + d)))
            rw [h2]
        · rw [if_neg hx, if_neg hx]
      rw [e2]
  · show Sum.inr (ci, (fs.map (gg_v j)).map (gg_v i)) = Sum.inr (ci, fs.map (gg_v (i ∘ j)))
    rw [List.map_map]
    congr 2
    apply List.map_congr_left
    intro v _
    exact gg_vv i j v
theorem gg_ww (i j k : Nat → Nat) (w : va_W) (h : gg_ok j w = true) : gg_w i k (gg_rn j w) = gg_w (i ∘ j) k w := by
  rw [gg_rn_eq]
  unfold gg_w
  rw [List.map_map]
  apply List.map_congr_left
  intro q hq
  show (i (j q.1), gg_c i k (j q.1) (gg_re j q.2)) = _
  rw [gg_cc i j k q.1 q.2 (gg_ok_all j w h q hq)]
  rfl
def gg_put : va_W → List Nat → va_W → va_W
  | ws, p :: ps, x :: xs => gg_put (ws.set p x) ps xs
  | ws, _, _ => ws
theorem gg_put_map (f : Nat × va_E → Nat × va_E) : ∀ (ps : List Nat) (ws xs : va_W), (gg_put ws ps xs).map f = gg_put (ws.map f) ps (xs.map f)
  | [], ws, xs => by cases xs <;> rfl
  | p :: ps, ws, [] => rfl
  | p :: ps, ws, x :: xs => by
    show (gg_put (ws.set p x) ps xs).map f = gg_put ((ws.map f).set p (f x)) ps (xs.map f)
    rw [gg_put_map f ps, List.map_set]
theorem gg_put_out : ∀ (ps : List Nat) (ws xs : va_W) (j : Nat), j ∉ ps → (gg_put ws ps xs)[j]? = ws[j]?
  | [], ws, xs, j, _ => by cases xs <;> rfl
  | p :: ps, ws, [], j, _ => rfl
  | p :: ps, ws, x :: xs, j, h => by
    show (gg_put (ws.set p x) ps xs)[j]? = _
    rw [gg_put_out ps _ xs j (fun q => h (List.mem_cons_of_mem _ q)), List.getElem?_set_ne (fun q => h (by rw [q]; exact List.mem_cons_self))]
theorem gg_put_in : ∀ (ps : List Nat) (ws xs : va_W) (a j : Nat) (x : Nat × va_E), va_nd ps = true → ps[a]? = some j → xs[a]? = some x → j < ws.length → (gg_put ws ps xs)[j]? = some x
  | [], ws, xs, a, j, x, _, h, _, _ => by simp at h
  | p :: ps, ws, [], a, j, x, _, _, h, _ => by simp at h
  | p :: ps, ws, y :: xs, 0, j, x, hn, h, h2, hl => by
    simp only [List.getElem?_cons_zero, Option.some.injEq] at h h2
    subst h; subst h2
    simp only [va_nd, Bool.and_eq_true, decide_eq_true_eq] at hn
    show (gg_put (ws.set p y) ps xs)[p]? = _
    rw [gg_put_out ps _ xs p hn.1, List.getElem?_set_self hl]
  | p :: ps, ws, y :: xs, a + 1, j, x, hn, h, h2, hl => by
    simp only [va_nd, Bool.and_eq_true, decide_eq_true_eq] at hn
    rw [List.getElem?_cons_succ] at h h2
    exact gg_put_in ps (ws.set p y) xs a j x hn.2 h h2 (by rw [List.length_set]; exact hl)
theorem gg_put_fst : ∀ (ps : List Nat) (ws xs wc : va_W), ps.map (fun j => ws[j]?) = wc.map some → xs.map Prod.fst = wc.map Prod.fst → va_nd ps = true → (gg_put ws ps xs).map Prod.fst = ws.map Prod.fst
  | [], ws, xs, wc, _, _, _ => by cases xs <;> rfl
  | p :: ps, ws, [], wc, _, _, _ => rfl
  | p :: ps, ws, x :: xs, [], h, _, _ => by simp at h
  | p :: ps, ws, x :: xs, y :: wc, h, h2, hn => by
    simp only [List.map_cons, List.cons.injEq] at h h2
    simp only [va_nd, Bool.and_eq_true, decide_eq_true_eq] at hn
    show (gg_put (ws.set p x) ps xs).map Prod.fst = _
    have hs : (ws.set p x).map Prod.fst = ws.map Prod.fst := by
      rw [List.map_set, h2.1]
      apply List.ext_getElem?
      intro j
      by_cases hj : j = p
      · subst hj
        have hl := (List.getElem?_eq_some_iff.mp h.1).1
        rw [List.getElem?_set_self (by rw [List.length_map]; exact hl), List.getElem?_map, h.1]
        rfl
      · rw [List.getElem?_set_ne (Ne.symm hj)]
    rw [gg_put_fst ps (ws.set p x) xs wc ?_ h2.2 hn.2, hs]
    rw [← h.2]
    apply List.map_congr_left
    intro j hj
    rw [List.getElem?_set_ne (fun q => hn.1 (by rw [q]; exact hj))]
theorem gg_D_fst {A : Nat → Prop} {ws ws' : va_W} (h : ws'.map Prod.fst = ws.map Prod.fst) (hD : va_D A ws) : va_D A ws' := by
  have key : ∀ (j : Nat) (q : Nat × va_E), ws'[j]? = some q → ∃ q0, ws[j]? = some q0 ∧ q0.1 = q.1 := by
    intro j q hj
    have h1 : (ws'.map Prod.fst)[j]? = some q.1 := by rw [List.getElem?_map, hj]; rfl
    rw [h, List.getElem?_map] at h1
    cases hq : ws[j]? with
    | none => rw [hq] at h1; cases h1
    | some q0 => rw [hq] at h1; exact ⟨q0, rfl, Option.some.inj h1⟩
  refine ⟨fun a b x y ha hb hxy => ?_, fun a q ha => ?_⟩
  · obtain ⟨x0, h1, h2⟩ := key a x ha
    obtain ⟨y0, h3, h4⟩ := key b y hb
    exact hD.1 a b x0 y0 h1 h3 (h2.trans (hxy.trans h4.symm))
  · obtain ⟨q0, h1, h2⟩ := key a q ha
    rw [← h2]
    exact hD.2 a q0 h1
theorem gg_join {A0 : Nat → Prop} {D : va_G} {cl : List vw_C} {ws wc w1 : va_W} {isC : List Nat} {H H1 : Heap} (hP : va_P D cl ws H) (hD : va_D A0 ws) (hC : isC.map (fun i => ws[i]?) = wc.map some) (hnd : va_nd isC = true) (hid : w1.map Prod.fst = wc.map Prod.fst)
    (hk : ∀ q : Nat, q < H.size → ¬ va_A wc H.size q → H1[q]? = H[q]?) (hP1 : va_P D cl w1 H1) : va_P D cl (gg_put ws isC w1) H1 ∧ va_D A0 (gg_put ws isC w1) := by
  have hlen : isC.length = w1.length := by
    have h1 := congrArg List.length hC
    have h2 := congrArg List.length hid
    simp only [List.length_map] at h1 h2
    omega
  have atc : ∀ (a : Nat) (j : Nat), isC[a]? = some j → ∃ q, wc[a]? = some q ∧ ws[j]? = some q := by
    intro a j ha
    have h1 : (isC.map (fun i => ws[i]?))[a]? = some (ws[j]?) := by rw [List.getElem?_map, ha]; rfl
    rw [hC, List.getElem?_map] at h1
    cases hq : wc[a]? with
    | none => rw [hq] at h1; cases h1
    | some q => rw [hq] at h1; exact ⟨q, rfl, (Option.some.inj h1).symm⟩
  refine ⟨fun j q hj => ?_, gg_D_fst (gg_put_fst isC ws w1 wc hC hid hnd) hD⟩
  by_cases hm : j ∈ isC
  · obtain ⟨a, ha⟩ := List.getElem?_of_mem hm
    obtain ⟨q0, h1, h2⟩ := atc a j ha
    have hl := (List.getElem?_eq_some_iff.mp h2).1
    have ha' : a < w1.length := by rw [← hlen]; exact (List.getElem?_eq_some_iff.mp ha).1
    have hx := gg_put_in isC ws w1 a j w1[a] hnd ha (List.getElem?_eq_getElem ha') hl
    rw [hx] at hj
    cases hj
    exact hP1 a _ (List.getElem?_eq_getElem ha')
  · rw [gg_put_out isC ws w1 j hm] at hj
    have hlt := (hP j q hj).lt
    refine (hP j q hj).kept (hk q.1 hlt ?_)
    rintro (⟨a, e, h⟩ | h)
    · have h1 : (isC.map (fun i => ws[i]?))[a]? = some (some (q.1, e)) := by rw [hC, List.getElem?_map, h]; rfl
      rw [List.getElem?_map] at h1
      cases hi : isC[a]? with
      | none => rw [hi] at h1; cases h1
      | some b =>
        rw [hi] at h1
        have hb : ws[b]? = some (q.1, e) := Option.some.inj h1
        have := hD.1 j b q (q.1, e) hj hb rfl
        subst this
        exact hm (List.mem_of_getElem? hi)
    · omega
theorem gg_goodIn {M : gg_M} (h : Cond.code M.1 M.2.1 M.2.2.1 M.2.2.2.1 ∈ gg_tbl) : GoodIn gg_tbl (Cond.code M.1 M.2.1 M.2.2.1 M.2.2.2.1 :: gg_tbl) := by
  intro w hw
  have hm : w ∈ gg_tbl := by
    rcases List.mem_cons.mp hw with rfl | hw
    · exact h
    · exact hw
  exact ⟨hm, good_of_word (List.mem_filter.mp hm).2⟩
