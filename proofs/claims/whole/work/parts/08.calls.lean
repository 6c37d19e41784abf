theorem gg_L_mv {lt : Nat} {A B : Nat → Prop} {s U : State} (hvm : s.vm.Alike U.vm) (hk : ∀ a : Nat, a < s.heap.size → ¬ A a → U.heap[a]? = s.heap[a]?) (hAB : ∀ q, B q → A q) (h : gg_L lt A s) : gg_L lt B U :=
  ⟨((h.1.kept hk).moved hvm).narrow hAB, ((h.2.kept hk).moved hvm).narrow hAB⟩
theorem gg_blind {as : List Value} {D : va_G} {k i : Nat → Nat} {sz : Nat} {w : va_W} {B : Nat → Prop} {lt : Nat} : FrameBlind (va_Pc as (fun U => U.heap.size = sz ∧ va_P D vwCl (gg_w i k w) U.heap ∧ va_K D vwCl (gg_tys k) U ∧ va_D (fun _ => True) (gg_w i k w) ∧ gg_L lt B U)) := by
  intro a U g mk q
  obtain ⟨q0, q1, qP, qK, qD, qL⟩ := q
  exact ⟨q0, q1, qP, va_K.moved (u := U) (U := U.calling g mk a) (Vm.Alike.refl U.vm) qK, qD, gg_L_mv (s := U) (U := U.calling g mk a) (Vm.Alike.refl U.vm) (fun _ _ _ => rfl) (fun _ h => h) qL⟩
def gg_n (Mc : gg_M) (n : Nat) : Prop := Cond.initialized Mc.1.cls ∈ gg_tbl ∧ Cond.code Mc.1 Mc.2.1 Mc.2.2.1 Mc.2.2.2.1 ∈ gg_tbl ∧ (Mc.1.cls ≠ "java/lang/invoke/MethodHandle" ∧ Mc.1.cls ≠ "java/lang/invoke/VarHandle" ∧ (parseMethodDescriptor Mc.1.desc).map (fun d => d.parameters.length) = some n)
def gg_nS (Mc : gg_M) (n : Nat) : Prop := gg_n Mc n ∧ Cond.static Mc.1 ∈ gg_tbl
def gg_nV (Mc : gg_M) (n : Nat) : Prop := gg_n Mc n ∧ Cond.instanceMethod Mc.1 ∈ gg_tbl ∧ Cond.selects Mc.1.cls Mc.1 Mc.1 ∈ gg_tbl
section GGC
variable {p : Program} {l : Launch} {e : Env} {R : Room} {s : State} {m : MethodId} {args : Array Value} {below : List Frame} {meth : Method} {c : Code} {H : Heap} {locs : List Loc} {cells slots : Nat} {Q : State → Prop}
variable {pc nL idx n : Nat} {cc : ByteArray} {own : String} {arr : Array Slot} {st rest as : List Value} {w w2 wc wc' : va_W} {rc : Option Value} {D : va_G} {k i : Nat → Nat} {A : Nat → Prop} {Mc : gg_M}
theorem gg_after {A0 A1 : Nat → Prop} {i1 : Nat → Nat} {a : Array Value} {free : Addr → Prop} {H0 : Heap} {st0 rest0 : List Value} (hr : va_Run p l e R s m args below meth c H locs cells slots 0 0 (F0 m pc arr st0) rest0 (gg_Q D k A1 i1 rc wc' a) free) (hS : va_S A0 H0 H locs) (hA : ∀ q, q < H.size → A1 q → A0 q) (hf : ∀ q, free q → A0 q)
    (kk : ∀ (H1 : Heap) (locs1 : List Loc), va_P D vwCl (gg_w i1 k wc') H1 → H.size ≤ H1.size → (∀ q : Nat, q < H.size → ¬ A1 q → H1[q]? = H[q]?) → va_S A0 H0 H1 locs1 → W p l e R s m args below meth c H1 locs1 cells slots Q (F0 m (pc + 3) arr ((rc.map (gg_v i1)).toList ++ rest0))) : W p l e R s m args below meth c H locs cells slots Q (F0 m pc arr st0) := by
  intro T hT X
  obtain ⟨v, st₀, t, T', L, h0, X', hL, e1, e2, ⟨⟨hv, hp, hb⟩, hz, hk⟩, st⟩ := hr T hT X
  cases hv
  rw [h0] at hz hk
  obtain ⟨t2, a1, b1⟩ := kk T'.heap (locs ++ L) (by rw [e1]; exact hp) (by rw [e1]; exact hz) (fun q h1 h2 => by rw [e1]; exact hk q h1 h2)
    ⟨Nat.le_trans hS.1 (by rw [e1]; exact hz), fun q h1 h2 => by rw [e1, hk q (Nat.lt_of_lt_of_le h1 hS.1) (fun z => h2 (hA q (Nat.lt_of_lt_of_le h1 hS.1) z))]; exact hS.2.1 q h1 h2, fun q hq => by
      rcases List.mem_append.mp hq with h | h
      · exact hS.2.2 q h
      · exact hf _ (hL q h)⟩ T' rfl X'
  exact ⟨t2, st t2 a1, b1⟩
theorem gg_cb (hts : ∀ w ∈ gg_tbl, w.before args s = true) (hm : gg_n Mc n) (hlk : Cond.methodLink own idx Mc.1 ∈ gg_tbl) (hR : (gg_R Mc).frames + 1 ≤ R.frames ∧ 8 + (Mc.2.2.1 + 11) + (gg_R Mc).locals ≤ R.locals) : CallB R s args own idx Mc.1 Mc.2.1 Mc.2.2.1 Mc.2.2.2.1 (Cond.code Mc.1 Mc.2.1 Mc.2.2.1 Mc.2.2.2.1 :: gg_tbl) (gg_R Mc) 0 0 n :=
  callB_of n hts (gg_goodIn hm.2.1) rfl rfl rfl (hts _ hm.1) (hts _ hlk) hm.2.2 hR
theorem gg_pre (sg : Nat → Nat) (isC : List Nat) (hK : va_K D vwCl (gg_tys k) s) (hA : ∀ q, s.heap.size ≤ q → A q) (hL : gg_L (i 499) A s) (hP : va_P D vwCl (gg_w i k w) H) (hD : va_D A (gg_w i k w)) (hS : va_S A s.heap H locs) (hlt : sg 499 = 499) (hok : gg_ok sg wc = true) (hwc : isC.map (fun j => w[j]?) = (gg_rn sg wc).map some) (hnd : va_nd isC = true) :
    isC.map (fun j => (gg_w i k w)[j]?) = (gg_w (i ∘ sg) k wc).map some ∧ va_P D vwCl (gg_w (i ∘ sg) k wc) H ∧ (∀ q, va_A (gg_w (i ∘ sg) k wc) H.size q → A q) ∧ ∀ U : State, U.heap = H → s.WarmedH U.vm → U.heap.size = H.size ∧ va_P D vwCl (gg_w (i ∘ sg) k wc) U.heap ∧ va_K D vwCl (gg_tys k) U ∧ va_D (fun _ => True) (gg_w (i ∘ sg) k wc) ∧ gg_L ((i ∘ sg) 499) (va_A (gg_w (i ∘ sg) k wc) H.size) U := by
  have hC : isC.map (fun j => (gg_w i k w)[j]?) = (gg_w (i ∘ sg) k wc).map some := by
    rw [← gg_ww i sg k wc hok]
    unfold gg_w
    simp only [List.getElem?_map]
    have h2 := congrArg (List.map (Option.map (fun q : Nat × va_E => (i q.1, gg_c i k q.1 q.2)))) hwc
    rw [List.map_map, List.map_map] at h2
    rw [List.map_map]
    exact h2
  have hPc : va_P D vwCl (gg_w (i ∘ sg) k wc) H := by
    intro a q ha
    have h1 : (isC.map (fun j => (gg_w i k w)[j]?))[a]? = some (some q) := by rw [hC, List.getElem?_map, ha]; rfl
    rw [List.getElem?_map] at h1
    cases hi : isC[a]? with
    | none => rw [hi] at h1; cases h1
    | some b => rw [hi] at h1; exact hP b q (Option.some.inj h1)
  have hDc := hD.sub isC hnd hC
  have hF := va_free hD hS hA isC hC
  refine ⟨hC, hPc, hF, fun U hU hW => ⟨by rw [hU], by rw [hU]; exact hPc, va_K.moved hW.alike hK, hDc.weaken (fun _ _ _ _ => trivial), ?_⟩⟩
  show gg_L (i (sg 499)) _ U
  rw [hlt]
  exact gg_L_mv hW.alike (fun a h1 h2 => by rw [hU]; exact hS.2.1 a h1 h2) hF hL
def gg_cov (isC isR : List Nat) (n : Nat) : Bool := (List.range n).all (fun j => isC.contains j || isR.contains j)
theorem gg_map_at (i : Nat → Nat) {w : va_W} {wc : va_W} {isC : List Nat} {sg : Nat → Nat} (hok : gg_ok sg wc = true) (h : isC.map (fun j => w[j]?) = (gg_rn sg wc).map some) (k : Nat → Nat) : isC.map (fun j => (gg_w i k w)[j]?) = (gg_w (i ∘ sg) k wc).map some := by
  rw [← gg_ww i sg k wc hok]
  unfold gg_w
  simp only [List.getElem?_map]
  have h2 := congrArg (List.map (Option.map (fun q : Nat × va_E => (i q.1, gg_c i k q.1 q.2)))) h
  rw [List.map_map, List.map_map] at h2
  rw [List.map_map]
  exact h2
theorem gg_fin {isC isR : List Nat} {nW : Nat} {sg : Nat → Nat} {H1 : Heap} (hP : va_P D vwCl (gg_w i k w) H) (hD : va_D A (gg_w i k w)) (hC : isC.map (fun j => (gg_w i k w)[j]?) = (gg_w (i ∘ sg) k wc).map some) (hok' : gg_ok sg wc' = true) (hk : ∀ q : Nat, q < H.size → ¬ va_A (gg_w (i ∘ sg) k wc) H.size q → H1[q]? = H[q]?) (hP1 : va_P D vwCl (gg_w (i ∘ sg) k wc') H1) (hC2 : isC.map (fun j => w2[j]?) = (gg_rn sg wc').map some) (hR2 : isR.map (fun j => w2[j]?) = isR.map (fun j => w[j]?)) (hlen : w.length = nW) (hcov : gg_cov isC isR nW = true) (hfst : w2.map Prod.fst = w.map Prod.fst) : va_P D vwCl (gg_w i k w2) H1 ∧ va_D A (gg_w i k w2) := by
  refine gg_join (isR := isR) hP hD hC (gg_map_at i hok' hC2 k) ?_ ?_ ?_ hk hP1
  · unfold gg_w
    simp only [List.getElem?_map]
    have h2 := congrArg (List.map (Option.map (fun q : Nat × va_E => (i q.1, gg_c i k q.1 q.2)))) hR2
    rw [List.map_map, List.map_map] at h2
    exact h2
  · intro j hj
    have hj2 : j < nW := by
      unfold gg_w at hj
      rw [List.length_map, hlen] at hj
      exact hj
    have h1 := List.all_eq_true.mp hcov j (List.mem_range.mpr hj2)
    rw [Bool.or_eq_true, List.contains_iff_mem, List.contains_iff_mem] at h1
    exact h1
  · unfold gg_w
    rw [List.map_map, List.map_map]
    have h3 := congrArg (List.map i) hfst
    rw [List.map_map, List.map_map] at h3
    exact h3
theorem gg_stk {sg : Nat → Nat} (hst : (as.map (gg_v sg)).reverse ++ rest = st) : st.map (gg_v i) = (as.map (gg_v (i ∘ sg))).reverse ++ rest.map (gg_v i) := by
  subst hst
  rw [List.map_append, List.map_reverse, List.map_map]
  congr 3
  exact funext fun v => gg_vv i sg v
theorem gg_room {F : JFrame} (hF : F.monitorRoom = 0) (h : (rest.map fun v => v.category).sum ≤ 8) : 2 * F.monitorRoom + ((rest.map (gg_v i)).map fun v => v.category).sum ≤ 8 := by
  rw [hF, List.map_map]
  have e : ((fun v : Value => v.category) ∘ gg_v i) = fun v => v.category := funext fun v => gg_cat i v
  rw [e]
  omega
theorem gg_res {sg : Nat → Nat} : (rc.map (gg_v (i ∘ sg))).toList ++ rest.map (gg_v i) = ((rc.map (gg_v sg)).toList ++ rest).map (gg_v i) := by
  cases rc with
  | none => rfl
  | some v =>
    show gg_v (i ∘ sg) v :: rest.map (gg_v i) = gg_v i (gg_v sg v) :: rest.map (gg_v i)
    rw [gg_vv]
theorem gg_cS (S : CallFix p m c cc nL s args gg_tbl own) (hK : va_K D vwCl (gg_tys k) s) (hA : ∀ q, s.heap.size ≤ q → A q) (hL : gg_L (i 499) A s) (hP : va_P D vwCl (gg_w i k w) H) (hD : va_D A (gg_w i k w)) (hS : va_S A s.heap H locs) (hsz : arr.size = nL)
    (sg : Nat → Nat) (isC : List Nat) (hC : gg_C Mc as wc rc wc') (hm : gg_nS Mc n) (hlk : Cond.methodLink own idx Mc.1 ∈ gg_tbl) (hlt : sg 499 = 499) (hst : (as.map (gg_v sg)).reverse ++ rest = st) (hn : as.length = n) (hwc : gg_sel w isC = gg_som (gg_rn sg wc)) (hnd : va_nd isC = true) (hok : gg_ok sg wc = true) (hok' : gg_ok sg wc' = true) (isR : List Nat) (nW : Nat) (hC2 : gg_sel w2 isC = gg_som (gg_rn sg wc')) (hR2 : gg_sel w2 isR = gg_sel w isR) (hlen : w.length = nW) (hcov : gg_cov isC isR nW = true) (hfst : gg_ids w2 = gg_ids w)
    (hR : (gg_R Mc).frames + 1 ≤ R.frames ∧ 8 + (Mc.2.2.1 + 11) + (gg_R Mc).locals ≤ R.locals) (hcs : cells ≤ R.cells ∧ slots ≤ R.slots) (hrest : (rest.map fun v => v.category).sum ≤ 8) (hd : decode cc pc = .ok (.invokestatic idx, 3))
    (kk : ∀ (H1 : Heap) (locs1 : List Loc), va_P D vwCl (gg_w i k w2) H1 → va_D A (gg_w i k w2) → va_S A s.heap H1 locs1 → W p l e R s m args below meth c H1 locs1 cells slots Q (F0 m (pc + 3) arr (((rc.map (gg_v sg)).toList ++ rest).map (gg_v i)))) : W p l e R s m args below meth c H locs cells slots Q (F0 m pc arr (st.map (gg_v i))) := by
  rw [gg_sel_eq, gg_som_eq] at hwc hC2
  rw [gg_sel_eq, gg_sel_eq] at hR2
  rw [gg_ids_eq, gg_ids_eq] at hfst
  obtain ⟨hC1, hPc, hF, hU⟩ := gg_pre (locs := locs) sg isC hK hA hL hP hD hS hlt hok hwc hnd
  have hts := S.2.2.2.2
  refine gg_after (va_runS (As := as.map (gg_v (i ∘ sg))) (rest := rest.map (gg_v i)) S (hC l D k (i ∘ sg) H.size) ⟨gg_cb hts hm.1 hlk hR, hts _ hm.2⟩ ⟨gg_blind, fun U h1 h3 => ⟨rfl, hU U h1 h3⟩⟩ rfl (by rw [List.length_map]; exact hn) hsz (gg_stk hst) (gg_room rfl hrest) hd ⟨hcs.1, hcs.2⟩) hS (fun q _ h => hF q h) hF (fun H1 locs1 hP1 hz hk hS1 => ?_)
  obtain ⟨g1, g2⟩ := gg_fin hP hD hC1 hok' hk hP1 hC2 hR2 hlen hcov hfst
  rw [gg_res]
  exact kk H1 locs1 g1 g2 hS1
theorem gg_cV (S : CallFix p m c cc nL s args gg_tbl own) (hK : va_K D vwCl (gg_tys k) s) (hA : ∀ q, s.heap.size ≤ q → A q) (hL : gg_L (i 499) A s) (hP : va_P D vwCl (gg_w i k w) H) (hD : va_D A (gg_w i k w)) (hS : va_S A s.heap H locs) (hsz : arr.size = nL)
    (sg : Nat → Nat) (isC : List Nat) {b q0 ci : Nat} {fs : List Value} {vc : vw_C} (hC : gg_C Mc (.ref b :: as) wc rc wc') (hm : gg_nV Mc n) (hlk : Cond.methodLink own idx Mc.1 ∈ gg_tbl) (hlt : sg 499 = 499) (hrc : wc[q0]? = some (b, .inr (ci, fs))) (hci : vwCl[ci]? = some vc) (hvc : vc.1 = Mc.1.cls) (hst : (as.map (gg_v sg)).reverse ++ .ref (sg b) :: rest = st) (hn : as.length = n) (hwc : gg_sel w isC = gg_som (gg_rn sg wc)) (hnd : va_nd isC = true) (hok : gg_ok sg wc = true) (hok' : gg_ok sg wc' = true) (isR : List Nat) (nW : Nat) (hC2 : gg_sel w2 isC = gg_som (gg_rn sg wc')) (hR2 : gg_sel w2 isR = gg_sel w isR) (hlen : w.length = nW) (hcov : gg_cov isC isR nW = true) (hfst : gg_ids w2 = gg_ids w)
    (hR : (gg_R Mc).frames + 1 ≤ R.frames ∧ 8 + (Mc.2.2.1 + 11) + (gg_R Mc).locals ≤ R.locals) (hcs : cells ≤ R.cells ∧ slots ≤ R.slots) (hrest : (rest.map fun v => v.category).sum ≤ 8) (hd : decode cc pc = .ok (.invokevirtual idx, 3))
    (kk : ∀ (H1 : Heap) (locs1 : List Loc), va_P D vwCl (gg_w i k w2) H1 → va_D A (gg_w i k w2) → va_S A s.heap H1 locs1 → W p l e R s m args below meth c H1 locs1 cells slots Q (F0 m (pc + 3) arr (((rc.map (gg_v sg)).toList ++ rest).map (gg_v i)))) : W p l e R s m args below meth c H locs cells slots Q (F0 m pc arr (st.map (gg_v i))) := by
  rw [gg_sel_eq, gg_som_eq] at hwc hC2
  rw [gg_sel_eq, gg_sel_eq] at hR2
  rw [gg_ids_eq, gg_ids_eq] at hfst
  obtain ⟨hC1, hPc, hF, hU⟩ := gg_pre (locs := locs) sg isC hK hA hL hP hD hS hlt hok hwc hnd
  have hts := S.2.2.2.2
  have hrecv := va_recv hK hPc hci (gg_at (i := i ∘ sg) (k := k) hrc)
  rw [hvc] at hrecv
  refine gg_after (va_runV (C := Mc.1.cls) (b := i (sg b)) (As := as.map (gg_v (i ∘ sg))) (rest := rest.map (gg_v i)) S (hC l D k (i ∘ sg) H.size) ⟨gg_cb hts hm.1 hlk hR, hts _ hm.2.1, hts _ hm.2.2⟩ ⟨gg_blind, hrecv, fun U h1 h3 => ⟨rfl, hU U h1 h3⟩⟩ rfl (by rw [List.length_map]; exact hn) hsz ?_ (gg_room rfl hrest) hd ⟨hcs.1, hcs.2⟩) hS (fun q _ h => hF q h) hF (fun H1 locs1 hP1 hz hk hS1 => ?_)
  · exact gg_stk (rest := .ref (sg b) :: rest) hst
  · obtain ⟨g1, g2⟩ := gg_fin hP hD hC1 hok' hk hP1 hC2 hR2 hlen hcov hfst
    rw [gg_res]
    exact kk H1 locs1 g1 g2 hS1
end GGC
section GGD
variable {M Mc : gg_M} {pc idx n : Nat} {ls : List (Option Value)} {st rest as : List Value} {w w' w2 wc wc' : va_W} {r rc : Option Value}
theorem gg_callS (sg : Nat → Nat) (isC : List Nat) (w2 : va_W) (hC : gg_C Mc as wc rc wc') (hm : gg_nS Mc n) (hlk : Cond.methodLink M.1.cls idx Mc.1 ∈ gg_tbl) (hlt : sg 499 = 499) (hst : (as.map (gg_v sg)).reverse ++ rest = st) (hn : as.length = n) (hwc : gg_sel w isC = gg_som (gg_rn sg wc)) (hnd : va_nd isC = true) (hok : gg_ok sg wc = true) (hok' : gg_ok sg wc' = true) (isR : List Nat) (nW : Nat) (hC2 : gg_sel w2 isC = gg_som (gg_rn sg wc')) (hR2 : gg_sel w2 isR = gg_sel w isR) (hlen : w.length = nW) (hcov : gg_cov isC isR nW = true) (hfst : gg_ids w2 = gg_ids w)
    (hR : (gg_R Mc).frames + 1 ≤ (gg_R M).frames ∧ 8 + (Mc.2.2.1 + 11) + (gg_R Mc).locals ≤ (gg_R M).locals) (hrest : (rest.map fun v => v.category).sum ≤ 8) (hd : decode M.2.1 pc = .ok (.invokestatic idx, 3)) (st2 : List Value) (hs2 : (rc.map (gg_v sg)).toList ++ rest = st2) (kk : gg_G M (pc + 3) ls st2 w2 r w') : gg_G M pc ls st w r w' := by
  intro l p e s m args below meth c D k A i X H locs arr hP hD hS hl
  subst hs2
  exact gg_cS ⟨X.1, X.2.1, X.2.2.2.1, X.2.2.2.2.1, X.2.2.2.2.2.1⟩ X.2.2.2.2.2.2.2.1 X.2.2.2.2.2.2.2.2.1 X.2.2.2.2.2.2.2.2.2 hP hD hS hl.1 sg isC hC hm hlk hlt hst hn hwc hnd hok hok' isR nW hC2 hR2 hlen hcov hfst hR ⟨Nat.le_refl 0, Nat.le_refl 0⟩ hrest hd (fun H1 locs1 g1 g2 g3 => kk l p e s m args below meth c D k A i X H1 locs1 arr g1 g2 g3 hl)
theorem gg_callV (sg : Nat → Nat) (isC : List Nat) (w2 : va_W) (q0 : Nat) {b ci : Nat} {fs : List Value} {vc : vw_C} (hC : gg_C Mc (.ref b :: as) wc rc wc') (hm : gg_nV Mc n) (hlk : Cond.methodLink M.1.cls idx Mc.1 ∈ gg_tbl) (hlt : sg 499 = 499) (hrc : wc[q0]? = some (b, .inr (ci, fs))) (hci : vwCl[ci]? = some vc) (hvc : vc.1 = Mc.1.cls) (hst : (as.map (gg_v sg)).reverse ++ .ref (sg b) :: rest = st) (hn : as.length = n) (hwc : gg_sel w isC = gg_som (gg_rn sg wc)) (hnd : va_nd isC = true) (hok : gg_ok sg wc = true) (hok' : gg_ok sg wc' = true) (isR : List Nat) (nW : Nat) (hC2 : gg_sel w2 isC = gg_som (gg_rn sg wc')) (hR2 : gg_sel w2 isR = gg_sel w isR) (hlen : w.length = nW) (hcov : gg_cov isC isR nW = true) (hfst : gg_ids w2 = gg_ids w)
    (hR : (gg_R Mc).frames + 1 ≤ (gg_R M).frames ∧ 8 + (Mc.2.2.1 + 11) + (gg_R Mc).locals ≤ (gg_R M).locals) (hrest : (rest.map fun v => v.category).sum ≤ 8) (hd : decode M.2.1 pc = .ok (.invokevirtual idx, 3)) (st2 : List Value) (hs2 : (rc.map (gg_v sg)).toList ++ rest = st2) (kk : gg_G M (pc + 3) ls st2 w2 r w') : gg_G M pc ls st w r w' := by
  intro l p e s m args below meth c D k A i X H locs arr hP hD hS hl
  subst hs2
  exact gg_cV ⟨X.1, X.2.1, X.2.2.2.1, X.2.2.2.2.1, X.2.2.2.2.2.1⟩ X.2.2.2.2.2.2.2.1 X.2.2.2.2.2.2.2.2.1 X.2.2.2.2.2.2.2.2.2 hP hD hS hl.1 sg isC hC hm hlk hlt hrc hci hvc hst hn hwc hnd hok hok' isR nW hC2 hR2 hlen hcov hfst hR ⟨Nat.le_refl 0, Nat.le_refl 0⟩ hrest hd (fun H1 locs1 g1 g2 g3 => kk l p e s m args below meth c D k A i X H1 locs1 arr g1 g2 g3 hl)
def gg_sl : List Value → List (Option Value)
  | [] => []
  | v :: vs => if v.category = 2 then some v :: none :: gg_sl vs else some v :: gg_sl vs
def gg_en (as : List Value) (nL : Nat) : List (Option Value) := gg_sl as ++ List.replicate (nL - (gg_sl as).length) none
theorem gg_sl_mem (i : Nat → Nat) : ∀ (as : List Value) (o j : Nat) (v : Value), (gg_sl as)[j]? = some (some v) → (o + j, gg_v i v) ∈ lv_args o (as.map (gg_v i))
  | [], o, j, v, h => by simp [gg_sl] at h
  | a :: as, o, j, v, h => by
    show (o + j, gg_v i v) ∈ (o, gg_v i a) :: lv_args (if (gg_v i a).category = 2 then o + 2 else o + 1) (as.map (gg_v i))
    unfold gg_sl at h
    rw [gg_cat]
    by_cases hc : a.category = 2
    · rw [if_pos hc] at h ⊢
      match j, h with
      | 0, h =>
        simp at h
        subst h
        exact List.mem_cons_self
      | 1, h => simp at h
      | j + 2, h =>
        simp only [List.getElem?_cons_succ] at h
        have := gg_sl_mem i as (o + 2) j v h
        rw [show o + (j + 2) = o + 2 + j by omega]
        exact List.mem_cons_of_mem _ this
    · rw [if_neg hc] at h ⊢
      match j, h with
      | 0, h =>
        simp at h
        subst h
        exact List.mem_cons_self
      | j + 1, h =>
        simp only [List.getElem?_cons_succ] at h
        have := gg_sl_mem i as (o + 1) j v h
        rw [show o + (j + 1) = o + 1 + j by omega]
        exact List.mem_cons_of_mem _ this
theorem gg_sl_len (i : Nat → Nat) : ∀ as : List Value, (lg_sl (as.map (gg_v i))).length = (gg_sl as).length
  | [] => rfl
  | a :: as => by
    have h := gg_sl_len i as
    unfold lg_sl at h ⊢
    rw [List.map_cons, List.flatMap_cons, List.length_append, h, gg_cat]
    show _ = (if a.category = 2 then some a :: none :: gg_sl as else some a :: gg_sl as).length
    by_cases hc : a.category = 2
    · rw [if_pos hc, if_pos hc]
      simp only [List.length_cons, List.length_nil]
      omega
    · rw [if_neg hc, if_neg hc]
      simp only [List.length_cons, List.length_nil]
      omega
theorem gg_ofW {l : Launch} {y : MethodName} {ws ws' : List Cond} {rm : Room} {Pc : Array Value → State → Prop} {Qc : Array Value → State → Outcome → State → Prop} {mc ms : Nat} {free : Addr → Prop} {cc : ByteArray} {maxL : Nat} {ret : Option FieldType}
    (hy : plainFor y = true) (hw : ws = Cond.code y cc maxL ret :: ws')
    (body : ∀ p e s m args below meth c s₁, BodyLoose p l y (headSpec ws rm) cc maxL ret e s m args below meth c s₁ → c.maxLocals = maxL → Pc args s →
      W p l e (headSpec ws rm).room s m args below meth c s.heap [] 0 0 (MQ below Qc args s mc ms free) (entryFrame m args maxL)) : Met l y ws rm Pc Qc mc ms free := by
  refine MetFree.of_bodySF (code := cc) (maxLocals := maxL) (ret := ret) hy ?_ ?_
  · intro args s m h hn
    obtain ⟨meth, c, h1, h2, h3, h4, h5, h6, -, -⟩ := Cond.code_spec hn (atoms_spec (ws := ws) h _ (by rw [hw]; exact List.mem_cons_self))
    exact ⟨meth, c, h1, h2, h3, h4, h5, h6⟩
  · intro p e s m args below meth c s₁ B hml hP _
    have hh0 : s₁.heap = s.heap := by rw [B.state]; rfl
    obtain ⟨t, a1, ou, b1, b2, b3⟩ := body p e s m args below meth c s₁ B hml hP s₁ hh0 (Stand.of_body B)
    exact ⟨t, ou, a1, b1, b2, ⟨b3.1, b3.2⟩⟩
theorem gg_ofG (ls : List (Option Value)) (hp : plainFor M.1 = true) (hn : (gg_sl as).length ≤ M.2.2.1) (hls : gg_en as M.2.2.1 = ls) (h : gg_G M 0 ls [] w r w') : gg_C M as w r w' := by
  intro l D k i sz
  refine gg_ofW (cc := M.2.1) (maxL := M.2.2.1) (ret := M.2.2.2.1) hp rfl ?_
  intro p e s m args below meth c s₁ B hml hv
  obtain ⟨rfl, hsz, hP, hK, hD0, hL⟩ := hv
  have hts := atoms_spec (ws := Cond.code M.1 M.2.1 M.2.2.1 M.2.2.2.1 :: gg_tbl) B.pre
  have hown : s.vm.findClass M.1.cls = some m.cls := findClass_of_methodNamed B.named
  subst hsz
  have hD := hD0.self (sz := s.heap.size)
  have hl := lv_entry (as.map (gg_v i)) (n := M.2.2.1) (by rw [gg_sl_len]; exact hn)
  rw [lg_entry_eq]
  generalize (lg_sl (as.map (gg_v i)) ++ List.replicate (M.2.2.1 - (lg_sl (as.map (gg_v i))).length) Slot.unset).toArray = arr at hl ⊢
  refine h l p e s m _ below meth c D k _ i ⟨B.exec, B.bytes, B.returns, hml, hown, fun w hw => hts w (List.mem_cons_of_mem _ hw), B.notSynchronized, hK, fun q hq => Or.inr hq, hL⟩ s.heap [] arr hP hD va_S.rf ⟨hl.1, hl.2.1, fun j v hv => ?_⟩
  subst hls
  have hj : (gg_sl as)[j]? = some (some v) := by
    unfold gg_en at hv
    by_cases hlt : j < (gg_sl as).length
    · rwa [List.getElem?_append_left hlt] at hv
    · rw [List.getElem?_append_right (by omega)] at hv
      have := List.eq_of_mem_replicate (List.mem_of_getElem? hv)
      cases this
  have := hl.2.2 _ (gg_sl_mem i as 0 j v hj)
  rwa [Nat.zero_add] at this
end GGD
