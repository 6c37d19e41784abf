section HHS
variable {M : gg_M} {mc ms : Nat} {ns : List Nat} {pc : Nat} {ls : List (Option Value)} {st : List Value} {w w' : va_W} {u v : Nat}
def hh_rows (b N K : Nat) : va_W := (List.range N).map (fun j => (b + j, .inl (0, K, .inl (fun _ => 0))))
theorem hh_mna {idx : Nat} {n kk0 : Int32} (nid dl N K : Nat) (hd : decode M.2.1 pc = .ok (.multianewarray idx 2, 4)) (hcl : Cond.classLink M.1.cls idx "[[I" ∈ gg_tbl) (hac : Cond.arrayClass .int ∈ gg_tbl) (hn : ¬ n < 0) (hk0 : ¬ kk0 < 0) (hN : n.toNatClampNeg = N) (hK0 : kk0.toNatClampNeg = K) (hb1 : N * 4 ≤ 536870912) (hb2 : K * 4 ≤ 536870912) (hdl : 0 < dl) (hu : u + (1 + N) ≤ mc) (hv : v + (N + N * K) ≤ ms) (hns : nid ∈ ns ∧ ∀ j, j < N → nid + dl + j ∈ ns) (hfw : hh_fw (nid :: (List.range N).map (fun j => nid + dl + j)) w = true) (hfl : hh_fl (nid :: (List.range N).map (fun j => nid + dl + j)) ls = true) (hfs : st.all (hh_fv (nid :: (List.range N).map (fun j => nid + dl + j))) = true) (w2 : va_W) (h2 : w ++ ((nid, .inl (4, N, .inr (.inr (.inr (.inr (gg_rf dl 1)))))) :: hh_rows (nid + dl) N K) = w2) (kk : hh_G M mc ms ns (pc + 4) ls (.ref nid :: st) w2 (u + 1 + N) (v + N + N * K) w') : hh_G M mc ms ns pc ls (.int kk0 :: .int n :: st) w u v w' := by
  intro l p e s m args below meth c D k A i0 X i H locs arr hi hP hD hS hl
  subst h2
  have hts := X.2.2.2.2.2.1
  have hcy : s.vm.findClass (FieldType.array .int).toString = some (k 0) := (X.2.2.2.2.2.2.2.1.2 0 (k 0, .int) rfl).2
  refine va_mna (X := gg_w i k w) (L := []) (f := fun _ => .inr (0, [])) (ty := .int) (z := (K, .inl (fun _ => 0))) X.1 X.2.1 X.2.2.2.2.1 (hts _ hcl) X.2.2.2.2.2.2.2.2.2.2.1 (hts _ hac) hcy X.2.2.2.2.2.2.2.1 (by show va_P D vwCl (gg_w i k w ++ []) H; rw [List.append_nil]; exact hP) (by show va_D A (gg_w i k w ++ []); rw [List.append_nil]; exact hD) hS X.2.2.2.2.2.2.2.2.1 hn hk0 hN hK0 hb1 hb2 (by omega) rfl rfl hu hv (fun c => by rw [vp_cell_i]; exact arrV_new c K (.int 0)) hd (fun q rr cA H1 hinj hnL hK1 hP1 hD1 hS1 => ?_)
  have hcA : cA = k 4 := by
    have h1 : s.vm.findClass ("[" ++ (FieldType.array .int).toString) = some cA := (hK1.2 5 (cA, .array .int) (by simp [gg_tys])).2
    have h3 : s.vm.findClass ("[" ++ (FieldType.array .int).toString) = some (k 4) := (X.2.2.2.2.2.2.2.1.2 4 (k 4, .array .int) rfl).2
    exact Option.some.inj (h1.symm.trans h3)
  subst hcA
  obtain ⟨i1, hi1d⟩ : ∃ i1 : Nat → Nat, i1 = fun j => if j = nid then q else if nid + dl ≤ j ∧ j < nid + dl + N then rr (j - (nid + dl)) else i j := ⟨_, rfl⟩
  have hi1 : ∀ j, j ∉ (nid :: (List.range N).map (fun j => nid + dl + j)) → i1 j = i j := by
    intro j hj
    rw [hi1d]
    have h1 : j ≠ nid := fun h => hj (by rw [h]; exact List.mem_cons_self)
    have h3 : ¬ (nid + dl ≤ j ∧ j < nid + dl + N) := fun h => hj (List.mem_cons_of_mem _ (List.mem_map.mpr ⟨j - (nid + dl), List.mem_range.mpr (by omega), by omega⟩))
    show (if j = nid then q else if nid + dl ≤ j ∧ j < nid + dl + N then rr (j - (nid + dl)) else i j) = i j
    rw [if_neg h1, if_neg h3]
  have hin : i1 nid = q := by rw [hi1d]; exact if_pos rfl
  have hir : ∀ j, j < N → i1 (nid + dl + j) = rr j := by
    intro j hj
    rw [hi1d]
    show (if nid + dl + j = nid then q else if nid + dl ≤ nid + dl + j ∧ nid + dl + j < nid + dl + N then rr (nid + dl + j - (nid + dl)) else i (nid + dl + j)) = rr j
    rw [if_neg (by omega), if_pos (by omega), show nid + dl + j - (nid + dl) = j by omega]
  have ef : (fun x => if x < N then (gg_rf dl 1 x).map (fun d => i1 (nid + d)) else none) = (fun x => if x < N then some (rr x) else none) := by
    funext x
    by_cases hx : x < N
    · rw [if_pos hx, if_pos hx]
      show some (i1 (nid + (dl + 1 * x))) = some (rr x)
      rw [show nid + (dl + 1 * x) = nid + dl + x by omega, hir x hx]
    · rw [if_neg hx, if_neg hx]
  have er : gg_w i1 k (hh_rows (nid + dl) N K) = va_pl ([] ++ (List.range N).map rr) (vr_up (fun _ => .inr (0, [])) ((List.range N).map rr) (.inl (k 0, K, .inl (fun _ => 0)))) := by
    unfold hh_rows gg_w va_pl
    rw [List.nil_append, List.map_map, List.map_map]
    apply List.map_congr_left
    intro j hj
    have hj2 := List.mem_range.mp hj
    show (i1 (nid + dl + j), _) = (rr j, _)
    rw [hir j hj2, vr_up_in (List.mem_map.mpr ⟨j, hj, rfl⟩)]
    rfl
  have ew : gg_w i1 k (w ++ ((nid, .inl (4, N, .inr (.inr (.inr (.inr (gg_rf dl 1)))))) :: hh_rows (nid + dl) N K)) = (gg_w i k w ++ [(q, .inl (k 4, N, .inr (.inr (.inr (.inr (fun x => if x < N then some (rr x) else none))))))]) ++ va_pl ([] ++ (List.range N).map rr) (vr_up (fun _ => .inr (0, [])) ((List.range N).map rr) (.inl (k 0, K, .inl (fun _ => 0)))) := by
    rw [hh_app, hh_cw hi1 hfw, ← er, ← ef, ← hin, List.append_assoc]
    rfl
  have es := hh_cs hi1 hfs
  have e1 : (Value.ref q :: st.map (gg_v i)) = ((.ref nid :: st) : List Value).map (gg_v i1) := by
    rw [List.map_cons, es, ← hin]
    rfl
  rw [e1]
  exact kk l p e s m args below meth c D k A i0 X i1 H1 locs arr (fun j hj => (hi1 j (by
    intro h
    rcases List.mem_cons.mp h with h | h
    · exact hj (by rw [h]; exact hns.1)
    · obtain ⟨x, hx, rfl⟩ := List.mem_map.mp h
      exact hj (hns.2 x (List.mem_range.mp hx)))).trans (hi j hj)) (by rw [ew]; exact hP1) (by rw [ew]; exact hD1) hS1 (hh_lv hi1 hfl hl)
theorem hh_anew {idx : Nat} {n : Int32} (nid N : Nat) (hd : decode M.2.1 pc = .ok (.anewarray idx, 3)) (hcl : Cond.classLink M.1.cls idx "HutFlock$Log" ∈ gg_tbl) (hn : ¬ n < 0) (hN : n.toNatClampNeg = N) (hbt : N * 4 ≤ 536870912) (hu : u + 1 ≤ mc) (hv : v + N ≤ ms) (hns : nid ∈ ns) (hfw : hh_fw [nid] w = true) (hfl : hh_fl [nid] ls = true) (hfs : st.all (hh_fv [nid]) = true) (w2 : va_W) (h2 : w ++ [(nid, .inl (3, N, .inr (.inr (.inr (.inr (fun _ => none))))))] = w2) (kk : hh_G M mc ms ns (pc + 3) ls (.ref nid :: st) w2 (u + 1) (v + N) w') : hh_G M mc ms ns pc ls (.int n :: st) w u v w' := by
  intro l p e s m args below meth c D k A i0 X i H locs arr hi hP hD hS hl
  subst h2
  have hts := X.2.2.2.2.2.1
  refine va_newq X.1 X.2.1 X.2.2.2.2.1 (hts _ hcl) X.2.2.2.2.2.2.2.2.2.2.2.1 X.2.2.2.2.2.2.2.1 hP hD hS X.2.2.2.2.2.2.2.2.1 hn hN hbt hu hv hd (fun q cA H1 hK1 hP1 hD1 hS1 => ?_)
  have hcA : cA = k 3 := by
    obtain ⟨-, -, -, -, -, h1⟩ := (hK1.2 5 (cA, .object "HutFlock$Log") (by simp [gg_tys])).2
    obtain ⟨-, -, -, -, -, h3⟩ := (X.2.2.2.2.2.2.2.1.2 3 (k 3, .object "HutFlock$Log") rfl).2
    exact Option.some.inj (h1.symm.trans h3)
  subst hcA
  have hi1 : ∀ j, j ∉ [nid] → (fun j => if j = nid then q else i j) j = i j := fun j hj => if_neg (by simpa using hj)
  have ef : (fun x => if x < N then ((fun _ => none : Nat → Option Nat) x).map (fun d => (fun j => if j = nid then q else i j) (nid + d)) else none) = (fun _ => none) := by
    funext x
    by_cases hx : x < N
    · rw [if_pos hx]; rfl
    · rw [if_neg hx]
  have ew : gg_w (fun j => if j = nid then q else i j) k (w ++ [(nid, .inl (3, N, .inr (.inr (.inr (.inr (fun _ => none))))))]) = gg_w i k w ++ [(q, .inl (k 3, N, .inr (.inr (.inr (.inr (fun _ => none))))))] := by
    rw [hh_app, hh_cw hi1 hfw]
    show _ ++ [((if nid = nid then q else i nid), Sum.inl (k 3, N, Sum.inr (Sum.inr (Sum.inr (Sum.inr (fun x => if x < N then ((fun _ => none : Nat → Option Nat) x).map (fun d => (fun j => if j = nid then q else i j) (nid + d)) else none))))))] = _
    rw [if_pos rfl, ef]
  have es := hh_cs hi1 hfs
  have e1 : (Value.ref q :: st.map (gg_v i)) = ((.ref nid :: st) : List Value).map (gg_v (fun j => if j = nid then q else i j)) := by
    rw [List.map_cons, es]
    show _ = Value.ref (if nid = nid then q else i nid) :: _
    rw [if_pos rfl]
  rw [e1]
  exact kk l p e s m args below meth c D k A i0 X (fun j => if j = nid then q else i j) H1 locs arr (fun j hj => (hi1 j (by intro h; simp at h; subst h; exact hj hns)).trans (hi j hj)) (by rw [ew]; exact hP1) (by rw [ew]; exact hD1) hS1 (hh_lv hi1 hfl hl)
theorem hh_aast {a n b d : Nat} {f : Nat → Option Nat} {j : Int32} {vs : List Value} (q qv : Nat) (hd : decode M.2.1 pc = .ok (.aastore, 1)) (hw : w[q]? = some (a, .inl (3, n, .inr (.inr (.inr (.inr f)))))) (hwv : w[qv]? = some (b, .inr (3, vs))) (hj : gg_in j n = true) (hb : a + d = b) (w2 : va_W) (h2 : w.set q (a, .inl (3, n, .inr (.inr (.inr (.inr (gg_up f j.toNatClampNeg (some d))))))) = w2) (kk : hh_G M mc ms ns (pc + 1) ls st w2 u v w') : hh_G M mc ms ns pc ls (.ref b :: .int j :: .ref a :: st) w u v w' := by
  intro l p e s m args below meth c D k A i0 X i H locs arr hi hP hD hS hl
  subst h2
  have hin := gg_in_ok hj
  have hlt := gg_in_lt hj
  refine va_astq X.1 X.2.1 X.2.2.2.2.2.2.2.1 hP hD hS q 3 qv 3 (cA := k 3) (r := (RX4, TX4, 2)) (f := fun x => if x < n then (f x).map (fun d => i (a + d)) else none) (gg_at (i := i) (k := k) hw) rfl (gg_at (i := i) (k := k) hwv) rfl hin hd (fun H1 locs1 hP1 hD1 hS1 => ?_)
  have ef : (fun x => if x < n then (gg_up f j.toNatClampNeg (some d) x).map (fun d => i (a + d)) else none) = va_up (fun x => if x < n then (f x).map (fun d => i (a + d)) else none) j.toNatClampNeg (some (i b)) := by
    funext x
    by_cases hx : x = j.toNatClampNeg
    · subst hx
      show _ = (if j.toNatClampNeg = j.toNatClampNeg then some (i b) else _)
      rw [if_pos hlt, if_pos rfl]
      show ((if j.toNatClampNeg = j.toNatClampNeg then some d else f _)).map _ = _
      rw [if_pos rfl, ← hb]
      rfl
    · show _ = (if x = j.toNatClampNeg then some (i b) else _)
      rw [if_neg hx]
      show (if x < n then ((if x = j.toNatClampNeg then some d else f x)).map _ else none) = _
      rw [if_neg hx]
  have ew : gg_w i k (w.set q (a, .inl (3, n, .inr (.inr (.inr (.inr (gg_up f j.toNatClampNeg (some d)))))))) = (gg_w i k w).set q (i a, .inl (k 3, n, .inr (.inr (.inr (.inr (va_up (fun x => if x < n then (f x).map (fun d => i (a + d)) else none) j.toNatClampNeg (some (i b)))))))) := by
    rw [gg_set, ← ef]
    rfl
  exact kk l p e s m args below meth c D k A i0 X i H1 locs1 arr hi (by rw [ew]; exact hP1) (by rw [ew]; exact hD1) hS1 hl
theorem hh_ofG {as : List Value} (ls : List (Option Value)) (hp : plainFor M.1 = true) (hnm : M.1.name = "<init>") (hn : (gg_sl as).length ≤ M.2.2.1) (hls : gg_en as M.2.2.1 = ls) (h : hh_G M mc ms ns 0 ls [] w 0 0 w') : hh_C M mc ms ns as w w' := by
  intro l D k i sz
  refine gg_ofW (cc := M.2.1) (maxL := M.2.2.1) (ret := M.2.2.2.1) hp rfl ?_
  intro p e s m args below meth c s₁ B hml hv
  obtain ⟨rfl, hsz, hP, hK, hD0, hO⟩ := hv
  have hts := atoms_spec (ws := Cond.code M.1 M.2.1 M.2.2.1 M.2.2.2.1 :: gg_tbl) B.pre
  have hown : s.vm.findClass M.1.cls = some m.cls := findClass_of_methodNamed B.named
  have hin : meth.name = "<init>" := (name_of_methodNamed B.named B.method).1.trans hnm
  subst hsz
  have hD := hD0.self (sz := s.heap.size)
  have hl := lv_entry (as.map (gg_v i)) (n := M.2.2.1) (by rw [gg_sl_len]; exact hn)
  rw [lg_entry_eq]
  generalize (lg_sl (as.map (gg_v i)) ++ List.replicate (M.2.2.1 - (lg_sl (as.map (gg_v i))).length) Slot.unset).toArray = arr at hl ⊢
  refine h l p e s m _ below meth c D k _ i ⟨B.exec, B.bytes, B.returns, hml, hown, fun w hw => hts w (List.mem_cons_of_mem _ hw), B.notSynchronized, hK, fun q hq => Or.inr hq, hin, hO⟩ i s.heap [] arr (fun _ _ => rfl) hP hD va_S.rf ⟨hl.1, hl.2.1, fun j v hv => ?_⟩
  subst hls
  have hj : (gg_sl as)[j]? = some (some v) := by
    unfold gg_en at hv
    by_cases hlt : j < (gg_sl as).length
    · rwa [List.getElem?_append_left hlt] at hv
    · rw [List.getElem?_append_right (by omega)] at hv
      have := List.eq_of_mem_replicate (List.mem_of_getElem? hv)
      cases this
  have := hl.2.2 _ (gg_sl_mem i as 0 j v hj)
  rwa [Nat.zero_add] at this
end HHS
theorem hh_blind {as : List Value} {D : va_G} {k i : Nat → Nat} {sz : Nat} {w : va_W} : FrameBlind (va_Pc as (fun U => U.heap.size = sz ∧ va_P D vwCl (gg_w i k w) U.heap ∧ va_K D vwCl (gg_tys k) U ∧ va_D (fun _ => True) (gg_w i k w) ∧ hh_O U)) := by
  intro a U g mk q
  obtain ⟨q0, q1, qP, qK, qD, qL⟩ := q
  exact ⟨q0, q1, qP, va_K.moved (u := U) (U := U.calling g mk a) (Vm.Alike.refl U.vm) qK, qD, hh_O_sm (s := U) (U := U.calling g mk a) rfl qL⟩
def hh_n (Mc : gg_M) (n : Nat) : Prop := gg_n Mc n ∧ Cond.instanceMethod Mc.1 ∈ gg_tbl ∧ Mc.1.name = "<init>" ∧ Mc.2.2.2.1 = none
section HHC
variable {p : Program} {l : Launch} {e : Env} {R : Room} {s : State} {m : MethodId} {args : Array Value} {below : List Frame} {meth : Method} {c : Code} {H : Heap} {locs : List Loc} {cells slots : Nat} {Q : State → Prop}
variable {pc nL idx n : Nat} {cc : ByteArray} {own : String} {arr : Array Slot} {st rest as : List Value} {w wn : va_W} {D : va_G} {k i : Nat → Nat} {A : Nat → Prop} {Mc : gg_M} {mc2 ms2 : Nat} {ns2 : List Nat}
theorem hh_after {A0 A1 : Nat → Prop} {a : Array Value} {free : Addr → Prop} {H0 : Heap} {st0 rest0 : List Value} {wc' : va_W} (hr : va_Run p l e R s m args below meth c H locs cells slots mc2 ms2 (F0 m pc arr st0) rest0 (hh_Q D k A1 i ns2 wc' a) free) (hS : va_S A0 H0 H locs) (hA : ∀ q, q < H.size → A1 q → A0 q) (hf : ∀ q, free q → A0 q)
    (kk : ∀ (i1 : Nat → Nat) (H1 : Heap) (locs1 : List Loc), (∀ j, j ∉ ns2 → i1 j = i j) → va_P D vwCl (gg_w i1 k wc') H1 → va_D A1 (gg_w i1 k wc') → H.size ≤ H1.size → (∀ q : Nat, q < H.size → ¬ A1 q → H1[q]? = H[q]?) → va_S A0 H0 H1 locs1 → W p l e R s m args below meth c H1 locs1 (cells + mc2) (slots + ms2) Q (F0 m (pc + 3) arr rest0)) : W p l e R s m args below meth c H locs cells slots Q (F0 m pc arr st0) := by
  intro T hT X
  obtain ⟨v, st₀, t, T', L, h0, X', hL, e1, e2, ⟨⟨i1, hi1, hv, hp, hb⟩, hz, hk⟩, st⟩ := hr T hT X
  cases hv
  rw [h0] at hz hk
  obtain ⟨t2, a1, b1⟩ := kk i1 T'.heap (locs ++ L) hi1 (by rw [e1]; exact hp) hb (by rw [e1]; exact hz) (fun q h1 h2 => by rw [e1]; exact hk q h1 h2)
    ⟨Nat.le_trans hS.1 (by rw [e1]; exact hz), fun q h1 h2 => by rw [e1, hk q (Nat.lt_of_lt_of_le h1 hS.1) (fun z => h2 (hA q (Nat.lt_of_lt_of_le h1 hS.1) z))]; exact hS.2.1 q h1 h2, fun q hq => by
      rcases List.mem_append.mp hq with h | h
      · exact hS.2.2 q h
      · exact hf _ (hL q h)⟩ T' rfl X'
  exact ⟨t2, st t2 a1, b1⟩
theorem hh_grow {A0 : Nat → Prop} {cl : List vw_C} {ws wn1 : va_W} {x0 x1 : Nat × va_E} {q : Nat} {H1 : Heap} (hP : va_P D cl ws H) (hD : va_D A0 ws) (hq : ws[q]? = some x0) (h01 : x1.1 = x0.1) (hk : ∀ y : Nat, y < H.size → ¬ va_A [x0] H.size y → H1[y]? = H[y]?) (hF : ∀ y, va_A [x0] H.size y → A0 y) (hP1 : va_P D cl (x1 :: wn1) H1) (hD1 : va_D (va_A [x0] H.size) (x1 :: wn1)) : va_P D cl (ws.set q x1 ++ wn1) H1 ∧ va_D A0 (ws.set q x1 ++ wn1) := by
  have hql := (List.getElem?_eq_some_iff.mp hq).1
  have hset : va_D A0 (ws.set q x1) := by
    refine gg_D_fst ?_ hD
    rw [List.map_set]
    apply List.ext_getElem?
    intro j
    by_cases hj : j = q
    · subst hj
      rw [List.getElem?_set_self (by rw [List.length_map]; exact hql), List.getElem?_map, hq]
      show some x1.1 = some x0.1
      rw [h01]
    · rw [List.getElem?_set_ne (Ne.symm hj)]
  have hnew : ∀ (b : Nat) (y : Nat × va_E), wn1[b]? = some y → H.size ≤ y.1 := by
    intro b y hb
    have hm := hD1.2 (b + 1) y (by rw [List.getElem?_cons_succ]; exact hb)
    rcases hm with ⟨c1, e1, h1⟩ | h1
    · have hc1 : c1 = 0 := by
        have := (List.getElem?_eq_some_iff.mp h1).1
        simp at this
        omega
      subst hc1
      have hx0 : x0 = (y.1, e1) := by simpa using h1
      have := hD1.1 0 (b + 1) x1 y (by simp) (by rw [List.getElem?_cons_succ]; exact hb) (by rw [h01, hx0])
      omega
    · exact h1
  have hold : ∀ (b : Nat) (y : Nat × va_E), (ws.set q x1)[b]? = some y → y.1 < H.size := by
    intro b y hb
    by_cases hbq : b = q
    · subst hbq
      rw [List.getElem?_set_self hql] at hb
      cases hb
      rw [h01]
      exact (hP b x0 hq).lt
    · rw [List.getElem?_set_ne (Ne.symm hbq)] at hb
      exact (hP b y hb).lt
  refine ⟨va_P.app (fun b y hb => ?_) (fun b y hb => hP1 (b + 1) y (by rw [List.getElem?_cons_succ]; exact hb)), va_D.app hset ⟨fun a b x y ha hb hxy => ?_, fun b y hb => hF y.1 (hD1.2 (b + 1) y (by rw [List.getElem?_cons_succ]; exact hb))⟩ (fun a b x y ha hb hxy => ?_)⟩
  · by_cases hbq : b = q
    · subst hbq
      rw [List.getElem?_set_self hql] at hb
      cases hb
      exact hP1 0 x1 (by simp)
    · rw [List.getElem?_set_ne (Ne.symm hbq)] at hb
      refine (hP b y hb).kept (hk y.1 (hP b y hb).lt ?_)
      rintro (⟨c1, e1, h1⟩ | h1)
      · have hc1 : c1 = 0 := by
          have := (List.getElem?_eq_some_iff.mp h1).1
          simp at this
          omega
        subst hc1
        have hx0 : x0 = (y.1, e1) := by simpa using h1
        exact hbq (hD.1 b q y x0 hb hq (by rw [hx0]))
      · have := (hP b y hb).lt
        omega
  · have := hD1.1 (a + 1) (b + 1) x y (by rw [List.getElem?_cons_succ]; exact ha) (by rw [List.getElem?_cons_succ]; exact hb) hxy
    omega
  · have h1 := hold a x ha
    have h3 := hnew b y hb
    omega
theorem hh_cI (S : CallFix p m c cc nL s args gg_tbl own) (hK : va_K D vwCl (gg_tys k) s) (hA : ∀ q, s.heap.size ≤ q → A q) (hO : hh_O s) (hP : va_P D vwCl (gg_w i k w) H) (hD : va_D A (gg_w i k w)) (hS : va_S A s.heap H locs) (hsz : arr.size = nL)
    (q : Nat) {a ci : Nat} {fs0 fs1 : List Value} (hC : hh_C Mc mc2 ms2 ns2 (.ref a :: as) [(a, .inr (ci, fs0))] ((a, .inr (ci, fs1)) :: wn)) (hm : hh_n Mc n) (hlk : Cond.methodLink own idx Mc.1 ∈ gg_tbl) (hq : w[q]? = some (a, .inr (ci, fs0))) (hst : as.reverse ++ .ref a :: rest = st) (hn : as.length = n) (hfw : hh_fw ns2 w = true)
    (hR : Mc.2.2.2.2.1 + 1 ≤ R.frames ∧ 8 + (Mc.2.2.1 + 11) + Mc.2.2.2.2.2 ≤ R.locals) (hcs : cells + mc2 ≤ R.cells ∧ slots + ms2 ≤ R.slots) (hrest : (rest.map fun v => v.category).sum ≤ 8) (hd : decode cc pc = .ok (.invokespecial idx, 3))
    (kk : ∀ (i1 : Nat → Nat) (H1 : Heap) (locs1 : List Loc), (∀ j, j ∉ ns2 → i1 j = i j) → va_P D vwCl (gg_w i1 k (w.set q (a, .inr (ci, fs1)) ++ wn)) H1 → va_D A (gg_w i1 k (w.set q (a, .inr (ci, fs1)) ++ wn)) → va_S A s.heap H1 locs1 → W p l e R s m args below meth c H1 locs1 (cells + mc2) (slots + ms2) Q (F0 m (pc + 3) arr (rest.map (gg_v i)))) : W p l e R s m args below meth c H locs cells slots Q (F0 m pc arr (st.map (gg_v i))) := by
  have hts := S.2.2.2.2
  have hat := gg_at (i := i) (k := k) hq
  have hPc : va_P D vwCl (gg_w i k [(a, .inr (ci, fs0))]) H := by
    intro b y hb
    have hb0 : b = 0 := by
      have := (List.getElem?_eq_some_iff.mp hb).1
      simp [gg_w] at this
      omega
    subst hb0
    cases hb
    exact hP q _ hat
  have hDc : va_D A (gg_w i k [(a, .inr (ci, fs0))]) := hD.sub [q] rfl (by show [(gg_w i k w)[q]?] = _; rw [hat]; rfl)
  have hF : ∀ y, va_A (gg_w i k [(a, .inr (ci, fs0))]) H.size y → A y := va_free hD hS hA [q] (by show [(gg_w i k w)[q]?] = _; rw [hat]; rfl)
  have hst2 : st.map (gg_v i) = (as.map (gg_v i)).reverse ++ Value.ref (i a) :: rest.map (gg_v i) := by
    rw [← hst, List.map_append, List.map_reverse]
    rfl
  have hU : ∀ U : State, U.heap = H → s.WarmedH U.vm → U.heap.size = H.size ∧ va_P D vwCl (gg_w i k [(a, .inr (ci, fs0))]) U.heap ∧ va_K D vwCl (gg_tys k) U ∧ va_D (fun _ => True) (gg_w i k [(a, .inr (ci, fs0))]) ∧ hh_O U := by
    intro U h1 h3
    exact ⟨congrArg Array.size h1, h1.symm ▸ hPc, va_K.moved h3.alike hK, hDc.weaken (fun _ _ _ _ => trivial), hh_O_mv h3 hO⟩
  have hcb := callB_of (R := R) (s := s) (args := args) (own := own) (index := idx) (y := Mc.1) (bytes := Mc.2.1) (maxL := Mc.2.2.1) (ret := Mc.2.2.2.1) (rm := hh_R Mc mc2 ms2) (mc := mc2) (ms := ms2) n hts (gg_goodIn hm.1.2.1) rfl rfl rfl (hts _ hm.1.1) (hts _ hlk) hm.1.2.2 hR
  have hcb2 : CallB R s args own idx Mc.1 Mc.2.1 Mc.2.2.1 none (Cond.code Mc.1 Mc.2.1 Mc.2.2.1 Mc.2.2.2.1 :: gg_tbl) (hh_R Mc mc2 ms2) mc2 ms2 n := by
    have h9 := hm.2.2.2
    rw [h9] at hcb ⊢
    exact hcb
  refine hh_after (i := i) (va_runI (n := n) (b := i a) (As := as.map (gg_v i)) (rest := rest.map (gg_v i)) S (hC l D k i H.size) ⟨hcb2, hm.2.2.1, hts _ hm.2.1⟩ ⟨hh_blind, fun U h1 h3 => ⟨rfl, hU U h1 h3⟩⟩ rfl (by rw [List.length_map]; exact hn) hsz hst2 (gg_room rfl hrest) hd ⟨hcs.1, hcs.2⟩) hS (fun y _ h => hF y h) hF (fun i1 H1 locs1 hi1 hP1 hD1 hz hk hS1 => ?_)
  · have hg := hh_grow (x1 := (i1 a, gg_c i1 k a (.inr (ci, fs1)))) (wn1 := gg_w i1 k wn) hP hD hat (by
      have ha : a ∉ ns2 := by
        intro h
        have : ∀ {w : va_W} {q : Nat} {x : Nat × va_E}, hh_fw ns2 w = true → w[q]? = some x → x.1 ∉ ns2 := by
          intro w
          induction w with
          | nil => intro q x _ hx; simp at hx
          | cons y w ih =>
            intro q x hf hx
            obtain ⟨b, e⟩ := y
            have h2 : (!ns2.contains b && hh_fe ns2 b e && hh_fw ns2 w) = true := hf
            simp only [Bool.and_eq_true] at h2
            cases q with
            | zero =>
              simp at hx
              subst hx
              simpa using h2.1.1
            | succ q => exact ih h2.2 (by simpa using hx)
        exact this hfw hq h
      exact hi1 a ha) hk hF hP1 hD1
    have ew : gg_w i1 k (w.set q (a, .inr (ci, fs1)) ++ wn) = (gg_w i k w).set q (i1 a, gg_c i1 k a (.inr (ci, fs1))) ++ gg_w i1 k wn := by
      rw [hh_app, gg_set, hh_cw hi1 hfw]
    exact kk i1 H1 locs1 hi1 (by rw [ew]; exact hg.1) (by rw [ew]; exact hg.2) hS1
theorem hh_cIN (S : CallFix p m c cc nL s args gg_tbl own) (hK : va_K D vwCl (gg_tys k) s) (hA : ∀ q, s.heap.size ≤ q → A q) (hO : hh_O s) (hP : va_P D vwCl (gg_w i k w) H) (hD : va_D A (gg_w i k w)) (hS : va_S A s.heap H locs) (hsz : arr.size = nL)
    (q : Nat) {a ci : Nat} {fs0 fs1 : List Value} (hC : hh_C Mc mc2 ms2 ns2 (.ref a :: as) [(a, .inr (ci, fs0))] ((a, .inr (ci, fs1)) :: wn)) (hm : hh_n Mc n) {host : String} (hlk : va_Nw (.methodLinkNest own idx Mc.1 host) s) (hq : w[q]? = some (a, .inr (ci, fs0))) (hst : as.reverse ++ .ref a :: rest = st) (hn : as.length = n) (hfw : hh_fw ns2 w = true)
    (hR : Mc.2.2.2.2.1 + 1 ≤ R.frames ∧ 8 + (Mc.2.2.1 + 11) + Mc.2.2.2.2.2 ≤ R.locals) (hcs : cells + mc2 ≤ R.cells ∧ slots + ms2 ≤ R.slots) (hrest : (rest.map fun v => v.category).sum ≤ 8) (hd : decode cc pc = .ok (.invokespecial idx, 3))
    (kk : ∀ (i1 : Nat → Nat) (H1 : Heap) (locs1 : List Loc), (∀ j, j ∉ ns2 → i1 j = i j) → va_P D vwCl (gg_w i1 k (w.set q (a, .inr (ci, fs1)) ++ wn)) H1 → va_D A (gg_w i1 k (w.set q (a, .inr (ci, fs1)) ++ wn)) → va_S A s.heap H1 locs1 → W p l e R s m args below meth c H1 locs1 (cells + mc2) (slots + ms2) Q (F0 m (pc + 3) arr (rest.map (gg_v i)))) : W p l e R s m args below meth c H locs cells slots Q (F0 m pc arr (st.map (gg_v i))) := by
  have hts := S.2.2.2.2
  have hat := gg_at (i := i) (k := k) hq
  have hPc : va_P D vwCl (gg_w i k [(a, .inr (ci, fs0))]) H := by
    intro b y hb
    have hb0 : b = 0 := by
      have := (List.getElem?_eq_some_iff.mp hb).1
      simp [gg_w] at this
      omega
    subst hb0
    cases hb
    exact hP q _ hat
  have hDc : va_D A (gg_w i k [(a, .inr (ci, fs0))]) := hD.sub [q] rfl (by show [(gg_w i k w)[q]?] = _; rw [hat]; rfl)
  have hF : ∀ y, va_A (gg_w i k [(a, .inr (ci, fs0))]) H.size y → A y := va_free hD hS hA [q] (by show [(gg_w i k w)[q]?] = _; rw [hat]; rfl)
  have hst2 : st.map (gg_v i) = (as.map (gg_v i)).reverse ++ Value.ref (i a) :: rest.map (gg_v i) := by
    rw [← hst, List.map_append, List.map_reverse]
    rfl
  have hU : ∀ U : State, U.heap = H → s.WarmedH U.vm → U.heap.size = H.size ∧ va_P D vwCl (gg_w i k [(a, .inr (ci, fs0))]) U.heap ∧ va_K D vwCl (gg_tys k) U ∧ va_D (fun _ => True) (gg_w i k [(a, .inr (ci, fs0))]) ∧ hh_O U := by
    intro U h1 h3
    exact ⟨congrArg Array.size h1, h1.symm ▸ hPc, va_K.moved h3.alike hK, hDc.weaken (fun _ _ _ _ => trivial), hh_O_mv h3 hO⟩
  have hcb := va_cnB (R := R) (s := s) (args := args) (own := own) (host := host) (index := idx) (y := Mc.1) (bytes := Mc.2.1) (maxL := Mc.2.2.1) (ret := Mc.2.2.2.1) (rm := hh_R Mc mc2 ms2) (mc := mc2) (ms := ms2) n hts (gg_goodIn hm.1.2.1) rfl rfl rfl hlk (hts _ hm.1.1) hm.1.2.2 hR
  have hcb2 : va_CN R s args own idx Mc.1 host Mc.2.1 Mc.2.2.1 none (Cond.code Mc.1 Mc.2.1 Mc.2.2.1 Mc.2.2.2.1 :: gg_tbl) (hh_R Mc mc2 ms2) mc2 ms2 n := by
    have h9 := hm.2.2.2
    rw [h9] at hcb ⊢
    exact hcb
  refine hh_after (i := i) (va_runIN (n := n) (b := i a) (As := as.map (gg_v i)) (rest := rest.map (gg_v i)) S (hC l D k i H.size) ⟨hcb2, hm.2.2.1, hts _ hm.2.1⟩ ⟨hh_blind, fun U h1 h3 => ⟨rfl, hU U h1 h3⟩⟩ rfl (by rw [List.length_map]; exact hn) hsz hst2 (gg_room rfl hrest) hd ⟨hcs.1, hcs.2⟩) hS (fun y _ h => hF y h) hF (fun i1 H1 locs1 hi1 hP1 hD1 hz hk hS1 => ?_)
  · have hg := hh_grow (x1 := (i1 a, gg_c i1 k a (.inr (ci, fs1)))) (wn1 := gg_w i1 k wn) hP hD hat (by
      have ha : a ∉ ns2 := by
        intro h
        have : ∀ {w : va_W} {q : Nat} {x : Nat × va_E}, hh_fw ns2 w = true → w[q]? = some x → x.1 ∉ ns2 := by
          intro w
          induction w with
          | nil => intro q x _ hx; simp at hx
          | cons y w ih =>
            intro q x hf hx
            obtain ⟨b, e⟩ := y
            have h2 : (!ns2.contains b && hh_fe ns2 b e && hh_fw ns2 w) = true := hf
            simp only [Bool.and_eq_true] at h2
            cases q with
            | zero =>
              simp at hx
              subst hx
              simpa using h2.1.1
            | succ q => exact ih h2.2 (by simpa using hx)
        exact this hfw hq h
      exact hi1 a ha) hk hF hP1 hD1
    have ew : gg_w i1 k (w.set q (a, .inr (ci, fs1)) ++ wn) = (gg_w i k w).set q (i1 a, gg_c i1 k a (.inr (ci, fs1))) ++ gg_w i1 k wn := by
      rw [hh_app, gg_set, hh_cw hi1 hfw]
    exact kk i1 H1 locs1 hi1 (by rw [ew]; exact hg.1) (by rw [ew]; exact hg.2) hS1
end HHC
section HHD
variable {M Mc : gg_M} {mc ms mc2 ms2 : Nat} {ns ns2 : List Nat} {pc idx n : Nat} {ls : List (Option Value)} {st rest as : List Value} {w w' wn : va_W} {u v : Nat}
theorem hh_callI (q : Nat) {a ci : Nat} {fs0 fs1 : List Value} (hC : hh_C Mc mc2 ms2 ns2 (.ref a :: as) [(a, .inr (ci, fs0))] ((a, .inr (ci, fs1)) :: wn)) (hm : hh_n Mc n) (hlk : Cond.methodLink M.1.cls idx Mc.1 ∈ gg_tbl) (hq : w[q]? = some (a, .inr (ci, fs0))) (hst : as.reverse ++ .ref a :: rest = st) (hn : as.length = n) (hfw : hh_fw ns2 w = true) (hfl : hh_fl ns2 ls = true) (hfs : rest.all (hh_fv ns2) = true) (hsub : ns2.all (fun j => ns.contains j) = true)
    (hR : Mc.2.2.2.2.1 + 1 ≤ M.2.2.2.2.1 ∧ 8 + (Mc.2.2.1 + 11) + Mc.2.2.2.2.2 ≤ M.2.2.2.2.2) (hcs : u + mc2 ≤ mc ∧ v + ms2 ≤ ms) (hrest : (rest.map fun v => v.category).sum ≤ 8) (hd : decode M.2.1 pc = .ok (.invokespecial idx, 3)) (w2 : va_W) (h2 : w.set q (a, .inr (ci, fs1)) ++ wn = w2) (kk : hh_G M mc ms ns (pc + 3) ls rest w2 (u + mc2) (v + ms2) w') : hh_G M mc ms ns pc ls st w u v w' := by
  intro l p e s m args below meth c D k A i0 X i H locs arr hi hP hD hS hl
  subst h2
  refine hh_cI (R := hh_R M mc ms) ⟨X.1, X.2.1, X.2.2.2.1, X.2.2.2.2.1, X.2.2.2.2.2.1⟩ X.2.2.2.2.2.2.2.1 X.2.2.2.2.2.2.2.2.1 X.2.2.2.2.2.2.2.2.2.2 hP hD hS hl.1 q hC hm hlk hq hst hn hfw hR hcs hrest hd (fun i1 H1 locs1 hi1 g1 g2 g3 => ?_)
  rw [← hh_cs hi1 hfs]
  refine kk l p e s m args below meth c D k A i0 X i1 H1 locs1 arr (fun j hj => (hi1 j (fun h => hj ?_)).trans (hi j hj)) g1 g2 g3 (hh_lv hi1 hfl hl)
  have := List.all_eq_true.mp hsub j h
  simpa using this
theorem hh_callIN (q : Nat) {a ci : Nat} {fs0 fs1 : List Value} (hC : hh_C Mc mc2 ms2 ns2 (.ref a :: as) [(a, .inr (ci, fs0))] ((a, .inr (ci, fs1)) :: wn)) (hm : hh_n Mc n) {host : String} (hlk : ∀ s, hh_O s → va_Nw (.methodLinkNest M.1.cls idx Mc.1 host) s) (hq : w[q]? = some (a, .inr (ci, fs0))) (hst : as.reverse ++ .ref a :: rest = st) (hn : as.length = n) (hfw : hh_fw ns2 w = true) (hfl : hh_fl ns2 ls = true) (hfs : rest.all (hh_fv ns2) = true) (hsub : ns2.all (fun j => ns.contains j) = true)
    (hR : Mc.2.2.2.2.1 + 1 ≤ M.2.2.2.2.1 ∧ 8 + (Mc.2.2.1 + 11) + Mc.2.2.2.2.2 ≤ M.2.2.2.2.2) (hcs : u + mc2 ≤ mc ∧ v + ms2 ≤ ms) (hrest : (rest.map fun v => v.category).sum ≤ 8) (hd : decode M.2.1 pc = .ok (.invokespecial idx, 3)) (w2 : va_W) (h2 : w.set q (a, .inr (ci, fs1)) ++ wn = w2) (kk : hh_G M mc ms ns (pc + 3) ls rest w2 (u + mc2) (v + ms2) w') : hh_G M mc ms ns pc ls st w u v w' := by
  intro l p e s m args below meth c D k A i0 X i H locs arr hi hP hD hS hl
  subst h2
  refine hh_cIN (R := hh_R M mc ms) ⟨X.1, X.2.1, X.2.2.2.1, X.2.2.2.2.1, X.2.2.2.2.2.1⟩ X.2.2.2.2.2.2.2.1 X.2.2.2.2.2.2.2.2.1 X.2.2.2.2.2.2.2.2.2.2 hP hD hS hl.1 q hC hm (hlk s X.2.2.2.2.2.2.2.2.2.2) hq hst hn hfw hR hcs hrest hd (fun i1 H1 locs1 hi1 g1 g2 g3 => ?_)
  rw [← hh_cs hi1 hfs]
  refine kk l p e s m args below meth c D k A i0 X i1 H1 locs1 arr (fun j hj => (hi1 j (fun h => hj ?_)).trans (hi j hj)) g1 g2 g3 (hh_lv hi1 hfl hl)
  have := List.all_eq_true.mp hsub j h
  simpa using this
end HHD
