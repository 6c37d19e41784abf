def va_AOA (t : FieldType) (U : State) : Prop := (Cond.arrayOver (.array t)).before #[] U = true
theorem va_AOA.use {t : FieldType} {A : Array Value} {U : State} (h : va_AOA t U) : (Cond.arrayOver (.array t)).before A U = true := h
/-! ===== BEGIN new T[n][m]: the outer array a place, the inner ones among the pooled ===== -/
/-- f, but v at every address of l -/
def vr_up {α : Type} (f : Nat → α) (l : List Nat) (v : α) : Nat → α := fun a => if a ∈ l then v else f a
theorem vr_up_in {α : Type} {f : Nat → α} {l : List Nat} {v : α} {a : Nat} (h : a ∈ l) : vr_up f l v a = v := if_pos h
theorem vr_up_ne {α : Type} {f : Nat → α} {l : List Nat} {v : α} {a : Nat} (h : a ∉ l) : vr_up f l v a = f a := if_neg h
theorem vr_rows {L l : List Nat} {f : Nat → va_E} {e : va_E} (h : ∀ a, a ∈ l → a ∉ L) : va_pl L f ++ l.map (fun a => (a, e)) = va_pl (L ++ l) (vr_up f l e) := by
  unfold va_pl
  rw [List.map_append]
  congr 1
  · apply List.map_congr_left
    intro a ha
    rw [vr_up_ne (fun q => h a q ha)]
  · apply List.map_congr_left
    intro a ha
    rw [vr_up_in ha]
theorem vr_lay {X rows : va_W} {x : Nat × va_E} {pl : va_W} {D : va_G} {cl : List vw_C} {H : Heap} (hP : va_P D cl (((X ++ pl) ++ [x]) ++ rows) H) : va_P D cl ((X ++ [x]) ++ (pl ++ rows)) H := by
  rw [List.append_assoc (X ++ pl)] at hP
  have h := va_P.swap hP
  rw [← List.append_assoc X] at h
  have h2 := va_P.swap h
  rw [List.append_assoc (X ++ [x])] at h2
  exact h2
theorem vr_layD {X rows : va_W} {x : Nat × va_E} {pl : va_W} {A : Nat → Prop} (hD : va_D A (((X ++ pl) ++ [x]) ++ rows)) : va_D A ((X ++ [x]) ++ (pl ++ rows)) := by
  rw [List.append_assoc (X ++ pl)] at hD
  have h := va_D.swap hD
  rw [← List.append_assoc X] at h
  have h2 := va_D.swap h
  rw [List.append_assoc (X ++ [x])] at h2
  exact h2
theorem vr_outer (c : ClassId) (N h0 : Nat) : ∀ i : Nat, Jvm.Free.Multi.outerC c N h0 i = arrV c N (fun j => va_rf (if j < i then some (h0 + 1 + j) else none))
  | 0 => by
    show ({ cls := c, slots := Array.replicate N .null, vm := .none } : Cell) = _
    rw [arrV_new]
    refine congrArg (arrV c N) (funext fun j => ?_)
    simp [va_rf]
  | i + 1 => by
    show (Jvm.Free.Multi.outerC c N h0 i).setSlot i (.ref (h0 + 1 + i)) = _
    rw [vr_outer c N h0 i, arrV_store]
    refine congrArg (arrV c N) (funext fun j => ?_)
    by_cases e : j = i
    · subst e
      simp [updV, va_rf]
    · by_cases h : j < i
      · simp [updV, e, h, Nat.lt_succ_of_lt h]
      · simp [updV, e, h, show ¬ j < i + 1 by omega]
section VGM
variable {p : Program} {l : Launch} {e : Env} {R : Room} {s : State} {m : MethodId} {args : Array Value} {below : List Frame} {meth : Method} {c : Code} {H : Heap} {locs : List Loc} {cells slots : Nat} {Q : State → Prop}
variable {cc : ByteArray} {pc : Nat} {ls : Array Slot} {rest : List Value} {D : va_G} {cl : List vw_C} {A : Nat → Prop} {a : Nat} {tys : List (ClassId × FieldType)} {ws : va_W} {H0 : Heap}
theorem va_mna {X : va_W} {L : List Nat} {f : Nat → va_E} {cc : ByteArray} (hexec : p.tables.exec = Jvm.exec) (hb : c.code = cc) {own : String} {index : Nat} {ty : FieldType} {cy : ClassId} (hown : s.vm.findClass own = some m.cls) (hclink : (Cond.classLink own index ("[" ++ (FieldType.array ty).toString)).before args s = true) (hover : va_AOA ty s) (harr : (Cond.arrayClass ty).before args s = true) (hcy : s.vm.findClass (FieldType.array ty).toString = some cy)
    (hK : va_K D cl tys s) (hP : va_P D cl (X ++ va_pl L f) H) (hD : va_D A (X ++ va_pl L f)) (hS : va_S A H0 H locs) (hA : ∀ q, H0.size ≤ q → A q) {n k : Int32} {N' K' : Nat} {z : vp_A} (hn : ¬ n < 0) (hk : ¬ k < 0) (hN : n.toNatClampNeg = N') (hM : k.toNatClampNeg = K')
    (hb1 : N' * 4 ≤ 536870912) (hb2 : K' * componentBytes ty ≤ 536870912) (hb3 : K' ≤ 536870912) (hdf : fits ty (defaultValue ty) = true) (hdd : (defaultValue ty).isDefault = true) (hcells : cells + (1 + N') ≤ R.cells) (hslots : slots + (N' + N' * K') ≤ R.slots) (hz : ∀ c : ClassId, Jvm.Free.Multi.innerC c K' (defaultValue ty) = vp_cell c z) (hdg : decode cc pc = .ok (.multianewarray index 2, 4))
    (kk : ∀ (q : Nat) (r : Nat → Nat) (cA : ClassId) (H1 : Heap), (∀ i j : Nat, i < N' → j < N' → r i = r j → i = j) → (∀ i : Nat, i < N' → r i ∉ L) → va_K D cl (tys ++ [(cA, .array ty)]) s →
      va_P D cl ((X ++ [(q, .inl (cA, N', .inr (.inr (.inr (.inr (fun i => if i < N' then some (r i) else none))))))]) ++ va_pl (L ++ (List.range N').map r) (vr_up f ((List.range N').map r) (.inl (cy, z)))) H1 → va_D A ((X ++ [(q, .inl (cA, N', .inr (.inr (.inr (.inr (fun i => if i < N' then some (r i) else none))))))]) ++ va_pl (L ++ (List.range N').map r) (vr_up f ((List.range N').map r) (.inl (cy, z)))) → va_S A H0 H1 locs →
      W p l e R s m args below meth c H1 locs (cells + 1 + N') (slots + N' + N' * K') Q (F0 m (pc + 4) ls (.ref q :: rest))) : W p l e R s m args below meth c H locs cells slots Q (F0 m pc ls (.int k :: .int n :: rest)) := by
  subst hN
  subst hM
  intro T hT Xs
  obtain ⟨vm₁, cA, comp, -, fA, fC, hO, -, X', step⟩ := Xs.multianewarray2F hexec hown hclink (va_AOA.use hover) harr (g := F0 m pc ls (.int k :: .int n :: rest)) rfl (by rw [hb]; exact hdg) rfl hn hk hb1 hb2 hb3 hdf hdd hcells hslots
  have ec : some cy = some comp := hcy.symm.trans fC
  cases ec
  generalize hF : Jvm.Free.Multi.fill (T.setVm vm₁) cA cy n.toNatClampNeg k.toNatClampNeg (defaultValue ty) n.toNatClampNeg = F at X' step
  have hTh : (T.setVm vm₁).heap = H := hT
  obtain ⟨f1, f2, -, -⟩ := Jvm.Free.Multi.fill_facts (T.setVm vm₁) cA cy n.toNatClampNeg k.toNatClampNeg (defaultValue ty) n.toNatClampNeg
  rw [hF, hTh] at f1 f2
  have hold : ∀ x : Nat, x < H.size → F.heap[x]? = H[x]? := fun x hx => by
    have := Jvm.Free.Multi.fill_old (T.setVm vm₁) cA cy n.toNatClampNeg k.toNatClampNeg (defaultValue ty) (a := x) (by rw [hTh]; exact hx) n.toNatClampNeg
    rw [hF, hTh] at this
    exact this
  have hrow : ∀ j : Nat, j < n.toNatClampNeg → F.heap[H.size + 1 + j]? = some (vp_cell cy z) := fun j hj => by
    have := Jvm.Free.Multi.fill_inner (T.setVm vm₁) cA cy n.toNatClampNeg k.toNatClampNeg (defaultValue ty) n.toNatClampNeg j hj
    rw [hF, hTh, hz] at this
    exact this
  have hout : Jvm.Free.Multi.outerC cA n.toNatClampNeg H.size n.toNatClampNeg = vp_cell cA (n.toNatClampNeg, .inr (.inr (.inr (.inr (fun i => if i < n.toNatClampNeg then some (H.size + 1 + i) else none))))) := by
    rw [vp_cell_q]
    exact vr_outer cA n.toNatClampNeg H.size n.toNatClampNeg
  rw [hout] at f2
  have hlt : ∀ a, a ∈ L → a < H.size := fun a ha => by
    obtain ⟨k9, hk9⟩ := va_pl_get (X := X) (f := f) ha
    exact (hP k9 _ hk9).lt
  have hnl : ∀ i : Nat, i < n.toNatClampNeg → H.size + 1 + i ∉ L := fun i _ h => by
    have := hlt _ h
    omega
  have hnm : ∀ a, a ∈ (List.range n.toNatClampNeg).map (fun i => H.size + 1 + i) → a ∉ L := fun a ha h => by
    obtain ⟨i, -, rfl⟩ := List.mem_map.mp ha
    have := hlt _ h
    omega
  have hP0 : va_P D cl (X ++ va_pl L f) F.heap := hP.kept (fun k9 x hx => hold x.1 ((hP k9 x hx).lt))
  have hP1 : va_P D cl ((X ++ va_pl L f) ++ [(H.size, .inl (cA, n.toNatClampNeg, .inr (.inr (.inr (.inr (fun i => if i < n.toNatClampNeg then some (H.size + 1 + i) else none))))))]) F.heap := hP0.app (fun k9 x hx => by
    have h0 : k9 < 1 := (List.getElem?_eq_some_iff.mp hx).1
    rw [show k9 = 0 by omega] at hx
    cases hx
    exact f2)
  have hP2 : va_P D cl (((X ++ va_pl L f) ++ [(H.size, .inl (cA, n.toNatClampNeg, .inr (.inr (.inr (.inr (fun i => if i < n.toNatClampNeg then some (H.size + 1 + i) else none))))))]) ++ ((List.range n.toNatClampNeg).map (fun i => H.size + 1 + i)).map (fun a => (a, .inl (cy, z)))) F.heap := hP1.app (fun k9 x hx => by
    obtain ⟨a, ha, rfl⟩ := List.mem_map.mp (List.mem_of_getElem? hx)
    obtain ⟨i, hi, rfl⟩ := List.mem_map.mp ha
    exact hrow i (List.mem_range.mp hi))
  have hD2 : va_D A (((X ++ va_pl L f) ++ [(H.size, .inl (cA, n.toNatClampNeg, .inr (.inr (.inr (.inr (fun i => if i < n.toNatClampNeg then some (H.size + 1 + i) else none))))))]) ++ ((List.range n.toNatClampNeg).map (fun i => H.size + 1 + i)).map (fun a => (a, .inl (cy, z)))) := by
    have hD1 := hD.push (e := .inl (cA, n.toNatClampNeg, .inr (.inr (.inr (.inr (fun i => if i < n.toNatClampNeg then some (H.size + 1 + i) else none)))))) hP rfl (hA _ hS.1)
    generalize hW1 : (X ++ va_pl L f) ++ [(H.size, .inl (cA, n.toNatClampNeg, .inr (.inr (.inr (.inr (fun i => if i < n.toNatClampNeg then some (H.size + 1 + i) else none))))))] = W1 at hD1 hP1 ⊢
    have hle : ∀ (k9 : Nat) (x : Nat × va_E), W1[k9]? = some x → x.1 ≤ H.size := fun k9 x hx => by
      rw [← hW1] at hx
      by_cases hl : k9 < (X ++ va_pl L f).length
      · rw [List.getElem?_append_left hl] at hx
        exact Nat.le_of_lt ((hP k9 x hx).lt)
      · rw [List.getElem?_append_right (by omega)] at hx
        have h0 : k9 - (X ++ va_pl L f).length < 1 := (List.getElem?_eq_some_iff.mp hx).1
        rw [show k9 - (X ++ va_pl L f).length = 0 by omega] at hx
        cases hx
        exact Nat.le_refl _
    have hr : ∀ (k9 : Nat) (x : Nat × va_E), (((List.range n.toNatClampNeg).map (fun i => H.size + 1 + i)).map (fun a => ((a, .inl (cy, z)) : Nat × va_E)))[k9]? = some x → x.1 = H.size + 1 + k9 := fun k9 x hx => by
      rw [List.getElem?_map, List.getElem?_map] at hx
      by_cases h9 : k9 < n.toNatClampNeg
      · rw [List.getElem?_range h9] at hx
        cases hx
        rfl
      · have hn0 : (List.range n.toNatClampNeg)[k9]? = none := List.getElem?_eq_none (by rw [List.length_range]; omega)
        rw [hn0] at hx
        cases hx
    refine ⟨fun i j x y hi hj hxy => ?_, fun k9 x hx => ?_⟩
    · by_cases h1 : i < W1.length <;> by_cases h2 : j < W1.length
      · rw [List.getElem?_append_left h1] at hi
        rw [List.getElem?_append_left h2] at hj
        exact hD1.1 i j x y hi hj hxy
      · rw [List.getElem?_append_left h1] at hi
        rw [List.getElem?_append_right (by omega)] at hj
        have := hle _ _ hi
        have := hr _ _ hj
        omega
      · rw [List.getElem?_append_right (by omega)] at hi
        rw [List.getElem?_append_left h2] at hj
        have := hle _ _ hj
        have := hr _ _ hi
        omega
      · rw [List.getElem?_append_right (by omega)] at hi hj
        have := hr _ _ hi
        have := hr _ _ hj
        omega
    · by_cases h1 : k9 < W1.length
      · rw [List.getElem?_append_left h1] at hx
        exact hD1.2 k9 x hx
      · rw [List.getElem?_append_right (by omega)] at hx
        have := hr _ _ hx
        exact hA _ (by have := hS.1; omega)
  have hAr : ArrOfT s cA (.array ty) := fun N9 z9 => by
    obtain ⟨-, k9, hk9, cm9, hkk9⟩ := (hO 0 0 0).1
    exact ⟨(fun q hq => by cases hq), k9, hk9, cm9, hkk9⟩
  have hK2 : va_K D cl (tys ++ [(cA, .array ty)]) s := ⟨hK.1, fun k9 x hx => by
    by_cases hl : k9 < tys.length
    · rw [List.getElem?_append_left hl] at hx
      exact hK.2 k9 x hx
    · rw [List.getElem?_append_right (by omega)] at hx
      have h0 : k9 - tys.length < 1 := (List.getElem?_eq_some_iff.mp hx).1
      rw [show k9 - tys.length = 0 by omega] at hx
      cases hx
      exact ⟨hAr, fA⟩⟩
  obtain ⟨t, a1, b1⟩ := kk H.size (fun i => H.size + 1 + i) cA F.heap (fun i j _ _ h => by have h9 : H.size + 1 + i = H.size + 1 + j := h; omega) hnl hK2 (by rw [← vr_rows hnm]; exact vr_lay hP2) (by rw [← vr_rows hnm]; exact vr_layD hD2) ⟨by rw [f1]; have := hS.1; omega, fun x h1 h2 => (hold x (Nat.lt_of_lt_of_le h1 hS.1)).trans (hS.2.1 x h1 h2), hS.2.2⟩ F rfl X'
  refine ⟨t, step t ?_, b1⟩
  have e : T.heap.size = H.size := by rw [hT]
  rw [e]
  exact a1
end VGM
/-! ===== END ===== -/
def RX0 : String := "HutFlock$Bricks"
def TX0 : u_T := fun k => match k with
  | 0 => ("HutFlock$Bricks", "who", "[I", true)
  | 1 => ("HutFlock$Bricks", "given", "[I", true)
  | 2 => ("HutFlock$Bricks", "best", "[I", true)
  | 3 => ("HutFlock$Bricks", "size", "I", false)
  | 4 => ("HutFlock$Bricks", "bestApart", "I", false)
  | _ => ("HutFlock$Bricks", "bestFar", "I", false)
def tyX0 : Nat → FieldType := fun k => match k with
  | 0 => .array .int
  | 1 => .array .int
  | 2 => .array .int
  | 3 => .int
  | 4 => .int
  | _ => .int
theorem nmX0 : ∀ a, a < 6 → ∀ b, b < 6 → a ≠ b → (TX0 a).2.1 ≠ (TX0 b).2.1 := by decide +kernel
theorem tyX0_ok : ∀ k, k < 6 → parseFieldDescriptor (TX0 k).2.2.1 = some (tyX0 k) := by decide +kernel
abbrev cX0_init : ByteArray := prog_2_method_1_code
def yX0_init : MethodName := ⟨RX0, "<init>", "()V"⟩
abbrev cX0_seek : ByteArray := prog_2_method_2_code
def yX0_seek : MethodName := ⟨RX0, "seek", "(LHutFlock$Flock;)V"⟩
abbrev cX0_begin : ByteArray := prog_2_method_3_code
def yX0_begin : MethodName := ⟨RX0, "begin", "(LHutFlock$Flock;)V"⟩
abbrev cX0_insert : ByteArray := prog_2_method_4_code
def yX0_insert : MethodName := ⟨RX0, "insert", "(I)V"⟩
abbrev cX0_takeAsBest : ByteArray := prog_2_method_5_code
def yX0_takeAsBest : MethodName := ⟨RX0, "takeAsBest", "()V"⟩
abbrev cX0_apart : ByteArray := prog_2_method_6_code
def yX0_apart : MethodName := ⟨RX0, "apart", "()I"⟩
abbrev cX0_far : ByteArray := prog_2_method_7_code
def yX0_far : MethodName := ⟨RX0, "far", "(LHutFlock$Flock;)I"⟩
abbrev cX0_goOn : ByteArray := prog_2_method_8_code
def yX0_goOn : MethodName := ⟨RX0, "goOn", "()Z"⟩
abbrev cX0_swap : ByteArray := prog_2_method_9_code
def yX0_swap : MethodName := ⟨RX0, "swap", "(II)V"⟩
def RX1 : String := "HutFlock$Flights"
def TX1 : u_T := fun k => match k with
  | 0 => ("HutFlock$Flights", "ways", "[[I", true)
  | _ => ("HutFlock$Flights", "earliest", "I", false)
def tyX1 : Nat → FieldType := fun k => match k with
  | 0 => .array (.array .int)
  | _ => .int
theorem nmX1 : ∀ a, a < 2 → ∀ b, b < 2 → a ≠ b → (TX1 a).2.1 ≠ (TX1 b).2.1 := by decide +kernel
theorem tyX1_ok : ∀ k, k < 2 → parseFieldDescriptor (TX1 k).2.2.1 = some (tyX1 k) := by decide +kernel
abbrev cX1_init : ByteArray := prog_3_method_1_code
def yX1_init : MethodName := ⟨RX1, "<init>", "()V"⟩
abbrev cX1_seek : ByteArray := prog_3_method_2_code
def yX1_seek : MethodName := ⟨RX1, "seek", "(III)I"⟩
abbrev cX1_waysOf : ByteArray := prog_3_method_3_code
def yX1_waysOf : MethodName := ⟨RX1, "waysOf", "(II)I"⟩
abbrev cX1_waysByLast : ByteArray := prog_3_method_4_code
def yX1_waysByLast : MethodName := ⟨RX1, "waysByLast", "(III)I"⟩
abbrev cX1_firstRow : ByteArray := prog_3_method_5_code
def yX1_firstRow : MethodName := ⟨RX1, "firstRow", "(III)I"⟩
abbrev cX1_firstWind : ByteArray := prog_3_method_6_code
def yX1_firstWind : MethodName := ⟨RX1, "firstWind", "(III)I"⟩
def RX2 : String := "HutFlock$Flock"
def TX2 : u_T := fun k => match k with
  | 0 => ("HutFlock$Flock", "huts", "I", false)
  | 1 => ("HutFlock$Flock", "food", "I", false)
  | 2 => ("HutFlock$Flock", "due", "I", false)
  | 3 => ("HutFlock$Flock", "winds", "[I", true)
  | 4 => ("HutFlock$Flock", "kind", "[I", true)
  | 5 => ("HutFlock$Flock", "home", "[I", true)
  | 6 => ("HutFlock$Flock", "strength", "[I", true)
  | 7 => ("HutFlock$Flock", "brown", "[I", true)
  | 8 => ("HutFlock$Flock", "brick", "[I", true)
  | 9 => ("HutFlock$Flock", "back", "[I", true)
  | _ => ("HutFlock$Flock", "backs", "I", false)
def tyX2 : Nat → FieldType := fun k => match k with
  | 0 => .int
  | 1 => .int
  | 2 => .int
  | 3 => .array .int
  | 4 => .array .int
  | 5 => .array .int
  | 6 => .array .int
  | 7 => .array .int
  | 8 => .array .int
  | 9 => .array .int
  | _ => .int
theorem nmX2 : ∀ a, a < 11 → ∀ b, b < 11 → a ≠ b → (TX2 a).2.1 ≠ (TX2 b).2.1 := by decide +kernel
theorem tyX2_ok : ∀ k, k < 11 → parseFieldDescriptor (TX2 k).2.2.1 = some (tyX2 k) := by decide +kernel
abbrev cX2_init : ByteArray := prog_4_method_1_code
def yX2_init : MethodName := ⟨RX2, "<init>", "()V"⟩
abbrev cX2_clear : ByteArray := prog_4_method_2_code
def yX2_clear : MethodName := ⟨RX2, "clear", "()V"⟩
abbrev cX2_become : ByteArray := prog_4_method_3_code
def yX2_become : MethodName := ⟨RX2, "become", "(LHutFlock$Flock;)V"⟩
abbrev cX2_knows : ByteArray := prog_4_method_4_code
def yX2_knows : MethodName := ⟨RX2, "knows", "(I)Z"⟩
abbrev cX2_isThere : ByteArray := prog_4_method_5_code
def yX2_isThere : MethodName := ⟨RX2, "isThere", "(I)Z"⟩
abbrev cX2_canBeFed : ByteArray := prog_4_method_6_code
def yX2_canBeFed : MethodName := ⟨RX2, "canBeFed", "(I)Z"⟩
abbrev cX2_hasHomeOn : ByteArray := prog_4_method_7_code
def yX2_hasHomeOn : MethodName := ⟨RX2, "hasHomeOn", "(I)Z"⟩
abbrev cX2_settle : ByteArray := prog_4_method_8_code
def yX2_settle : MethodName := ⟨RX2, "settle", "(IIII)V"⟩
abbrev cX2_windDue : ByteArray := prog_4_method_9_code
def yX2_windDue : MethodName := ⟨RX2, "windDue", "()I"⟩
abbrev cX2_wanted : ByteArray := prog_4_method_10_code
def yX2_wanted : MethodName := ⟨RX2, "wanted", "(I)I"⟩
abbrev cX2_ofHut : ByteArray := prog_4_method_11_code
def yX2_ofHut : MethodName := ⟨RX2, "ofHut", "(II)I"⟩
abbrev cX2_hostOf : ByteArray := prog_4_method_12_code
def yX2_hostOf : MethodName := ⟨RX2, "hostOf", "(I)I"⟩
abbrev cX2_thereBits : ByteArray := prog_4_method_13_code
def yX2_thereBits : MethodName := ⟨RX2, "thereBits", "()I"⟩
abbrev cX2_howManyThere : ByteArray := prog_4_method_14_code
def yX2_howManyThere : MethodName := ⟨RX2, "howManyThere", "()I"⟩
abbrev cX2_atHomeBits : ByteArray := prog_4_method_15_code
def yX2_atHomeBits : MethodName := ⟨RX2, "atHomeBits", "()I"⟩
abbrev cX2_strengthThere : ByteArray := prog_4_method_16_code
def yX2_strengthThere : MethodName := ⟨RX2, "strengthThere", "()I"⟩
abbrev cX2_howManyGuards : ByteArray := prog_4_method_17_code
def yX2_howManyGuards : MethodName := ⟨RX2, "howManyGuards", "()I"⟩
abbrev cX2_howManyLessLate : ByteArray := prog_4_method_18_code
def yX2_howManyLessLate : MethodName := ⟨RX2, "howManyLessLate", "(I)I"⟩
abbrev cX2_strongestOf : ByteArray := prog_4_method_19_code
def yX2_strongestOf : MethodName := ⟨RX2, "strongestOf", "(I)I"⟩
abbrev cX2_leadByLuring : ByteArray := prog_4_method_20_code
def yX2_leadByLuring : MethodName := ⟨RX2, "leadByLuring", "(I)I"⟩
abbrev cX2_beFed : ByteArray := prog_4_method_21_code
def yX2_beFed : MethodName := ⟨RX2, "beFed", "(I)V"⟩
abbrev cX2_changeHomes : ByteArray := prog_4_method_22_code
def yX2_changeHomes : MethodName := ⟨RX2, "changeHomes", "(II)V"⟩
abbrev cX2_lose : ByteArray := prog_4_method_23_code
def yX2_lose : MethodName := ⟨RX2, "lose", "(I)V"⟩
abbrev cX2_passWinters : ByteArray := prog_4_method_24_code
def yX2_passWinters : MethodName := ⟨RX2, "passWinters", "(I)V"⟩
abbrev cX2_passWinter : ByteArray := prog_4_method_25_code
def yX2_passWinter : MethodName := ⟨RX2, "passWinter", "()V"⟩
abbrev cX2_stay : ByteArray := prog_4_method_26_code
def yX2_stay : MethodName := ⟨RX2, "stay", "(I)V"⟩
abbrev cX2_go : ByteArray := prog_4_method_27_code
def yX2_go : MethodName := ⟨RX2, "go", "(II)V"⟩
abbrev cX2_isAheadOf : ByteArray := prog_4_method_28_code
def yX2_isAheadOf : MethodName := ⟨RX2, "isAheadOf", "(II)Z"⟩
abbrev cX2_land : ByteArray := prog_4_method_29_code
def yX2_land : MethodName := ⟨RX2, "land", "(I)V"⟩
abbrev cX2_nearestFree : ByteArray := prog_4_method_30_code
def yX2_nearestFree : MethodName := ⟨RX2, "nearestFree", "(I)I"⟩
abbrev cX2_freeBits : ByteArray := prog_4_method_31_code
def yX2_freeBits : MethodName := ⟨RX2, "freeBits", "()I"⟩
def RX3 : String := "HutFlock$Kind"
def TX3 : u_T := fun k => match k with
  | _ => ("", "", "", false)
def tyX3 : Nat → FieldType := fun k => match k with
  | _ => .int
theorem nmX3 : ∀ a, a < 0 → ∀ b, b < 0 → a ≠ b → (TX3 a).2.1 ≠ (TX3 b).2.1 := by decide +kernel
theorem tyX3_ok : ∀ k, k < 0 → parseFieldDescriptor (TX3 k).2.2.1 = some (tyX3 k) := by decide +kernel
abbrev cX3_byLetter : ByteArray := prog_5_method_2_code
def yX3_byLetter : MethodName := ⟨RX3, "byLetter", "(I)I"⟩
abbrev cX3_isOf : ByteArray := prog_5_method_3_code
def yX3_isOf : MethodName := ⟨RX3, "isOf", "(II)Z"⟩
abbrev cX3_stays : ByteArray := prog_5_method_4_code
def yX3_stays : MethodName := ⟨RX3, "stays", "(II)Z"⟩
abbrev cX3_tiredBy : ByteArray := prog_5_method_5_code
def yX3_tiredBy : MethodName := ⟨RX3, "tiredBy", "(II)I"⟩
abbrev cX3_tiredInFlight : ByteArray := prog_5_method_6_code
def yX3_tiredInFlight : MethodName := ⟨RX3, "tiredInFlight", "(II)I"⟩
abbrev cX3_lateBy : ByteArray := prog_5_method_7_code
def yX3_lateBy : MethodName := ⟨RX3, "lateBy", "(I)I"⟩
abbrev cX3_wants : ByteArray := prog_5_method_8_code
def yX3_wants : MethodName := ⟨RX3, "wants", "(II)I"⟩
abbrev cX3_greatestPart : ByteArray := prog_5_method_9_code
def yX3_greatestPart : MethodName := ⟨RX3, "greatestPart", "(II)I"⟩
def RX4 : String := "HutFlock$Log"
def TX4 : u_T := fun k => match k with
  | 0 => ("HutFlock$Log", "size", "I", false)
  | _ => ("HutFlock$Log", "codes", "[I", true)
def tyX4 : Nat → FieldType := fun k => match k with
  | 0 => .int
  | _ => .array .int
theorem nmX4 : ∀ a, a < 2 → ∀ b, b < 2 → a ≠ b → (TX4 a).2.1 ≠ (TX4 b).2.1 := by decide +kernel
theorem tyX4_ok : ∀ k, k < 2 → parseFieldDescriptor (TX4 k).2.2.1 = some (tyX4 k) := by decide +kernel
abbrev cX4_init : ByteArray := prog_6_method_1_code
def yX4_init : MethodName := ⟨RX4, "<init>", "(I)V"⟩
abbrev cX4_become : ByteArray := prog_6_method_2_code
def yX4_become : MethodName := ⟨RX4, "become", "(LHutFlock$Log;)V"⟩
abbrev cX4_lacks : ByteArray := prog_6_method_3_code
def yX4_lacks : MethodName := ⟨RX4, "lacks", "(I)Z"⟩
abbrev cX4_add : ByteArray := prog_6_method_4_code
def yX4_add : MethodName := ⟨RX4, "add", "(I)V"⟩
abbrev cX4_code : ByteArray := prog_6_method_5_code
def yX4_code : MethodName := ⟨RX4, "code", "(III)I"⟩
abbrev cX4_doTo : ByteArray := prog_6_method_6_code
def yX4_doTo : MethodName := ⟨RX4, "doTo", "(LHutFlock$Flock;I)V"⟩
def RX5 : String := "HutFlock$Reader"
def TX5 : u_T := fun k => match k with
  | 0 => ("HutFlock$Reader", "signs", "[I", true)
  | 1 => ("HutFlock$Reader", "size", "I", false)
  | _ => ("HutFlock$Reader", "place", "I", false)
def tyX5 : Nat → FieldType := fun k => match k with
  | 0 => .array .int
  | 1 => .int
  | _ => .int
theorem nmX5 : ∀ a, a < 3 → ∀ b, b < 3 → a ≠ b → (TX5 a).2.1 ≠ (TX5 b).2.1 := by decide +kernel
theorem tyX5_ok : ∀ k, k < 3 → parseFieldDescriptor (TX5 k).2.2.1 = some (tyX5 k) := by decide +kernel
abbrev cX5_init : ByteArray := prog_7_method_1_code
def yX5_init : MethodName := ⟨RX5, "<init>", "()V"⟩
abbrev cX5_read : ByteArray := prog_7_method_2_code
def yX5_read : MethodName := ⟨RX5, "read", "(LHutFlock$Shelf;ILHutFlock$Flock;)I"⟩
abbrev cX5_readHead : ByteArray := prog_7_method_3_code
def yX5_readHead : MethodName := ⟨RX5, "readHead", "(LHutFlock$Flock;)Z"⟩
abbrev cX5_readFood : ByteArray := prog_7_method_4_code
def yX5_readFood : MethodName := ⟨RX5, "readFood", "(LHutFlock$Flock;)Z"⟩
abbrev cX5_readHuts : ByteArray := prog_7_method_5_code
def yX5_readHuts : MethodName := ⟨RX5, "readHuts", "(LHutFlock$Flock;)Z"⟩
abbrev cX5_readHut : ByteArray := prog_7_method_6_code
def yX5_readHut : MethodName := ⟨RX5, "readHut", "(LHutFlock$Flock;)Z"⟩
abbrev cX5_skipBlanks : ByteArray := prog_7_method_7_code
def yX5_skipBlanks : MethodName := ⟨RX5, "skipBlanks", "()V"⟩
abbrev cX5_sign : ByteArray := prog_7_method_8_code
def yX5_sign : MethodName := ⟨RX5, "sign", "()I"⟩
abbrev cX5_readFigure : ByteArray := prog_7_method_9_code
def yX5_readFigure : MethodName := ⟨RX5, "readFigure", "()I"⟩
def RX6 : String := "HutFlock$Shelf"
def TX6 : u_T := fun k => match k with
  | 0 => ("HutFlock$Shelf", "most", "I", true)
  | 1 => ("HutFlock$Shelf", "cells", "[[I", true)
  | _ => ("HutFlock$Shelf", "sizes", "[I", true)
def tyX6 : Nat → FieldType := fun k => match k with
  | 0 => .int
  | 1 => .array (.array .int)
  | _ => .array .int
theorem nmX6 : ∀ a, a < 3 → ∀ b, b < 3 → a ≠ b → (TX6 a).2.1 ≠ (TX6 b).2.1 := by decide +kernel
theorem tyX6_ok : ∀ k, k < 3 → parseFieldDescriptor (TX6 k).2.2.1 = some (tyX6 k) := by decide +kernel
abbrev cX6_init : ByteArray := prog_8_method_1_code
def yX6_init : MethodName := ⟨RX6, "<init>", "(II)V"⟩
abbrev cX6_knows : ByteArray := prog_8_method_2_code
def yX6_knows : MethodName := ⟨RX6, "knows", "(I)Z"⟩
abbrev cX6_has : ByteArray := prog_8_method_3_code
def yX6_has : MethodName := ⟨RX6, "has", "(I)Z"⟩
abbrev cX6_holds : ByteArray := prog_8_method_4_code
def yX6_holds : MethodName := ⟨RX6, "holds", "(II)Z"⟩
abbrev cX6_holdsRun : ByteArray := prog_8_method_5_code
def yX6_holdsRun : MethodName := ⟨RX6, "holdsRun", "(III)Z"⟩
abbrev cX6_size : ByteArray := prog_8_method_6_code
def yX6_size : MethodName := ⟨RX6, "size", "(I)I"⟩
abbrev cX6_get : ByteArray := prog_8_method_7_code
def yX6_get : MethodName := ⟨RX6, "get", "(II)I"⟩
abbrev cX6_set : ByteArray := prog_8_method_8_code
def yX6_set : MethodName := ⟨RX6, "set", "(III)V"⟩
abbrev cX6_make : ByteArray := prog_8_method_9_code
def yX6_make : MethodName := ⟨RX6, "make", "(II)V"⟩
abbrev cX6_drop : ByteArray := prog_8_method_10_code
def yX6_drop : MethodName := ⟨RX6, "drop", "(I)V"⟩
abbrev cX6_write : ByteArray := prog_8_method_11_code
def yX6_write : MethodName := ⟨RX6, "write", "(I[II)V"⟩
abbrev cX6_move : ByteArray := prog_8_method_12_code
def yX6_move : MethodName := ⟨RX6, "move", "(IIIII)V"⟩
abbrev cX6_sum : ByteArray := prog_8_method_13_code
def yX6_sum : MethodName := ⟨RX6, "sum", "(I)J"⟩
abbrev cX6_howMany : ByteArray := prog_8_method_14_code
def yX6_howMany : MethodName := ⟨RX6, "howMany", "()I"⟩
abbrev cX6_digestOnto : ByteArray := prog_8_method_15_code
def yX6_digestOnto : MethodName := ⟨RX6, "digestOnto", "(J)J"⟩
def RX7 : String := "HutFlock$Vee"
def TX7 : u_T := fun k => match k with
  | 0 => ("HutFlock$Vee", "who", "[I", true)
  | 1 => ("HutFlock$Vee", "fronts", "[I", true)
  | 2 => ("HutFlock$Vee", "best", "[I", true)
  | 3 => ("HutFlock$Vee", "size", "I", false)
  | _ => ("HutFlock$Vee", "legs", "I", false)
def tyX7 : Nat → FieldType := fun k => match k with
  | 0 => .array .int
  | 1 => .array .int
  | 2 => .array .int
  | 3 => .int
  | _ => .int
theorem nmX7 : ∀ a, a < 5 → ∀ b, b < 5 → a ≠ b → (TX7 a).2.1 ≠ (TX7 b).2.1 := by decide +kernel
theorem tyX7_ok : ∀ k, k < 5 → parseFieldDescriptor (TX7 k).2.2.1 = some (tyX7 k) := by decide +kernel
abbrev cX7_init : ByteArray := prog_9_method_1_code
def yX7_init : MethodName := ⟨RX7, "<init>", "()V"⟩
abbrev cX7_seek : ByteArray := prog_9_method_2_code
def yX7_seek : MethodName := ⟨RX7, "seek", "(LHutFlock$Flock;I)I"⟩
abbrev cX7_begin : ByteArray := prog_9_method_3_code
def yX7_begin : MethodName := ⟨RX7, "begin", "(LHutFlock$Flock;I)V"⟩
abbrev cX7_takeAsBest : ByteArray := prog_9_method_4_code
def yX7_takeAsBest : MethodName := ⟨RX7, "takeAsBest", "()V"⟩
abbrev cX7_goOn : ByteArray := prog_9_method_5_code
def yX7_goOn : MethodName := ⟨RX7, "goOn", "()Z"⟩
abbrev cX7_leastStrength : ByteArray := prog_9_method_6_code
def yX7_leastStrength : MethodName := ⟨RX7, "leastStrength", "(LHutFlock$Flock;)I"⟩
def RX8 : String := "HutFlock"
def TX8 : u_T := fun k => match k with
  | 0 => ("HutFlock", "rows", "LHutFlock$Shelf;", true)
  | 1 => ("HutFlock", "texts", "LHutFlock$Shelf;", true)
  | 2 => ("HutFlock", "reader", "LHutFlock$Reader;", true)
  | 3 => ("HutFlock", "first", "LHutFlock$Flock;", true)
  | 4 => ("HutFlock", "now", "LHutFlock$Flock;", true)
  | 5 => ("HutFlock", "aside", "LHutFlock$Flock;", true)
  | 6 => ("HutFlock", "log", "LHutFlock$Log;", true)
  | 7 => ("HutFlock", "kept", "[LHutFlock$Log;", true)
  | 8 => ("HutFlock", "vees", "LHutFlock$Vee;", true)
  | 9 => ("HutFlock", "bricks", "LHutFlock$Bricks;", true)
  | 10 => ("HutFlock", "flights", "LHutFlock$Flights;", true)
  | 11 => ("HutFlock", "found", "[I", true)
  | 12 => ("HutFlock", "latestFinding", "I", false)
  | 13 => ("HutFlock", "told", "I", false)
  | 14 => ("HutFlock", "above", "J", false)
  | _ => ("HutFlock", "below", "J", false)
def tyX8 : Nat → FieldType := fun k => match k with
  | 0 => .object "HutFlock$Shelf"
  | 1 => .object "HutFlock$Shelf"
  | 2 => .object "HutFlock$Reader"
  | 3 => .object "HutFlock$Flock"
  | 4 => .object "HutFlock$Flock"
  | 5 => .object "HutFlock$Flock"
  | 6 => .object "HutFlock$Log"
  | 7 => .array (.object "HutFlock$Log")
  | 8 => .object "HutFlock$Vee"
  | 9 => .object "HutFlock$Bricks"
  | 10 => .object "HutFlock$Flights"
  | 11 => .array .int
  | 12 => .int
  | 13 => .int
  | 14 => .long
  | _ => .long
theorem nmX8 : ∀ a, a < 16 → ∀ b, b < 16 → a ≠ b → (TX8 a).2.1 ≠ (TX8 b).2.1 := by decide +kernel
theorem tyX8_ok : ∀ k, k < 16 → parseFieldDescriptor (TX8 k).2.2.1 = some (tyX8 k) := by decide +kernel
abbrev cX8_init : ByteArray := prog_1_method_1_code
def yX8_init : MethodName := ⟨RX8, "<init>", "()V"⟩
abbrev cX8_row : ByteArray := prog_1_method_2_code
def yX8_row : MethodName := ⟨RX8, "row", "(II)I"⟩
abbrev cX8_lay : ByteArray := prog_1_method_3_code
def yX8_lay : MethodName := ⟨RX8, "lay", "(III)I"⟩
abbrev cX8_at : ByteArray := prog_1_method_4_code
def yX8_at : MethodName := ⟨RX8, "at", "(II)I"⟩
abbrev cX8_tear : ByteArray := prog_1_method_5_code
def yX8_tear : MethodName := ⟨RX8, "tear", "(I)I"⟩
abbrev cX8_copy : ByteArray := prog_1_method_6_code
def yX8_copy : MethodName := ⟨RX8, "copy", "(IIIII)I"⟩
abbrev cX8_mean : ByteArray := prog_1_method_7_code
def yX8_mean : MethodName := ⟨RX8, "mean", "(I)I"⟩
abbrev cX8_text : ByteArray := prog_1_method_8_code
def yX8_text : MethodName := ⟨RX8, "text", "(II)I"⟩
abbrev cX8_put : ByteArray := prog_1_method_9_code
def yX8_put : MethodName := ⟨RX8, "put", "(III)I"⟩
abbrev cX8_fault : ByteArray := prog_1_method_10_code
def yX8_fault : MethodName := ⟨RX8, "fault", "(I)I"⟩
abbrev cX8_front : ByteArray := prog_1_method_11_code
def yX8_front : MethodName := ⟨RX8, "front", "(I)I"⟩
abbrev cX8_hut : ByteArray := prog_1_method_12_code
def yX8_hut : MethodName := ⟨RX8, "hut", "(II)I"⟩
abbrev cX8_mark : ByteArray := prog_1_method_13_code
def yX8_mark : MethodName := ⟨RX8, "mark", "(II)I"⟩
abbrev cX8_tires : ByteArray := prog_1_method_14_code
def yX8_tires : MethodName := ⟨RX8, "tires", "(II)I"⟩
abbrev cX8_winter : ByteArray := prog_1_method_15_code
def yX8_winter : MethodName := ⟨RX8, "winter", "()I"⟩
abbrev cX8_feed : ByteArray := prog_1_method_16_code
def yX8_feed : MethodName := ⟨RX8, "feed", "(I)I"⟩
abbrev cX8_sell : ByteArray := prog_1_method_17_code
def yX8_sell : MethodName := ⟨RX8, "sell", "(II)I"⟩
abbrev cX8_storm : ByteArray := prog_1_method_18_code
def yX8_storm : MethodName := ⟨RX8, "storm", "(I)I"⟩
abbrev cX8_undo : ByteArray := prog_1_method_19_code
def yX8_undo : MethodName := ⟨RX8, "undo", "(I)I"⟩
abbrev cX8_keep : ByteArray := prog_1_method_20_code
def yX8_keep : MethodName := ⟨RX8, "keep", "(I)I"⟩
abbrev cX8_on : ByteArray := prog_1_method_21_code
def yX8_on : MethodName := ⟨RX8, "on", "(I)I"⟩
abbrev cX8_then : ByteArray := prog_1_method_22_code
def yX8_then : MethodName := ⟨RX8, "then", "(II)I"⟩
abbrev cX8_lost : ByteArray := prog_1_method_23_code
def yX8_lost : MethodName := ⟨RX8, "lost", "(I)I"⟩
abbrev cX8_order : ByteArray := prog_1_method_24_code
def yX8_order : MethodName := ⟨RX8, "order", "(I)I"⟩
abbrev cX8_least : ByteArray := prog_1_method_25_code
def yX8_least : MethodName := ⟨RX8, "least", "(II)I"⟩
abbrev cX8_vee : ByteArray := prog_1_method_26_code
def yX8_vee : MethodName := ⟨RX8, "vee", "(II)I"⟩
abbrev cX8_pairs : ByteArray := prog_1_method_27_code
def yX8_pairs : MethodName := ⟨RX8, "pairs", "(I)I"⟩
abbrev cX8_kinds : ByteArray := prog_1_method_28_code
def yX8_kinds : MethodName := ⟨RX8, "kinds", "(II)I"⟩
abbrev cX8_test : ByteArray := prog_1_method_29_code
def yX8_test : MethodName := ⟨RX8, "test", "(II)I"⟩
abbrev cX8_flown : ByteArray := prog_1_method_30_code
def yX8_flown : MethodName := ⟨RX8, "flown", "(III)I"⟩
abbrev cX8_duel : ByteArray := prog_1_method_31_code
def yX8_duel : MethodName := ⟨RX8, "duel", "(I)I"⟩
abbrev cX8_odds : ByteArray := prog_1_method_32_code
def yX8_odds : MethodName := ⟨RX8, "odds", "(II)I"⟩
abbrev cX8_mid : ByteArray := prog_1_method_33_code
def yX8_mid : MethodName := ⟨RX8, "mid", "(I)I"⟩
abbrev cX8_lots : ByteArray := prog_1_method_34_code
def yX8_lots : MethodName := ⟨RX8, "lots", "(II)I"⟩
abbrev cX8_asked : ByteArray := prog_1_method_35_code
def yX8_asked : MethodName := ⟨RX8, "asked", "()I"⟩
abbrev cX8_upper : ByteArray := prog_1_method_36_code
def yX8_upper : MethodName := ⟨RX8, "upper", "()J"⟩
abbrev cX8_lower : ByteArray := prog_1_method_37_code
def yX8_lower : MethodName := ⟨RX8, "lower", "()J"⟩
abbrev cX8_count : ByteArray := prog_1_method_38_code
def yX8_count : MethodName := ⟨RX8, "count", "(I)I"⟩
abbrev cX8_finding : ByteArray := prog_1_method_39_code
def yX8_finding : MethodName := ⟨RX8, "finding", "()I"⟩
abbrev cX8_findings : ByteArray := prog_1_method_40_code
def yX8_findings : MethodName := ⟨RX8, "findings", "(I)I"⟩
abbrev cX8_digest : ByteArray := prog_1_method_41_code
def yX8_digest : MethodName := ⟨RX8, "digest", "()J"⟩
abbrev cX8_within : ByteArray := prog_1_method_42_code
def yX8_within : MethodName := ⟨RX8, "within", "(III)Z"⟩
abbrev cX8_find : ByteArray := prog_1_method_43_code
def yX8_find : MethodName := ⟨RX8, "find", "(I)I"⟩
abbrev cX8_refusedMissing : ByteArray := prog_1_method_44_code
def yX8_refusedMissing : MethodName := ⟨RX8, "refusedMissing", "(LHutFlock$Shelf;I)I"⟩
abbrev cX8_refusedPlace : ByteArray := prog_1_method_45_code
def yX8_refusedPlace : MethodName := ⟨RX8, "refusedPlace", "(LHutFlock$Shelf;II)I"⟩
abbrev cX8_refusedSigns : ByteArray := prog_1_method_46_code
def yX8_refusedSigns : MethodName := ⟨RX8, "refusedSigns", "(II)I"⟩
abbrev cX8_makeOn : ByteArray := prog_1_method_47_code
def yX8_makeOn : MethodName := ⟨RX8, "makeOn", "(LHutFlock$Shelf;II)I"⟩
abbrev cX8_act : ByteArray := prog_1_method_48_code
def yX8_act : MethodName := ⟨RX8, "act", "(I)V"⟩
abbrev cX8_doAnew : ByteArray := prog_1_method_49_code
def yX8_doAnew : MethodName := ⟨RX8, "doAnew", "()V"⟩
abbrev cX8_codeByLot : ByteArray := prog_1_method_50_code
def yX8_codeByLot : MethodName := ⟨RX8, "codeByLot", "(J)I"⟩
abbrev cX8_howManyKept : ByteArray := prog_1_method_51_code
def yX8_howManyKept : MethodName := ⟨RX8, "howManyKept", "()I"⟩
abbrev cX8_kindsBy : ByteArray := prog_1_method_52_code
def yX8_kindsBy : MethodName := ⟨RX8, "kindsBy", "(I)I"⟩
abbrev cX8_fits : ByteArray := prog_1_method_53_code
def yX8_fits : MethodName := ⟨RX8, "fits", "(II)Z"⟩
abbrev cX8_thereBehindWinter : ByteArray := prog_1_method_54_code
def yX8_thereBehindWinter : MethodName := ⟨RX8, "thereBehindWinter", "()I"⟩
abbrev cX8_isPartOf : ByteArray := prog_1_method_55_code
def yX8_isPartOf : MethodName := ⟨RX8, "isPartOf", "(II)Z"⟩
abbrev cX8_weight : ByteArray := prog_1_method_56_code
def yX8_weight : MethodName := ⟨RX8, "weight", "(III)J"⟩
abbrev cX8_tell : ByteArray := prog_1_method_57_code
def yX8_tell : MethodName := ⟨RX8, "tell", "(JJ)V"⟩
abbrev cX8_greatestDivisor : ByteArray := prog_1_method_58_code
def yX8_greatestDivisor : MethodName := ⟨RX8, "greatestDivisor", "(JJ)J"⟩
def RX9 : String := "HutFlockModel"
def TX9 : u_T := fun k => match k with
  | 0 => ("HutFlockModel", "latest", "I", false)
  | 1 => ("HutFlockModel", "came", "[I", true)
  | 2 => ("HutFlockModel", "asked", "I", false)
  | 3 => ("HutFlockModel", "upper", "J", false)
  | 4 => ("HutFlockModel", "lower", "J", false)
  | 5 => ("HutFlockModel", "sizes", "[I", true)
  | 6 => ("HutFlockModel", "rows", "[I", true)
  | 7 => ("HutFlockModel", "copied", "[I", true)
  | 8 => ("HutFlockModel", "textSizes", "[I", true)
  | 9 => ("HutFlockModel", "bytes", "[B", true)
  | 10 => ("HutFlockModel", "n", "I", false)
  | 11 => ("HutFlockModel", "kindOf", "[I", true)
  | 12 => ("HutFlockModel", "winds", "[I", true)
  | 13 => ("HutFlockModel", "now", "[I", true)
  | 14 => ("HutFlockModel", "tried", "[I", true)
  | 15 => ("HutFlockModel", "readAt", "I", false)
  | 16 => ("HutFlockModel", "readMany", "I", false)
  | 17 => ("HutFlockModel", "readFood", "I", false)
  | 18 => ("HutFlockModel", "isHead", "Z", false)
  | 19 => ("HutFlockModel", "readWinds", "[I", true)
  | 20 => ("HutFlockModel", "readHut", "[I", true)
  | 21 => ("HutFlockModel", "back", "[I", true)
  | 22 => ("HutFlockModel", "backMany", "I", false)
  | 23 => ("HutFlockModel", "deedMany", "I", false)
  | 24 => ("HutFlockModel", "log", "[I", true)
  | 25 => ("HutFlockModel", "isKept", "[Z", true)
  | 26 => ("HutFlockModel", "keptMany", "[I", true)
  | 27 => ("HutFlockModel", "keptNow", "[I", true)
  | 28 => ("HutFlockModel", "keptLog", "[I", true)
  | 29 => ("HutFlockModel", "fronts", "[I", true)
  | 30 => ("HutFlockModel", "strengths", "[I", true)
  | 31 => ("HutFlockModel", "free", "[I", true)
  | 32 => ("HutFlockModel", "placed", "[I", true)
  | 33 => ("HutFlockModel", "more", "[I", true)
  | 34 => ("HutFlockModel", "ahead", "[I", true)
  | 35 => ("HutFlockModel", "whole", "J", false)
  | 36 => ("HutFlockModel", "wellSum", "J", false)
  | 37 => ("HutFlockModel", "strongSum", "J", false)
  | _ => ("HutFlockModel", "hash", "J", false)
def tyX9 : Nat → FieldType := fun k => match k with
  | 0 => .int
  | 1 => .array .int
  | 2 => .int
  | 3 => .long
  | 4 => .long
  | 5 => .array .int
  | 6 => .array .int
  | 7 => .array .int
  | 8 => .array .int
  | 9 => .array .byte
  | 10 => .int
  | 11 => .array .int
  | 12 => .array .int
  | 13 => .array .int
  | 14 => .array .int
  | 15 => .int
  | 16 => .int
  | 17 => .int
  | 18 => .boolean
  | 19 => .array .int
  | 20 => .array .int
  | 21 => .array .int
  | 22 => .int
  | 23 => .int
  | 24 => .array .int
  | 25 => .array .boolean
  | 26 => .array .int
  | 27 => .array .int
  | 28 => .array .int
  | 29 => .array .int
  | 30 => .array .int
  | 31 => .array .int
  | 32 => .array .int
  | 33 => .array .int
  | 34 => .array .int
  | 35 => .long
  | 36 => .long
  | 37 => .long
  | _ => .long
theorem nmX9 : ∀ a, a < 39 → ∀ b, b < 39 → a ≠ b → (TX9 a).2.1 ≠ (TX9 b).2.1 := by decide +kernel
theorem tyX9_ok : ∀ k, k < 39 → parseFieldDescriptor (TX9 k).2.2.1 = some (tyX9 k) := by decide +kernel
abbrev cX9_init : ByteArray := prog_11_method_1_code
def yX9_init : MethodName := ⟨RX9, "<init>", "()V"⟩
abbrev cX9_in : ByteArray := prog_11_method_2_code
def yX9_in : MethodName := ⟨RX9, "in", "(III)Z"⟩
abbrev cX9_has : ByteArray := prog_11_method_3_code
def yX9_has : MethodName := ⟨RX9, "has", "(II)Z"⟩
abbrev cX9_bits : ByteArray := prog_11_method_4_code
def yX9_bits : MethodName := ⟨RX9, "bits", "(I)I"⟩
abbrev cX9_apart : ByteArray := prog_11_method_5_code
def yX9_apart : MethodName := ⟨RX9, "apart", "(II)I"⟩
abbrev cX9_meets : ByteArray := prog_11_method_6_code
def yX9_meets : MethodName := ⟨RX9, "meets", "(I)I"⟩
abbrev cX9_finding : ByteArray := prog_11_method_7_code
def yX9_finding : MethodName := ⟨RX9, "finding", "()I"⟩
abbrev cX9_findings : ByteArray := prog_11_method_8_code
def yX9_findings : MethodName := ⟨RX9, "findings", "(I)I"⟩
abbrev cX9_tells : ByteArray := prog_11_method_9_code
def yX9_tells : MethodName := ⟨RX9, "tells", "(II)I"⟩
abbrev cX9_asked : ByteArray := prog_11_method_10_code
def yX9_asked : MethodName := ⟨RX9, "asked", "()I"⟩
abbrev cX9_fraction : ByteArray := prog_11_method_11_code
def yX9_fraction : MethodName := ⟨RX9, "fraction", "(JJ)I"⟩
abbrev cX9_upper : ByteArray := prog_11_method_12_code
def yX9_upper : MethodName := ⟨RX9, "upper", "()J"⟩
abbrev cX9_lower : ByteArray := prog_11_method_13_code
def yX9_lower : MethodName := ⟨RX9, "lower", "()J"⟩
abbrev cX9_isRow : ByteArray := prog_11_method_14_code
def yX9_isRow : MethodName := ⟨RX9, "isRow", "(I)Z"⟩
abbrev cX9_rowAt : ByteArray := prog_11_method_15_code
def yX9_rowAt : MethodName := ⟨RX9, "rowAt", "(II)I"⟩
abbrev cX9_row : ByteArray := prog_11_method_16_code
def yX9_row : MethodName := ⟨RX9, "row", "(II)I"⟩
abbrev cX9_lay : ByteArray := prog_11_method_17_code
def yX9_lay : MethodName := ⟨RX9, "lay", "(III)I"⟩
abbrev cX9_at : ByteArray := prog_11_method_18_code
def yX9_at : MethodName := ⟨RX9, "at", "(II)I"⟩
abbrev cX9_tear : ByteArray := prog_11_method_19_code
def yX9_tear : MethodName := ⟨RX9, "tear", "(I)I"⟩
abbrev cX9_copy : ByteArray := prog_11_method_20_code
def yX9_copy : MethodName := ⟨RX9, "copy", "(IIIII)I"⟩
abbrev cX9_mean : ByteArray := prog_11_method_21_code
def yX9_mean : MethodName := ⟨RX9, "mean", "(I)I"⟩
abbrev cX9_isText : ByteArray := prog_11_method_22_code
def yX9_isText : MethodName := ⟨RX9, "isText", "(I)Z"⟩
abbrev cX9_text : ByteArray := prog_11_method_23_code
def yX9_text : MethodName := ⟨RX9, "text", "(II)I"⟩
abbrev cX9_put : ByteArray := prog_11_method_24_code
def yX9_put : MethodName := ⟨RX9, "put", "(III)I"⟩
abbrev cX9_byteAt : ByteArray := prog_11_method_25_code
def yX9_byteAt : MethodName := ⟨RX9, "byteAt", "(II)I"⟩
abbrev cX9_kindBy : ByteArray := prog_11_method_26_code
def yX9_kindBy : MethodName := ⟨RX9, "kindBy", "(I)I"⟩
abbrev cX9_figure : ByteArray := prog_11_method_27_code
def yX9_figure : MethodName := ⟨RX9, "figure", "(I)I"⟩
abbrev cX9_readsHead : ByteArray := prog_11_method_28_code
def yX9_readsHead : MethodName := ⟨RX9, "readsHead", "(I)Z"⟩
abbrev cX9_isTold : ByteArray := prog_11_method_29_code
def yX9_isTold : MethodName := ⟨RX9, "isTold", "(I)Z"⟩
abbrev cX9_readsHut : ByteArray := prog_11_method_30_code
def yX9_readsHut : MethodName := ⟨RX9, "readsHut", "(I)Z"⟩
abbrev cX9_faultOf : ByteArray := prog_11_method_31_code
def yX9_faultOf : MethodName := ⟨RX9, "faultOf", "(I)I"⟩
abbrev cX9_fault : ByteArray := prog_11_method_32_code
def yX9_fault : MethodName := ⟨RX9, "fault", "(I)I"⟩
abbrev cX9_front : ByteArray := prog_11_method_33_code
def yX9_front : MethodName := ⟨RX9, "front", "(I)I"⟩
abbrev cX9_isHut : ByteArray := prog_11_method_34_code
def yX9_isHut : MethodName := ⟨RX9, "isHut", "(I)Z"⟩
abbrev cX9_stays : ByteArray := prog_11_method_35_code
def yX9_stays : MethodName := ⟨RX9, "stays", "(II)Z"⟩
abbrev cX9_tiredBy : ByteArray := prog_11_method_36_code
def yX9_tiredBy : MethodName := ⟨RX9, "tiredBy", "(II)I"⟩
abbrev cX9_lateBy : ByteArray := prog_11_method_37_code
def yX9_lateBy : MethodName := ⟨RX9, "lateBy", "(I)I"⟩
abbrev cX9_isThere : ByteArray := prog_11_method_38_code
def yX9_isThere : MethodName := ⟨RX9, "isThere", "([II)Z"⟩
abbrev cX9_there : ByteArray := prog_11_method_39_code
def yX9_there : MethodName := ⟨RX9, "there", "([I)I"⟩
abbrev cX9_windOf : ByteArray := prog_11_method_40_code
def yX9_windOf : MethodName := ⟨RX9, "windOf", "([I)I"⟩
abbrev cX9_wanted : ByteArray := prog_11_method_41_code
def yX9_wanted : MethodName := ⟨RX9, "wanted", "([II)I"⟩
abbrev cX9_landing : ByteArray := prog_11_method_42_code
def yX9_landing : MethodName := ⟨RX9, "landing", "(II)I"⟩
abbrev cX9_isSooner : ByteArray := prog_11_method_43_code
def yX9_isSooner : MethodName := ⟨RX9, "isSooner", "([III)Z"⟩
abbrev cX9_passes : ByteArray := prog_11_method_44_code
def yX9_passes : MethodName := ⟨RX9, "passes", "([I)V"⟩
abbrev cX9_copyNow : ByteArray := prog_11_method_45_code
def yX9_copyNow : MethodName := ⟨RX9, "copyNow", "()V"⟩
abbrev cX9_hutTells : ByteArray := prog_11_method_46_code
def yX9_hutTells : MethodName := ⟨RX9, "hutTells", "(II)I"⟩
abbrev cX9_hut : ByteArray := prog_11_method_47_code
def yX9_hut : MethodName := ⟨RX9, "hut", "(II)I"⟩
abbrev cX9_atBrick : ByteArray := prog_11_method_48_code
def yX9_atBrick : MethodName := ⟨RX9, "atBrick", "(I)I"⟩
abbrev cX9_lessLate : ByteArray := prog_11_method_49_code
def yX9_lessLate : MethodName := ⟨RX9, "lessLate", "(I)I"⟩
abbrev cX9_mark : ByteArray := prog_11_method_50_code
def yX9_mark : MethodName := ⟨RX9, "mark", "(II)I"⟩
abbrev cX9_tires : ByteArray := prog_11_method_51_code
def yX9_tires : MethodName := ⟨RX9, "tires", "(II)I"⟩
abbrev cX9_remember : ByteArray := prog_11_method_52_code
def yX9_remember : MethodName := ⟨RX9, "remember", "()V"⟩
abbrev cX9_need : ByteArray := prog_11_method_53_code
def yX9_need : MethodName := ⟨RX9, "need", "(Z)I"⟩
abbrev cX9_winter : ByteArray := prog_11_method_54_code
def yX9_winter : MethodName := ⟨RX9, "winter", "()I"⟩
abbrev cX9_fed : ByteArray := prog_11_method_55_code
def yX9_fed : MethodName := ⟨RX9, "fed", "(I)V"⟩
abbrev cX9_feed : ByteArray := prog_11_method_56_code
def yX9_feed : MethodName := ⟨RX9, "feed", "(I)I"⟩
abbrev cX9_sell : ByteArray := prog_11_method_57_code
def yX9_sell : MethodName := ⟨RX9, "sell", "(II)I"⟩
abbrev cX9_storm : ByteArray := prog_11_method_58_code
def yX9_storm : MethodName := ⟨RX9, "storm", "(I)I"⟩
abbrev cX9_undo : ByteArray := prog_11_method_59_code
def yX9_undo : MethodName := ⟨RX9, "undo", "(I)I"⟩
abbrev cX9_keep : ByteArray := prog_11_method_60_code
def yX9_keep : MethodName := ⟨RX9, "keep", "(I)I"⟩
abbrev cX9_on : ByteArray := prog_11_method_61_code
def yX9_on : MethodName := ⟨RX9, "on", "(I)I"⟩
abbrev cX9_then : ByteArray := prog_11_method_62_code
def yX9_then : MethodName := ⟨RX9, "then", "(II)I"⟩
abbrev cX9_lost : ByteArray := prog_11_method_63_code
def yX9_lost : MethodName := ⟨RX9, "lost", "(I)I"⟩
abbrev cX9_order : ByteArray := prog_11_method_64_code
def yX9_order : MethodName := ⟨RX9, "order", "(I)I"⟩
abbrev cX9_least : ByteArray := prog_11_method_65_code
def yX9_least : MethodName := ⟨RX9, "least", "(II)I"⟩
abbrev cX9_flying : ByteArray := prog_11_method_66_code
def yX9_flying : MethodName := ⟨RX9, "flying", "(I)I"⟩
abbrev cX9_weakest : ByteArray := prog_11_method_67_code
def yX9_weakest : MethodName := ⟨RX9, "weakest", "(II)I"⟩
abbrev cX9_vee : ByteArray := prog_11_method_68_code
def yX9_vee : MethodName := ⟨RX9, "vee", "(II)I"⟩
abbrev cX9_isPut : ByteArray := prog_11_method_69_code
def yX9_isPut : MethodName := ⟨RX9, "isPut", "(II)Z"⟩
abbrev cX9_pairsApart : ByteArray := prog_11_method_70_code
def yX9_pairsApart : MethodName := ⟨RX9, "pairsApart", "()I"⟩
abbrev cX9_homesApart : ByteArray := prog_11_method_71_code
def yX9_homesApart : MethodName := ⟨RX9, "homesApart", "()I"⟩
abbrev cX9_pairs : ByteArray := prog_11_method_72_code
def yX9_pairs : MethodName := ⟨RX9, "pairs", "(I)I"⟩
abbrev cX9_needPairs : ByteArray := prog_11_method_73_code
def yX9_needPairs : MethodName := ⟨RX9, "needPairs", "(II)I"⟩
abbrev cX9_kindSet : ByteArray := prog_11_method_74_code
def yX9_kindSet : MethodName := ⟨RX9, "kindSet", "(I)I"⟩
abbrev cX9_kinds : ByteArray := prog_11_method_75_code
def yX9_kinds : MethodName := ⟨RX9, "kinds", "(II)I"⟩
abbrev cX9_alike : ByteArray := prog_11_method_76_code
def yX9_alike : MethodName := ⟨RX9, "alike", "(II)I"⟩
abbrev cX9_test : ByteArray := prog_11_method_77_code
def yX9_test : MethodName := ⟨RX9, "test", "(II)I"⟩
abbrev cX9_flown : ByteArray := prog_11_method_78_code
def yX9_flown : MethodName := ⟨RX9, "flown", "(III)I"⟩
abbrev cX9_lured : ByteArray := prog_11_method_79_code
def yX9_lured : MethodName := ⟨RX9, "lured", "(IZ)I"⟩
abbrev cX9_duel : ByteArray := prog_11_method_80_code
def yX9_duel : MethodName := ⟨RX9, "duel", "(I)I"⟩
abbrev cX9_layParts : ByteArray := prog_11_method_81_code
def yX9_layParts : MethodName := ⟨RX9, "layParts", "(II)V"⟩
abbrev cX9_odds : ByteArray := prog_11_method_82_code
def yX9_odds : MethodName := ⟨RX9, "odds", "(II)I"⟩
abbrev cX9_mid : ByteArray := prog_11_method_83_code
def yX9_mid : MethodName := ⟨RX9, "mid", "(I)I"⟩
abbrev cX9_lots : ByteArray := prog_11_method_84_code
def yX9_lots : MethodName := ⟨RX9, "lots", "(II)I"⟩
abbrev cX9_strongOf : ByteArray := prog_11_method_85_code
def yX9_strongOf : MethodName := ⟨RX9, "strongOf", "()I"⟩
abbrev cX9_homeOf : ByteArray := prog_11_method_86_code
def yX9_homeOf : MethodName := ⟨RX9, "homeOf", "()I"⟩
abbrev cX9_counted : ByteArray := prog_11_method_87_code
def yX9_counted : MethodName := ⟨RX9, "counted", "(I)I"⟩
abbrev cX9_count : ByteArray := prog_11_method_88_code
def yX9_count : MethodName := ⟨RX9, "count", "(I)I"⟩
abbrev cX9_mix : ByteArray := prog_11_method_89_code
def yX9_mix : MethodName := ⟨RX9, "mix", "(J)V"⟩
abbrev cX9_mixFront : ByteArray := prog_11_method_90_code
def yX9_mixFront : MethodName := ⟨RX9, "mixFront", "()V"⟩
abbrev cX9_digest : ByteArray := prog_11_method_91_code
def yX9_digest : MethodName := ⟨RX9, "digest", "()J"⟩
def RJ6 : String := "java/lang/Integer"
def TJ6 : u_T := fun k => match k with
  | _ => ("", "", "", false)
def tyJ6 : Nat → FieldType := fun k => match k with
  | _ => .int
theorem nmJ6 : ∀ a, a < 0 → ∀ b, b < 0 → a ≠ b → (TJ6 a).2.1 ≠ (TJ6 b).2.1 := by decide +kernel
theorem tyJ6_ok : ∀ k, k < 0 → parseFieldDescriptor (TJ6 k).2.2.1 = some (tyJ6 k) := by decide +kernel
abbrev cJ6_bitCount_0f7a4 : ByteArray := prog_12_method_49_code
def yJ6_bitCount_0f7a4 : MethodName := ⟨RJ6, "bitCount", "(I)I"⟩
def RJ9 : String := "java/lang/Math"
def TJ9 : u_T := fun k => match k with
  | _ => ("", "", "", false)
def tyJ9 : Nat → FieldType := fun k => match k with
  | _ => .int
theorem nmJ9 : ∀ a, a < 0 → ∀ b, b < 0 → a ≠ b → (TJ9 a).2.1 ≠ (TJ9 b).2.1 := by decide +kernel
theorem tyJ9_ok : ∀ k, k < 0 → parseFieldDescriptor (TJ9 k).2.2.1 = some (tyJ9 k) := by decide +kernel
abbrev cJ9_floorMod_7cf53 : ByteArray := prog_13_method_50_code
def yJ9_floorMod_7cf53 : MethodName := ⟨RJ9, "floorMod", "(II)I"⟩
abbrev cJ9_abs_0f7a4 : ByteArray := prog_13_method_59_code
def yJ9_abs_0f7a4 : MethodName := ⟨RJ9, "abs", "(I)I"⟩
abbrev cJ9_max_7cf53 : ByteArray := prog_13_method_65_code
def yJ9_max_7cf53 : MethodName := ⟨RJ9, "max", "(II)I"⟩
abbrev cJ9_min_7cf53 : ByteArray := prog_13_method_69_code
def yJ9_min_7cf53 : MethodName := ⟨RJ9, "min", "(II)I"⟩
def RJ10 : String := "java/lang/System"
def TJ10 : u_T := fun k => match k with
  | _ => ("", "", "", false)
def tyJ10 : Nat → FieldType := fun k => match k with
  | _ => .int
theorem nmJ10 : ∀ a, a < 0 → ∀ b, b < 0 → a ≠ b → (TJ10 a).2.1 ≠ (TJ10 b).2.1 := by decide +kernel
theorem tyJ10_ok : ∀ k, k < 0 → parseFieldDescriptor (TJ10 k).2.2.1 = some (tyJ10 k) := by decide +kernel
def RL : String := "HutFlockLaw"
abbrev cL_law : ByteArray := code
def yL_law : MethodName := ⟨RL, "law", "([I)Z"⟩
abbrev vwCl : List vw_C := [(RX0, TX0, 6), (RX1, TX1, 2), (RX2, TX2, 11), (RX4, TX4, 2), (RX5, TX5, 3), (RX6, TX6, 3), (RX7, TX7, 5), (RX8, TX8, 16), (RX9, TX9, 39)]
