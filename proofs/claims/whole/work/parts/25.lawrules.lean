def ll_X (p : Program) (s : State) (m : MethodId) (meth : Method) (c : Code) (b L : Nat) (xs : Nat → Int32) (D : va_G) (k i : Nat → Nat) : Prop :=
  p.tables.exec = Jvm.exec ∧ c.code = code ∧ meth.sig.returnType = ret ∧ c.maxLocals = 4 ∧ s.vm.findClass R_law = some m.cls ∧ (∀ w ∈ gg_tbl, w.before #[Value.ref b] s = true) ∧ meth.locks = false ∧ va_K D vwCl (gg_tys k) s ∧ va_X b L xs s s.heap ∧ b < s.heap.size ∧ gg_L (i 499) (fun q => s.heap.size ≤ q) s ∧ i 498 = b
def ll_G (L : Nat) (xs : Nat → Int32) (pc : Nat) (ls : List (Option Value)) (st : List Value) (w : va_W) : Prop :=
  ∀ (l : Launch) (p : Program) (e : Env) (s : State) (m : MethodId) (below : List Frame) (meth : Method) (c : Code) (b : Nat) (D : va_G) (k i : Nat → Nat), ll_X p s m meth c b L xs D k i →
  ∀ (H : Heap) (locs : List Loc) (arr : Array Slot), va_P D vwCl (gg_w i k w) H → va_D (fun q => s.heap.size ≤ q) (gg_w i k w) → va_S (fun q => s.heap.size ≤ q) s.heap H locs → gg_l i arr 4 ls →
  W p l e room_1 s m #[Value.ref b] below meth c H locs 93 6235 (lw_Z below #[Value.ref b] s) (F0 m pc arr (st.map (gg_v i)))
section LLR
variable {L : Nat} {xs : Nat → Int32} {pc : Nat} {ls : List (Option Value)} {st : List Value} {w : va_W}
theorem ll_iconst {n : Int} (x : Int32) (hd : decode code pc = .ok (.iconst n, 1)) (hv : Int32.ofInt n = x) (kk : ll_G L xs (pc + 1) ls (.int x :: st) w) : ll_G L xs pc ls (st) w := by
  intro l p e s m below meth c b D k i X H locs arr hP hD hS hl
  exact lv_iconst X.1 X.2.1 hd hv (kk l p e s m below meth c b D k i X H locs arr hP hD hS hl)
theorem ll_bipush {n : Int} (x : Int32) (hd : decode code pc = .ok (.bipush n, 2)) (hv : (Int8.ofInt n).toInt32 = x) (kk : ll_G L xs (pc + 2) ls (.int x :: st) w) : ll_G L xs pc ls (st) w := by
  intro l p e s m below meth c b D k i X H locs arr hP hD hS hl
  exact lv_bipush X.1 X.2.1 hd hv (kk l p e s m below meth c b D k i X H locs arr hP hD hS hl)
theorem ll_iadd {x y : Int32} (hd : decode code pc = .ok (.iadd, 1))  (kk : ll_G L xs (pc + 1) ls (.int (x + y) :: st) w) : ll_G L xs pc ls (.int y :: .int x :: st) w := by
  intro l p e s m below meth c b D k i X H locs arr hP hD hS hl
  exact lv_iadd X.1 X.2.1 hd  (kk l p e s m below meth c b D k i X H locs arr hP hD hS hl)
theorem ll_isub {x y : Int32} (hd : decode code pc = .ok (.isub, 1))  (kk : ll_G L xs (pc + 1) ls (.int (x - y) :: st) w) : ll_G L xs pc ls (.int y :: .int x :: st) w := by
  intro l p e s m below meth c b D k i X H locs arr hP hD hS hl
  exact lv_isub X.1 X.2.1 hd  (kk l p e s m below meth c b D k i X H locs arr hP hD hS hl)
theorem ll_iand {x y : Int32} (hd : decode code pc = .ok (.iand, 1))  (kk : ll_G L xs (pc + 1) ls (.int (x &&& y) :: st) w) : ll_G L xs pc ls (.int y :: .int x :: st) w := by
  intro l p e s m below meth c b D k i X H locs arr hP hD hS hl
  exact lv_iand X.1 X.2.1 hd  (kk l p e s m below meth c b D k i X H locs arr hP hD hS hl)
theorem ll_lcmp {x y : Int64} (hd : decode code pc = .ok (.lcmp, 1))  (kk : ll_G L xs (pc + 1) ls (.int (lg_cmp x y) :: st) w) : ll_G L xs pc ls (.long y :: .long x :: st) w := by
  intro l p e s m below meth c b D k i X H locs arr hP hD hS hl
  exact W.lcmp X.1 X.2.1 hd  (kk l p e s m below meth c b D k i X H locs arr hP hD hS hl)
theorem ll_iload_n {b0 : Fin 4} {x : Int32} (hd : decode code pc = .ok (.iload_n b0, 1)) (hv : ls[(b0 : Nat)]? = some (some (.int x))) (kk : ll_G L xs (pc + 1) ls (.int x :: st) w) : ll_G L xs pc ls st w := by
  intro l p e s m below meth c b D k i X H locs arr hP hD hS hl
  exact lv_iload_n X.1 X.2.1 hd rfl (hl.2.2 _ _ hv) (kk l p e s m below meth c b D k i X H locs arr hP hD hS hl)
theorem ll_aload_n {b0 : Fin 4} {x : Nat} (hd : decode code pc = .ok (.aload_n b0, 1)) (hv : ls[(b0 : Nat)]? = some (some (.ref x))) (kk : ll_G L xs (pc + 1) ls (.ref x :: st) w) : ll_G L xs pc ls st w := by
  intro l p e s m below meth c b D k i X H locs arr hP hD hS hl
  exact lv_aload_n X.1 X.2.1 hd rfl (hl.2.2 _ _ hv) (kk l p e s m below meth c b D k i X H locs arr hP hD hS hl)
theorem ll_sld {j : Int32} (hd : decode code pc = .ok (.iaload, 1)) (hj : vp_in j L) (kk : ll_G L xs (pc + 1) ls (.int (xs j.toNatClampNeg) :: st) w) : ll_G L xs pc ls (.int j :: .ref 498 :: st) w := by
  intro l p e s m below meth c b D k i X H locs arr hP hD hS hl
  have h8 := X.2.2.2.2.2.2.2.2.2.2.2
  show W p l e room_1 s m #[Value.ref b] below meth c H locs 93 6235 _ (F0 m pc arr (.int j :: .ref (i 498) :: st.map (gg_v i)))
  rw [h8]
  exact va_sld (A := fun q => s.heap.size ≤ q) X.1 X.2.1 X.2.2.2.2.2.2.2.2.1 X.2.2.2.2.2.2.2.2.2.1 (Nat.not_le.mpr X.2.2.2.2.2.2.2.2.2.1) hS hj hd (kk l p e s m below meth c b D k i X H locs arr hP hD hS hl)
theorem ll_slen (hd : decode code pc = .ok (.arraylength, 1)) (kk : ll_G L xs (pc + 1) ls (.int (Int32.ofNat L) :: st) w) : ll_G L xs pc ls (.ref 498 :: st) w := by
  intro l p e s m below meth c b D k i X H locs arr hP hD hS hl
  have h8 := X.2.2.2.2.2.2.2.2.2.2.2
  show W p l e room_1 s m #[Value.ref b] below meth c H locs 93 6235 _ (F0 m pc arr (.ref (i 498) :: st.map (gg_v i)))
  rw [h8]
  exact va_slen (A := fun q => s.heap.size ≤ q) X.1 X.2.1 X.2.2.2.2.2.2.2.2.1 X.2.2.2.2.2.2.2.2.2.1 (Nat.not_le.mpr X.2.2.2.2.2.2.2.2.2.1) hS hd (kk l p e s m below meth c b D k i X H locs arr hP hD hS hl)
theorem ll_goto {off : Int} (tgt : Nat) (hd : decode code pc = .ok (.goto off, 3)) (ht : (pc : Int) + off = (tgt : Int)) (kk : ll_G L xs tgt ls st w) : ll_G L xs pc ls st w := by
  intro l p e s m below meth c b D k i X H locs arr hP hD hS hl
  exact lv_goto X.1 X.2.1 hd ht (kk l p e s m below meth c b D k i X H locs arr hP hD hS hl)
theorem ll_eq {x y : Int32} {off : Int} (tgt : Nat) (hd : decode code pc = .ok (.if_icmp .eq off, 3)) (ht : (pc : Int) + off = (tgt : Int)) (hc : x = y) (kk : ll_G L xs tgt ls st w) : ll_G L xs pc ls (.int y :: .int x :: st) w := by
  intro l p e s m below meth c b D k i X H locs arr hP hD hS hl
  exact lv_icmp_eq X.1 X.2.1 hd ht (fun _ => kk l p e s m below meth c b D k i X H locs arr hP hD hS hl) (fun q => absurd hc q)
theorem ll_eq0 {x : Int32} {off : Int} (tgt : Nat) (hd : decode code pc = .ok (.ifCond .eq off, 3)) (ht : (pc : Int) + off = (tgt : Int)) (hc : x = 0) (kk : ll_G L xs tgt ls st w) : ll_G L xs pc ls (.int x :: st) w := by
  intro l p e s m below meth c b D k i X H locs arr hP hD hS hl
  exact lv_if_eq X.1 X.2.1 hd ht (fun _ => kk l p e s m below meth c b D k i X H locs arr hP hD hS hl) (fun q => absurd hc q)
theorem ll_gt {x y : Int32} {off : Int} (tgt : Nat) (hd : decode code pc = .ok (.if_icmp .gt off, 3)) (ht : (pc : Int) + off = (tgt : Int)) (kt : y < x → ll_G L xs tgt ls st w) (kf : ¬ y < x → ll_G L xs (pc + 3) ls st w) : ll_G L xs pc ls (.int y :: .int x :: st) w := by
  intro l p e s m below meth c b D k i X H locs arr hP hD hS hl
  exact lv_icmp_gt X.1 X.2.1 hd ht (fun q => kt q l p e s m below meth c b D k i X H locs arr hP hD hS hl) (fun q => kf q l p e s m below meth c b D k i X H locs arr hP hD hS hl)
theorem ll_swIn {dflt lo hi : Int} {offs : Array Int} {len : Nat} {x : Int32} {off : Int} (tgt : Nat) (hd : decode code pc = .ok (.tableswitch dflt lo hi offs, len)) (h1 : ¬ x.toInt < lo) (h2 : ¬ hi < x.toInt) (ho : offs[(x.toInt - lo).toNat]? = some off) (ht : (pc : Int) + off = (tgt : Int)) (kk : ll_G L xs tgt ls st w) : ll_G L xs pc ls (.int x :: st) w := by
  intro l p e s m below meth c b D k i X H locs arr hP hD hS hl
  exact lv_tableIn X.1 X.2.1 hd h1 h2 ho ht (kk l p e s m below meth c b D k i X H locs arr hP hD hS hl)
theorem ll_swOut {dflt lo hi : Int} {offs : Array Int} {len : Nat} {x : Int32} (tgt : Nat) (hd : decode code pc = .ok (.tableswitch dflt lo hi offs, len)) (h : x.toInt < lo ∨ hi < x.toInt) (ht : (pc : Int) + dflt = (tgt : Int)) (kk : ll_G L xs tgt ls st w) : ll_G L xs pc ls (.int x :: st) w := by
  intro l p e s m below meth c b D k i X H locs arr hP hD hS hl
  exact lv_tableOut X.1 X.2.1 hd h ht (kk l p e s m below meth c b D k i X H locs arr hP hD hS hl)
theorem ll_iinc {j : Nat} {n : Int} {x : Int32} (y : Int32) (ls2 : List (Option Value)) (hd : decode code pc = .ok (.iinc j n, 3)) (hv : ls[j]? = some (some (.int x))) (hx : x + Int32.ofInt n = y) (hlow : gg_low ls j = true) (hn : j < 4) (h2 : ls.set j (some (.int y)) = ls2) (kk : ll_G L xs (pc + 3) ls2 st w) : ll_G L xs pc ls st w := by
  intro l p e s m below meth c b D k i X H locs arr hP hD hS hl
  subst h2
  obtain ⟨q, hq⟩ := List.getElem?_of_mem (gg_lp_mem (i := i) (ls := ls) (q := (j, .int x)) |>.mpr ⟨.int x, hv, rfl⟩)
  exact lv_iinc X.1 X.2.1 hd (gg_lp_has hl) hq hx hn rfl (fun ls' hl' => kk l p e s m below meth c b D k i X H locs ls' hP hD hS (gg_st1 (x := .int y) hlow hl'))
theorem ll_ret1 (hd : decode code pc = .ok (.ireturn, 1)) : ll_G L xs pc ls [.int 1] w := by
  intro l p e s m below meth c b D k i X H locs arr hP hD hS hl
  refine va_forget (fun q hq => hS.2.2 q hq) ?_
  refine W.widen (k := 600000) (n := 7302250) (by omega) (by omega) ?_
  exact lw_ret X.1 X.2.1 X.2.2.1 X.2.2.2.2.2.2.1 hd
end LLR
theorem ll_cmp (x : Int64) : lg_cmp x x = 0 := by
  unfold lg_cmp
  rw [if_neg (by simp), if_pos rfl]
