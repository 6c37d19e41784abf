abbrev w_bef (kd st : Nat → Nat) (i j : Nat) : Prop := k_late (kd i) < k_late (kd j) ∨ (k_late (kd i) = k_late (kd j) ∧ (st j < st i ∨ (st i = st j ∧ i < j)))
theorem w_pw_c {kd st st' : Nat → Nat} {l : List Nat} (h : ∀ x, x ∈ l → st' x = st x) (p : l.Pairwise (fun a b => w_bef kd st b a)) : l.Pairwise (fun a b => w_bef kd st' b a) := by
  refine List.Pairwise.imp_of_mem ?_ p
  intro a b ha hb hr
  unfold w_bef at *
  rw [h a ha, h b hb]
  exact hr
theorem w_ins_pw {kd st : Nat → Nat} {i : Nat} : ∀ {l : List Nat}, (∀ x, x ∈ l → x < i) → l.Pairwise (fun a b => w_bef kd st b a) → (w_ins kd st i l).Pairwise (fun a b => w_bef kd st b a)
  | [], _, _ => by
    unfold w_ins
    exact List.pairwise_singleton _ _
  | x :: xs, hm, hp => by
    have hx : x < i := hm x (List.mem_cons_self ..)
    rw [List.pairwise_cons] at hp
    unfold w_ins
    split
    · rename_i h
      rw [List.pairwise_cons]
      refine ⟨fun y hy => ?_, w_ins_pw (fun y hy => hm y (List.mem_cons_of_mem _ hy)) hp.2⟩
      rcases (w_ins_mem _ _ _ _ _).1 hy with rfl | hy
      · unfold w_ahead at h
        unfold w_bef
        split at h
        · rename_i h1
          have := of_decide_eq_true h
          exact Or.inr ⟨h1, Or.inl this⟩
        · exact Or.inl (of_decide_eq_true h)
      · exact hp.1 y hy
    · rename_i h
      have hxi : w_bef kd st x i := by
        unfold w_ahead at h
        unfold w_bef
        split at h
        · rename_i h1
          have h2 : ¬ st x < st i := fun z => h (decide_eq_true z)
          refine Or.inr ⟨h1.symm, ?_⟩
          omega
        · rename_i h1
          have h2 : ¬ k_late (kd i) < k_late (kd x) := fun z => h (decide_eq_true z)
          left
          omega
      rw [List.pairwise_cons]
      refine ⟨fun y hy => ?_, by rw [List.pairwise_cons]; exact hp⟩
      rcases List.mem_cons.1 hy with rfl | hy
      · exact hxi
      · have := hp.1 y hy
        unfold w_bef at *
        have := hm y (List.mem_cons_of_mem _ hy)
        omega
theorem w_p1_ok {kd : Nat → Nat} {w : Nat} : ∀ (m i fd : Nat) (st bk : Nat → Nat) (fl : List Nat), (∀ x, x ∈ fl → x < i ∧ bk x = 10) → fl.Pairwise (fun a b => w_bef kd st b a) →
    (∀ x, x ∈ (w_p1 kd w m i fd st bk fl).2.2.2 → x < i + m ∧ (w_p1 kd w m i fd st bk fl).2.2.1 x = 10) ∧ (w_p1 kd w m i fd st bk fl).2.2.2.Pairwise (fun a b => w_bef kd (w_p1 kd w m i fd st bk fl).2.1 b a)
  | 0, i, fd, st, bk, fl, hm, hp => ⟨hm, hp⟩
  | m + 1, i, fd, st, bk, fl, hm, hp => by
    have hm' : ∀ x, x ∈ fl → x < i + 1 ∧ bk x = 10 := fun x hx => ⟨by have := (hm x hx).1; omega, (hm x hx).2⟩
    have hm2 : ∀ x, x ∈ fl → x < i + 1 ∧ gg_up bk i 10 x = 10 := fun x hx => ⟨by have := (hm x hx).1; omega, by rw [nx_upn]; split; rfl; exact (hm x hx).2⟩
    have hc : ∀ v, fl.Pairwise (fun a b => w_bef kd (gg_up st i v) b a) := fun v => w_pw_c (fun x hx => by rw [nx_upn, if_neg (by have := (hm x hx).1; omega)]) hp
    have e : i + (m + 1) = i + 1 + m := by omega
    rw [e]
    unfold w_p1
    split
    · exact w_p1_ok m (i + 1) fd st bk fl hm' hp
    · split
      · split
        · exact w_p1_ok m (i + 1) (fd - 1) st bk fl hm' hp
        · exact w_p1_ok m (i + 1) fd _ bk fl hm' (hc _)
      · split
        · exact w_p1_ok m (i + 1) fd st _ fl hm2 hp
        · refine w_p1_ok m (i + 1) fd _ _ _ (fun x hx => ?_) (w_ins_pw (fun x hx => (hm x hx).1) (hc _))
          rcases (w_ins_mem _ _ _ _ _).1 hx with rfl | hx
          · exact ⟨by omega, by rw [nx_upn, if_pos rfl]⟩
          · exact hm2 x hx
theorem nx_d0 {a b : Nat} (ha : a < 1073741824) (hb : b < 1073741824) : (nI 0 < nI a - nI b) = (b < a) := by
  apply propext
  rw [Int32.lt_iff_toInt_lt, pk_sub_toInt ha hb, nI_toInt (by omega)]
  omega
theorem nx_de {a b : Nat} (ha : a < 1073741824) (hb : b < 1073741824) : (nI a - nI b = nI 0) = (a = b) := by
  apply propext
  rw [← Int32.toInt_inj, pk_sub_toInt ha hb, nI_toInt (by omega)]
  omega
theorem ar_sooner {N : Nat} (hN : N ≤ 6) {kd wd : Nat → Nat} {kind winds a : Nat → Int32} (hk : fr_kw N kd wd kind winds) {f : FS_} (ha : fr_ar N f a) (hs : ∀ j, j < N → f.2.2.2.1 j < 1000) {i x : Nat} (hi : i < N) (hx : x < N) : f_X9_isSooner_a26 (nI i) (nI x) kind a = some (if w_bef kd f.2.2.2.1 i x then nI 1 else nI 0) := by
  unfold f_X9_isSooner_a26
  have h1 : k_late (kd i) < 1000 := by unfold k_late; split <;> (try split) <;> (try split) <;> omega
  have h2 : k_late (kd x) < 1000 := by unfold k_late; split <;> (try split) <;> (try split) <;> omega
  have h3 := hs i hi
  have h4 := hs x hx
  have a1 := (ha.2.2 i hi).2.1
  have a2 := (ha.2.2 x hx).2.1
  simp (disch := omega) only [nx_chk, nx_let, Option.bind_some, nx_l0, nx_l8, nx_l1, nI_add, nx_in, nx_cl, (hk.1 i hi).2, (hk.1 x hx).2, e_late9 (kd i) (hk.1 i hi).1, e_late9 (kd x) (hk.1 x hx).1, a1, a2, nx_d0, nx_de, nx_le, nx_isb0, nx_isb1]
  unfold w_bef
  by_cases q : k_late (kd i) < k_late (kd x)
  · simp only [q, if_true, true_or]
  · simp only [q, if_false, false_or]
    by_cases q2 : k_late (kd x) = k_late (kd i)
    · simp only [q2, if_true, true_and]
      by_cases q3 : f.2.2.2.1 x < f.2.2.2.1 i
      · simp only [q3, if_true, true_or]
      · simp only [q3, if_false, false_or]
        by_cases q4 : f.2.2.2.1 i = f.2.2.2.1 x
        · simp only [q4, if_true, true_and]
          by_cases q5 : x ≤ i
          · simp only [q5, if_true, show ¬ i < x by omega, if_false]
          · simp only [q5, if_false, show i < x by omega, if_true]
        · simp only [q4, if_false, false_and]
    · have q3 : ¬ k_late (kd i) = k_late (kd x) := fun z => q2 z.symm
      simp only [q2, q3, if_false, false_and]
def w_oI : Option Nat → Int32
  | none => -9
  | some b => nI b
def w_scan (kd st : Nat → Nat) (G : Nat) : Nat → Nat → Option Nat → Option Nat
  | 0, _, o => o
  | m + 1, i, o => if G.testBit i = true then (match o with
      | none => w_scan kd st G m (i + 1) (some i)
      | some b => if w_bef kd st i b then w_scan kd st G m (i + 1) (some i) else w_scan kd st G m (i + 1) (some b)) else w_scan kd st G m (i + 1) o
theorem ar_scan {β : Type} {N : Nat} (hN : N ≤ 6) {kd wd : Nat → Nat} {kind winds a : Nat → Int32} (hk : fr_kw N kd wd kind winds) {f : FS_} (ha : fr_ar N f a) (hs : ∀ j, j < N → f.2.2.2.1 j < 1000) {G : Nat} (hG : G < 64) (k : Int32 → Option β) : ∀ (m i fuel : Nat) (o : Option Nat), i + m = N → m < fuel → (∀ b, o = some b → b < N) → lp_X9_passes_a26_221 (nI G) (nI N) kind a k fuel (w_oI o) (nI i) = k (w_oI (w_scan kd f.2.2.2.1 G m i o))
  | 0, i, fuel + 1, o, hi, hf, ho => by
    rw [lp_X9_passes_a26_221]
    simp (disch := omega) only [nx_chk, nx_let, nx_b2, nx_b3, nx_b4, nx_b5, nx_b7, nx_b8, Option.bind_some, nx_l0, nx_l1, nx_l2, nx_l3, nx_l4, nx_l5, nx_l6, nx_l7, nx_l8, nx_l9, nx_l10, nx_l11, nx_l12, nx_l14, nx_l20, nx_l26, nx_l40, nx_l60, nx_l100, nx_l1000, nI_add, nx_sub, nx_m1, nx_in, nx_cl, nx_le, nx_ltI, nx_eq, nx_isb0, nx_isb1, nx_n9, nx_n9', nx_b9, nx_b9', nx_m1', Nat.reduceEqDiff, Nat.reduceLeDiff, Nat.reduceLT, Nat.reduceAdd, Nat.reduceSub, Nat.reduceMul, Nat.reduceDiv, Nat.reduceMod, Bool.false_eq_true, reduceIte, ite_true, ite_false, if_true, if_false, show N ≤ i by omega]
    rfl
  | m + 1, i, fuel + 1, o, hi, hf, ho => by
    rw [lp_X9_passes_a26_221]
    unfold w_scan
    by_cases q : G.testBit i = true
    · rw [if_pos q]
      match o, ho with
      | none, ho =>
        have e := ar_scan hN hk ha hs hG k m (i + 1) fuel (some i) (by omega) (by omega) (fun b hb => by cases hb; omega)
        simp only
        rw [← e]
        simp (disch := omega) only [nx_chk, nx_let, nx_b2, nx_b3, nx_b4, nx_b5, nx_b7, nx_b8, Option.bind_some, nx_l0, nx_l1, nx_l2, nx_l3, nx_l4, nx_l5, nx_l6, nx_l7, nx_l8, nx_l9, nx_l10, nx_l11, nx_l12, nx_l14, nx_l20, nx_l26, nx_l40, nx_l60, nx_l100, nx_l1000, nI_add, nx_sub, nx_m1, nx_in, nx_cl, nx_le, nx_ltI, nx_eq, nx_isb0, nx_isb1, nx_n9, nx_n9', nx_b9, nx_b9', nx_m1', Nat.reduceEqDiff, Nat.reduceLeDiff, Nat.reduceLT, Nat.reduceAdd, Nat.reduceSub, Nat.reduceMul, Nat.reduceDiv, Nat.reduceMod, Bool.false_eq_true, reduceIte, ite_true, ite_false, if_true, if_false, show ¬ N ≤ i by omega, nx_has, q]
        rfl
      | some b, ho =>
        have hb := ho b rfl
        simp only
        by_cases q2 : w_bef kd f.2.2.2.1 i b
        · have e := ar_scan hN hk ha hs hG k m (i + 1) fuel (some i) (by omega) (by omega) (fun b hb => by cases hb; omega)
          rw [if_pos q2, ← e, if_neg (by simp (disch := omega) only [nx_chk, nx_let, nx_b2, nx_b3, nx_b4, nx_b5, nx_b7, nx_b8, Option.bind_some, nx_l0, nx_l1, nx_l2, nx_l3, nx_l4, nx_l5, nx_l6, nx_l7, nx_l8, nx_l9, nx_l10, nx_l11, nx_l12, nx_l14, nx_l20, nx_l26, nx_l40, nx_l60, nx_l100, nx_l1000, nI_add, nx_sub, nx_m1, nx_in, nx_cl, nx_le, nx_ltI, nx_eq, nx_isb0, nx_isb1, nx_n9, nx_n9', nx_b9, nx_b9', nx_m1', Nat.reduceEqDiff, Nat.reduceLeDiff, Nat.reduceLT, Nat.reduceAdd, Nat.reduceSub, Nat.reduceMul, Nat.reduceDiv, Nat.reduceMod, Bool.false_eq_true, reduceIte, ite_true, ite_false, if_true, if_false]; omega), nx_has (by omega) (by omega), if_pos q]
          simp only [nx_let, Option.bind_some]
          rw [if_neg (by decide), if_neg (show ¬ w_oI (some b) = -9 from fun z => by rw [show w_oI (some b) = nI b from rfl, nx_n9 (by omega)] at z; exact z), show w_oI (some b) = nI b from rfl, ar_sooner hN hk ha hs (by omega) hb, if_pos q2, Option.bind_some, if_neg (by decide), nI_1]
          rfl
        · have e := ar_scan hN hk ha hs hG k m (i + 1) fuel (some b) (by omega) (by omega) ho
          rw [if_neg q2, ← e, if_neg (by simp (disch := omega) only [nx_chk, nx_let, nx_b2, nx_b3, nx_b4, nx_b5, nx_b7, nx_b8, Option.bind_some, nx_l0, nx_l1, nx_l2, nx_l3, nx_l4, nx_l5, nx_l6, nx_l7, nx_l8, nx_l9, nx_l10, nx_l11, nx_l12, nx_l14, nx_l20, nx_l26, nx_l40, nx_l60, nx_l100, nx_l1000, nI_add, nx_sub, nx_m1, nx_in, nx_cl, nx_le, nx_ltI, nx_eq, nx_isb0, nx_isb1, nx_n9, nx_n9', nx_b9, nx_b9', nx_m1', Nat.reduceEqDiff, Nat.reduceLeDiff, Nat.reduceLT, Nat.reduceAdd, Nat.reduceSub, Nat.reduceMul, Nat.reduceDiv, Nat.reduceMod, Bool.false_eq_true, reduceIte, ite_true, ite_false, if_true, if_false]; omega), nx_has (by omega) (by omega), if_pos q]
          simp only [nx_let, Option.bind_some]
          rw [if_neg (by decide), if_neg (show ¬ w_oI (some b) = -9 from fun z => by rw [show w_oI (some b) = nI b from rfl, nx_n9 (by omega)] at z; exact z), show w_oI (some b) = nI b from rfl, ar_sooner hN hk ha hs (by omega) hb, if_neg q2, Option.bind_some, if_pos (by decide), nI_1]
    · rw [if_neg q]
      have e := ar_scan hN hk ha hs hG k m (i + 1) fuel o (by omega) (by omega) ho
      rw [← e]
      simp (disch := omega) only [nx_chk, nx_let, nx_b2, nx_b3, nx_b4, nx_b5, nx_b7, nx_b8, Option.bind_some, nx_l0, nx_l1, nx_l2, nx_l3, nx_l4, nx_l5, nx_l6, nx_l7, nx_l8, nx_l9, nx_l10, nx_l11, nx_l12, nx_l14, nx_l20, nx_l26, nx_l40, nx_l60, nx_l100, nx_l1000, nI_add, nx_sub, nx_m1, nx_in, nx_cl, nx_le, nx_ltI, nx_eq, nx_isb0, nx_isb1, nx_n9, nx_n9', nx_b9, nx_b9', nx_m1', Nat.reduceEqDiff, Nat.reduceLeDiff, Nat.reduceLT, Nat.reduceAdd, Nat.reduceSub, Nat.reduceMul, Nat.reduceDiv, Nat.reduceMod, Bool.false_eq_true, reduceIte, ite_true, ite_false, if_true, if_false, show ¬ N ≤ i by omega, nx_has, q]
theorem w_scan1 {kd st : Nat → Nat} {G h : Nat} {t : List Nat} (hp : ∀ x, x ∈ t → w_bef kd st h x) (hG : ∀ x, G.testBit x = decide (x ∈ h :: t)) : ∀ m i, h < i → w_scan kd st G m i (some h) = some h
  | 0, i, hi => rfl
  | m + 1, i, hi => by
    unfold w_scan
    split
    · rename_i q
      rw [hG] at q
      have := of_decide_eq_true q
      rcases List.mem_cons.1 this with z | z
      · omega
      · have h1 := hp i z
        simp only
        rw [if_neg (by unfold w_bef at *; omega)]
        exact w_scan1 hp hG m (i + 1) (by omega)
    · exact w_scan1 hp hG m (i + 1) (by omega)
theorem w_scan2 {kd st : Nat → Nat} {G h : Nat} {t : List Nat} (hp : ∀ x, x ∈ t → w_bef kd st h x) (hG : ∀ x, G.testBit x = decide (x ∈ h :: t)) : ∀ m i o, i ≤ h → h < i + m → (∀ b, o = some b → b ∈ t) → w_scan kd st G m i o = some h
  | 0, i, o, hi, hm, ho => by omega
  | m + 1, i, o, hi, hm, ho => by
    unfold w_scan
    by_cases q0 : i = h
    · subst q0
      have hGi : G.testBit i = true := by rw [hG]; simp
      rw [if_pos hGi]
      match o, ho with
      | none, _ => exact w_scan1 hp hG m (i + 1) (by omega)
      | some b, ho =>
        simp only
        rw [if_pos (hp b (ho b rfl))]
        exact w_scan1 hp hG m (i + 1) (by omega)
    · split
      · rename_i q
        rw [hG] at q
        have := of_decide_eq_true q
        have hit : i ∈ t := by
          rcases List.mem_cons.1 this with z | z
          · omega
          · exact z
        match o, ho with
        | none, _ => exact w_scan2 hp hG m (i + 1) _ (by omega) (by omega) (fun b hb => by cases hb; exact hit)
        | some b, ho =>
          simp only
          split
          · exact w_scan2 hp hG m (i + 1) _ (by omega) (by omega) (fun b hb => by cases hb; exact hit)
          · exact w_scan2 hp hG m (i + 1) _ (by omega) (by omega) ho
      · exact w_scan2 hp hG m (i + 1) o (by omega) (by omega) ho
