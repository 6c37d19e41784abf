theorem nx_chk {β : Type} (A : Option β) : gg_chk true A = A := rfl
theorem nx_let {γ β : Type} (F : γ) (B : γ → Option β) : gg_lt F B = B F := rfl
theorem nx_b2 {α0 α1 β : Type} (a0 : α0) (a1 : α1) (F : α0 → α1 → Option β) : gg_b2 (some (a0, a1)) F = F a0 a1 := rfl
theorem nx_b3 {α0 α1 α2 β : Type} (a0 : α0) (a1 : α1) (a2 : α2) (F : α0 → α1 → α2 → Option β) : gg_b3 (some (a0, a1, a2)) F = F a0 a1 a2 := rfl
theorem nx_b4 {α0 α1 α2 α3 β : Type} (a0 : α0) (a1 : α1) (a2 : α2) (a3 : α3) (F : α0 → α1 → α2 → α3 → Option β) : gg_b4 (some (a0, a1, a2, a3)) F = F a0 a1 a2 a3 := rfl
theorem nx_b5 {α0 α1 α2 α3 α4 β : Type} (a0 : α0) (a1 : α1) (a2 : α2) (a3 : α3) (a4 : α4) (F : α0 → α1 → α2 → α3 → α4 → Option β) : gg_b5 (some (a0, a1, a2, a3, a4)) F = F a0 a1 a2 a3 a4 := rfl
theorem nx_b7 {α0 α1 α2 α3 α4 α5 α6 β : Type} (a0 : α0) (a1 : α1) (a2 : α2) (a3 : α3) (a4 : α4) (a5 : α5) (a6 : α6) (F : α0 → α1 → α2 → α3 → α4 → α5 → α6 → Option β) : gg_b7 (some (a0, a1, a2, a3, a4, a5, a6)) F = F a0 a1 a2 a3 a4 a5 a6 := rfl
theorem nx_b8 {α0 α1 α2 α3 α4 α5 α6 α7 β : Type} (a0 : α0) (a1 : α1) (a2 : α2) (a3 : α3) (a4 : α4) (a5 : α5) (a6 : α6) (a7 : α7) (F : α0 → α1 → α2 → α3 → α4 → α5 → α6 → α7 → Option β) : gg_b8 (some (a0, a1, a2, a3, a4, a5, a6, a7)) F = F a0 a1 a2 a3 a4 a5 a6 a7 := rfl
theorem nx_sub {a b : Nat} (h : b ≤ a) : nI a - nI b = nI (a - b) := by
  obtain ⟨c, rfl⟩ : ∃ c, a = b + c := ⟨a - b, by omega⟩
  rw [← nI_add, show b + c - b = c by omega, Int32.add_comm, Int32.add_sub_cancel]
theorem nx_m1 {a : Nat} (h : 0 < a) : nI a + (-1) = nI (a - 1) := by
  obtain ⟨c, rfl⟩ : ∃ c, a = c + 1 := ⟨a - 1, by omega⟩
  exact pk_m1 c
theorem nx_in {r n : Nat} (h : r < n) (hn : r < 2147483648) : gg_in (nI r) n = true := pu_in h hn
theorem nx_cl {r : Nat} (hn : r < 2147483648) : (nI r).toNatClampNeg = r := nI_clamp hn
theorem nx_le {a b : Nat} (ha : a < 2147483648) (hb : b < 2147483648) : (nI a ≤ nI b) = (a ≤ b) := propext (nI_leI ha hb)
theorem nx_ltI {a b : Nat} (ha : a < 2147483648) (hb : b < 2147483648) : (nI a < nI b) = (a < b) := propext (nI_ltI ha hb)
theorem nx_eq {a b : Nat} (ha : a < 2147483648) (hb : b < 2147483648) : (nI a = nI b) = (a = b) := propext (nI_eq ha hb)
theorem nx_div {a d : Nat} (ha : a < 2147483648) (h0 : 0 < d) (hd : d < 2147483648) : nI a / nI d = nI (a / d) := pk_div ha h0 hd
theorem nx_mod (a b : Nat) : a - a / b * b = a % b := by
  have := Nat.div_add_mod a b
  rw [Nat.mul_comm] at this
  omega
theorem nx_isb0 : gg_isb (nI 0) = true := rfl
theorem nx_isb1 : gg_isb (nI 1) = true := rfl
theorem nx_n9 {a : Nat} (h : a < 2147483648) : (nI a = -9) = False := by
  apply propext
  constructor
  · intro q
    have h1 := congrArg Int32.toInt q
    rw [nI_toInt h] at h1
    have h2 : (-9 : Int32).toInt = -9 := by decide
    omega
  · exact False.elim
theorem nx_b9 {x : Nat} (h : x ≤ 10) : (k_bI x = -9) = (x = 10) := propext (e_bI x (by omega))
theorem nx_n9' {a : Nat} (h : a < 2147483648) : (nI a = -nI 9) = False := nx_n9 h
theorem nx_b9' {x : Nat} (h : x ≤ 10) : (k_bI x = -nI 9) = (x = 10) := nx_b9 h
theorem nx_m1' {a : Nat} (h : 0 < a) : nI a + (-nI 1) = nI (a - 1) := nx_m1 h
theorem nx_bI {x : Nat} (h : x ≠ 10) : k_bI x = nI x := if_neg h
theorem nx_l0 : (0 : Int32) = nI 0 := rfl
theorem nx_l1 : (1 : Int32) = nI 1 := rfl
theorem nx_l2 : (2 : Int32) = nI 2 := rfl
theorem nx_l3 : (3 : Int32) = nI 3 := rfl
theorem nx_l4 : (4 : Int32) = nI 4 := rfl
theorem nx_l5 : (5 : Int32) = nI 5 := rfl
theorem nx_l6 : (6 : Int32) = nI 6 := rfl
theorem nx_l7 : (7 : Int32) = nI 7 := rfl
theorem nx_l8 : (8 : Int32) = nI 8 := rfl
theorem nx_l9 : (9 : Int32) = nI 9 := rfl
theorem nx_l10 : (10 : Int32) = nI 10 := rfl
theorem nx_l11 : (11 : Int32) = nI 11 := rfl
theorem nx_l12 : (12 : Int32) = nI 12 := rfl
theorem nx_l14 : (14 : Int32) = nI 14 := rfl
theorem nx_l20 : (20 : Int32) = nI 20 := rfl
theorem nx_l26 : (26 : Int32) = nI 26 := rfl
theorem nx_l40 : (40 : Int32) = nI 40 := rfl
theorem nx_l60 : (60 : Int32) = nI 60 := rfl
theorem nx_l100 : (100 : Int32) = nI 100 := rfl
theorem nx_l1000 : (1000 : Int32) = nI 1000 := rfl
theorem nx_upn {α : Type} (f : Nat → α) (k : Nat) (v : α) (j : Nat) : gg_up f k v j = if j = k then v else f j := rfl
theorem nx_upd (f : Nat → Int32) (k : Nat) (v : Int32) (j : Nat) : upd f k v j = if j = k then v else f j := by
  by_cases h : j = k
  · rw [if_pos h, h, pk_us]
  · rw [if_neg h, pk_un h]
theorem nx_tb {a : Nat} (h : a < 2147483648) : (nI a).toBitVec = BitVec.ofNat 32 a := rfl
theorem nx_or (a b : Nat) : nI a ||| nI b = nI (a ||| b) := by
  apply Int32.toBitVec_inj.1
  show BitVec.ofNat 32 a ||| BitVec.ofNat 32 b = BitVec.ofNat 32 (a ||| b)
  apply BitVec.eq_of_toNat_eq
  simp [Nat.or_mod_two_pow]
theorem nx_and (a b : Nat) : nI a &&& nI b = nI (a &&& b) := by
  apply Int32.toBitVec_inj.1
  show BitVec.ofNat 32 a &&& BitVec.ofNat 32 b = BitVec.ofNat 32 (a &&& b)
  apply BitVec.eq_of_toNat_eq
  simp [Nat.and_mod_two_pow]
theorem nx_sh1 : ∀ b, b < 31 → (1 : Int32) <<< (nI b &&& 31) = nI (2 ^ b) := by decide +kernel
theorem nx_shm9 : (1 : Int32) <<< ((-9 : Int32) &&& 31) = nI (2 ^ 23) := by decide +kernel
theorem nx_sh31 : ∀ b, b < 31 → (nI b &&& 31) = nI b := by decide +kernel
theorem nx_smod : ∀ b, b < 31 → (nI b).toBitVec.smod 32 = BitVec.ofNat 32 b := by decide +kernel
theorem nx_one (a : Nat) (ha : a < 2147483648) (b : Nat) (hb : b < 31) : ((nI a >>> (nI b &&& 31)) &&& (1 : Int32) = 1) = (a.testBit b = true) := by
  rw [nx_sh31 b hb]
  have h1 : (nI a >>> nI b).toBitVec = (BitVec.ofNat 32 a).sshiftRight' (BitVec.ofNat 32 b) := by
    rw [Int32.toBitVec_shiftRight, nx_smod b hb]
    rfl
  have h2 : ((nI a >>> nI b) &&& (1 : Int32)).toBitVec = (BitVec.ofNat 32 a).sshiftRight b &&& 1#32 := by
    rw [Int32.toBitVec_and, h1, BitVec.sshiftRight_eq', BitVec.toNat_ofNat, Nat.mod_eq_of_lt (show b < 2 ^ 32 by omega)]
    rfl
  have h3 : (BitVec.ofNat 32 a).sshiftRight b &&& 1#32 = if a.testBit b = true then 1#32 else 0#32 := by
    apply BitVec.eq_of_getLsbD_eq
    intro i hi
    rw [BitVec.getLsbD_and, BitVec.getLsbD_one]
    by_cases h0 : i = 0
    · subst h0
      rw [BitVec.getLsbD_sshiftRight]
      have : (BitVec.ofNat 32 a).getLsbD b = a.testBit b := by
        rw [BitVec.getLsbD_ofNat]
        simp
        omega
      have h32 : b < 32 := by omega
      clear h1 h2
      by_cases q : a.testBit b = true
      · rw [if_pos q]
        simp_all
      · rw [if_neg q]
        simp_all
    · have : (if a.testBit b = true then 1#32 else 0#32).getLsbD i = false := by
        split
        · rw [BitVec.getLsbD_one]
          simp [h0]
        · rw [BitVec.getLsbD_zero]
      rw [this]
      simp
      omega
  apply propext
  rw [← Int32.toBitVec_inj, h2, h3]
  show _ = 1#32 ↔ _
  by_cases q : a.testBit b = true
  · simp [q]
  · simp [q]
theorem nx_oneI {a : Nat} (ha : a < 2147483648) {b : Nat} (hb : b < 31) : ((nI a >>> (nI b &&& 31)) &&& (1 : Int32) = 1) ↔ (a.testBit b = true) := by rw [nx_one a ha b hb]
theorem nx_lt2 {M n : Nat} (h : ∀ b, n ≤ b → M.testBit b = false) : M < 2 ^ n := Nat.lt_pow_two_of_testBit M (fun i hi => h i hi)
def nx_clr (M i : Nat) : Nat := if M.testBit i = true then M ^^^ 2 ^ i else M
theorem nx_clrB (M i b : Nat) : (nx_clr M i).testBit b = (M.testBit b && decide (b ≠ i)) := by
  unfold nx_clr
  by_cases h : M.testBit i = true
  · rw [if_pos h, Nat.testBit_xor, Nat.testBit_two_pow]
    by_cases q : b = i
    · subst q
      simp [h]
    · have : ¬ i = b := fun z => q z.symm
      simp [q, this]
  · rw [if_neg h]
    by_cases q : b = i
    · subst q
      simp [h]
    · simp [q]
theorem nx_not {M i : Nat} (hM : M < 2147483648) (hi : i < 31) : nI M &&& (nI (2 ^ i) ^^^ (-1 : Int32)) = nI (nx_clr M i) := by
  apply Int32.toBitVec_inj.1
  show BitVec.ofNat 32 M &&& (BitVec.ofNat 32 (2 ^ i) ^^^ BitVec.allOnes 32) = BitVec.ofNat 32 (nx_clr M i)
  apply BitVec.eq_of_getLsbD_eq
  intro j hj
  rw [BitVec.getLsbD_and, BitVec.getLsbD_xor, BitVec.getLsbD_ofNat, BitVec.getLsbD_ofNat, BitVec.getLsbD_ofNat, nx_clrB, BitVec.getLsbD_allOnes, Nat.testBit_two_pow]
  by_cases q : j = i
  · subst q
    simp [hj]
  · have : ¬ i = j := fun z => q z.symm
    simp [hj, q, this]
theorem nx_orB (M i b : Nat) : (M ||| 2 ^ i).testBit b = (M.testBit b || decide (i = b)) := by
  rw [Nat.testBit_or, Nat.testBit_two_pow]
theorem nx_clr_lt {M i n : Nat} (h : M < 2 ^ n) : nx_clr M i < 2 ^ n := by
  apply Nat.lt_pow_two_of_testBit
  intro b hb
  rw [nx_clrB, Nat.testBit_lt_two_pow (Nat.lt_of_lt_of_le h (Nat.pow_le_pow_right (by omega) hb))]
  rfl
theorem nx_or_lt {M i n : Nat} (h : M < 2 ^ n) (hi : i < n) : M ||| 2 ^ i < 2 ^ n := Nat.or_lt_two_pow h (Nat.pow_lt_pow_right (by omega) hi)
theorem nx_has {M i : Nat} (hM : M < 2147483648) (hi : i < 31) : f_X9_has (nI M) (nI i) = some (if M.testBit i = true then nI 1 else nI 0) := by
  unfold f_X9_has
  rw [nx_let]
  by_cases q : M.testBit i = true
  · rw [if_pos q, if_pos ((nx_one M hM i hi).symm ▸ q)]
    rfl
  · rw [if_neg q, if_neg (fun z => q ((nx_one M hM i hi) ▸ z))]
    rfl
theorem nx_sh1n {b : Nat} (h : b < 31) : nI 1 <<< (nI b &&& 31) = nI (2 ^ b) := nx_sh1 b h
theorem nx_shm9n : nI 1 <<< ((-nI 9) &&& 31) = nI (2 ^ 23) := nx_shm9
