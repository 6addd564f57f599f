/-! ===== numbers: constants as the machine pushes them, bits of small numbers ===== -/
theorem oi0 : Int32.ofInt 0 = nI 0 := by decide
theorem oi1 : Int32.ofInt 1 = nI 1 := by decide
theorem oi2 : Int32.ofInt 2 = nI 2 := by decide
theorem oi3 : Int32.ofInt 3 = nI 3 := by decide
theorem oi4 : Int32.ofInt 4 = nI 4 := by decide
theorem oi5 : Int32.ofInt 5 = nI 5 := by decide
theorem oim : Int32.ofInt (-1) = -1 := by decide
theorem z0 : (0 : Int32) = nI 0 := by decide
theorem z1 : (1 : Int32) = nI 1 := by decide
theorem s_l : ∀ n, n < 32 → ((nI n &&& 31).toBitVec.smod 32).toNat = n := by decide +kernel
theorem nx_and (a b : Nat) : nI a &&& nI b = nI (a &&& b) := by
  apply Int32.toBitVec_inj.1
  show BitVec.ofNat 32 a &&& BitVec.ofNat 32 b = BitVec.ofNat 32 (a &&& b)
  apply BitVec.eq_of_getLsbD_eq
  intro i hi
  simp [hi]
theorem nx_or (a b : Nat) : nI a ||| nI b = nI (a ||| b) := by
  apply Int32.toBitVec_inj.1
  show BitVec.ofNat 32 a ||| BitVec.ofNat 32 b = BitVec.ofNat 32 (a ||| b)
  apply BitVec.eq_of_getLsbD_eq
  intro i hi
  simp [hi]
theorem nx_xor (a b : Nat) : nI a ^^^ nI b = nI (a ^^^ b) := by
  apply Int32.toBitVec_inj.1
  show BitVec.ofNat 32 a ^^^ BitVec.ofNat 32 b = BitVec.ofNat 32 (a ^^^ b)
  apply BitVec.eq_of_getLsbD_eq
  intro i hi
  simp [hi]
/-- the bits of m are cleared in a -/
def clr (a m : Nat) : Nat := a ^^^ (a &&& m)
theorem clr_bit (a m i : Nat) : (clr a m).testBit i = (a.testBit i && !m.testBit i) := by
  unfold clr
  rw [Nat.testBit_xor, Nat.testBit_and]
  cases a.testBit i <;> cases m.testBit i <;> rfl
theorem nx_not (a m : Nat) : nI a &&& (nI m ^^^ (-1)) = nI (clr a m) := by
  apply Int32.toBitVec_inj.1
  have e : (-1 : Int32).toBitVec = BitVec.allOnes 32 := by decide
  rw [Int32.toBitVec_and, Int32.toBitVec_xor, e]
  show BitVec.ofNat 32 a &&& (BitVec.ofNat 32 m ^^^ BitVec.allOnes 32) = BitVec.ofNat 32 (clr a m)
  apply BitVec.eq_of_getLsbD_eq
  intro i hi
  rw [BitVec.getLsbD_and, BitVec.getLsbD_xor, BitVec.getLsbD_allOnes, BitVec.getLsbD_ofNat, BitVec.getLsbD_ofNat, BitVec.getLsbD_ofNat, clr_bit]
  simp [hi]
theorem nI_shr {b s : Nat} (hb : b < 2 ^ 31) (hs : s < 32) : nI b >>> (nI s &&& 31) = nI (b / 2 ^ s) := pk_shrN hb _ s (s_l s hs)
theorem nI_shl {a s : Nat} (hs : s < 32) (h : a * 2 ^ s < 2 ^ 32) : nI a <<< (nI s &&& 31) = nI (a * 2 ^ s) := pk_shlN _ s (s_l s hs) h
/-- bit s of b, as a number -/
def tbN (b s : Nat) : Nat := if b.testBit s then 1 else 0
theorem nI_bit {b s : Nat} (hb : b < 2 ^ 31) (hs : s < 32) : (nI b >>> (nI s &&& 31)) &&& nI 1 = nI (tbN b s) := by
  rw [nI_shr hb hs, nx_and, Nat.and_one_is_mod]
  unfold tbN
  rw [Nat.testBit_eq_decide_div_mod_eq]
  have h := Nat.mod_two_eq_zero_or_one (b / 2 ^ s)
  rcases h with h | h <;> simp [h]
theorem tbN_1 {b s : Nat} : nI (tbN b s) = nI 1 ↔ b.testBit s = true := by
  unfold tbN
  cases h : b.testBit s
  · simp; decide
  · simp
theorem tbN_0 {b s : Nat} : nI (tbN b s) = nI 0 ↔ b.testBit s = false := by
  unfold tbN
  cases h : b.testBit s
  · simp
  · simp; decide
/-- true and false as the machine has them -/
def bI (b : Bool) : Int32 := if b then 1 else 0
theorem bI_nar (b : Bool) : narrow .boolean (.int (bI b)) = .int (bI b) := by cases b <;> rfl
theorem bI_t {b : Bool} : bI b = 0 ↔ b = false := by cases b <;> decide
theorem bI_nb (b : Bool) : vp_nar .boolean (bI b) = bI b := by cases b <;> decide
