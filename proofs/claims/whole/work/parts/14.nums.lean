/-! NUMBERS: ints as Nat and Int, masks as Nat -/
def iI (z : Int) : Int32 := Int32.ofInt z
theorem iI_nat (n : Nat) : iI (n : Int) = nI n := Int32.ofInt_eq_ofNat
theorem iI_toInt {z : Int} (h1 : -2147483648 ≤ z) (h2 : z < 2147483648) : (iI z).toInt = z := Int32.toInt_ofInt_of_le (by omega) (by omega)
theorem iI_add (a b : Int) : iI a + iI b = iI (a + b) := (Int32.ofInt_add a b).symm
theorem iI_sub (a b : Int) : iI a - iI b = iI (a - b) := (Int32.ofInt_sub a b).symm
theorem iI_le {a b : Int} (h1 : -2147483648 ≤ a) (h2 : a < 2147483648) (h3 : -2147483648 ≤ b) (h4 : b < 2147483648) : iI a ≤ iI b ↔ a ≤ b := by
  rw [Int32.le_iff_toInt_le, iI_toInt h1 h2, iI_toInt h3 h4]
theorem iI_lt {a b : Int} (h1 : -2147483648 ≤ a) (h2 : a < 2147483648) (h3 : -2147483648 ≤ b) (h4 : b < 2147483648) : iI a < iI b ↔ a < b := by
  rw [Int32.lt_iff_toInt_lt, iI_toInt h1 h2, iI_toInt h3 h4]
theorem iI_eq {a b : Int} (h1 : -2147483648 ≤ a) (h2 : a < 2147483648) (h3 : -2147483648 ≤ b) (h4 : b < 2147483648) : iI a = iI b ↔ a = b := by
  rw [← Int32.toInt_inj, iI_toInt h1 h2, iI_toInt h3 h4]
theorem nI_s (a b : Nat) : nI a - nI b = iI ((a : Int) - b) := by
  rw [← iI_nat, ← iI_nat, iI_sub]
theorem nI_bv (n : Nat) : (nI n).toBitVec = BitVec.ofNat 32 n := rfl
theorem nI_or (a b : Nat) : nI a ||| nI b = nI (a ||| b) := by
  apply Int32.toBitVec_inj.mp
  show BitVec.ofNat 32 a ||| BitVec.ofNat 32 b = BitVec.ofNat 32 (a ||| b)
  apply BitVec.eq_of_getLsbD_eq
  intro i hi
  simp [BitVec.getLsbD_ofNat, hi]
theorem nI_and (a b : Nat) : nI a &&& nI b = nI (a &&& b) := by
  apply Int32.toBitVec_inj.mp
  show BitVec.ofNat 32 a &&& BitVec.ofNat 32 b = BitVec.ofNat 32 (a &&& b)
  apply BitVec.eq_of_getLsbD_eq
  intro i hi
  simp [BitVec.getLsbD_ofNat, hi]
theorem nI_xor (a b : Nat) : nI a ^^^ nI b = nI (a ^^^ b) := by
  apply Int32.toBitVec_inj.mp
  show BitVec.ofNat 32 a ^^^ BitVec.ofNat 32 b = BitVec.ofNat 32 (a ^^^ b)
  apply BitVec.eq_of_getLsbD_eq
  intro i hi
  simp [BitVec.getLsbD_ofNat, hi]
theorem nI_sm : ∀ n, n < 32 → ((nI n &&& 31).toBitVec.smod 32).toNat = n := by decide +kernel
theorem nI_shr {c k : Nat} (hc : c < 2 ^ 31) (hk : k < 32) : nI c >>> (nI k &&& 31) = nI (c / 2 ^ k) := pk_shrN hc _ k (nI_sm k hk)
theorem nI_shl {c k : Nat} (hk : k < 32) (hc : c * 2 ^ k < 2 ^ 32) : nI c <<< (nI k &&& 31) = nI (c * 2 ^ k) := pk_shlN _ k (nI_sm k hk) hc
theorem nI_one_shl {k : Nat} (hk : k < 31) : (1 : Int32) <<< (nI k &&& 31) = nI (2 ^ k) := by
  have h := nI_shl (c := 1) (k := k) (by omega) (by rw [Nat.one_mul]; exact Nat.pow_lt_pow_right (by omega) (by omega))
  rw [Nat.one_mul] at h
  exact h
theorem nI_and1 (n : Nat) : nI n &&& 1 = nI (n % 2) := by
  have h := nI_and n 1
  rw [Nat.and_one_is_mod] at h
  exact h
/-- the k-th bit -/
theorem nI_bit {c k : Nat} (hc : c < 2 ^ 31) (hk : k < 32) : (nI c >>> (nI k &&& 31)) &&& 1 = nI (if c.testBit k then 1 else 0) := by
  rw [nI_shr hc hk, nI_and1]
  congr 1
  rw [Nat.testBit_eq_decide_div_mod_eq]
  by_cases h : c / 2 ^ k % 2 = 1
  · simp [h]
  · have : c / 2 ^ k % 2 = 0 := by omega
    simp [this]
theorem nI_bit1 {c k : Nat} (hc : c < 2 ^ 31) (hk : k < 32) : (nI c >>> (nI k &&& 31)) &&& 1 = 1 ↔ c.testBit k = true := by
  rw [nI_bit hc hk]
  by_cases h : c.testBit k = true
  · simp [h]; rfl
  · simp only [h]
    constructor
    · intro e
      exact absurd e (by decide)
    · intro e
      exact absurd e (by decide)
/-- within a set: no bit of a outside b -/
theorem nI_andnot {a b : Nat} (ha : a < 2 ^ 31) (hb : b < 2 ^ 31) : nI a &&& (nI b ^^^ (-1)) = 0 ↔ a &&& b = a := by
  have e : nI a &&& (nI b ^^^ (-1)) = nI (a &&& (b ^^^ (2 ^ 32 - 1))) := by
    rw [show (-1 : Int32) = nI (2 ^ 32 - 1) by decide, nI_xor, nI_and]
  rw [e]
  have hlt : a &&& (b ^^^ (2 ^ 32 - 1)) < 2 ^ 31 := Nat.lt_of_le_of_lt Nat.and_le_left ha
  rw [show (0 : Int32) = nI 0 by rfl, nI_eq hlt (by decide)]
  constructor
  · intro h
    apply Nat.eq_of_testBit_eq
    intro i
    have hi := congrArg (fun n => n.testBit i) h
    simp only [Nat.testBit_and, Nat.testBit_xor, Nat.testBit_two_pow_sub_one, Nat.zero_testBit] at hi ⊢
    by_cases h32 : i < 32
    · simp only [h32, decide_true] at hi
      cases ha' : a.testBit i <;> cases hb' : b.testBit i <;> simp_all
    · have : a.testBit i = false := Nat.testBit_lt_two_pow (Nat.lt_of_lt_of_le ha (Nat.pow_le_pow_right (by decide) (by omega)))
      simp [this]
  · intro h
    apply Nat.eq_of_testBit_eq
    intro i
    have hi := congrArg (fun n => n.testBit i) h
    simp only [Nat.testBit_and, Nat.testBit_xor, Nat.testBit_two_pow_sub_one, Nat.zero_testBit] at hi ⊢
    by_cases h32 : i < 32
    · simp only [h32, decide_true]
      cases ha' : a.testBit i <;> cases hb' : b.testBit i <;> simp_all
    · have : a.testBit i = false := Nat.testBit_lt_two_pow (Nat.lt_of_lt_of_le ha (Nat.pow_le_pow_right (by decide) (by omega)))
      simp [this]
theorem nI_le_ {a b : Nat} (ha : a < 2 ^ 31) (hb : b < 2 ^ 31) : (nI a ≤ nI b) = (a ≤ b) := propext (nI_leI ha hb)
theorem nI_lt_ {a b : Nat} (ha : a < 2 ^ 31) (hb : b < 2 ^ 31) : (nI a < nI b) = (a < b) := propext (nI_ltI ha hb)
theorem nI_eq_ {a b : Nat} (ha : a < 2 ^ 31) (hb : b < 2 ^ 31) : (nI a = nI b) = (a = b) := propext (nI_eq ha hb)
theorem nI_inb {n N : Nat} (h : n < N) (hN : N < 2 ^ 31) : vp_in (nI n) N := vp_in_nI h hN
/-- an argument within a range of Nat -/
theorem arg_in {x : Int32} {n : Nat} (hn : n < 2 ^ 31) (h0 : 0 ≤ x) (h : x < nI n) : ∃ j, j < n ∧ x = nI j := by
  have h1 : 0 ≤ x.toInt := by
    have := Int32.le_iff_toInt_le.mp h0
    rwa [Int32.toInt_zero] at this
  have h2 : x.toInt < (n : Int) := by
    have := Int32.lt_iff_toInt_lt.mp h
    rwa [nI_toInt hn] at this
  refine ⟨x.toInt.toNat, by omega, ?_⟩
  apply Int32.toInt_inj.mp
  rw [nI_toInt (by omega)]
  omega
