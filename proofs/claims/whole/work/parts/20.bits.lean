/-! ===== bits of small whole numbers ===== -/
theorem sh_l : ∀ n, n < 32 → ((nI n &&& 31).toBitVec.smod 32).toNat = n := by decide +kernel
theorem and_N (a b : Nat) : nI a &&& nI b = nI (a &&& b) := by
  apply Int32.toBitVec_inj.mp
  apply BitVec.eq_of_getLsbD_eq
  intro i hi
  simp [nI, Int32.toBitVec_and, Int32.toBitVec_ofNat', Nat.testBit_and, hi]
theorem or_N (a b : Nat) : nI a ||| nI b = nI (a ||| b) := by
  apply Int32.toBitVec_inj.mp
  apply BitVec.eq_of_getLsbD_eq
  intro i hi
  simp [nI, Int32.toBitVec_or, Int32.toBitVec_ofNat', Nat.testBit_or, hi]
theorem bA_N {a b : Nat} (ha : a < 2147483648) : bA (a : Int) (b : Int) = ((a &&& b : Nat) : Int) := by
  unfold bA
  rw [nI_ofInt, nI_ofInt, and_N]
  exact nI_toInt (Nat.lt_of_le_of_lt Nat.and_le_left ha)
theorem bO_N {a b : Nat} (ha : a < 2147483648) (hb : b < 2147483648) : bO (a : Int) (b : Int) = ((a ||| b : Nat) : Int) := by
  unfold bO
  rw [nI_ofInt, nI_ofInt, or_N]
  exact nI_toInt (Nat.or_lt_two_pow (n := 31) ha hb)
theorem bR_N {a k : Nat} (ha : a < 2147483648) (hk : k < 32) : bR (a : Int) (k : Int) = ((a / 2 ^ k : Nat) : Int) := by
  unfold bR
  rw [nI_ofInt, nI_ofInt, pk_shrN ha _ k (sh_l k hk)]
  exact nI_toInt (Nat.lt_of_le_of_lt (Nat.div_le_self _ _) ha)
theorem bL_N {a k : Nat} (hk : k < 32) (h : a * 2 ^ k < 2147483648) : bL (a : Int) (k : Int) = ((a * 2 ^ k : Nat) : Int) := by
  unfold bL
  rw [nI_ofInt, nI_ofInt, pk_shlN _ k (sh_l k hk) (by omega)]
  exact nI_toInt h
theorem bA_lo {a k : Nat} (ha : a < 2147483648) : bA (a : Int) (((2 ^ k - 1 : Nat)) : Int) = ((a % 2 ^ k : Nat) : Int) := by
  rw [bA_N ha, Nat.and_two_pow_sub_one_eq_mod]
theorem bA_1 {a : Nat} (ha : a < 2147483648) : bA (a : Int) 1 = ((a % 2 : Nat) : Int) := bA_lo (k := 1) ha
theorem bA_3 {a : Nat} (ha : a < 2147483648) : bA (a : Int) 3 = ((a % 4 : Nat) : Int) := bA_lo (k := 2) ha
theorem bA_7 {a : Nat} (ha : a < 2147483648) : bA (a : Int) 7 = ((a % 8 : Nat) : Int) := bA_lo (k := 3) ha
theorem bit_N {a k : Nat} (ha : a < 2147483648) (hk : k < 32) : bA (bR (a : Int) (k : Int)) 1 = if a.testBit k then 1 else 0 := by
  rw [bR_N ha hk, bA_1 (Nat.lt_of_le_of_lt (Nat.div_le_self _ _) ha)]
  rw [Nat.testBit_eq_decide_div_mod_eq]
  by_cases h : a / 2 ^ k % 2 = 1
  · simp [h]
  · have : a / 2 ^ k % 2 = 0 := by omega
    simp [this]
theorem bC_N {a k : Nat} (ha : a < 2147483648) (hk : k < 31) : ∃ r : Nat, bA (a : Int) (bX (bL 1 (k : Int)) (-1)) = (r : Int) ∧ r ≤ a ∧ ∀ j, r.testBit j = (a.testBit j && decide (j ≠ k)) := by
  have e1 : bL 1 (k : Int) = ((2 ^ k : Nat) : Int) := by
    have h2 : 2 ^ k < 2147483648 := Nat.pow_lt_pow_right (a := 2) (by omega) (show k < 31 by omega)
    have := bL_N (a := 1) (k := k) (by omega) (by rw [Nat.one_mul]; exact h2)
    rw [Nat.one_mul] at this
    exact this
  have e2 : (Int32.ofInt (a : Int) &&& Int32.ofInt (bX (bL 1 (k : Int)) (-1))).toBitVec = BitVec.ofNat 32 a &&& ~~~(BitVec.twoPow 32 k) := by
    rw [e1]
    unfold bX
    rw [Int32.ofInt_toInt, Int32.toBitVec_and, Int32.toBitVec_xor]
    have h3 : (Int32.ofInt (-1)).toBitVec = BitVec.allOnes 32 := by decide
    have h4 : (Int32.ofInt ((2 ^ k : Nat) : Int)).toBitVec = BitVec.twoPow 32 k := by
      rw [nI_ofInt]
      apply BitVec.eq_of_toNat_eq
      rw [BitVec.toNat_twoPow]
      simp [nI, Int32.toBitVec_ofNat', BitVec.toNat_ofNat]
    rw [h3, h4, BitVec.xor_allOnes]
    rfl
  refine ⟨(BitVec.ofNat 32 a &&& ~~~(BitVec.twoPow 32 k)).toNat, ?_, ?_, ?_⟩
  · have hle : (BitVec.ofNat 32 a &&& ~~~(BitVec.twoPow 32 k)).toNat ≤ a := by
      rw [BitVec.toNat_and]
      refine Nat.le_trans Nat.and_le_left ?_
      simp [BitVec.toNat_ofNat]
      exact Nat.mod_le _ _
    show (Int32.ofInt (a : Int) &&& Int32.ofInt (bX (bL 1 (k : Int)) (-1))).toInt = _
    rw [← Int32.toInt_toBitVec, e2]
    exact BitVec.toInt_eq_toNat_of_lt (by omega)
  · rw [BitVec.toNat_and]
    refine Nat.le_trans Nat.and_le_left ?_
    simp [BitVec.toNat_ofNat]
    exact Nat.mod_le _ _
  · intro j
    rw [← BitVec.getLsbD]
    by_cases hj : j < 32
    · have e3 : (BitVec.ofNat 32 a).getLsbD j = a.testBit j := by rw [BitVec.getLsbD_ofNat]; simp only [hj, decide_true, Bool.true_and]
      rw [BitVec.getLsbD_and, e3, BitVec.getLsbD_not, BitVec.getLsbD_twoPow]
      by_cases q : k = j
      · subst q; simp [hj]
      · have q2 : j ≠ k := fun e => q e.symm
        simp [hj, q, q2]
    · have : a.testBit j = false := Nat.testBit_lt_two_pow (Nat.lt_of_lt_of_le ha (Nat.pow_le_pow_right (n := 2) (by omega) (show 31 ≤ j by omega)))
      rw [this]
      simp [hj]
