/-! MAKE, RING on both sides: numbers -/
theorem hfr_A : ((List.range 24).all fun p => (List.range 24).all fun q => !decide (p ≤ q) || (decide (hfr (nI p) (nI q) = nI (2 ^ (q + 1) - 2 ^ p)) && decide (2 ^ (q + 1) - 2 ^ p < 2 ^ 24) && (List.range 24).all fun j => (2 ^ (q + 1) - 2 ^ p).testBit j == (decide (p ≤ j) && decide (j ≤ q)))) = true := by decide +kernel
theorem hfr_N {p q : Nat} (hp : p < 24) (hq : q < 24) (h : p ≤ q) : hfr (nI p) (nI q) = nI (2 ^ (q + 1) - 2 ^ p) ∧ 2 ^ (q + 1) - 2 ^ p < 2 ^ 24 ∧ ∀ j, j < 24 → (2 ^ (q + 1) - 2 ^ p).testBit j = (decide (p ≤ j) && decide (j ≤ q)) := by
  have h1 := List.all_eq_true.mp (List.all_eq_true.mp hfr_A p (List.mem_range.mpr hp)) q (List.mem_range.mpr hq)
  rw [decide_eq_true h] at h1
  simp only [Bool.not_true, Bool.false_or, Bool.and_eq_true, decide_eq_true_eq] at h1
  refine ⟨h1.1.1, h1.1.2, fun j hj => ?_⟩
  have h2 := List.all_eq_true.mp h1.2 j (List.mem_range.mpr hj)
  exact beq_iff_eq.mp h2
theorem zwi_bits {x y : Nat} (hx : x < 2 ^ 24) (hy : y < 2 ^ 24) : zwi (nI x) (nI y) = true ↔ ∀ j, j < 24 → x.testBit j = true → y.testBit j = true := by
  have e1 : (-1 : Int32).toBitVec = BitVec.allOnes 32 := by decide
  have key : zwi (nI x) (nI y) = true ↔ BitVec.ofNat 32 x &&& (BitVec.ofNat 32 y ^^^ BitVec.allOnes 32) = 0#32 := by
    unfold zwi
    rw [decide_eq_true_iff, ← Int32.toBitVec_inj, ← e1]
    exact Iff.rfl
  rw [key]
  constructor
  · intro h j hj hxj
    have h2 := congrArg (fun z => BitVec.getLsbD z j) h
    simp only [BitVec.getLsbD_and, BitVec.getLsbD_xor, BitVec.getLsbD_ofNat, BitVec.getLsbD_allOnes, BitVec.getLsbD_zero] at h2
    rw [hxj, decide_eq_true (show j < 32 by omega)] at h2
    simpa using h2
  · intro h
    apply BitVec.eq_of_getLsbD_eq
    intro j hj
    simp only [BitVec.getLsbD_and, BitVec.getLsbD_xor, BitVec.getLsbD_ofNat, BitVec.getLsbD_allOnes, BitVec.getLsbD_zero]
    rw [decide_eq_true hj, Nat.zero_testBit]
    by_cases q : j < 24
    · cases z : x.testBit j
      · rfl
      · rw [h j q z]; rfl
    · rw [Nat.testBit_lt_two_pow (Nat.lt_of_lt_of_le hx (Nat.pow_le_pow_right (show 2 > 0 by decide) (show 24 ≤ j by omega)))]; rfl
