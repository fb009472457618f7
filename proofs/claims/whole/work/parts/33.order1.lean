/-! ORDER on both sides -/
theorem or_alg (C H h a b : Nat) : C + (H + h) * a + b * (H + h) = ((a + b) * h + C) + H * (a + b) := by
  rw [Nat.add_mul H h a, Nat.mul_add b H h, Nat.add_mul a b h, Nat.mul_add H a b, Nat.mul_comm h a, Nat.mul_comm b H]
  omega
theorem zpickA : ((List.range 6).all fun i => (List.range 64).all fun s => (List.range 64).all fun t => !(s &&& t == s) || (((t - s).testBit i == (t.testBit i && !s.testBit i)) && (!(t.testBit i && !s.testBit i) || ((t - (s ||| 2 ^ i) == (t - s) - 2 ^ i) && ((s ||| 2 ^ i) &&& t == s ||| 2 ^ i) && decide (s < s ||| 2 ^ i) && decide (s ||| 2 ^ i < 64))))) = true := by decide +kernel
theorem zpick {i s t : Nat} (hi : i < 6) (hs : s < 64) (ht : t < 64) (e : s &&& t = s) : (t - s).testBit i = (t.testBit i && !s.testBit i) ∧ (t.testBit i = true → s.testBit i = false → t - (s ||| 2 ^ i) = (t - s) - 2 ^ i ∧ (s ||| 2 ^ i) &&& t = s ||| 2 ^ i ∧ s < s ||| 2 ^ i ∧ s ||| 2 ^ i < 64) := by
  have h1 := List.all_eq_true.mp (List.all_eq_true.mp (List.all_eq_true.mp zpickA i (List.mem_range.mpr hi)) s (List.mem_range.mpr hs)) t (List.mem_range.mpr ht)
  rw [e] at h1
  simp only [beq_self_eq_true, Bool.not_true, Bool.false_or, Bool.and_eq_true, beq_iff_eq] at h1
  refine ⟨h1.1, fun q1 q2 => ?_⟩
  have h2 := h1.2
  rw [q1, q2] at h2
  simp only [Bool.not_false, Bool.and_self, Bool.not_true, Bool.false_or, Bool.and_eq_true, beq_iff_eq, decide_eq_true_eq] at h2
  exact ⟨h2.1.1.1, h2.1.1.2, h2.1.2, h2.2⟩
theorem zoneA : ((List.range 6).all fun i => (List.range 64).all fun s => (List.range 6).all fun j => (!s.testBit i || ((s - 2 ^ i).testBit j == (s.testBit j && !(j == i)))) && (s ||| 2 ^ i).testBit j == (s.testBit j || j == i)) = true := by decide +kernel
theorem zone1 {i s j : Nat} (hi : i < 6) (hs : s < 64) (hj : j < 6) (hb : s.testBit i = true) : (s - 2 ^ i).testBit j = (s.testBit j && !(j == i)) := by
  have h1 := List.all_eq_true.mp (List.all_eq_true.mp (List.all_eq_true.mp zoneA i (List.mem_range.mpr hi)) s (List.mem_range.mpr hs)) j (List.mem_range.mpr hj)
  rw [hb] at h1
  simp only [Bool.not_true, Bool.false_or, Bool.and_eq_true, beq_iff_eq] at h1
  exact h1.1
theorem zone2 {i s j : Nat} (hi : i < 6) (hs : s < 64) (hj : j < 6) : (s ||| 2 ^ i).testBit j = (s.testBit j || j == i) := by
  have h1 := List.all_eq_true.mp (List.all_eq_true.mp (List.all_eq_true.mp zoneA i (List.mem_range.mpr hi)) s (List.mem_range.mpr hs)) j (List.mem_range.mpr hj)
  simp only [Bool.and_eq_true, beq_iff_eq] at h1
  exact h1.2
