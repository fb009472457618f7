/-! THE PURE PART: the class answers what the reference answers -/
theorem bc_bt : ∀ n, n < 1024 → bc (nI n) = bt_ (nI n) 10 := by decide +kernel
/-- the griefs that stand, as a number -/
def gN (s : Nat → Int32) : Nat → Nat
  | 0 => 0
  | i + 1 => if s i ≤ 0 then gN s i else gN s i ||| 2 ^ i
theorem gN_lt (s : Nat → Int32) : ∀ i, gN s i < 2 ^ i
  | 0 => by simp [gN]
  | i + 1 => by
    have h := gN_lt s i
    simp only [gN]
    split
    · omega
    · exact Nat.or_lt_two_pow (by omega) (by omega)
theorem gt_N (s : Nat → Int32) : ∀ i, i ≤ 30 → gt_ s i = nI (gN s i)
  | 0, _ => rfl
  | i + 1, h => by
    simp only [gt_, gN, gt_N s i (by omega)]
    split
    · rfl
    · rw [zsh1 i (by omega), nI_or]
theorem gN_bit (s : Nat → Int32) {j : Nat} : ∀ {i}, (gN s i).testBit j = (decide (j < i) && !decide (s j ≤ 0))
  | 0 => by simp [gN]
  | i + 1 => by
    simp only [gN]
    by_cases e : s i ≤ 0
    · rw [if_pos e, gN_bit s (i := i)]
      by_cases q : j = i
      · subst q; simp [e]
      · by_cases q2 : j < i
        · simp [q2, show j < i + 1 by omega]
        · simp [q2, show ¬ j < i + 1 by omega]
    · rw [if_neg e, Nat.testBit_or, gN_bit s (i := i), Nat.testBit_two_pow]
      by_cases q : i = j
      · subst q; simp [e]
      · by_cases q2 : j < i
        · simp [q, q2, show j < i + 1 by omega]
        · simp [q, q2, show ¬ j < i + 1 by omega]
theorem gt_is {s : Nat → Int32} {a : Nat} (h : a < 6) : zis (gt_ s 6) (nI a) = !decide (s a ≤ 0) := by
  have hl := gN_lt s 6
  rw [gt_N s 6 (by decide), zis_nI (by omega) (by omega), gN_bit]
  simp [h]
