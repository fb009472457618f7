/-! THEMSELVES on both sides -/
def pas : Nat → Nat → Nat
  | 0, 0 => 1
  | 0, _ + 1 => 0
  | n + 1, 0 => pas n 0
  | n + 1, k + 1 => pas n (k + 1) + pas n k
theorem pas_gt : ∀ n k, n < k → pas n k = 0
  | 0, 0, h => absurd h (by decide)
  | 0, _ + 1, _ => rfl
  | n + 1, 0, h => by omega
  | n + 1, k + 1, h => by
    simp only [pas]
    rw [pas_gt n (k + 1) (by omega), pas_gt n k (by omega)]
theorem kwa_pas (t : Nat) : ∀ n k, kwa t n k = pas n k * t ^ k * (10 - t) ^ (n - k)
  | 0, 0 => by simp [kwa, pas]
  | 0, k + 1 => by simp [kwa, pas]
  | n + 1, 0 => by
    simp only [kwa, pas]
    rw [kwa_pas t n 0, if_neg (by decide), Nat.add_zero, Nat.sub_zero, Nat.sub_zero, Nat.pow_succ, Nat.mul_assoc]
  | n + 1, k + 1 => by
    simp only [kwa, pas]
    rw [if_pos (by omega), kwa_pas t n (k + 1), show k + 1 - 1 = k by omega, kwa_pas t n k, show n + 1 - (k + 1) = n - k by omega, Nat.add_mul, Nat.add_mul]
    have e2 : pas n k * t ^ k * (10 - t) ^ (n - k) * t = pas n k * t ^ (k + 1) * (10 - t) ^ (n - k) := by
      rw [Nat.mul_right_comm, Nat.pow_succ, Nat.mul_assoc (pas n k)]
    rw [e2]
    by_cases q : k + 1 ≤ n
    · rw [Nat.mul_assoc, ← Nat.pow_succ, show (n - (k + 1)).succ = n - k by omega]
    · rw [pas_gt n (k + 1) (by omega)]
      simp
theorem cw_pas : ∀ n, n < 18 → ∀ k, k < n + 1 → cw_ n k k = pas n k := by decide +kernel
theorem up_kwa {n t k : Nat} (hn : n < 18) (hk : k < n + 1) : upN n t k = kwa t n k := by
  rw [kwa_pas]
  unfold upN
  rw [cw_pas n hn k hk]
/-- what two and five leave -/
theorem rl_mul (u l : Nat) : ∀ i, ∃ d, 0 < d ∧ u = d * (rl_ u l i).1 ∧ l = d * (rl_ u l i).2
  | 0 => ⟨1, by decide, (Nat.one_mul _).symm, (Nat.one_mul _).symm⟩
  | i + 1 => by
    obtain ⟨d, d0, h1, h2⟩ := rl_mul u l i
    obtain ⟨e, e0, g1, g2⟩ : ∃ e, 0 < e ∧ (rl_ u l i).1 = e * (rh_ (rl_ u l i)).1 ∧ (rl_ u l i).2 = e * (rh_ (rl_ u l i)).2 := by
      unfold rh_
      by_cases q : (rl_ u l i).1 % 2 = 0 ∧ (rl_ u l i).2 % 2 = 0
      · rw [if_pos q]
        exact ⟨2, by decide, by dsimp only; omega, by dsimp only; omega⟩
      · rw [if_neg q]
        exact ⟨1, by decide, (Nat.one_mul _).symm, (Nat.one_mul _).symm⟩
    have es : rl_ u l (i + 1) = if (rh_ (rl_ u l i)).1 % 5 = 0 ∧ (rh_ (rl_ u l i)).2 % 5 = 0 then ((rh_ (rl_ u l i)).1 / 5, (rh_ (rl_ u l i)).2 / 5) else rh_ (rl_ u l i) := rfl
    by_cases q : (rh_ (rl_ u l i)).1 % 5 = 0 ∧ (rh_ (rl_ u l i)).2 % 5 = 0
    · rw [es, if_pos q]
      refine ⟨d * e * 5, Nat.mul_pos (Nat.mul_pos d0 e0) (by decide), ?_, ?_⟩
      · dsimp only
        rw [Nat.mul_assoc, show 5 * ((rh_ (rl_ u l i)).1 / 5) = (rh_ (rl_ u l i)).1 by omega, Nat.mul_assoc, ← g1]
        exact h1
      · dsimp only
        rw [Nat.mul_assoc, show 5 * ((rh_ (rl_ u l i)).2 / 5) = (rh_ (rl_ u l i)).2 by omega, Nat.mul_assoc, ← g2]
        exact h2
    · rw [es, if_neg q]
      refine ⟨d * e, Nat.mul_pos d0 e0, ?_, ?_⟩
      · rw [Nat.mul_assoc, ← g1]; exact h1
      · rw [Nat.mul_assoc, ← g2]; exact h2
