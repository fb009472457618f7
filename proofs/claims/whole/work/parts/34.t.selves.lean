/-! THEMSELVES on both sides -/
def pas : Nat → Nat → Nat
  | 0, 0 => 1
  | 0, _ + 1 => 0
  | n + 1, 0 => pas n 0
  | n + 1, k + 1 => pas n (k + 1) + pas n k
theorem pas_gt : ∀ n k, n < k → pas n k = 0
  | 0, 0, h => absurd h (by decide)
  | 0, _ + 1, _ => rfl
  | n + 1, 0, h => by omega
  | n + 1, k + 1, h => by
    simp only [pas]
    rw [pas_gt n (k + 1) (by omega), pas_gt n k (by omega)]
theorem kwa_pas (t : Nat) : ∀ n k, kwa t n k = pas n k * t ^ k * (10 - t) ^ (n - k)
  | 0, 0 => by simp [kwa, pas]
  | 0, k + 1 => by simp [kwa, pas]
  | n + 1, 0 => by
    simp only [kwa, pas]
    rw [kwa_pas t n 0, if_neg (by decide), Nat.add_zero, Nat.sub_zero, Nat.sub_zero, Nat.pow_succ, Nat.mul_assoc]
  | n + 1, k + 1 => by
    simp only [kwa, pas]
    rw [if_pos (by omega), kwa_pas t n (k + 1), show k + 1 - 1 = k by omega, kwa_pas t n k, show n + 1 - (k + 1) = n - k by omega, Nat.add_mul, Nat.add_mul]
    have e2 : pas n k * t ^ k * (10 - t) ^ (n - k) * t = pas n k * t ^ (k + 1) * (10 - t) ^ (n - k) := by
      rw [Nat.mul_right_comm, Nat.pow_succ, Nat.mul_assoc (pas n k)]
    rw [e2]
    by_cases q : k + 1 ≤ n
    · rw [Nat.mul_assoc, ← Nat.pow_succ, show (n - (k + 1)).succ = n - k by omega]
    · rw [pas_gt n (k + 1) (by omega)]
      simp
theorem cw_pas : ∀ n, n < 18 → ∀ k, k < n + 1 → cw_ n k k = pas n k := by decide +kernel
theorem up_kwa {n t k : Nat} (hn : n < 18) (hk : k < n + 1) : upN n t k = kwa t n k := by
  rw [kwa_pas]
  unfold upN
  rw [cw_pas n hn k hk]
/-- what two and five leave -/
theorem rl_mul (u l : Nat) : ∀ i, ∃ d, 0 < d ∧ u = d * (rl_ u l i).1 ∧ l = d * (rl_ u l i).2
  | 0 => ⟨1, by decide, (Nat.one_mul _).symm, (Nat.one_mul _).symm⟩
  | i + 1 => by
    obtain ⟨d, d0, h1, h2⟩ := rl_mul u l i
    obtain ⟨e, e0, g1, g2⟩ : ∃ e, 0 < e ∧ (rl_ u l i).1 = e * (rh_ (rl_ u l i)).1 ∧ (rl_ u l i).2 = e * (rh_ (rl_ u l i)).2 := by
      unfold rh_
      by_cases q : (rl_ u l i).1 % 2 = 0 ∧ (rl_ u l i).2 % 2 = 0
      · rw [if_pos q]
        exact ⟨2, by decide, by dsimp only; omega, by dsimp only; omega⟩
      · rw [if_neg q]
        exact ⟨1, by decide, (Nat.one_mul _).symm, (Nat.one_mul _).symm⟩
    have es : rl_ u l (i + 1) = if (rh_ (rl_ u l i)).1 % 5 = 0 ∧ (rh_ (rl_ u l i)).2 % 5 = 0 then ((rh_ (rl_ u l i)).1 / 5, (rh_ (rl_ u l i)).2 / 5) else rh_ (rl_ u l i) := rfl
    by_cases q : (rh_ (rl_ u l i)).1 % 5 = 0 ∧ (rh_ (rl_ u l i)).2 % 5 = 0
    · rw [es, if_pos q]
      refine ⟨d * e * 5, Nat.mul_pos (Nat.mul_pos d0 e0) (by decide), ?_, ?_⟩
      · dsimp only
        rw [Nat.mul_assoc, show 5 * ((rh_ (rl_ u l i)).1 / 5) = (rh_ (rl_ u l i)).1 by omega, Nat.mul_assoc, ← g1]
        exact h1
      · dsimp only
        rw [Nat.mul_assoc, show 5 * ((rh_ (rl_ u l i)).2 / 5) = (rh_ (rl_ u l i)).2 by omega, Nat.mul_assoc, ← g2]
        exact h2
    · rw [es, if_neg q]
      refine ⟨d * e, Nat.mul_pos d0 e0, ?_, ?_⟩
      · rw [Nat.mul_assoc, ← g1]; exact h1
      · rw [Nat.mul_assoc, ← g2]; exact h2
theorem cop_of {p g : Nat} (hp : ∀ d, d ∣ p → d = 1 ∨ d = p) (h : ¬ p ∣ g) : Nat.Coprime g p := by
  rcases hp _ (Nat.gcd_dvd_right g p) with e | e
  · exact e
  · exact absurd (e ▸ Nat.gcd_dvd_left g p) h
theorem pr_2 : ∀ d, d ∣ 2 → d = 1 ∨ d = 2 := by
  intro d h
  have h1 := Nat.le_of_dvd (by decide) h
  rcases (show d = 0 ∨ d = 1 ∨ d = 2 by omega) with rfl | rfl | rfl
  · exact absurd h (by decide)
  · exact Or.inl rfl
  · exact Or.inr rfl
theorem pr_5 : ∀ d, d ∣ 5 → d = 1 ∨ d = 5 := by
  intro d h
  have h1 := Nat.le_of_dvd (by decide) h
  rcases (show d = 0 ∨ d = 1 ∨ d = 2 ∨ d = 3 ∨ d = 4 ∨ d = 5 by omega) with rfl | rfl | rfl | rfl | rfl | rfl
  · exact absurd h (by decide)
  · exact Or.inl rfl
  · exact absurd h (by decide)
  · exact absurd h (by decide)
  · exact absurd h (by decide)
  · exact Or.inr rfl
/-- one factor p less in the common divisor, or none there -/
theorem pstep {p a b x y m : Nat} (hp : ∀ d, d ∣ p → d = 1 ∨ d = p) (p0 : 0 < p) (hx : x = a / p ∧ y = b / p ∧ p ∣ a ∧ p ∣ b ∨ x = a ∧ y = b ∧ ¬ (p ∣ a ∧ p ∣ b)) {r : Nat} (h : Nat.gcd a b ∣ p ^ (m + 1) * r) : Nat.gcd x y ∣ p ^ m * r := by
  rcases hx with ⟨rfl, rfl, ha, hb⟩ | ⟨rfl, rfl, hn⟩
  · obtain ⟨c, rfl⟩ := ha
    obtain ⟨d, rfl⟩ := hb
    rw [Nat.mul_div_cancel_left _ p0, Nat.mul_div_cancel_left _ p0]
    rw [Nat.gcd_mul_left, Nat.pow_succ, Nat.mul_comm (p ^ m) p, Nat.mul_assoc] at h
    exact Nat.dvd_of_mul_dvd_mul_left p0 h
  · have c : Nat.Coprime (Nat.gcd x y) p := cop_of hp (fun z => hn ⟨Nat.dvd_trans z (Nat.gcd_dvd_left x y), Nat.dvd_trans z (Nat.gcd_dvd_right x y)⟩)
    exact Nat.dvd_trans ((Nat.Coprime.pow_right (m + 1) c).dvd_of_dvd_mul_left h) (Nat.dvd_mul_left _ _)
theorem rl_cop (u n : Nat) : ∀ i, i ≤ n → Nat.gcd (rl_ u (10 ^ n) i).1 (rl_ u (10 ^ n) i).2 ∣ 10 ^ (n - i)
  | 0, _ => Nat.gcd_dvd_right _ _
  | i + 1, hi => by
    have ih := rl_cop u n i (by omega)
    obtain ⟨m, hm⟩ : ∃ m, n - i = m + 1 := ⟨n - i - 1, by omega⟩
    have e10 : ∀ k, 10 ^ k = 2 ^ k * 5 ^ k := fun k => by rw [← Nat.mul_pow]
    rw [hm, e10 (m + 1)] at ih
    rw [show n - (i + 1) = m by omega, e10 m]
    have s1 : Nat.gcd (rh_ (rl_ u (10 ^ n) i)).1 (rh_ (rl_ u (10 ^ n) i)).2 ∣ 2 ^ m * 5 ^ (m + 1) := by
      refine pstep (p := 2) pr_2 (by decide) ?_ ih
      unfold rh_
      by_cases q : (rl_ u (10 ^ n) i).1 % 2 = 0 ∧ (rl_ u (10 ^ n) i).2 % 2 = 0
      · rw [if_pos q]
        exact Or.inl ⟨rfl, rfl, Nat.dvd_of_mod_eq_zero q.1, Nat.dvd_of_mod_eq_zero q.2⟩
      · rw [if_neg q]
        exact Or.inr ⟨rfl, rfl, fun z => q ⟨Nat.mod_eq_zero_of_dvd z.1, Nat.mod_eq_zero_of_dvd z.2⟩⟩
    have es : rl_ u (10 ^ n) (i + 1) = if (rh_ (rl_ u (10 ^ n) i)).1 % 5 = 0 ∧ (rh_ (rl_ u (10 ^ n) i)).2 % 5 = 0 then ((rh_ (rl_ u (10 ^ n) i)).1 / 5, (rh_ (rl_ u (10 ^ n) i)).2 / 5) else rh_ (rl_ u (10 ^ n) i) := rfl
    rw [Nat.mul_comm (2 ^ m)] at s1 ⊢
    refine pstep (p := 5) pr_5 (by decide) ?_ s1
    rw [es]
    by_cases q : (rh_ (rl_ u (10 ^ n) i)).1 % 5 = 0 ∧ (rh_ (rl_ u (10 ^ n) i)).2 % 5 = 0
    · rw [if_pos q]
      exact Or.inl ⟨rfl, rfl, Nat.dvd_of_mod_eq_zero q.1, Nat.dvd_of_mod_eq_zero q.2⟩
    · rw [if_neg q]
      exact Or.inr ⟨rfl, rfl, fun z => q ⟨Nat.mod_eq_zero_of_dvd z.1, Nat.mod_eq_zero_of_dvd z.2⟩⟩
theorem rl_gcd (u n : Nat) : (rl_ u (10 ^ n) n).1 = u / Nat.gcd u (10 ^ n) ∧ (rl_ u (10 ^ n) n).2 = 10 ^ n / Nat.gcd u (10 ^ n) := by
  obtain ⟨d, d0, h1, h2⟩ := rl_mul u (10 ^ n) n
  have hc := rl_cop u n n (Nat.le_refl n)
  rw [Nat.sub_self, Nat.pow_zero] at hc
  have hc := Nat.dvd_one.mp hc
  have eg : Nat.gcd u (10 ^ n) = d := by
    have e : Nat.gcd (d * (rl_ u (10 ^ n) n).1) (d * (rl_ u (10 ^ n) n).2) = d := by rw [Nat.gcd_mul_left, hc, Nat.mul_one]
    rw [← h1, ← h2] at e
    exact e
  rw [eg]
  constructor
  · have := Nat.mul_div_cancel_left (rl_ u (10 ^ n) n).1 d0
    rw [← h1] at this
    exact this.symm
  · have := Nat.mul_div_cancel_left (rl_ u (10 ^ n) n).2 d0
    rw [← h2] at this
    exact this.symm
theorem te_two (n t k p : Int32) : kteA n t k p = teA n t k p := by
  unfold kteA teA
  by_cases z : zin n 0 17 = false ∨ zin t 0 10 = false ∨ zin k 0 n = false ∨ zin p 0 1 = false
  · rw [if_pos z, if_pos z]
  rw [if_neg z, if_neg z]
  obtain ⟨a, ha, rfl⟩ := zin_ex (b := 17) (by decide) (zin_tf (fun y => z (Or.inl y)))
  obtain ⟨c, hc, rfl⟩ := zin_ex (b := a) (by omega) (zin_tf (fun y => z (Or.inr (Or.inr (Or.inl y)))))
  rw [zx_nI (by omega), zx_nI (by omega), up_kwa (show a < 18 by omega) hc]
  obtain ⟨g1, g2⟩ := rl_gcd (kwa (zx t) a c) a
  rw [g1, g2]
