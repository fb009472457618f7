/-! SHAPES, ASK on both sides -/
section SP
variable {I K : zI} {n : Nat}
theorem kh_eq (h : Rl I K) (x : Int32) : ∀ i, i ≤ 8 → khas (K 43) (K 48) x i = has_ (I 4) (I 10) (I 11) x i
  | 0, _ => rfl
  | i + 1, hi => by
    obtain ⟨k, hk, ek⟩ : ∃ k, k < 6 ∧ I 10 i = nI k := h.sh i (by omega)
    have e1 : K 48 (2 * i) = nI k := (k_X h (by omega)).trans ek
    have e2 : K 48 (2 * i + 1) = I 11 i := k_Y h (by omega)
    have e3 : zb (decide (I 11 i = 1)) = I 11 i := by
      have z : I 11 i = 0 ∨ I 11 i = 1 := h.sf i (by omega)
      rcases z with z | z
      · rw [z]; rfl
      · rw [z]; rfl
    simp only [khas, has_, kh_eq h x i (by omega)]
    rw [e1, e2, e3, ek, nI_clamp (by omega), k_G h hk]
theorem sp_eq (h : Rl I K) (hn : n ≤ 8) : ksp K n = shp I n := by
  funext s
  unfold ksp shp
  exact kh_eq h (nI s) n hn
theorem kse_no {p : Nat → Bool} {k : Int32} : ∀ {n : Nat}, (∀ s, s < n → p s = true → ¬ nI (cn_ p s) = k) → kse p k n = none
  | 0, _ => rfl
  | n + 1, h => by
    simp only [kse, kse_no (n := n) (fun s hs => h s (by omega))]
    rw [if_neg (fun z => h n (by omega) z.1 z.2)]
theorem kse_sel {p : Nat → Bool} {m : Nat} (hm : m < 2 ^ 31) : ∀ {n : Nat}, n ≤ 256 → kse p (nI m) n = sel p m n
  | 0, _ => rfl
  | n + 1, hn => by
    have e : (nI (cn_ p n) = nI m) ↔ cn_ p n = m := nI_eq (by have := cn_le p n; omega) hm
    simp only [kse, sel, kse_sel hm (n := n) (by omega)]
    cases sel p m n with
    | some x => rfl
    | none =>
      dsimp only
      by_cases q : p n = true ∧ cn_ p n = m
      · rw [if_pos ⟨q.1, e.mpr q.2⟩, if_pos q]
      · rw [if_neg (fun z => q ⟨z.1, e.mp z.2⟩), if_neg q]
theorem sh_two (h : Rl I K) (hn : n ≤ 8) (i : Int32) : kshA K n i = shA I n i := by
  unfold kshA shA
  rw [sp_eq h hn]
  have cl := cn_le (shp I n) 256
  by_cases i0 : i < 0
  · have e : kse (shp I n) i 256 = none := kse_no (fun s hs _ z => by
      rw [← z] at i0
      exact nI_pos (by have := cn_le (shp I n) s; omega) i0)
    rw [e]
    dsimp only
    by_cases q : i = -1
    · rw [if_pos q, if_pos q]
    · rw [if_neg q, if_neg q, zin_1 i0, if_neg (by decide)]
  obtain ⟨m, hm, rfl⟩ := nI_of i0
  have q : ¬ nI m = -1 := fun z => i0 (by rw [z]; decide)
  rw [if_neg q, if_neg q, kse_sel hm (Nat.le_refl 256)]
  by_cases z : m < cn_ (shp I n) 256
  · obtain ⟨s, s1, s2, s3, s4⟩ := sel_ex z
    have e1 : nI (cn_ (shp I n) 256) - 1 = nI (cn_ (shp I n) 256 - 1) := pk_sub (b := 1) (by omega)
    have e2 : zin (nI m) 0 (nI (cn_ (shp I n) 256 - 1)) = (decide (0 ≤ m) && decide (m ≤ cn_ (shp I n) 256 - 1)) := zin_nI (a := 0) (by decide) (by omega) hm
    have e3 : (decide (0 ≤ m) && decide (m ≤ cn_ (shp I n) 256 - 1)) = true := by simp; omega
    rw [e1, e2, if_pos e3, zx_nI (by omega), s4]
    rfl
  · have e : kse (shp I n) (nI m) 256 = none := kse_no (fun s hs hp w => by
      have w := (nI_eq (by have := cn_le (shp I n) s; omega) hm).mp w
      have := cn_lt (p := shp I n) hs hp
      omega)
    rw [kse_sel hm (Nat.le_refl 256)] at e
    rw [e]
    dsimp only
    rw [if_neg]
    · by_cases c : cn_ (shp I n) 256 = 0
      · rw [c]
        intro y
        exact absurd (Int32.le_trans (Int32.not_lt.mp i0) (zin_t y).2) (by decide)
      · have e1 : nI (cn_ (shp I n) 256) - 1 = nI (cn_ (shp I n) 256 - 1) := pk_sub (b := 1) (by omega)
        have e2 : zin (nI m) 0 (nI (cn_ (shp I n) 256 - 1)) = (decide (0 ≤ m) && decide (m ≤ cn_ (shp I n) 256 - 1)) := zin_nI (a := 0) (by decide) (by omega) hm
        rw [e1, e2]
        simp
        omega
theorem mx_le (p : Nat → Bool) (g : Int32) : mxN p g ≤ 256 := by
  unfold mxN
  have h1 := cn_le p 256
  have h2 := cn_le (fun s => p s && zwi g (nI s)) 256
  omega
theorem kas_cong {p : Nat → Bool} {gr gr' : Nat → Int32} (h : ∀ i, i < 6 → gr' i = gr i) : ∀ i, i ≤ 6 → kas p gr' i = kas p gr i
  | 0, _ => rfl
  | i + 1, hi => by simp only [kas, kas_cong h i (by omega), h i (by omega)]
theorem kas_run {p : Nat → Bool} {gr : Nat → Int32} (hc : 0 < cn_ p 256) : ∀ i, kas p gr (i + 1) = (nI (bhN p gr i), mxN p (gr (bhN p gr i)))
  | 0 => by
    have e : kas p gr (0 + 1) = if 0 < cn_ p 256 ∧ mxN p (gr 0) < 1000000 then (nI 0, mxN p (gr 0)) else (-6, 1000000) := rfl
    rw [e, if_pos ⟨hc, Nat.lt_of_le_of_lt (mx_le p (gr 0)) (by decide)⟩]
    rfl
  | i + 1 => by
    have ih := kas_run (gr := gr) hc i
    have e : kas p gr (i + 1 + 1) = if 0 < cn_ p 256 ∧ mxN p (gr (i + 1)) < (kas p gr (i + 1)).2 then (nI (i + 1), mxN p (gr (i + 1))) else kas p gr (i + 1) := rfl
    rw [e, ih]
    dsimp only
    have e2 : bhN p gr (i + 1) = if mxN p (gr (i + 1)) < mxN p (gr (bhN p gr i)) then i + 1 else bhN p gr i := rfl
    rw [e2]
    by_cases q : mxN p (gr (i + 1)) < mxN p (gr (bhN p gr i))
    · rw [if_pos ⟨hc, q⟩, if_pos q]
    · rw [if_neg (fun z => q z.2), if_neg q]
theorem kas_0 {p : Nat → Bool} {gr : Nat → Int32} (hc : ¬ 0 < cn_ p 256) : ∀ i, kas p gr i = (-6, 1000000)
  | 0 => rfl
  | i + 1 => by
    have e : kas p gr (i + 1) = if 0 < cn_ p 256 ∧ mxN p (gr i) < (kas p gr i).2 then (nI i, mxN p (gr i)) else kas p gr i := rfl
    rw [e, if_neg (fun z => hc z.1), kas_0 hc i]
theorem as_two (h : Rl I K) (hn : n ≤ 8) (w : Int32) : kasA K n w = asA I n w := by
  unfold kasA asA
  by_cases z : zin w 0 1 = false
  · rw [if_pos z, if_pos z]
  rw [if_neg z, if_neg z, sp_eq h hn, kas_cong (fun i hi => k_G h hi) 6 (Nat.le_refl 6)]
  by_cases c : cn_ (shp I n) 256 = 0
  · rw [if_pos c, kas_0 (by omega), if_pos (Or.inl (show (-6 : Int32) < 0 by decide))]
  · have e : kas (shp I n) (I 4) 6 = (nI (bhN (shp I n) (I 4) 5), mxN (shp I n) (I 4 (bhN (shp I n) (I 4) 5))) := kas_run (by omega) 5
    have hb := bhN_le (shp I n) (I 4) 5
    rw [if_neg c, e]
    dsimp only
    by_cases q : w = 0
    · rw [if_pos (Or.inr q), if_pos q]
    · rw [if_neg, if_neg q]
      rintro (y | y)
      · exact nI_pos (by omega) y
      · exact q y
end SP
