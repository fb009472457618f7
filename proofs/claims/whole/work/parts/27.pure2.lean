/-! LEAST: the class's table and the reference's -/
theorem ch_k {fit : Nat → Bool} {fo tk row row' : Nat → Nat} {need : Nat} (h1 : 1 ≤ need) (h2 : need ≤ 99) (hf : ∀ h, h < 6 → 1 ≤ fo h ∧ tk h ≤ 9) (hr : ∀ k, k < need → row k = row' k ∧ row k ≤ 9001 * k) : ∀ i, i ≤ 6 → ((∀ h, h < i → fit h = false) ∧ ch_ fit fo tk row need i = 1000000000 ∧ kch fit fo tk row' need i = 1000000) ∨ ((∃ h, h < i ∧ fit h = true) ∧ ch_ fit fo tk row need i = kch fit fo tk row' need i ∧ ch_ fit fo tk row need i ≤ 9001 * need)
  | 0, _ => Or.inl ⟨fun h hh => absurd hh (Nat.not_lt_zero h), rfl, rfl⟩
  | i + 1, hi => by
    have ih := ch_k (fit := fit) h1 h2 hf hr i (by omega)
    have hfi := hf i (by omega)
    have hri := hr (need - fo i) (by omega)
    have ht : row (need - fo i) + 1000 * tk i + 1 ≤ 9001 * need := by omega
    by_cases e : fit i = true
    · refine Or.inr ⟨⟨i, by omega, e⟩, ?_⟩
      simp only [ch_, kch, if_pos e, ← hri.1]
      rcases ih with ⟨_, z1, z2⟩ | ⟨_, z1, z2⟩
      · rw [z1, z2]; omega
      · rw [← z1]; omega
    · have e0 : fit i = false := by simpa using e
      simp only [ch_, kch, if_neg e]
      rcases ih with ⟨z0, z1, z2⟩ | ⟨⟨h, z0, z3⟩, z1, z2⟩
      · refine Or.inl ⟨fun h hh => ?_, z1, z2⟩
        by_cases q : h = i
        · rw [q]; exact e0
        · exact z0 h (by omega)
      · exact Or.inr ⟨⟨h, by omega, z3⟩, z1, z2⟩
theorem pt_k {fit : Nat → Bool} {fo tk : Nat → Nat} (hf : ∀ h, h < 6 → 1 ≤ fo h ∧ tk h ≤ 9) (hx : ∃ h, h < 6 ∧ fit h = true) : ∀ v, v ≤ 99 → ∀ k, k ≤ v → pt_ fit fo tk v k = kpt fit fo tk v k ∧ pt_ fit fo tk v k ≤ 9001 * k
  | 0, _, k, hk => by
    rw [show k = 0 by omega]
    exact ⟨rfl, Nat.zero_le _⟩
  | v + 1, hv, k, hk => by
    have ih := pt_k hf hx v (by omega)
    simp only [pt_, kpt]
    by_cases e : k = v + 1
    · rw [if_pos e, if_pos e, e]
      rcases ch_k (fit := fit) (fo := fo) (tk := tk) (row := pt_ fit fo tk v) (row' := kpt fit fo tk v) (need := v + 1) (by omega) hv hf (fun k hk => ih k (by omega)) 6 (Nat.le_refl 6) with ⟨z0, _, _⟩ | ⟨_, z1, z2⟩
      · obtain ⟨h, q1, q2⟩ := hx
        rw [z0 h q1] at q2
        cases q2
      · exact ⟨z1, z2⟩
    · rw [if_neg e, if_neg e]
      exact ih k (by omega)
theorem kpt_no {fit : Nat → Bool} {fo tk : Nat → Nat} (hx : ∀ h, h < 6 → fit h = false) {v : Nat} (hv : 1 ≤ v) : kpt fit fo tk v v = 1000000 := by
  obtain ⟨u, rfl⟩ : ∃ u, v = u + 1 := ⟨v - 1, by omega⟩
  simp [kpt, kch, hx 0 (by decide), hx 1 (by decide), hx 2 (by decide), hx 3 (by decide), hx 4 (by decide), hx 5 (by decide)]
theorem Int32_or0 (a : Int32) : a ||| 0 = a := by
  apply Int32.toBitVec_inj.1
  show a.toBitVec ||| (0 : BitVec 32) = a.toBitVec
  simp
theorem hf_kf (gr : Nat → Int32) (mk : Int32) : ∀ i, hf_ gr mk i = kf_ gr mk i
  | 0 => rfl
  | i + 1 => by
    simp only [hf_, kf_, hf_kf gr mk i]
    split
    · rfl
    · rw [Int32_or0]
theorem fi_eq {I : zI} (h : RelB (blk I 1) (kig I)) (a : Int32) : kfiA I a = fiA I a := by
  unfold kfiA fiA
  rw [thr_zth h]
  by_cases q : zth (I 2) a = true
  · obtain ⟨i, hi, rfl⟩ := zth_ex q
    have e1 : I 41 (6 + i) = I 3 i := by
      have e := h.eM i hi
      unfold kig at e
      rw [if_pos (by omega)] at e
      exact e
    have e2 : ∀ j, j ≤ 6 → kf_ (I 43) (I 3 i) j = kf_ (I 4) (I 3 i) j := by
      intro j
      induction j with
      | zero => intro _; rfl
      | succ j ih =>
        intro hj
        have e := h.eG j (by omega)
        unfold kig at e
        rw [if_neg (by omega), if_pos (by omega), show 15 + j - 15 = j by omega] at e
        have e : I 43 j = I 4 j := e
        simp only [kf_, ih (by omega), e]
    rw [if_pos q, if_pos q, zx_nI (by omega), e1, e2 6 (Nat.le_refl 6), hf_kf]
  · rw [if_neg q, if_neg q]
