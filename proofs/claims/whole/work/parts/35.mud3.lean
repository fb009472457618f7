/-! the MUD: the first round, when nothing is settled any more, the move to make -/
theorem nv_cases {ld : Nat → Int32} {R : Int32} {q q' : zWM} {k : Nat} (e : (q'.1 k, q'.2 k) = nv ld R q k) : (¬ q.1 k = 2 ∧ q'.1 k = q.1 k ∧ q'.2 k = q.2 k) ∨ (q.1 k = 2 ∧ LoB q (ld k) R = true ∧ q'.1 k = 1 ∧ q'.2 k = R) ∨ (q.1 k = 2 ∧ ¬ LoB q (ld k) R = true ∧ AlB q (ld k) R = true ∧ q'.1 k = 0 ∧ q'.2 k = R) ∨ (q.1 k = 2 ∧ ¬ LoB q (ld k) R = true ∧ ¬ AlB q (ld k) R = true ∧ q'.1 k = q.1 k ∧ q'.2 k = q.2 k) := by
  unfold nv at e
  by_cases z : q.1 k = 2
  · rw [if_pos z] at e
    by_cases z1 : LoB q (ld k) R = true
    · rw [if_pos z1] at e
      exact Or.inr (Or.inl ⟨z, z1, congrArg Prod.fst e, congrArg Prod.snd e⟩)
    · rw [if_neg z1] at e
      by_cases z2 : AlB q (ld k) R = true
      · rw [if_pos z2] at e
        exact Or.inr (Or.inr (Or.inl ⟨z, z1, z2, congrArg Prod.fst e, congrArg Prod.snd e⟩))
      · rw [if_neg z2] at e
        exact Or.inr (Or.inr (Or.inr ⟨z, z1, z2, congrArg Prod.fst e, congrArg Prod.snd e⟩))
  · rw [if_neg z] at e
    exact Or.inl ⟨z, congrArg Prod.fst e, congrArg Prod.snd e⟩
def Vr (r : Nat) (q : zWM) : Prop := ∀ k, k < 10 → (q.1 k = 2 ∧ q.2 k = -6) ∨ (∃ m, m < r ∧ q.2 k = nI m ∧ (q.1 k = 0 ∨ q.1 k = 1))
theorem wm0_1 {I : zI} {k : Nat} (hk : k < 10) : (wm0 I 10).1 k = 2 := if_pos hk
theorem wm0_2 {I : zI} {k : Nat} (hk : k < 10) : (wm0 I 10).2 k = -6 := if_pos hk
theorem Vr_all (ld : Nat → Int32) (I : zI) : ∀ r, Vr r (rs_ ld (wm0 I 10) r)
  | 0, k, hk => Or.inl ⟨wm0_1 hk, wm0_2 hk⟩
  | r + 1, k, hk => by
    have ih := Vr_all ld I r k hk
    rcases nv_cases (rs_nv ld (wm0 I 10) r hk) with ⟨h1, h2, h3⟩ | ⟨h1, _, h2, h3⟩ | ⟨h1, _, _, h2, h3⟩ | ⟨h1, _, _, h2, h3⟩
    · rcases ih with ⟨z, _⟩ | ⟨m, m1, m2, m3⟩
      · exact absurd z h1
      · exact Or.inr ⟨m, by omega, h3.trans m2, by rw [h2]; exact m3⟩
    · exact Or.inr ⟨r, by omega, h3, Or.inr h2⟩
    · exact Or.inr ⟨r, by omega, h3, Or.inl h2⟩
    · rcases ih with ⟨_, z⟩ | ⟨m, m1, m2, m3⟩
      · exact Or.inl ⟨h2.trans h1, h3.trans z⟩
      · rw [h1] at m3
        exact absurd m3 (by decide)
theorem Vr.lo {r r' : Nat} {q : zWM} (h : Vr r q) (hr : r ≤ r') (hb : r' < 1000) {ld : Int32} : LoB q ld (nI r') = LoB q ld (nI r) := by
  refine bool_ext (Lo_iff.trans (Iff.trans ?_ Lo_iff.symm))
  have key : ∀ b, b < 10 → q.1 b = 0 → q.2 b < nI r ∧ q.2 b < nI r' := by
    intro b h1 h3
    rcases h b h1 with ⟨z, _⟩ | ⟨m, m1, m2, m3⟩
    · rw [h3] at z; exact absurd z (by decide)
    · rw [m2]; exact ⟨nI_lt m1 (by omega), nI_lt (by omega) (by omega)⟩
  constructor
  · rintro ⟨b, h1, h2, h3, h4⟩
    exact ⟨b, h1, h2, h3, (key b h1 h3).1⟩
  · rintro ⟨b, h1, h2, h3, h4⟩
    exact ⟨b, h1, h2, h3, (key b h1 h3).2⟩
theorem Vr.al {r r' : Nat} {q : zWM} (h : Vr r q) (hr : r ≤ r') (hb : r' < 1000) {ld : Int32} : AlB q ld (nI r') = AlB q ld (nI r) := by
  refine bool_ext (Al_iff.trans (Iff.trans ?_ Al_iff.symm))
  have key : ∀ b, b < 10 → q.1 b = 1 → q.2 b < nI r ∧ q.2 b < nI r' := by
    intro b h1 h3
    rcases h b h1 with ⟨z, _⟩ | ⟨m, m1, m2, m3⟩
    · rw [h3] at z; exact absurd z (by decide)
    · rw [m2]; exact ⟨nI_lt m1 (by omega), nI_lt (by omega) (by omega)⟩
  constructor
  · intro z b h1 h2
    exact ⟨(z b h1 h2).1, (key b h1 (z b h1 h2).1).1⟩
  · intro z b h1 h2
    exact ⟨(z b h1 h2).1, (key b h1 (z b h1 h2).1).2⟩
def Fx (ld : Nat → Int32) (r : Nat) (q : zWM) : Prop := ∀ r', r ≤ r' → r' < 1000 → ∀ k, k < 10 → nv ld (nI r') q k = (q.1 k, q.2 k)
theorem Fx_of {ld : Nat → Int32} {r : Nat} {q : zWM} (h : Vr r q) (h2 : ∀ k, k < 10 → nv ld (nI r) q k = (q.1 k, q.2 k)) : Fx ld r q := by
  intro r' hr hb k hk
  have e : nv ld (nI r') q k = nv ld (nI r) q k := by
    unfold nv
    by_cases z : q.1 k = 2
    · rw [if_pos z, if_pos z, h.lo hr hb, h.al hr hb]
      have e2 := h2 k hk
      rcases nv_cases e2.symm with ⟨h1, _⟩ | ⟨_, _, y, _⟩ | ⟨_, _, _, y, _⟩ | ⟨_, y1, y2, _⟩
      · exact absurd z h1
      · rw [z] at y; exact absurd y (by decide)
      · rw [z] at y; exact absurd y (by decide)
      · rw [if_neg y1, if_neg y2, if_neg y1, if_neg y2]
    · rw [if_neg z, if_neg z]
  rw [e, h2 k hk]
def Ag (q q' : zWM) : Prop := ∀ k, k < 10 → (q'.1 k, q'.2 k) = (q.1 k, q.2 k)
theorem Ag.nv {q q' : zWM} (h : Ag q q') {ld : Nat → Int32} {R : Int32} {k : Nat} (hk : k < 10) : nv ld R q' k = nv ld R q k := by
  have hr : RR q q' R := fun b hb => Or.inl ⟨congrArg Prod.fst (h b hb), congrArg Prod.snd (h b hb)⟩
  have e1 : q'.1 k = q.1 k := congrArg Prod.fst (h k hk)
  have e2 : q'.2 k = q.2 k := congrArg Prod.snd (h k hk)
  show (if q'.1 k = 2 then (if LoB q' (ld k) R = true then (1, R) else if AlB q' (ld k) R = true then (0, R) else (q'.1 k, q'.2 k)) else (q'.1 k, q'.2 k)) = (if q.1 k = 2 then (if LoB q (ld k) R = true then (1, R) else if AlB q (ld k) R = true then (0, R) else (q.1 k, q.2 k)) else (q.1 k, q.2 k))
  rw [hr.lo, hr.al, e1, e2]
theorem cn_sub {p p' : Nat → Bool} : ∀ {n : Nat}, (∀ k, k < n → p' k = true → p k = true) → cn_ p' n ≤ cn_ p n
  | 0, _ => Nat.le_refl _
  | n + 1, h => by
    have ih := cn_sub (n := n) (fun k hk => h k (by omega))
    simp only [cn_]
    by_cases q : p' n = true
    · rw [if_pos q, if_pos (h n (by omega) q)]; omega
    · rw [if_neg q]
      split <;> omega
theorem cn_less {p p' : Nat → Bool} : ∀ {n : Nat}, (∀ k, k < n → p' k = true → p k = true) → (∃ k, k < n ∧ p k = true ∧ ¬ p' k = true) → cn_ p' n < cn_ p n
  | 0, _, ⟨k, hk, _⟩ => absurd hk (Nat.not_lt_zero k)
  | n + 1, h, ⟨k, hk, h1, h2⟩ => by
    have ih1 := cn_sub (p := p) (p' := p') (n := n) (fun k hk => h k (by omega))
    simp only [cn_]
    by_cases e : k = n
    · subst e
      rw [if_neg h2, if_pos h1]; omega
    · have ih := cn_less (n := n) (fun k hk => h k (by omega)) ⟨k, by omega, h1, h2⟩
      by_cases q : p' n = true
      · rw [if_pos q, if_pos (h n (by omega) q)]; omega
      · rw [if_neg q]
        split <;> omega
theorem Fx.next {ld : Nat → Int32} {r : Nat} {w : zWM} (h : Fx ld r (rs_ ld w r)) (hr : r < 1000) : Ag (rs_ ld w r) (rs_ ld w (r + 1)) ∧ Fx ld (r + 1) (rs_ ld w (r + 1)) := by
  have a : Ag (rs_ ld w r) (rs_ ld w (r + 1)) := fun k hk => by rw [rs_nv ld w r hk, h r (Nat.le_refl r) hr k hk]
  refine ⟨a, fun r' h1 h2 k hk => ?_⟩
  rw [a.nv hk, h r' (by omega) h2 k hk, a k hk]
theorem mud_cnt (ld : Nat → Int32) (I : zI) : ∀ r, r ≤ 10 → cn_ (fun k => decide ((rs_ ld (wm0 I 10) r).1 k = 2)) 10 + r ≤ 10 ∨ Fx ld r (rs_ ld (wm0 I 10) r)
  | 0, _ => Or.inl (by have := cn_le (fun k => decide ((rs_ ld (wm0 I 10) 0).1 k = 2)) 10; omega)
  | r + 1, hr => by
    rcases mud_cnt ld I r (by omega) with ih | ih
    · by_cases same : ∀ k, k < 10 → nv ld (nI r) (rs_ ld (wm0 I 10) r) k = ((rs_ ld (wm0 I 10) r).1 k, (rs_ ld (wm0 I 10) r).2 k)
      · exact Or.inr ((Fx_of (Vr_all ld I r) same).next (by omega)).2
      · refine Or.inl ?_
        have e : ∃ k, k < 10 ∧ ¬ nv ld (nI r) (rs_ ld (wm0 I 10) r) k = ((rs_ ld (wm0 I 10) r).1 k, (rs_ ld (wm0 I 10) r).2 k) := by
          apply Classical.byContradiction
          intro z
          apply same
          intro k hk
          apply Classical.byContradiction
          intro y
          exact z ⟨k, hk, y⟩
        obtain ⟨k, hk, hne⟩ := e
        have := cn_less (p := fun k => decide ((rs_ ld (wm0 I 10) r).1 k = 2)) (p' := fun k => decide ((rs_ ld (wm0 I 10) (r + 1)).1 k = 2)) (n := 10) (fun j hj hp => by
          have hp := of_decide_eq_true hp
          apply decide_eq_true
          rcases nv_cases (rs_nv ld (wm0 I 10) r hj) with ⟨h1, h2, h3⟩ | ⟨h1, _⟩ | ⟨h1, _⟩ | ⟨h1, _⟩
          · rw [← h2]; exact hp
          · exact h1
          · exact h1
          · exact h1) ⟨k, hk, by
          have s := rs_nv ld (wm0 I 10) r hk
          rcases nv_cases s with ⟨h1, h2, h3⟩ | ⟨h1, _, h2, h3⟩ | ⟨h1, _, _, h2, h3⟩ | ⟨h1, _, _, h2, h3⟩
          · exact absurd (s.symm.trans (by rw [h2, h3])) hne
          · refine ⟨decide_eq_true h1, fun z => ?_⟩
            have z := of_decide_eq_true z
            rw [h2] at z; exact absurd z (by decide)
          · refine ⟨decide_eq_true h1, fun z => ?_⟩
            have z := of_decide_eq_true z
            rw [h2] at z; exact absurd z (by decide)
          · exact absurd (s.symm.trans (by rw [h2, h3])) hne⟩
        omega
    · exact Or.inr (ih.next (by omega)).2
theorem mud_fix (ld : Nat → Int32) (I : zI) : Fx ld 10 (rs_ ld (wm0 I 10) 10) := by
  rcases mud_cnt ld I 10 (Nat.le_refl 10) with h | h
  · refine Fx_of (Vr_all ld I 10) (fun k hk => ?_)
    have z : ¬ (rs_ ld (wm0 I 10) 10).1 k = 2 := by
      intro z
      have h1 := cn_lt (p := fun k => decide ((rs_ ld (wm0 I 10) 10).1 k = 2)) hk (decide_eq_true z)
      omega
    rcases nv_rr (ld := ld) (r := nI 10) (q := rs_ ld (wm0 I 10) 10) (k := k) with y | ⟨y, _⟩
    · exact y
    · exact absurd y z
  · exact h
theorem Fx.run {ld : Nat → Int32} {w : zWM} {r0 : Nat} (h : Fx ld r0 (rs_ ld w r0)) : ∀ r, r0 ≤ r → r < 1000 → Ag (rs_ ld w r0) (rs_ ld w r) ∧ Fx ld r (rs_ ld w r)
  | 0, hr, _ => by
    rw [show r0 = 0 by omega] at h ⊢
    exact ⟨fun _ _ => rfl, h⟩
  | r + 1, hr, hb => by
    by_cases e : r0 = r + 1
    · rw [e] at h ⊢
      exact ⟨fun _ _ => rfl, h⟩
    · obtain ⟨h1, h2⟩ := h.run r (by omega) (by omega)
      obtain ⟨g1, g2⟩ := h2.next (by omega)
      exact ⟨fun k hk => (g1 k hk).trans (h1 k hk), g2⟩
/-- where he who can win moves -/
def Wp (ld : Nat → Int32) (r : Nat) (q : zWM) : Prop := ∀ a, a < 10 → (q.1 a = 2 → ∀ b, b < 10 → zis (ld a) (nI b) = true → q.1 b = 0 → 1 ≤ r ∧ q.2 b = nI (r - 1)) ∧ (q.1 a = 1 → ∃ m, m < r ∧ 1 ≤ m ∧ q.2 a = nI m ∧ ∀ b, b < 10 → zis (ld a) (nI b) = true → q.1 b = 0 → q.2 b < nI m → q.2 b = nI (m - 1))
theorem Wp_all (ld : Nat → Int32) (I : zI) : ∀ r, r < 1000 → Wp ld r (rs_ ld (wm0 I 10) r)
  | 0, _, a, ha => ⟨fun _ b hb _ z => absurd ((wm0_1 (I := I) hb).symm.trans z) (by decide), fun z => absurd ((wm0_1 (I := I) ha).symm.trans z) (by decide)⟩
  | r + 1, hr, a, ha => by
    have ih := Wp_all ld I r (by omega) a ha
    have nvv := fun b hb => nv_cases (rs_nv ld (wm0 I 10) r (k := b) hb)
    generalize hq : rs_ ld (wm0 I 10) r = q at ih nvv
    generalize rs_ ld (wm0 I 10) (r + 1) = q' at nvv ⊢
    have old : ∀ b, b < 10 → q'.1 b = 0 → (q.1 b = 0 ∧ q'.2 b = q.2 b) ∨ q'.2 b = nI r := by
      intro b hb z
      rcases nvv b hb with ⟨h1, h2, h3⟩ | ⟨h1, _, h2, h3⟩ | ⟨h1, _, _, h2, h3⟩ | ⟨h1, _, _, h2, h3⟩
      · exact Or.inl ⟨h2 ▸ z, h3⟩
      · exact Or.inr h3
      · exact Or.inr h3
      · rw [h2, h1] at z; exact absurd z (by decide)
    rcases nvv a ha with ⟨h1, h2, h3⟩ | ⟨h1, hL, h2, h3⟩ | ⟨h1, _, _, h2, h3⟩ | ⟨h1, hL, _, h2, h3⟩
    · refine ⟨fun z => absurd (h2.symm.trans z) h1, fun z => ?_⟩
      obtain ⟨m, m1, m2, m3, m4⟩ := ih.2 (h2.symm.trans z)
      refine ⟨m, by omega, m2, h3.trans m3, fun b hb hz h0 hlt => ?_⟩
      rcases old b hb h0 with ⟨o1, o2⟩ | o
      · rw [o2] at hlt ⊢
        exact m4 b hb hz o1 hlt
      · rw [o] at hlt
        exact absurd hlt (nI_nlt (by omega) (by omega))
    · refine ⟨fun z => absurd (h2.symm.trans z) (by decide), fun _ => ?_⟩
      obtain ⟨b0, c1, c2, c3, c4⟩ := Lo_iff.mp hL
      have r1 := (ih.1 h1 b0 c1 c2 c3).1
      refine ⟨r, by omega, r1, h3, fun b hb hz h0 hlt => ?_⟩
      rcases old b hb h0 with ⟨o1, o2⟩ | o
      · rw [o2]; exact (ih.1 h1 b hb hz o1).2
      · rw [o] at hlt
        exact absurd hlt (nI_nlt (Nat.le_refl r) (by omega))
    · refine ⟨fun z => absurd (h2.symm.trans z) (by decide), fun z => absurd (h2.symm.trans z) (by decide)⟩
    · refine ⟨fun _ b hb hz h0 => ⟨by omega, ?_⟩, fun z => absurd ((h2.trans h1).symm.trans z) (by decide)⟩
      rw [Nat.add_sub_cancel]
      rcases old b hb h0 with ⟨o1, o2⟩ | o
      · exfalso
        obtain ⟨i1, i2⟩ := ih.1 h1 b hb hz o1
        exact hL (Lo_iff.mpr ⟨b, hb, hz, o1, by rw [i2]; exact nI_lt (by omega) (by omega)⟩)
      · exact o
theorem l2_low {w mv : Nat → Int32} {ld a r : Int32} : ∀ i, (∃ b, b < i ∧ (zis ld (nI b) = true ∧ w b = a ∧ ¬ r ≤ mv b) ∧ (∀ c, c < b → ¬ (zis ld (nI c) = true ∧ w c = a ∧ ¬ r ≤ mv c)) ∧ l2_ w mv ld a r i = some b) ∨ ((∀ b, b < i → ¬ (zis ld (nI b) = true ∧ w b = a ∧ ¬ r ≤ mv b)) ∧ l2_ w mv ld a r i = none)
  | 0 => Or.inr ⟨fun b hb => absurd hb (Nat.not_lt_zero b), rfl⟩
  | i + 1 => by
    rcases l2_low (w := w) (mv := mv) (ld := ld) (a := a) (r := r) i with ⟨b, h1, h2, h3, h4⟩ | ⟨h1, h2⟩
    · exact Or.inl ⟨b, by omega, h2, h3, by simp only [l2_, h4]⟩
    · by_cases q : zis ld (nI i) = true ∧ w i = a ∧ ¬ r ≤ mv i
      · refine Or.inl ⟨i, by omega, q, h1, ?_⟩
        simp only [l2_, h2]
        rw [if_pos q]
      · refine Or.inr ⟨fun b hb => ?_, ?_⟩
        · by_cases e : b = i
          · rw [e]; exact q
          · exact h1 b (by omega)
        · simp only [l2_, h2]
          rw [if_neg q]
theorem kfm_low {q : zWM} {ld : Int32} {a : Nat} (ha : q.1 a = 1) : ∀ j, j ≤ 10 → (∃ b, 10 - j ≤ b ∧ b < 10 ∧ (zis ld (nI b) = true ∧ q.1 b = 0 ∧ q.2 b = q.2 a - 1) ∧ (∀ c, 10 - j ≤ c → c < b → ¬ (zis ld (nI c) = true ∧ q.1 c = 0 ∧ q.2 c = q.2 a - 1)) ∧ kfm q ld a j = nI b) ∨ ((∀ b, 10 - j ≤ b → b < 10 → ¬ (zis ld (nI b) = true ∧ q.1 b = 0 ∧ q.2 b = q.2 a - 1)) ∧ kfm q ld a j = -6)
  | 0, _ => Or.inr ⟨fun b h1 h2 => by omega, rfl⟩
  | j + 1, hj => by
    by_cases z : zis ld (nI (9 - j)) = true ∧ q.1 (9 - j) = 0 ∧ q.2 (9 - j) = q.2 a - 1
    · refine Or.inl ⟨9 - j, by omega, by omega, z, fun c h1 h2 => by omega, ?_⟩
      simp only [kfm]
      rw [if_pos ⟨ha, z⟩]
    · have e : kfm q ld a (j + 1) = kfm q ld a j := by
        simp only [kfm]
        rw [if_neg (fun y => z y.2)]
      rw [e]
      rcases kfm_low (ld := ld) ha j (by omega) with ⟨b, h1, h2, h3, h4, h5⟩ | ⟨h1, h2⟩
      · refine Or.inl ⟨b, by omega, h2, h3, fun c c1 c2 => ?_, h5⟩
        by_cases y : c = 9 - j
        · rw [y]; exact z
        · exact h4 c (by omega) c2
      · refine Or.inr ⟨fun b b1 b2 => ?_, h2⟩
        by_cases y : b = 9 - j
        · rw [y]; exact z
        · exact h1 b (by omega) b2
theorem kfm_no {q : zWM} {ld : Int32} {a : Nat} (ha : ¬ q.1 a = 1) : ∀ j, kfm q ld a j = -6
  | 0 => rfl
  | j + 1 => by
    simp only [kfm]
    rw [if_neg (fun y => ha y.1), kfm_no ha j]
section PL
variable {I K : zI}
theorem bit_ex10 {s : Nat} (hs : s < 1024) (h : ¬ s = 0) : ∃ i, i < 10 ∧ s.testBit i = true := by
  apply Classical.byContradiction
  intro q
  apply h
  apply Nat.eq_of_testBit_eq
  intro i
  rw [Nat.zero_testBit]
  by_cases z : i < 10
  · cases e : s.testBit i
    · rfl
    · exact absurd ⟨i, z, e⟩ q
  · exact Nat.testBit_lt_two_pow (Nat.lt_of_lt_of_le hs (Nat.pow_le_pow_right (show 2 > 0 by decide) (show 10 ≤ i by omega)))
theorem mud_0 (h : Rl I K) : QR (rs_ (I 9) (wm0 I 10) (0 + 1)) (kw0 K 10) := by
  intro k hk
  have e0 := rs_nv (I 9) (wm0 I 10) 0 hk
  generalize rs_ (I 9) (wm0 I 10) (0 + 1) = q1 at e0 ⊢
  have e0 : (q1.1 k, q1.2 k) = nv (I 9) (nI 0) (wm0 I 10) k := e0
  have kw1 : (kw0 K 10).1 k = if K 47 k = 0 then 0 else 2 := if_pos hk
  have kw2 : (kw0 K 10).2 k = 0 := if_pos hk
  obtain ⟨x, hx, ex⟩ : ∃ x, x < 1024 ∧ I 9 k = nI x := ⟨_, (h.ld k hk).2, (h.ld k hk).1⟩
  have nolo : ¬ LoB (wm0 I 10) (I 9 k) (nI 0) = true := by
    intro z
    obtain ⟨b, h1, h2, h3, h4⟩ := Lo_iff.mp z
    rw [wm0_1 h1] at h3
    exact absurd h3 (by decide)
  have al : AlB (wm0 I 10) (I 9 k) (nI 0) = true ↔ x = 0 := by
    rw [Al_iff]
    constructor
    · intro z
      apply Classical.byContradiction
      intro y
      obtain ⟨b, b1, b2⟩ := bit_ex10 hx y
      have := (z b b1 (by rw [ex, zis_nI (by omega) (by omega)]; exact b2)).1
      rw [wm0_1 b1] at this
      exact absurd this (by decide)
    · intro z b hb hz
      rw [ex, z, zis_nI (by decide) (by omega), Nat.zero_testBit] at hz
      cases hz
  have i9 : I 9 k = 0 ↔ x = 0 := by rw [ex]; exact nI_z (by omega)
  rw [kw1, kw2, k_L h hk]
  rcases nv_cases e0 with ⟨h1, _⟩ | ⟨_, h2, _⟩ | ⟨_, _, h2, h3, h4⟩ | ⟨h1, _, h2, h3, h4⟩
  · exact absurd (wm0_1 hk) h1
  · exact absurd h2 nolo
  · rw [if_pos (i9.mpr (al.mp h2))]
    exact ⟨h3, fun _ => h4⟩
  · rw [if_neg (fun z => h2 (al.mpr (i9.mp z)))]
    exact ⟨h3.trans h1, fun z => absurd (h3.trans h1) z⟩
theorem mud_all (h : Rl I K) : ∀ r, QR (rs_ (I 9) (wm0 I 10) (r + 1)) (krs (K 47) (kw0 K 10) r)
  | 0 => mud_0 h
  | r + 1 => by
    have e1 : rs_ (I 9) (wm0 I 10) (r + 1 + 1) = rd_ (I 9) (nI (r + 1)) (rs_ (I 9) (wm0 I 10) (r + 1)) 10 := by rw [rs_]
    have e2 : krs (K 47) (kw0 K 10) (r + 1) = krd (K 47) (nI (r + 1)) (krs (K 47) (kw0 K 10) r) 10 := by rw [krs]
    rw [e1, e2]
    exact (mud_all h r).rd (fun i hi => k_L h hi) _ 10 (Nat.le_refl 10)
theorem mud_eq (h : Rl I K) : QR (mud I) (kmd K) := by
  intro k hk
  unfold mud kmd
  have e1 : QR (rs_ (I 9) (wm0 I 10) 24) (krs (K 47) (kw0 K 10) 23) := mud_all h 23
  have e1 := e1 k hk
  have e2 := ((mud_fix (I 9) I).run 24 (by decide) (by decide)).1 k hk
  generalize rs_ (I 9) (wm0 I 10) 24 = x at e1 e2
  generalize rs_ (I 9) (wm0 I 10) 10 = y at e2 ⊢
  generalize krs (K 47) (kw0 K 10) 23 = z at e1 ⊢
  have f1 : x.1 k = y.1 k := congrArg Prod.fst e2
  have f2 : x.2 k = y.2 k := congrArg Prod.snd e2
  rw [f1, f2] at e1
  exact e1
theorem pl_two (h : Rl I K) (a w : Int32) : kplA K a w = plA I a w := by
  unfold kplA plA
  by_cases z : zin a 0 9 = false
  · rw [if_pos z, if_pos z]
  rw [if_neg z, if_neg z]
  by_cases z2 : zin w 0 2 = false
  · rw [if_pos z2, if_pos z2]
  rw [if_neg z2, if_neg z2]
  obtain ⟨i, hi, rfl⟩ := zin_ex (b := 9) (by decide) (zin_tf z)
  have hi : i < 10 := by omega
  rw [zx_nI (by omega)]
  have hq := mud_eq h
  obtain ⟨q1, q2⟩ := hq i hi
  have hv : Vr 10 (mud I) := Vr_all (I 9) I 10
  have hw : Wp (I 9) 10 (mud I) := Wp_all (I 9) I 10 (by decide)
  generalize mud I = q at hq q1 q2 hv hw ⊢
  generalize kmd K = q' at hq q1 q2 ⊢
  by_cases w0 : w = 0
  · rw [if_pos w0, if_pos w0, q1]
  rw [if_neg w0, if_neg w0]
  by_cases w1 : w = 1
  · rw [if_pos w1, if_pos w1, ← q1]
    by_cases y : q.1 i = 2
    · rw [if_pos y]
      rcases hv i hi with ⟨_, v⟩ | ⟨m, _, _, m3⟩
      · exact v.symm
      · rw [y] at m3; exact absurd m3 (by decide)
    · rw [if_neg y, q2 y]
  rw [if_neg w1, if_neg w1]
  by_cases y : q.1 i = 1
  · rw [if_pos y]
    obtain ⟨m, m1, m2, m3, m4⟩ := (hw i hi).2 y
    have y' : q'.1 i = 1 := q1.symm.trans y
    have e2 : q'.2 i = nI m := by rw [← q2 (by rw [y]; decide)]; exact m3
    have same : ∀ b, b < 10 → ((zis (K 47 i) (nI b) = true ∧ q'.1 b = 0 ∧ q'.2 b = q'.2 i - 1) ↔ (zis (I 9 i) (nI b) = true ∧ q.1 b = 0 ∧ ¬ q.2 i ≤ q.2 b)) := by
      intro b hb
      obtain ⟨g1, g2⟩ := hq b hb
      rw [k_L h hi, e2, m3, show nI m - 1 = nI (m - 1) from pk_sub (b := 1) m2, ← g1]
      constructor
      · rintro ⟨c1, c2, c3⟩
        refine ⟨c1, c2, ?_⟩
        rw [g2 (by rw [c2]; decide), c3]
        exact nI_ge (by omega) (by omega)
      · rintro ⟨c1, c2, c3⟩
        refine ⟨c1, c2, ?_⟩
        rw [← g2 (by rw [c2]; decide)]
        exact m4 b hb c1 c2 (Int32.not_le.mp c3)
    rcases l2_low (w := q.1) (mv := q.2) (ld := I 9 i) (a := 0) (r := q.2 i) 10 with ⟨b, b1, b2, b3, b4⟩ | ⟨b1, b2⟩
    · rw [b4]
      rcases kfm_low (ld := K 47 i) y' 10 (Nat.le_refl 10) with ⟨c, c1, c2, c3, c4, c5⟩ | ⟨c1, c2⟩
      · rw [c5]
        rcases Nat.lt_trichotomy b c with e | e | e
        · exact absurd ((same b b1).mpr b2) (c4 b (by omega) e)
        · rw [e]; rfl
        · exact absurd ((same c c2).mp c3) (b3 c e)
      · exact absurd ((same b b1).mpr b2) (c1 b (by omega) b1)
    · rw [b2]
      rcases kfm_low (ld := K 47 i) y' 10 (Nat.le_refl 10) with ⟨c, c1, c2, c3, c4, c5⟩ | ⟨c1, c2⟩
      · exact absurd ((same c c2).mp c3) (b1 c c2)
      · rw [c2]; rfl
  · rw [if_neg y]
    exact kfm_no (by rw [← q1]; exact y) 10
end PL
