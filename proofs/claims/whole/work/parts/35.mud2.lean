/-! the MUD on both sides -/
def LoB (q : zWM) (ld r : Int32) : Bool := (l2_ q.1 q.2 ld 0 r 10).isSome
def AlB (q : zWM) (ld r : Int32) : Bool := a2_ q.1 q.2 ld r 10
theorem l2_iff {w mv : Nat → Int32} {ld a r : Int32} : ∀ i, (l2_ w mv ld a r i).isSome = true ↔ ∃ b, b < i ∧ zis ld (nI b) = true ∧ w b = a ∧ ¬ r ≤ mv b
  | 0 => by simp [l2_]
  | i + 1 => by
    have ih := l2_iff (w := w) (mv := mv) (ld := ld) (a := a) (r := r) i
    simp only [l2_]
    cases e : l2_ w mv ld a r i with
    | some x =>
      rw [e] at ih
      obtain ⟨b, h1, h2⟩ := ih.mp rfl
      exact ⟨fun _ => ⟨b, by omega, h2⟩, fun _ => rfl⟩
    | none =>
      rw [e] at ih
      dsimp only
      by_cases q : zis ld (nI i) = true ∧ w i = a ∧ ¬ r ≤ mv i
      · rw [if_pos q]
        exact ⟨fun _ => ⟨i, by omega, q⟩, fun _ => rfl⟩
      · rw [if_neg q]
        constructor
        · intro z; cases z
        · rintro ⟨b, h1, h2⟩
          by_cases z : b = i
          · subst z; exact absurd h2 q
          · exact absurd (ih.mpr ⟨b, by omega, h2⟩) (by simp)
theorem a2_iff {w mv : Nat → Int32} {ld r : Int32} : ∀ i, a2_ w mv ld r i = true ↔ ∀ b, b < i → zis ld (nI b) = true → w b = 1 ∧ mv b < r
  | 0 => by simp [a2_]
  | i + 1 => by
    simp only [a2_]
    rw [Bool.and_eq_true, a2_iff i]
    have e : ((!(zis ld (nI i) && (!decide (w i = 1) || !decide (mv i < r)))) = true) ↔ (zis ld (nI i) = true → w i = 1 ∧ mv i < r) := by
      cases zis ld (nI i)
      · simp
      · simp
    rw [e]
    constructor
    · rintro ⟨h1, h2⟩ b hb
      by_cases z : b = i
      · subst z; exact h2
      · exact h1 b (by omega)
    · intro h
      exact ⟨fun b hb => h b (by omega), h i (by omega)⟩
theorem Lo_iff {q : zWM} {ld r : Int32} : LoB q ld r = true ↔ ∃ b, b < 10 ∧ zis ld (nI b) = true ∧ q.1 b = 0 ∧ q.2 b < r := by
  unfold LoB
  rw [l2_iff]
  simp only [Int32.not_le]
theorem Al_iff {q : zWM} {ld r : Int32} : AlB q ld r = true ↔ ∀ b, b < 10 → zis ld (nI b) = true → q.1 b = 1 ∧ q.2 b < r := a2_iff 10
theorem klo_iff {q : zWM} {ld r : Int32} : ∀ i, klo ld r q i = true ↔ ∃ b, b < i ∧ zis ld (nI b) = true ∧ q.1 b = 0 ∧ q.2 b < r
  | 0 => by simp [klo]
  | i + 1 => by
    simp only [klo]
    rw [Bool.or_eq_true, klo_iff i]
    have e : (zis ld (nI i) && ksl q r i && decide (q.1 i = 0)) = true ↔ (zis ld (nI i) = true ∧ q.1 i = 0 ∧ q.2 i < r) := by
      unfold ksl
      simp only [Bool.and_eq_true, decide_eq_true_eq]
      constructor
      · rintro ⟨⟨h1, h2, h3⟩, h4⟩
        exact ⟨h1, h4, h3⟩
      · rintro ⟨h1, h2, h3⟩
        exact ⟨⟨h1, by rw [h2]; decide, h3⟩, h2⟩
    rw [e]
    constructor
    · rintro (⟨b, h1, h2⟩ | h)
      · exact ⟨b, by omega, h2⟩
      · exact ⟨i, by omega, h⟩
    · rintro ⟨b, h1, h2⟩
      by_cases z : b = i
      · subst z; exact Or.inr h2
      · exact Or.inl ⟨b, by omega, h2⟩
theorem kal_iff {q : zWM} {ld r : Int32} : ∀ i, kal ld r q i = true ↔ ∀ b, b < i → zis ld (nI b) = true → q.1 b = 1 ∧ q.2 b < r
  | 0 => by simp [kal]
  | i + 1 => by
    simp only [kal]
    rw [Bool.and_eq_true, kal_iff i]
    have e : (!zis ld (nI i) || (zis ld (nI i) && ksl q r i && decide (q.1 i = 1))) = true ↔ (zis ld (nI i) = true → q.1 i = 1 ∧ q.2 i < r) := by
      unfold ksl
      cases zis ld (nI i)
      · simp
      · simp only [Bool.not_true, Bool.false_or, Bool.true_and, Bool.and_eq_true, decide_eq_true_eq, true_implies]
        constructor
        · rintro ⟨⟨h1, h2⟩, h3⟩
          exact ⟨h3, h2⟩
        · rintro ⟨h1, h2⟩
          exact ⟨⟨by rw [h1]; decide, h2⟩, h1⟩
    rw [e]
    constructor
    · rintro ⟨h1, h2⟩ b hb
      by_cases z : b = i
      · subst z; exact h2
      · exact h1 b (by omega)
    · intro h
      exact ⟨fun b hb => h b (by omega), h i (by omega)⟩
theorem bool_ext {a b : Bool} (h : a = true ↔ b = true) : a = b := by
  cases a <;> cases b <;> simp_all
/-- the class's and the reference's state of the mud -/
def QR (q q' : zWM) : Prop := ∀ k, k < 10 → q.1 k = q'.1 k ∧ (¬ q.1 k = 2 → q.2 k = q'.2 k)
theorem QR.lo {q q' : zWM} (h : QR q q') {ld r : Int32} : LoB q ld r = klo ld r q' 10 := by
  refine bool_ext (Lo_iff.trans (Iff.trans ?_ (klo_iff 10).symm))
  constructor
  · rintro ⟨b, h1, h2, h3, h4⟩
    obtain ⟨g1, g2⟩ := h b h1
    refine ⟨b, h1, h2, by rw [← g1]; exact h3, by rw [← g2 (by rw [h3]; decide)]; exact h4⟩
  · rintro ⟨b, h1, h2, h3, h4⟩
    obtain ⟨g1, g2⟩ := h b h1
    refine ⟨b, h1, h2, by rw [g1]; exact h3, by rw [g2 (by rw [g1, h3]; decide)]; exact h4⟩
theorem QR.al {q q' : zWM} (h : QR q q') {ld r : Int32} : AlB q ld r = kal ld r q' 10 := by
  refine bool_ext (Al_iff.trans (Iff.trans ?_ (kal_iff 10).symm))
  constructor
  · intro z b hb hz
    obtain ⟨g1, g2⟩ := h b hb
    obtain ⟨z1, z2⟩ := z b hb hz
    exact ⟨by rw [← g1]; exact z1, by rw [← g2 (by rw [z1]; decide)]; exact z2⟩
  · intro z b hb hz
    obtain ⟨g1, g2⟩ := h b hb
    obtain ⟨z1, z2⟩ := z b hb hz
    have e : q.1 b = 1 := by rw [g1]; exact z1
    exact ⟨e, by rw [g2 (by rw [e]; decide)]; exact z2⟩
theorem se_is (ld : Nat → Int32) (r : Int32) (i : Nat) (q : zWM) : se_ ld r i q = if q.1 i = 2 then (if LoB q (ld i) r = true then (upd q.1 i 1, upd q.2 i r) else if AlB q (ld i) r = true then (upd q.1 i 0, upd q.2 i r) else q) else q := rfl
theorem QR.put {q q' : zWM} (h : QR q q') (i : Nat) (v r : Int32) : QR (upd q.1 i v, upd q.2 i r) (upd q'.1 i v, upd q'.2 i r) := by
  intro k hk
  dsimp only
  by_cases e : k = i
  · subst e; rw [pk_us, pk_us, pk_us, pk_us]; exact ⟨rfl, fun _ => rfl⟩
  · rw [pk_un e, pk_un e, pk_un e, pk_un e]; exact h k hk
theorem QR.se {q q' : zWM} (h : QR q q') {ld ld' : Nat → Int32} {i : Nat} (hi : i < 10) (hl : ld' i = ld i) (r : Int32) : QR (se_ ld r i q) (kss ld' r i q') := by
  rw [se_is]
  unfold kss
  rw [hl, ← (h i hi).1, ← h.lo, ← h.al]
  by_cases z : q.1 i = 2
  · rw [if_pos z, if_pos z]
    by_cases z1 : LoB q (ld i) r = true
    · rw [if_pos z1, if_pos z1]; exact h.put i 1 r
    · rw [if_neg z1, if_neg z1]
      by_cases z2 : AlB q (ld i) r = true
      · rw [if_pos z2, if_pos z2]; exact h.put i 0 r
      · rw [if_neg z2, if_neg z2]; exact h
  · rw [if_neg z, if_neg z]; exact h
theorem QR.rd {q q' : zWM} (h : QR q q') {ld ld' : Nat → Int32} (hl : ∀ i, i < 10 → ld' i = ld i) (r : Int32) : ∀ i, i ≤ 10 → QR (rd_ ld r q i) (krd ld' r q' i)
  | 0, _ => h
  | i + 1, hi => (h.rd hl r i (by omega)).se (by omega) (hl i (by omega)) r
/-- the round told by what stands at its beginning -/
def nv (ld : Nat → Int32) (r : Int32) (q : zWM) (k : Nat) : Int32 × Int32 := if q.1 k = 2 then (if LoB q (ld k) r = true then (1, r) else if AlB q (ld k) r = true then (0, r) else (q.1 k, q.2 k)) else (q.1 k, q.2 k)
def RR (q q' : zWM) (r : Int32) : Prop := ∀ b, b < 10 → (q'.1 b = q.1 b ∧ q'.2 b = q.2 b) ∨ (q.1 b = 2 ∧ q'.2 b = r)
theorem RR.lo {q q' : zWM} {r ld : Int32} (h : RR q q' r) : LoB q' ld r = LoB q ld r := by
  refine bool_ext (Lo_iff.trans (Iff.trans ?_ Lo_iff.symm))
  constructor
  · rintro ⟨b, h1, h2, h3, h4⟩
    rcases h b h1 with ⟨g1, g2⟩ | ⟨g1, g2⟩
    · exact ⟨b, h1, h2, by rw [← g1]; exact h3, by rw [← g2]; exact h4⟩
    · rw [g2] at h4
      exact absurd h4 (fun y => Int32.lt_irrefl y)
  · rintro ⟨b, h1, h2, h3, h4⟩
    rcases h b h1 with ⟨g1, g2⟩ | ⟨g1, g2⟩
    · exact ⟨b, h1, h2, by rw [g1]; exact h3, by rw [g2]; exact h4⟩
    · rw [g1] at h3
      exact absurd h3 (by decide)
theorem RR.al {q q' : zWM} {r ld : Int32} (h : RR q q' r) : AlB q' ld r = AlB q ld r := by
  refine bool_ext (Al_iff.trans (Iff.trans ?_ Al_iff.symm))
  constructor
  · intro z b hb hz
    obtain ⟨z1, z2⟩ := z b hb hz
    rcases h b hb with ⟨g1, g2⟩ | ⟨g1, g2⟩
    · exact ⟨by rw [← g1]; exact z1, by rw [← g2]; exact z2⟩
    · rw [g2] at z2
      exact absurd z2 (fun y => Int32.lt_irrefl y)
  · intro z b hb hz
    obtain ⟨z1, z2⟩ := z b hb hz
    rcases h b hb with ⟨g1, g2⟩ | ⟨g1, g2⟩
    · exact ⟨by rw [g1]; exact z1, by rw [g2]; exact z2⟩
    · rw [g1] at z1
      exact absurd z1 (by decide)
theorem nv_rr {ld : Nat → Int32} {r : Int32} {q : zWM} {k : Nat} : nv ld r q k = (q.1 k, q.2 k) ∨ (q.1 k = 2 ∧ (nv ld r q k).2 = r) := by
  unfold nv
  by_cases z : q.1 k = 2
  · rw [if_pos z]
    split
    · exact Or.inr ⟨z, rfl⟩
    · split
      · exact Or.inr ⟨z, rfl⟩
      · exact Or.inl rfl
  · rw [if_neg z]; exact Or.inl rfl
theorem rd_nv (ld : Nat → Int32) (r : Int32) (q : zWM) : ∀ i, i ≤ 10 → ∀ k, k < 10 → ((rd_ ld r q i).1 k, (rd_ ld r q i).2 k) = if k < i then nv ld r q k else (q.1 k, q.2 k)
  | 0, _, k, _ => by rw [if_neg (Nat.not_lt_zero k)]; rfl
  | i + 1, hi, k, hk => by
    have ih := rd_nv ld r q i (by omega)
    have hrr : RR q (rd_ ld r q i) r := by
      intro b hb
      have e := ih b hb
      by_cases z : b < i
      · rw [if_pos z] at e
        rcases nv_rr (ld := ld) (r := r) (q := q) (k := b) with y | ⟨y1, y2⟩
        · rw [y] at e
          exact Or.inl ⟨congrArg Prod.fst e, congrArg Prod.snd e⟩
        · rw [← e] at y2
          exact Or.inr ⟨y1, y2⟩
      · rw [if_neg z] at e
        exact Or.inl ⟨congrArg Prod.fst e, congrArg Prod.snd e⟩
    have ei := ih i (by omega)
    rw [if_neg (Nat.lt_irrefl i)] at ei
    have ei1 : (rd_ ld r q i).1 i = q.1 i := congrArg Prod.fst ei
    have ei2 : (rd_ ld r q i).2 i = q.2 i := congrArg Prod.snd ei
    have es : rd_ ld r q (i + 1) = se_ ld r i (rd_ ld r q i) := rfl
    rw [es, se_is, ei1, hrr.lo, hrr.al]
    by_cases e : k = i
    · subst e
      rw [if_pos (Nat.lt_succ_self k)]
      unfold nv
      by_cases z : q.1 k = 2
      · rw [if_pos z, if_pos z]
        by_cases z1 : LoB q (ld k) r = true
        · rw [if_pos z1, if_pos z1]; dsimp only; rw [pk_us, pk_us]
        · rw [if_neg z1, if_neg z1]
          by_cases z2 : AlB q (ld k) r = true
          · rw [if_pos z2, if_pos z2]; dsimp only; rw [pk_us, pk_us]
          · rw [if_neg z2, if_neg z2]; exact ei
      · rw [if_neg z, if_neg z]; exact ei
    · have hk2 : ((if q.1 i = 2 then (if LoB q (ld i) r = true then (upd (rd_ ld r q i).1 i 1, upd (rd_ ld r q i).2 i r) else if AlB q (ld i) r = true then (upd (rd_ ld r q i).1 i 0, upd (rd_ ld r q i).2 i r) else rd_ ld r q i) else rd_ ld r q i : zWM).1 k, (if q.1 i = 2 then (if LoB q (ld i) r = true then (upd (rd_ ld r q i).1 i 1, upd (rd_ ld r q i).2 i r) else if AlB q (ld i) r = true then (upd (rd_ ld r q i).1 i 0, upd (rd_ ld r q i).2 i r) else rd_ ld r q i) else rd_ ld r q i : zWM).2 k) = ((rd_ ld r q i).1 k, (rd_ ld r q i).2 k) := by
        by_cases z : q.1 i = 2
        · rw [if_pos z]
          by_cases z1 : LoB q (ld i) r = true
          · rw [if_pos z1]; dsimp only; rw [pk_un e, pk_un e]
          · rw [if_neg z1]
            by_cases z2 : AlB q (ld i) r = true
            · rw [if_pos z2]; dsimp only; rw [pk_un e, pk_un e]
            · rw [if_neg z2]
        · rw [if_neg z]
      rw [hk2, ih k hk]
      by_cases z : k < i
      · rw [if_pos z, if_pos (by omega)]
      · rw [if_neg z, if_neg (by omega)]
theorem rs_nv (ld : Nat → Int32) (q : zWM) (r : Nat) {k : Nat} (hk : k < 10) : ((rs_ ld q (r + 1)).1 k, (rs_ ld q (r + 1)).2 k) = nv ld (nI r) (rs_ ld q r) k := by
  have e := rd_nv ld (nI r) (rs_ ld q r) 10 (Nat.le_refl 10) k hk
  rw [if_pos hk] at e
  have es : rs_ ld q (r + 1) = rd_ ld (nI r) (rs_ ld q r) 10 := by rw [rs_]
  rw [es]
  exact e
