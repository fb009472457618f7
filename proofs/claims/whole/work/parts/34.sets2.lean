/-! MAKE, RING on both sides -/
theorem mo_cong {s s' : Nat → Int32} {set : Int32} (h : ∀ j, j < 6 → s' j = s j) : ∀ i, i ≤ 6 → mo_ s' set i = mo_ s set i
  | 0, _ => rfl
  | i + 1, hi => by simp only [mo_, mo_cong h i (by omega), h i (by omega)]
theorem so_cong {s s' : Nat → Int32} {set : Int32} (h : ∀ j, j < 6 → zis set (nI j) = true → s' j = s j) : ∀ i, i ≤ 6 → so_ s' set i = so_ s set i
  | 0, _ => rfl
  | i + 1, hi => by
    simp only [so_, so_cong h i (by omega)]
    by_cases q : zis set (nI i) = true
    · rw [if_pos q, if_pos q, h i (by omega) q]
    · rw [if_neg q, if_neg q]
section MA
variable {I K : zI}
theorem so_st (h : Rl I K) {i : Nat} (hi : i < 64) (hz : zwi (nI i) (gt_ (I 2) 6) = true) : so_ (K 41) (nI i) 6 = so_ (I 2) (nI i) 6 := by
  refine so_cong (fun j hj z => k_S h hj ?_) 6 (Nat.le_refl 6)
  rw [gt_N _ 6 (by decide), zwi_64 hi (gN_lt _ 6)] at hz
  have hz := of_decide_eq_true hz
  rw [zis_nI (by omega) (by omega)] at z
  have e := congrArg (fun x => Nat.testBit x j) hz
  simp only [Nat.testBit_and, z, Bool.true_and, gN_bit] at e
  intro q
  simp [q] at e
theorem so_lt (h : Rl I K) {i : Nat} (hi : i < 64) : ∃ v, v ≤ 594 ∧ so_ (I 2) (nI i) 6 = nI v := by
  refine ⟨S_ (fun a => zx (I 2 a)) i 6, ?_, so_nI hi (fun k hk => (h.st k hk).1) 6 (Nat.le_refl 6)⟩
  exact S_le (st := fun a => zx (I 2 a)) (fun k hk => (h.st k hk).2) 6 (Nat.le_refl 6)
theorem ma_run (h : Rl I K) (mk : Int32) : ∀ i, i ≤ 64 → (ls_ (I 2) (I 3) mk i = -6 ∧ kma K mk i = (-6, 1000000)) ∨ ∃ s, s < i ∧ ls_ (I 2) (I 3) mk i = nI s ∧ kma K mk i = (nI s, so_ (I 2) (nI s) 6)
  | 0, _ => Or.inl ⟨rfl, rfl⟩
  | i + 1, hi => by
    have ih := ma_run h mk i (by omega)
    have eT := k_T h
    have eM : mo_ (fun x => K 41 (6 + x)) (nI i) 6 = mo_ (I 3) (nI i) 6 := mo_cong (fun j hj => k_M h hj) 6 (Nat.le_refl 6)
    by_cases A : zwi (nI i) (gt_ (I 2) 6) = true ∧ mo_ (I 3) (nI i) 6 = mk
    · obtain ⟨v, hv, ev⟩ := so_lt h (i := i) (by omega)
      have es := so_st h (i := i) (by omega) A.1
      rcases ih with ⟨e1, e2⟩ | ⟨s, hs, e1, e2⟩
      · refine Or.inr ⟨i, by omega, ?_, ?_⟩
        · simp only [ls_]
          rw [if_pos ⟨A.1, A.2, Or.inl e1⟩]
        · simp only [kma]
          rw [e2, eT, eM, es, if_pos ⟨A.1, A.2, by rw [ev]; exact (nI_ltI (b := 1000000) (by omega) (by decide)).mpr (by omega)⟩]
      · by_cases B : so_ (I 2) (nI i) 6 < so_ (I 2) (nI s) 6
        · refine Or.inr ⟨i, by omega, ?_, ?_⟩
          · simp only [ls_]
            rw [e1, if_pos ⟨A.1, A.2, Or.inr B⟩]
          · simp only [kma]
            rw [e2, eT, eM, es, if_pos ⟨A.1, A.2, B⟩]
        · refine Or.inr ⟨s, by omega, ?_, ?_⟩
          · simp only [ls_]
            rw [e1, if_neg]
            rintro ⟨_, _, z | z⟩
            · exact nI_n6 (by omega) z
            · exact B z
          · simp only [kma]
            rw [e2, eT, eM, es, if_neg (fun z => B z.2.2)]
    · have x1 : ls_ (I 2) (I 3) mk (i + 1) = ls_ (I 2) (I 3) mk i := by
        simp only [ls_]
        rw [if_neg (fun z => A ⟨z.1, z.2.1⟩)]
      have x2 : kma K mk (i + 1) = kma K mk i := by
        simp only [kma]
        rw [eT, eM, if_neg (fun z => A ⟨z.1, z.2.1⟩)]
      rw [x1, x2]
      rcases ih with ih | ⟨s, hs, e⟩
      · exact Or.inl ih
      · exact Or.inr ⟨s, by omega, e⟩
theorem ma_two (h : Rl I K) (mk w : Int32) : kmaA K mk w = maA I mk w := by
  unfold kmaA maA
  by_cases z : zin mk 0 255 = false ∨ zin w 0 1 = false
  · rw [if_pos z, if_pos z]
  rw [if_neg z, if_neg z]
  rcases ma_run h mk 64 (Nat.le_refl 64) with ⟨e1, e2⟩ | ⟨s, hs, e1, e2⟩
  · rw [e1, e2, if_pos (Or.inl (show (-6 : Int32) < 0 by decide)), if_pos (Or.inl rfl)]
  · rw [e1, e2]
    dsimp only
    by_cases q : w = 1
    · rw [if_pos (Or.inr q), if_pos (Or.inr q)]
    · rw [if_neg, if_neg]
      · rintro (z | z)
        · exact nI_n6 (by omega) z
        · exact q z
      · rintro (z | z)
        · exact nI_pos (by omega) z
        · exact q z
/-! RING -/
def hoN (p q : Nat → Nat) (set : Nat) : Nat → Nat
  | 0 => 0
  | i + 1 => if set.testBit i = true then hoN p q set i ||| (2 ^ (q i + 1) - 2 ^ p i) else hoN p q set i
theorem ho_N {f l : Nat → Int32} {p q : Nat → Nat} {set : Nat} (hs : set < 256) (h : ∀ c, c < 8 → f c = nI (p c) ∧ l c = nI (q c) ∧ p c ≤ q c ∧ q c ≤ 23) : ∀ i, i ≤ 8 → ho_ f l (nI set) i = nI (hoN p q set i) ∧ hoN p q set i < 2 ^ 24 ∧ ∀ j, j < 24 → ((hoN p q set i).testBit j = true ↔ ∃ c, c < i ∧ set.testBit c = true ∧ p c ≤ j ∧ j ≤ q c)
  | 0, _ => ⟨rfl, by simp [hoN], fun j _ => by simp [hoN]⟩
  | i + 1, hi => by
    obtain ⟨e1, e2, e3⟩ := ho_N hs h i (by omega)
    obtain ⟨f1, f2, f3, f4⟩ := h i (by omega)
    obtain ⟨g1, g2, g3⟩ := hfr_N (p := p i) (q := q i) (by omega) (by omega) f3
    simp only [ho_, hoN, e1, f1, f2, g1, zis_nI (show set < 2 ^ 31 by omega) (show i < 31 by omega)]
    by_cases b : set.testBit i = true
    · rw [if_pos b, if_pos b]
      refine ⟨nI_or _ _, Nat.or_lt_two_pow e2 g2, fun j hj => ?_⟩
      rw [Nat.testBit_or, Bool.or_eq_true, e3 j hj, g3 j hj]
      constructor
      · rintro (⟨c, c1, c2⟩ | z)
        · exact ⟨c, by omega, c2⟩
        · simp only [Bool.and_eq_true, decide_eq_true_eq] at z
          exact ⟨i, by omega, b, z⟩
      · rintro ⟨c, c1, c2, c3⟩
        by_cases z : c = i
        · subst z
          exact Or.inr (by simp only [Bool.and_eq_true, decide_eq_true_eq]; exact c3)
        · exact Or.inl ⟨c, by omega, c2, c3⟩
    · rw [if_neg b, if_neg b]
      refine ⟨rfl, e2, fun j hj => ?_⟩
      rw [e3 j hj]
      constructor
      · rintro ⟨c, c1, c2⟩
        exact ⟨c, by omega, c2⟩
      · rintro ⟨c, c1, c2, c3⟩
        by_cases z : c = i
        · subst z; exact absurd c2 b
        · exact ⟨c, by omega, c2, c3⟩
theorem kw_N {f : Nat → Int32} {p q : Nat → Nat} {set k : Nat} (hs : set < 256) (hk : k < 24) (h : ∀ c, c < 8 → f c = 100 * nI (p c) + nI (q c) ∧ p c ≤ q c ∧ q c ≤ 23) : ∀ i, i ≤ 8 → (kw_ f (nI set) (nI k) i = true ↔ ∃ c, c < i ∧ set.testBit c = true ∧ p c ≤ k ∧ k ≤ q c)
  | 0, _ => by simp [kw_]
  | i + 1, hi => by
    obtain ⟨f1, f2, f3⟩ := h i (by omega)
    have e0 : f i = nI (100 * p i + q i) := by rw [f1, show (100 : Int32) = nI 100 from rfl, pk_mul, nI_add]
    have e1 : f i / 100 = nI (p i) := by rw [e0, zdiv_nI (d := 100) (e := 100) rfl (by omega) (by decide) (by decide), show (100 * p i + q i) / 100 = p i by omega]
    have e2 : f i - f i / 100 * 100 = nI (q i) := by rw [e0, zrem_nI (d := 100) (e := 100) rfl (by omega) (by decide) (by decide), show (100 * p i + q i) % 100 = q i by omega]
    simp only [kw_]
    rw [e2, e1, zis_nI (by omega) (by omega), zin_nI (by omega) (by omega) (by omega), Bool.or_eq_true, kw_N hs hk h i (by omega)]
    simp only [Bool.and_eq_true, decide_eq_true_eq]
    constructor
    · rintro (⟨c, c1, c2⟩ | z)
      · exact ⟨c, by omega, c2⟩
      · exact ⟨i, by omega, z⟩
    · rintro ⟨c, c1, c2⟩
      by_cases z : c = i
      · subst z; exact Or.inr c2
      · exact Or.inl ⟨c, by omega, c2⟩
theorem kv_all {f : Nat → Int32} {s : Int32} {a : Nat} {b : Bool} : ∀ n, kv_ f s a b n = true ↔ (b = true ∧ ∀ i, i < n → kw_ f s (nI (a + i)) 8 = true)
  | 0 => by simp [kv_]
  | n + 1 => by
    simp only [kv_]
    rw [Bool.and_eq_true, kv_all n]
    constructor
    · rintro ⟨⟨h1, h2⟩, h3⟩
      refine ⟨h1, fun i hi => ?_⟩
      by_cases e : i = n
      · rw [e]; exact h3
      · exact h2 i (by omega)
    · rintro ⟨h1, h2⟩
      exact ⟨⟨h1, fun i hi => h2 i (by omega)⟩, h2 n (by omega)⟩
theorem fc_val {f l : Nat → Int32} {hr : Int32} : ∀ i, fc_ f l hr i = -6 ∨ ∃ t, t < i ∧ fc_ f l hr i = nI t
  | 0 => Or.inl rfl
  | i + 1 => by
    simp only [fc_]
    split
    · exact Or.inr ⟨i, by omega, rfl⟩
    · rcases fc_val (f := f) (l := l) (hr := hr) i with h | ⟨t, h1, h2⟩
      · exact Or.inl h
      · exact Or.inr ⟨t, by omega, h2⟩
theorem ri_cov (h : Rl I K) {a b set : Nat} (hab : a ≤ b) (hb : b < 24) (hs : set < 256) (bb : Bool) : kv_ (K 46) (nI set) a bb (b + 1 - a) = true ↔ (bb = true ∧ zwi (hfr (nI a) (nI b)) (ho_ (I 7) (I 8) (nI set) 8) = true) := by
  obtain ⟨p, q, hpq⟩ : ∃ p q : Nat → Nat, ∀ c, c < 8 → I 7 c = nI (p c) ∧ I 8 c = nI (q c) ∧ p c ≤ q c ∧ q c ≤ 23 := ⟨fun c => zx (I 7 c), fun c => zx (I 8 c), fun c hc => ⟨(h.cf c hc).1, (h.cl c hc).1, (h.cl c hc).2.2, (h.cl c hc).2.1⟩⟩
  obtain ⟨g1, g2, g3⟩ := hfr_N (p := a) (q := b) (by omega) hb hab
  obtain ⟨e1, e2, e3⟩ := ho_N (f := I 7) (l := I 8) hs hpq 8 (Nat.le_refl 8)
  have hk : ∀ k, k < 24 → (kw_ (K 46) (nI set) (nI k) 8 = true ↔ ∃ c, c < 8 ∧ set.testBit c = true ∧ p c ≤ k ∧ k ≤ q c) := fun k hk => kw_N hs hk (fun c hc => ⟨by rw [k_C h hc, (hpq c hc).1, (hpq c hc).2.1], (hpq c hc).2.2.1, (hpq c hc).2.2.2⟩) 8 (Nat.le_refl 8)
  rw [kv_all, g1, e1, zwi_bits g2 e2]
  refine and_congr_right (fun _ => ?_)
  constructor
  · intro z j hj hbit
    rw [g3 j hj] at hbit
    simp only [Bool.and_eq_true, decide_eq_true_eq] at hbit
    rw [e3 j hj]
    have := z (j - a) (by omega)
    rw [show a + (j - a) = j by omega] at this
    exact (hk j hj).mp this
  · intro z i hi
    have := z (a + i) (by omega) (by rw [g3 _ (by omega)]; simp; omega)
    rw [e3 _ (by omega)] at this
    exact (hk _ (by omega)).mpr this
theorem ri_run (h : Rl I K) {a b : Nat} (hab : a ≤ b) (hb : b < 24) : ∀ s, s ≤ 255 → krn (K 46) a (b + 1 - a) s = fc_ (I 7) (I 8) (hfr (nI a) (nI b)) (s + 1)
  | 0, _ => by
    have e : ¬ ((fc_ (I 7) (I 8) (hfr (nI a) (nI b)) 0 = -6 ∨ bc (nI 0) < bc (fc_ (I 7) (I 8) (hfr (nI a) (nI b)) 0)) ∧ zwi (hfr (nI a) (nI b)) (ho_ (I 7) (I 8) (nI 0) 8) = true) := by
      rintro ⟨_, z⟩
      have z2 := (ri_cov h hab hb (show 0 < 256 by decide) true).mpr ⟨rfl, z⟩
      have z3 := ((kv_all _).mp z2).2 0 (by omega)
      have z4 : ∀ c, c ≤ 8 → kw_ (K 46) (nI 0) (nI (a + 0)) c = false := by
        intro c
        induction c with
        | zero => intro _; rfl
        | succ c ih =>
          intro hc
          simp only [kw_, ih (by omega), zis_nI (show 0 < 2 ^ 31 by decide) (show c < 31 by omega), Nat.zero_testBit]
          rfl
      rw [z4 8 (Nat.le_refl 8)] at z3
      cases z3
    simp only [krn]
    show (-6 : Int32) = fc_ (I 7) (I 8) (hfr (nI a) (nI b)) (0 + 1)
    rw [show fc_ (I 7) (I 8) (hfr (nI a) (nI b)) (0 + 1) = if (fc_ (I 7) (I 8) (hfr (nI a) (nI b)) 0 = -6 ∨ bc (nI 0) < bc (fc_ (I 7) (I 8) (hfr (nI a) (nI b)) 0)) ∧ zwi (hfr (nI a) (nI b)) (ho_ (I 7) (I 8) (nI 0) 8) = true then nI 0 else fc_ (I 7) (I 8) (hfr (nI a) (nI b)) 0 from rfl, if_neg e]
    rfl
  | s + 1, hs => by
    have ih := ri_run h hab hb s (by omega)
    have c := ri_cov h hab hb (show s + 1 < 256 by omega) (decide (krn (K 46) a (b + 1 - a) s < 0 ∨ bt_ (nI (s + 1)) 10 < bt_ (krn (K 46) a (b + 1 - a) s) 10))
    rw [show krn (K 46) a (b + 1 - a) (s + 1) = if kv_ (K 46) (nI (s + 1)) a (decide (krn (K 46) a (b + 1 - a) s < 0 ∨ bt_ (nI (s + 1)) 10 < bt_ (krn (K 46) a (b + 1 - a) s) 10)) (b + 1 - a) = true then nI (s + 1) else krn (K 46) a (b + 1 - a) s from rfl]
    rw [show fc_ (I 7) (I 8) (hfr (nI a) (nI b)) (s + 1 + 1) = if (fc_ (I 7) (I 8) (hfr (nI a) (nI b)) (s + 1) = -6 ∨ bc (nI (s + 1)) < bc (fc_ (I 7) (I 8) (hfr (nI a) (nI b)) (s + 1))) ∧ zwi (hfr (nI a) (nI b)) (ho_ (I 7) (I 8) (nI (s + 1)) 8) = true then nI (s + 1) else fc_ (I 7) (I 8) (hfr (nI a) (nI b)) (s + 1) from rfl]
    rw [ih] at c ⊢
    rw [decide_eq_true_iff] at c
    have e2 : (fc_ (I 7) (I 8) (hfr (nI a) (nI b)) (s + 1) < 0 ∨ bt_ (nI (s + 1)) 10 < bt_ (fc_ (I 7) (I 8) (hfr (nI a) (nI b)) (s + 1)) 10) ↔ (fc_ (I 7) (I 8) (hfr (nI a) (nI b)) (s + 1) = -6 ∨ bc (nI (s + 1)) < bc (fc_ (I 7) (I 8) (hfr (nI a) (nI b)) (s + 1))) := by
      rcases fc_val (f := I 7) (l := I 8) (hr := hfr (nI a) (nI b)) (s + 1) with z | ⟨t, z1, z2⟩
      · rw [z]
        exact ⟨fun _ => Or.inl rfl, fun _ => Or.inl (by decide)⟩
      · rw [z2, ← bc_bt t (by omega), ← bc_bt (s + 1) (by omega)]
        constructor
        · rintro (y | y)
          · exact absurd y (nI_pos (by omega))
          · exact Or.inr y
        · rintro (y | y)
          · exact absurd y (nI_n6 (by omega))
          · exact Or.inr y
    have c := c.trans (and_congr_left (fun _ => e2))
    by_cases q : (fc_ (I 7) (I 8) (hfr (nI a) (nI b)) (s + 1) = -6 ∨ bc (nI (s + 1)) < bc (fc_ (I 7) (I 8) (hfr (nI a) (nI b)) (s + 1))) ∧ zwi (hfr (nI a) (nI b)) (ho_ (I 7) (I 8) (nI (s + 1)) 8) = true
    · rw [if_pos (c.mpr q), if_pos q]
    · rw [if_neg (fun z => q (c.mp z)), if_neg q]
theorem ri_two (h : Rl I K) (a b w : Int32) : krgA K a b w = riA I a b w := by
  unfold krgA riA
  by_cases z1 : zin a 0 23 = false
  · rw [if_pos (Or.inl z1), if_pos (Or.inl (by rw [z1]; rfl))]
  have za := zin_tf z1
  by_cases z2 : zin b a 23 = false
  · rw [if_pos (Or.inr (Or.inl z2)), if_pos (Or.inl (by rw [z2, za]; rfl))]
  have zb' := zin_tf z2
  by_cases z3 : zin w 0 1 = false
  · rw [if_pos (Or.inr (Or.inr z3)), if_pos (Or.inr z3)]
  have n1 : ¬ (zin a 0 23 = false ∨ zin b a 23 = false ∨ zin w 0 1 = false) := by
    rintro (y | y | y)
    · exact z1 y
    · exact z2 y
    · exact z3 y
  have n2 : ¬ ((zin a 0 23 && zin b a 23) = false ∨ zin w 0 1 = false) := by
    rintro (y | y)
    · rw [za, zb'] at y; cases y
    · exact z3 y
  rw [if_neg n1, if_neg n2]
  obtain ⟨p, hp, rfl⟩ := zin_ex (b := 23) (by decide) za
  obtain ⟨q, hq1, hq2, rfl⟩ := zin_ex1 (a := p) (b := 23) (by omega) (by decide) zb'
  have e : krn (K 46) p (q + 1 - p) 255 = fc_ (I 7) (I 8) (hfr (nI p) (nI q)) 256 := ri_run h hq1 (by omega) 255 (Nat.le_refl 255)
  rw [zx_nI (by omega), zx_nI (by omega), e]
  rcases fc_val (f := I 7) (l := I 8) (hr := hfr (nI p) (nI q)) 256 with z | ⟨t, z4, z5⟩
  · rw [z, if_pos (Or.inl (show (-6 : Int32) < 0 by decide)), if_pos (Or.inl rfl)]
  · rw [z5]
    by_cases y : w = 1
    · rw [if_pos (Or.inr y), if_pos (Or.inr y)]
    · rw [if_neg, if_neg]
      · exact (bc_bt t (by omega)).symm
      · rintro (x | x)
        · exact nI_n6 (by omega) x
        · exact y x
      · rintro (x | x)
        · exact nI_pos (by omega) x
        · exact y x
end MA
