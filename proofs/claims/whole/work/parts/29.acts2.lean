/-! ACTS on both sides: the class's copy at 15, the reference's row 42 -/
def kin (K : zI) (j : Nat) : Int32 := if j < 15 then K 42 j else kig K j
theorem kin_1 {K : zI} {j : Nat} (h : j < 15) : kin K j = K 42 j := if_pos h
theorem kin_2 {K : zI} {j : Nat} (h : ¬ j < 15) : kin K j = kig K j := if_neg h
abbrev Dr (I K : zI) : Prop := RelB (blk I 15) (kin K)
theorem dr_hd {I K : zI} (h : Dr I K) : RelH (I 16) (I 17) (I 15 11) (I 15 12) (K 42) := RelH.cong (F := kin K) h.hd (fun _ hj => (kin_1 hj).symm)
theorem dr_wh {I K I' K' : zI} (h : Dr I K) (hI : ∀ c, 18 ≤ c → c ≤ 25 → I' c = I c) (h0 : I' 15 10 = I 15 10) (hK : ∀ c, c ≠ 40 → c ≠ 42 → K' c = K c) (h7 : K' 40 7 = K 40 7) (hh : RelH (I' 16) (I' 17) (I' 15 11) (I' 15 12) (K' 42)) : Dr I' K' := by
  refine RelB.wh h (fun d hd => ?_) h0 (fun j hj => ?_) (RelH.cong (F := K' 42) hh (fun j hj => kin_1 hj))
  · unfold blk
    split
    · rw [hI (15 + d) (by omega) (by omega)]
    · rfl
  · rw [kin_2 (by omega), kin_2 (by omega), kig_cong (fun c q => hK c (by omega) (by omega)) h7]
section DR
variable {I K : zI} {k a b : Nat}
theorem d_G (h : Dr I K) (hk : k < 6) : K 43 k = I 18 k := by
  rw [← kig_2 (K := K) hk, ← kin_2 (K := K) (j := 15 + k) (by omega)]
  exact h.eG k hk
theorem d_F (h : Dr I K) (hk : k < 6) : K 44 k = I 19 k := by
  rw [← kig_3 (K := K) hk, ← kin_2 (K := K) (j := 21 + k) (by omega)]
  exact h.eF k hk
theorem d_K (h : Dr I K) (hk : k < 6) : K 45 k = I 20 k := by
  rw [← kig_4 (K := K) hk, ← kin_2 (K := K) (j := 27 + k) (by omega)]
  exact h.eK k hk
theorem atI_15 : atI I k a b 15 10 = I 15 10 := by
  simp only [atI, tkI, jnI, siI, reI, phI]
  repeat' split
  all_goals simp [zu, zrow]
theorem act_wh (h : Dr I K) (hh : RelH (atI I k a b 16) (atI I k a b 17) (atI I k a b 15 11) (atI I k a b 15 12) (kaI K k a b 42)) : Dr (atI I k a b) (kaI K k a b) := dr_wh h (fun _ _ _ => atI_far (by omega) (by omega) (by omega)) atI_15 (fun _ p q => kaI_far p q) (kaI_40 (by decide)) hh
theorem upds (f : Nat → Int32) (i : Nat) : upd f i (f i) = f := by
  funext j
  by_cases e : j = i
  · subst e; rw [pk_us]
  · rw [pk_un e]
theorem sm_no {S : Nat} (h : ¬ nI S ≤ 0) : 1 ≤ S := by
  rcases Nat.eq_zero_or_pos S with rfl | q
  · exact absurd (by decide) h
  · exact q
theorem t_sim (h : Dr I K) (ha : a < 6) (hb : b < 6) : gkR K a b = tkR I a b ∧ RelH (tkI I a b 16) (tkI I a b 17) (tkI I a b 15 11) (tkI I a b 15 12) (gkI K a b 42) ∧ gkI K a b 40 11 = (if tkR I a b = 0 ∧ tkI I a b 16 a ≤ 0 then K 40 11 + 1 else K 40 11) := by
  have hd := dr_hd h
  have eT : K 42 12 = gt_ (I 16) 6 := hd.2.2.2.2.2.2.1
  have eB : K 42 13 = I 15 11 := hd.2.2.2.2.2.2.2.1
  have z : zis (K 42 12) (nI a) = !decide (I 16 a ≤ 0) := by rw [eT, gt_is ha]
  have eM : K 42 (6 + a) = I 17 a := hd.2.2.2.2.2.1 a ha
  have eG := d_G h hb
  have eK := d_K h hb
  have eF := d_F h hb
  have no : ∀ r : Int32, gkR K a b = r → tkR I a b = r → ¬ r = 0 → gkR K a b = tkR I a b ∧ RelH (tkI I a b 16) (tkI I a b 17) (tkI I a b 15 11) (tkI I a b 15 12) (gkI K a b 42) ∧ gkI K a b 40 11 = (if tkR I a b = 0 ∧ tkI I a b 16 a ≤ 0 then K 40 11 + 1 else K 40 11) := by
    intro r r1 r2 r0
    have w1 : gkI K a b = K := by unfold gkI; rw [r1, if_neg r0]
    have w2 : tkI I a b = I := by unfold tkI; rw [r2, if_neg r0]
    rw [r1, r2, w1, w2]
    exact ⟨rfl, hd, by rw [if_neg (fun z => r0 z.1)]⟩
  by_cases q1 : I 16 a ≤ 0
  · exact no 1 (by unfold gkR; rw [z]; simp [q1]) (by unfold tkR; rw [if_pos q1]) (by decide)
  by_cases q2 : zwi (I 18 b) (I 17 a) = true
  case neg =>
    exact no 2 (by unfold gkR; rw [z, eG, eM]; simp [q1, q2]) (by unfold tkR; rw [if_neg q1]; simp [q2]) (by decide)
  by_cases q3 : I 20 b ≤ I 15 11
  case neg =>
    exact no 3 (by unfold gkR; rw [z, eG, eM, eK, eB, q2, if_pos rfl, if_neg q3]; simp [q1]) (by unfold tkR; rw [if_neg q1, q2, if_neg q3]; simp) (by decide)
  have r1 : gkR K a b = 0 := by unfold gkR; rw [z, eG, eM, eK, eB, q2, if_pos rfl, if_pos q3]; simp [q1]
  have r2 : tkR I a b = 0 := by unfold tkR; rw [if_neg q1, q2, if_pos q3]; simp
  obtain ⟨S, hS, eS⟩ : ∃ S, S ≤ 99 ∧ I 16 a = nI S := ⟨_, (hd.1 a ha).2, (hd.1 a ha).1⟩
  obtain ⟨f, hf, ef⟩ : ∃ f, (1 ≤ f ∧ f ≤ 20) ∧ I 19 b = nI f := ⟨_, (h.fo b hb).2, (h.fo b hb).1⟩
  obtain ⟨t, ht, et⟩ : ∃ t, (1 ≤ t ∧ t ≤ 9) ∧ I 20 b = nI t := ⟨_, (h.tk b hb).2, (h.tk b hb).1⟩
  obtain ⟨B, hB, eBr⟩ := hd.2.2.1
  have hS1 : 1 ≤ S := sm_no (by rw [← eS]; exact q1)
  have htB : t ≤ B := by
    rw [et, eBr] at q3
    exact (nI_leI (by omega) (by omega)).mp q3
  have eKa : K 42 a = nI S := (hd.2.2.2.2.1 a ha q1).trans eS
  have br : I 15 11 - I 20 b = nI (B - t) := by rw [eBr, et, pk_sub htB]
  have br2 : K 42 13 - K 45 b = nI (B - t) := by rw [eB, eK, br]
  have sm : zmax (I 16 a - I 19 b) 0 = nI (S - f) := by
    show (if I 16 a - I 19 b < 0 then 0 else I 16 a - I 19 b) = _
    rw [eS, ef]
    exact zsub_max (by omega) (by omega)
  have w2 : tkI I a b = zu (zu I 15 11 (nI (B - t))) 16 a (nI (S - f)) := by unfold tkI; rw [if_pos r2, br, sm]
  have x1 : tkI I a b 16 = upd (I 16) a (nI (S - f)) := by rw [w2, zu_row, zrn _ _ (by decide)]
  have x2 : tkI I a b 17 = I 17 := by rw [w2, zrn _ _ (by decide), zrn _ _ (by decide)]
  have x3 : tkI I a b 15 11 = nI (B - t) := by rw [w2, zrn _ _ (by decide), zu_self]
  have x4 : tkI I a b 15 12 = I 15 12 := by rw [w2, zrn _ _ (by decide), zu_ne _ _ (Or.inr (by decide))]
  refine ⟨r1.trans r2.symm, ?_, ?_⟩
  · rw [x1, x2, x3, x4]
    have hb2 := hd.bre (n := B - t) (by omega)
    by_cases q4 : f < S
    · have c : (1 : Int32) ≤ K 42 a - K 44 b := by
        rw [eKa, eF, ef, pk_sub (by omega)]
        exact (nI_leI (a := 1) (by decide) (by omega)).mpr (by omega)
      have w1 : gkI K a b = zu (zu K 42 13 (nI (B - t))) 42 a (nI (S - f)) := by unfold gkI; rw [if_pos r1, if_pos c, br2, eKa, eF, ef, pk_sub (by omega)]
      rw [w1, zu_row, zu_row]
      exact hb2.str ha q1 (by omega)
    · have c : ¬ (1 : Int32) ≤ K 42 a - K 44 b := by
        rw [eKa, eF, ef]
        by_cases q5 : S = f
        · rw [q5, pk_sub (Nat.le_refl _), Nat.sub_self]; decide
        · intro z
          exact absurd (Int32.le_trans (by decide) z) (Int32.not_le.mpr (pk_sneg (a := S) (b := f) (by omega) (by omega)))
      have w1 : gkI K a b = zu (zu (zu (zu K 42 13 (nI (B - t))) 42 a (K 42 a - K 44 b)) 42 12 (off1 (K 42 12) (nI a))) 40 11 (K 40 11 + 1) := by unfold gkI; rw [if_pos r1, if_neg c, br2]
      rw [w1, zrn _ _ (by decide), zu_row, zu_row, zu_row, show S - f = 0 by omega]
      have key := hb2.out ha (K 42 a - K 44 b)
      rw [pk_un (by decide)] at key
      exact key
  · rw [r2, x1, pk_us]
    by_cases q4 : f < S
    · have c : (1 : Int32) ≤ K 42 a - K 44 b := by
        rw [eKa, eF, ef, pk_sub (by omega)]
        exact (nI_leI (a := 1) (by decide) (by omega)).mpr (by omega)
      rw [if_neg (fun z => nI_nle (n := S - f) (by omega) (by omega) z.2)]
      unfold gkI
      rw [if_pos r1, if_pos c, zrn _ _ (by decide), zrn _ _ (by decide)]
    · have c : ¬ (1 : Int32) ≤ K 42 a - K 44 b := by
        rw [eKa, eF, ef]
        by_cases q5 : S = f
        · rw [q5, pk_sub (Nat.le_refl _), Nat.sub_self]; decide
        · intro z
          exact absurd (Int32.le_trans (by decide) z) (Int32.not_le.mpr (pk_sneg (a := S) (b := f) (by omega) (by omega)))
      rw [show S - f = 0 by omega, if_pos ⟨rfl, by decide⟩]
      unfold gkI
      rw [if_pos r1, if_neg c, zu_self]
theorem zmin_99 {n : Nat} (h : n < 2 ^ 30) : zmin (nI n) 99 = nI (min n 99) := zmin_nI (a := n) (b := 99) (by omega) (by decide)
theorem j_sim (h : Dr I K) (ha : a < 6) (hb : b < 6) : kjR K a b = jnR I a b ∧ RelH (jnI I a b 16) (jnI I a b 17) (jnI I a b 15 11) (jnI I a b 15 12) (kjI K a b 42) ∧ kjI K a b 40 11 = K 40 11 := by
  have hd := dr_hd h
  have eT : K 42 12 = gt_ (I 16) 6 := hd.2.2.2.2.2.2.1
  have za : zis (K 42 12) (nI a) = !decide (I 16 a ≤ 0) := by rw [eT, gt_is ha]
  have zb' : zis (K 42 12) (nI b) = !decide (I 16 b ≤ 0) := by rw [eT, gt_is hb]
  have no : ∀ r : Int32, kjR K a b = r → jnR I a b = r → ¬ r = 0 → kjR K a b = jnR I a b ∧ RelH (jnI I a b 16) (jnI I a b 17) (jnI I a b 15 11) (jnI I a b 15 12) (kjI K a b 42) ∧ kjI K a b 40 11 = K 40 11 := by
    intro r r1 r2 r0
    have w1 : kjI K a b = K := by unfold kjI; rw [r1, if_neg r0]
    have w2 : jnI I a b = I := by unfold jnI; rw [r2, if_neg r0]
    rw [r1, r2, w1, w2]
    exact ⟨rfl, hd, rfl⟩
  by_cases q1 : I 16 a ≤ 0
  · exact no 1 (by unfold kjR; rw [za]; simp [q1]) (by unfold jnR; rw [if_pos q1]) (by decide)
  by_cases q2 : I 16 b ≤ 0
  · exact no 1 (by unfold kjR; rw [za, zb']; simp [q1, q2]) (by unfold jnR; rw [if_neg q1, if_pos q2]) (by decide)
  by_cases q3 : a = b
  · exact no 4 (by unfold kjR; rw [za, zb', if_pos q3]; simp [q1, q2]) (by unfold jnR; rw [if_neg q1, if_neg q2, if_pos q3]) (by decide)
  have r1 : kjR K a b = 0 := by unfold kjR; rw [za, zb', if_neg q3]; simp [q1, q2]
  have r2 : jnR I a b = 0 := by unfold jnR; rw [if_neg q1, if_neg q2, if_neg q3]
  obtain ⟨S, hS, eS⟩ : ∃ S, S ≤ 99 ∧ I 16 a = nI S := ⟨_, (hd.1 a ha).2, (hd.1 a ha).1⟩
  obtain ⟨S2, hS2, eS2⟩ : ∃ S, S ≤ 99 ∧ I 16 b = nI S := ⟨_, (hd.1 b hb).2, (hd.1 b hb).1⟩
  obtain ⟨M, hM, eM⟩ : ∃ S, S < 256 ∧ I 17 a = nI S := ⟨_, (hd.2.1 a ha).2, (hd.2.1 a ha).1⟩
  obtain ⟨M2, hM2, eM2⟩ : ∃ S, S < 256 ∧ I 17 b = nI S := ⟨_, (hd.2.1 b hb).2, (hd.2.1 b hb).1⟩
  have hS1 : 1 ≤ S := sm_no (by rw [← eS]; exact q1)
  have eKa : K 42 a = nI S := (hd.2.2.2.2.1 a ha q1).trans eS
  have eKb : K 42 b = nI S2 := (hd.2.2.2.2.1 b hb q2).trans eS2
  have eMa : K 42 (6 + a) = nI M := (hd.2.2.2.2.2.1 a ha).trans eM
  have eMb : K 42 (6 + b) = nI M2 := (hd.2.2.2.2.2.1 b hb).trans eM2
  have v1 : zmin (I 16 a + I 16 b) 99 = nI (min (S + S2) 99) := by rw [eS, eS2, nI_add, zmin_99 (by omega)]
  have v2 : (if K 42 a + K 42 b ≤ 99 then K 42 a + K 42 b else 99) = nI (min (S + S2) 99) := by
    rw [← v1, eKa, eKb, eS, eS2]
    unfold zmin
    by_cases q : nI S + nI S2 ≤ 99
    · rw [if_pos q, if_neg (Int32.not_lt.mpr q)]
    · rw [if_neg q, if_pos (Int32.not_le.mp q)]
  have hM3 : M ||| M2 < 256 := Nat.or_lt_two_pow (n := 8) hM hM2
  have w2 : jnI I a b = zu (zu (zu I 16 a (nI (min (S + S2) 99))) 17 a (nI (M ||| M2))) 16 b 0 := by unfold jnI; rw [if_pos r2, v1, eM, eM2, nI_or]
  have w1 : kjI K a b = zu (zu (zu K 42 a (nI (min (S + S2) 99))) 42 (6 + a) (nI (M ||| M2))) 42 12 (off1 (K 42 12) (nI b)) := by unfold kjI; rw [if_pos r1, v2, eMa, eMb, nI_or]
  have x1 : jnI I a b 16 = upd (upd (I 16) a (nI (min (S + S2) 99))) b 0 := by rw [w2, zu_row, zrn _ _ (by decide), zu_row]
  have x2 : jnI I a b 17 = upd (I 17) a (nI (M ||| M2)) := by rw [w2, zrn _ _ (by decide), zu_row, zrn _ _ (by decide)]
  have x3 : jnI I a b 15 = I 15 := by rw [w2, zrn _ _ (by decide), zrn _ _ (by decide), zrn _ _ (by decide)]
  refine ⟨r1.trans r2.symm, ?_, by rw [w1, zrn _ _ (by decide), zrn _ _ (by decide), zrn _ _ (by decide)]⟩
  rw [x1, x2, x3, w1, zu_row, zu_row, zu_row]
  have key := ((hd.str ha q1 (w := min (S + S2) 99) (by omega)).mks ha hM3).out hb (upd (upd (K 42) a (nI (min (S + S2) 99))) (6 + a) (nI (M ||| M2)) b)
  rw [upds, pk_un (by omega), pk_un (by omega)] at key
  exact key
theorem v_sit : ∀ S, S < 100 → zmax (nI S / 2) 1 = nI (max (S / 2) 1) ∧ (if (2 : Int32) ≤ nI S then nI S / 2 else 1) = nI (max (S / 2) 1) := by decide +kernel
theorem v_rest : ∀ S, S < 100 → zmin (nI S + 20) 99 = nI (min (S + 20) 99) ∧ (if nI S ≤ 79 then nI S + 20 else 99) = nI (min (S + 20) 99) := by decide +kernel
theorem v_h5 : ∀ S, S < 100 → zmin (nI S + 5) 99 = nI (min (S + 5) 99) ∧ (if nI S ≤ 94 then nI S + 5 else 99) = nI (min (S + 5) 99) := by decide +kernel
theorem v_h3 : ∀ S, S < 100 → ph3 (nI S) = (if S = 0 then 0 else nI (min (S + 3) 99)) ∧ (if nI S ≤ 96 then nI S + 3 else 99) = nI (min (S + 3) 99) := by decide +kernel
theorem s_sim (h : Dr I K) (ha : a < 6) : ksR K a = siR I a ∧ RelH (siI I a 16) (siI I a 17) (siI I a 15 11) (siI I a 15 12) (ksI K a 42) ∧ ksI K a 40 11 = K 40 11 := by
  have hd := dr_hd h
  have eT : K 42 12 = gt_ (I 16) 6 := hd.2.2.2.2.2.2.1
  have eB : K 42 13 = I 15 11 := hd.2.2.2.2.2.2.2.1
  have za : zis (K 42 12) (nI a) = !decide (I 16 a ≤ 0) := by rw [eT, gt_is ha]
  have no : ∀ r : Int32, ksR K a = r → siR I a = r → ¬ r = 0 → ksR K a = siR I a ∧ RelH (siI I a 16) (siI I a 17) (siI I a 15 11) (siI I a 15 12) (ksI K a 42) ∧ ksI K a 40 11 = K 40 11 := by
    intro r r1 r2 r0
    have w1 : ksI K a = K := by unfold ksI; rw [r1, if_neg r0]
    have w2 : siI I a = I := by unfold siI; rw [r2, if_neg r0]
    rw [r1, r2, w1, w2]
    exact ⟨rfl, hd, rfl⟩
  by_cases q1 : I 16 a ≤ 0
  · exact no 1 (by unfold ksR; rw [za]; simp [q1]) (by unfold siR; rw [if_pos q1]) (by decide)
  by_cases q2 : 10 ≤ I 15 11
  case neg =>
    exact no 3 (by unfold ksR; rw [za, eB, if_neg q2]; simp [q1]) (by unfold siR; rw [if_neg q1, if_neg q2]) (by decide)
  have r1 : ksR K a = 0 := by unfold ksR; rw [za, eB, if_pos q2]; simp [q1]
  have r2 : siR I a = 0 := by unfold siR; rw [if_neg q1, if_pos q2]
  obtain ⟨S, hS, eS⟩ : ∃ S, S ≤ 99 ∧ I 16 a = nI S := ⟨_, (hd.1 a ha).2, (hd.1 a ha).1⟩
  obtain ⟨B, hB, eBr⟩ := hd.2.2.1
  have eKa : K 42 a = nI S := (hd.2.2.2.2.1 a ha q1).trans eS
  have hB1 : 10 ≤ B := by
    rw [eBr] at q2
    exact (nI_leI (a := 10) (by decide) (by omega)).mp q2
  have b1 : I 15 11 - 10 = nI (B - 10) := by rw [eBr]; exact pk_sub (b := 10) hB1
  have b2 : K 42 13 - 10 = nI (B - 10) := by rw [eB, b1]
  have w2 : siI I a = zu (zu I 15 11 (nI (B - 10))) 16 a (nI (max (S / 2) 1)) := by unfold siI; rw [if_pos r2, b1, eS, (v_sit S (by omega)).1]
  have w1 : ksI K a = zu (zu K 42 13 (nI (B - 10))) 42 a (nI (max (S / 2) 1)) := by unfold ksI; rw [if_pos r1, b2, eKa, (v_sit S (by omega)).2]
  have x1 : siI I a 16 = upd (I 16) a (nI (max (S / 2) 1)) := by rw [w2, zu_row, zrn _ _ (by decide)]
  have x2 : siI I a 17 = I 17 := by rw [w2, zrn _ _ (by decide), zrn _ _ (by decide)]
  have x3 : siI I a 15 11 = nI (B - 10) := by rw [w2, zrn _ _ (by decide), zu_self]
  have x4 : siI I a 15 12 = I 15 12 := by rw [w2, zrn _ _ (by decide), zu_ne _ _ (Or.inr (by decide))]
  refine ⟨r1.trans r2.symm, ?_, by rw [w1, zrn _ _ (by decide), zrn _ _ (by decide)]⟩
  rw [x1, x2, x3, x4, w1, zu_row, zu_row]
  exact (hd.bre (n := B - 10) (by omega)).str ha q1 (by omega)
theorem r_sim (h : Dr I K) : krR K = reR I ∧ RelH (reI I 16) (reI I 17) (reI I 15 11) (reI I 15 12) (krI K 42) ∧ krI K 40 11 = K 40 11 := by
  have hd := dr_hd h
  have eB : K 42 13 = I 15 11 := hd.2.2.2.2.2.2.2.1
  by_cases q1 : I 15 11 = 99
  · have r1 : krR K = 5 := by unfold krR; rw [eB, if_pos q1]
    have r2 : reR I = 5 := by unfold reR; rw [if_pos q1]
    have w1 : krI K = K := by unfold krI; rw [r1, if_neg (by decide)]
    have w2 : reI I = I := by unfold reI; rw [r2, if_neg (by decide)]
    rw [r1, r2, w1, w2]
    exact ⟨rfl, hd, rfl⟩
  have r1 : krR K = 0 := by unfold krR; rw [eB, if_neg q1]
  have r2 : reR I = 0 := by unfold reR; rw [if_neg q1]
  obtain ⟨B, hB, eBr⟩ := hd.2.2.1
  have w2 : reI I = zu I 15 11 (nI (min (B + 20) 99)) := by unfold reI; rw [if_pos r2, eBr, (v_rest B (by omega)).1]
  have w1 : krI K = zu K 42 13 (nI (min (B + 20) 99)) := by unfold krI; rw [if_pos r1, eB, eBr, (v_rest B (by omega)).2]
  have x1 : reI I 16 = I 16 := by rw [w2, zrn _ _ (by decide)]
  have x2 : reI I 17 = I 17 := by rw [w2, zrn _ _ (by decide)]
  have x3 : reI I 15 11 = nI (min (B + 20) 99) := by rw [w2, zu_self]
  have x4 : reI I 15 12 = I 15 12 := by rw [w2, zu_ne _ _ (Or.inr (by decide))]
  refine ⟨r1.trans r2.symm, ?_, by rw [w1, zrn _ _ (by decide)]⟩
  rw [x1, x2, x3, x4, w1, zu_row]
  exact hd.bre (n := min (B + 20) 99) (by omega)
theorem zpre_lt {i j : Nat} {f g : Nat → Int32} (h : j < i) : zpre i f g j = f j := if_pos h
theorem zpre_ge {i j : Nat} {f g : Nat → Int32} (h : ¬ j < i) : zpre i f g j = g j := if_neg h
theorem h_sim (h : Dr I K) : khR K = phR I ∧ RelH (phI I 16) (phI I 17) (phI I 15 11) (phI I 15 12) (khI K 42) ∧ khI K 40 11 = K 40 11 := by
  have hd := dr_hd h
  obtain ⟨a1, a2, ⟨B, hB, eBr⟩, ⟨H, hH, eHo⟩, a5, a6, eT, eB, eH⟩ := id hd
  by_cases q1 : I 15 12 = 99
  · have r1 : khR K = 6 := by unfold khR; rw [eH, if_pos q1]
    have r2 : phR I = 6 := by unfold phR; rw [if_pos q1]
    have w1 : khI K = K := by unfold khI; rw [r1, if_neg (by decide)]
    have w2 : phI I = I := by unfold phI; rw [r2, if_neg (by decide)]
    rw [r1, r2, w1, w2]
    exact ⟨rfl, hd, rfl⟩
  have r1 : khR K = 0 := by unfold khR; rw [eH, if_neg q1]
  have r2 : phR I = 0 := by unfold phR; rw [if_neg q1]
  have hH1 : H ≤ 98 := by
    rcases Nat.lt_or_ge H 99 with z | z
    · omega
    · rw [eHo, show H = 99 by omega] at q1
      exact absurd rfl q1
  have w2 : phI I = zrow (zu (zu I 15 12 (nI (H + 1))) 15 11 (nI (min (B + 5) 99))) 16 (zpre 6 (fun j => ph3 (I 16 j)) (I 16)) := by unfold phI; rw [if_pos r2, eBr, eHo, nI_1, (v_h5 B (by omega)).1]
  have w1 : khI K = zu (zrow K 42 (zpre 6 (kh3 (K 42 12) (K 42)) (upd (K 42) 14 (nI (H + 1))))) 42 13 (nI (min (B + 5) 99)) := by unfold khI; rw [if_pos r1, eB, eH, eBr, eHo, nI_1, (v_h5 B (by omega)).2]
  have x1 : phI I 16 = zpre 6 (fun j => ph3 (I 16 j)) (I 16) := by rw [w2, zrow_k]
  have x2 : phI I 17 = I 17 := by rw [w2, zrow_ne _ _ (by decide), zrn _ _ (by decide), zrn _ _ (by decide)]
  have x3 : phI I 15 11 = nI (min (B + 5) 99) := by rw [w2, zrow_ne _ _ (by decide), zu_self]
  have x4 : phI I 15 12 = nI (H + 1) := by rw [w2, zrow_ne _ _ (by decide), zu_ne _ _ (Or.inr (by decide)), zu_self]
  refine ⟨r1.trans r2.symm, ?_, by rw [w1, zrn _ _ (by decide), zrow_ne _ _ (by decide)]⟩
  rw [x1, x2, x3, x4, w1, zu_row, zrow_k]
  have p3 : ∀ i, i < 6 → ∃ S, S ≤ 99 ∧ I 16 i = nI S ∧ ph3 (I 16 i) = (if S = 0 then 0 else nI (min (S + 3) 99)) := fun i hi => ⟨_, (a1 i hi).2, (a1 i hi).1, by rw [(a1 i hi).1, (v_h3 _ (by have := (a1 i hi).2; omega)).1, zx_nI (by have := (a1 i hi).2; omega)]⟩
  have p4 : ∀ i, i < 6 → (ph3 (I 16 i) ≤ 0 ↔ I 16 i ≤ 0) := by
    intro i hi
    obtain ⟨S, s1, s2, s3⟩ := p3 i hi
    rw [s3, s2]
    by_cases q : S = 0
    · rw [if_pos q, q]; decide
    · rw [if_neg q]
      exact ⟨fun z => absurd z (nI_nle (by omega) (by omega)), fun z => absurd z (nI_nle (by omega) (by omega))⟩
  refine ⟨fun i hi => ?_, a2, ⟨_, by omega, rfl⟩, ⟨_, by omega, rfl⟩, fun i hi q => ?_, fun i hi => ?_, ?_, ?_, ?_⟩
  · rw [zpre_lt hi]
    obtain ⟨S, s1, s2, s3⟩ := p3 i hi
    show ph3 (I 16 i) = nI (zx (ph3 (I 16 i))) ∧ zx (ph3 (I 16 i)) ≤ 99
    rw [s3]
    by_cases q : S = 0
    · rw [if_pos q]; decide
    · rw [if_neg q, zx_nI (by omega)]; exact ⟨rfl, by omega⟩
  · rw [zpre_lt hi] at q
    have q : ¬ ph3 (I 16 i) ≤ 0 := q
    rw [pk_un (by omega), zpre_lt hi, zpre_lt hi]
    have q2 : ¬ I 16 i ≤ 0 := fun z => q ((p4 i hi).mpr z)
    obtain ⟨S, s1, s2, s3⟩ := p3 i hi
    show kh3 (K 42 12) (K 42) i = ph3 (I 16 i)
    have q3 : ¬ S = 0 := fun z => q2 (by rw [s2, z]; decide)
    unfold kh3
    rw [eT, gt_is hi, a5 i hi q2, s3, if_neg q3, s2, (v_h3 S (by omega)).2]
    rw [s2] at q2
    simp [q2]
  · rw [pk_un (by omega), zpre_ge (by omega), pk_un (by omega)]
    exact a6 i hi
  · rw [pk_un (by decide), zpre_ge (by decide), pk_un (by decide), eT]
    exact (gt_cong (fun j hj => by rw [zpre_lt hj]; exact p4 j hj) 6 (Nat.le_refl 6)).symm
  · rw [pk_us]
  · rw [pk_un (by decide), zpre_ge (by decide), pk_us]
theorem ka_0 : kaR K 0 a b = gkR K a b ∧ kaI K 0 a b = gkI K a b ∧ atR I 0 a b = tkR I a b ∧ atI I 0 a b = tkI I a b := by
  unfold kaR kaI atR atI
  exact ⟨if_pos rfl, if_pos rfl, if_pos rfl, if_pos rfl⟩
theorem ka_1 : kaR K 1 a b = kjR K a b ∧ kaI K 1 a b = kjI K a b ∧ atR I 1 a b = jnR I a b ∧ atI I 1 a b = jnI I a b := by
  unfold kaR kaI atR atI
  exact ⟨(if_neg (by decide)).trans (if_pos rfl), (if_neg (by decide)).trans (if_pos rfl), (if_neg (by decide)).trans (if_pos rfl), (if_neg (by decide)).trans (if_pos rfl)⟩
theorem ka_2 : kaR K 2 a b = ksR K a ∧ kaI K 2 a b = ksI K a ∧ atR I 2 a b = siR I a ∧ atI I 2 a b = siI I a := by
  unfold kaR kaI atR atI
  refine ⟨?_, ?_, ?_, ?_⟩ <;> rw [if_neg (by decide), if_neg (by decide), if_pos rfl]
theorem ka_3 : kaR K 3 a b = krR K ∧ kaI K 3 a b = krI K ∧ atR I 3 a b = reR I ∧ atI I 3 a b = reI I := by
  unfold kaR kaI atR atI
  refine ⟨?_, ?_, ?_, ?_⟩ <;> rw [if_neg (by decide), if_neg (by decide), if_neg (by decide), if_pos rfl]
theorem ka_4 : kaR K 4 a b = khR K ∧ kaI K 4 a b = khI K ∧ atR I 4 a b = phR I ∧ atI I 4 a b = phI I := by
  unfold kaR kaI atR atI
  refine ⟨?_, ?_, ?_, ?_⟩ <;> rw [if_neg (by decide), if_neg (by decide), if_neg (by decide), if_neg (by decide)]
/-- every ACT -/
theorem act_sim (h : Dr I K) (hk : k < 5) (ha : a < 6) (hb : k ≤ 1 → b < 6) : kaR K k a b = atR I k a b ∧ Dr (atI I k a b) (kaI K k a b) ∧ kaI K k a b 40 11 = (if k = 0 ∧ atR I k a b = 0 ∧ atI I k a b 16 a ≤ 0 then K 40 11 + 1 else K 40 11) := by
  rcases (show k = 0 ∨ k = 1 ∨ k = 2 ∨ k = 3 ∨ k = 4 by omega) with rfl | rfl | rfl | rfl | rfl
  · obtain ⟨h1, h2, h3⟩ := t_sim h ha (hb (by omega))
    obtain ⟨e1, e2, e3, e4⟩ := ka_0 (I := I) (K := K) (a := a) (b := b)
    refine ⟨by rw [e1, e3]; exact h1, act_wh h (by rw [e2, e4]; exact h2), ?_⟩
    rw [e2, e3, e4, h3]
    by_cases q : tkR I a b = 0 ∧ tkI I a b 16 a ≤ 0
    · rw [if_pos q, if_pos ⟨rfl, q⟩]
    · rw [if_neg q, if_neg (fun z => q z.2)]
  · obtain ⟨h1, h2, h3⟩ := j_sim h ha (hb (by omega))
    obtain ⟨e1, e2, e3, e4⟩ := ka_1 (I := I) (K := K) (a := a) (b := b)
    exact ⟨by rw [e1, e3]; exact h1, act_wh h (by rw [e2, e4]; exact h2), by rw [e2, h3, if_neg (fun z => absurd z.1 (by decide))]⟩
  · obtain ⟨h1, h2, h3⟩ := s_sim h ha
    obtain ⟨e1, e2, e3, e4⟩ := ka_2 (I := I) (K := K) (a := a) (b := b)
    exact ⟨by rw [e1, e3]; exact h1, act_wh h (by rw [e2, e4]; exact h2), by rw [e2, h3, if_neg (fun z => absurd z.1 (by decide))]⟩
  · obtain ⟨h1, h2, h3⟩ := r_sim h
    obtain ⟨e1, e2, e3, e4⟩ := ka_3 (I := I) (K := K) (a := a) (b := b)
    exact ⟨by rw [e1, e3]; exact h1, act_wh h (by rw [e2, e4]; exact h2), by rw [e2, h3, if_neg (fun z => absurd z.1 (by decide))]⟩
  · obtain ⟨h1, h2, h3⟩ := h_sim h
    obtain ⟨e1, e2, e3, e4⟩ := ka_4 (I := I) (K := K) (a := a) (b := b)
    exact ⟨by rw [e1, e3]; exact h1, act_wh h (by rw [e2, e4]; exact h2), by rw [e2, h3, if_neg (fun z => absurd z.1 (by decide))]⟩
/-- why not: 0 or more -/
theorem at_pos : atR I k a b = 0 ∨ ¬ atR I k a b ≤ 0 := by
  simp only [atR, tkR, jnR, siR, reR, phR]
  repeat' split
  all_goals first | exact Or.inl rfl | exact Or.inr (by decide)
end DR
