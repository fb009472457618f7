/-! TWO WORLDS: the class told by I, the reference by K -/
theorem kig_1 {K : zI} {j : Nat} (h : j < 15) : kig K j = K 41 j := by unfold kig; rw [if_pos h]
theorem kig_2 {K : zI} {j : Nat} (h : j < 6) : kig K (15 + j) = K 43 j := by
  unfold kig
  rw [if_neg (by omega), if_pos (by omega), show 15 + j - 15 = j by omega]
theorem kig_3 {K : zI} {j : Nat} (h : j < 6) : kig K (21 + j) = K 44 j := by
  unfold kig
  rw [if_neg (by omega), if_neg (by omega), if_pos (by omega), show 21 + j - 21 = j by omega]
theorem kig_4 {K : zI} {j : Nat} (h : j < 6) : kig K (27 + j) = K 45 j := by
  unfold kig
  rw [if_neg (by omega), if_neg (by omega), if_neg (by omega), if_pos (by omega), show 27 + j - 27 = j by omega]
theorem kig_5 {K : zI} {j : Nat} (h : j < 8) : kig K (33 + j) = K 46 j := by
  unfold kig
  rw [if_neg (by omega), if_neg (by omega), if_neg (by omega), if_neg (by omega), if_pos (by omega), show 33 + j - 33 = j by omega]
theorem kig_6 {K : zI} {j : Nat} (h : j < 10) : kig K (41 + j) = K 47 j := by
  unfold kig
  rw [if_neg (by omega), if_neg (by omega), if_neg (by omega), if_neg (by omega), if_neg (by omega), if_pos (by omega), show 41 + j - 41 = j by omega]
theorem kig_7 {K : zI} {j : Nat} (h : j < 16) : kig K (51 + j) = K 48 j := by
  unfold kig
  rw [if_neg (by omega), if_neg (by omega), if_neg (by omega), if_neg (by omega), if_neg (by omega), if_neg (by omega), if_pos (by omega), show 51 + j - 51 = j by omega]
theorem kig_8 {K : zI} : kig K 70 = K 40 7 := by
  unfold kig
  rw [if_neg (by omega), if_neg (by omega), if_neg (by omega), if_neg (by omega), if_neg (by omega), if_neg (by omega), if_neg (by omega)]
abbrev Rl (I K : zI) : Prop := RelB (blk I 1) (kig K)
section TW
variable {I K : zI} {k : Nat}
theorem k_S (h : Rl I K) (hk : k < 6) (hs : ¬ I 2 k ≤ 0) : K 41 k = I 2 k := by
  rw [← kig_1 (K := K) (j := k) (by omega)]
  exact h.eS k hk hs
theorem k_M (h : Rl I K) (hk : k < 6) : K 41 (6 + k) = I 3 k := by
  rw [← kig_1 (K := K) (j := 6 + k) (by omega)]
  exact h.eM k hk
theorem k_T (h : Rl I K) : K 41 12 = gt_ (I 2) 6 := h.eT
theorem k_B (h : Rl I K) : K 41 13 = I 1 11 := h.eB
theorem k_H (h : Rl I K) : K 41 14 = I 1 12 := h.eH
theorem k_G (h : Rl I K) (hk : k < 6) : K 43 k = I 4 k := by
  rw [← kig_2 (K := K) hk]
  exact h.eG k hk
theorem k_F (h : Rl I K) (hk : k < 6) : K 44 k = I 5 k := by
  rw [← kig_3 (K := K) hk]
  exact h.eF k hk
theorem k_K (h : Rl I K) (hk : k < 6) : K 45 k = I 6 k := by
  rw [← kig_4 (K := K) hk]
  exact h.eK k hk
theorem k_C (h : Rl I K) (hk : k < 8) : K 46 k = 100 * I 7 k + I 8 k := by
  rw [← kig_5 (K := K) hk]
  exact h.eC k hk
theorem k_L (h : Rl I K) (hk : k < 10) : K 47 k = I 9 k := by
  rw [← kig_6 (K := K) hk]
  exact h.eL k hk
theorem k_X (h : Rl I K) (hk : k < 8) : K 48 (2 * k) = I 10 k := by
  rw [← kig_7 (K := K) (j := 2 * k) (by omega)]
  exact h.eX k hk
theorem k_Y (h : Rl I K) (hk : k < 8) : K 48 (2 * k + 1) = I 11 k := by
  rw [← kig_7 (K := K) (j := 2 * k + 1) (by omega)]
  exact h.eY k hk
theorem k_N (h : Rl I K) : K 40 7 = I 1 10 := by
  rw [← kig_8 (K := K)]
  exact h.eN
theorem k_th (h : Rl I K) (a : Int32) : thr K a = zth (I 2) a := by
  by_cases q : zin a 0 5 = true
  · obtain ⟨i, hi, rfl⟩ := zin_ex (b := 5) (by decide) q
    rw [zth_le hi]
    unfold thr
    rw [q, k_T h, gt_is hi]
    rfl
  · unfold thr zth
    simp [q]
end TW
def Two (I K : zI) : Prop := Rl I K ∧ (∃ n, n ≤ 60 ∧ I 12 1 = nI n) ∧ K 40 9 = I 12 1 ∧ (∀ i, i < 60 → K 49 i = I 13 i)
theorem Two.rl {I K : zI} (h : Two I K) : Rl I K := h.1
theorem Two.cnt {I K : zI} (h : Two I K) : ∃ n, n ≤ 60 ∧ I 12 1 = nI n := h.2.1
theorem Two.eC {I K : zI} (h : Two I K) : K 40 9 = I 12 1 := h.2.2.1
theorem Two.eP {I K : zI} (h : Two I K) : ∀ i, i < 60 → K 49 i = I 13 i := h.2.2.2
theorem Inv.two {q0 q1 : Option Nat} {N : Nat} {I : zI} (h : Inv q0 q1 N I) : Two I I := ⟨h.live, h.cnt, h.eCnt, h.sgn⟩
/-- the same as far as it is looked at -/
theorem Two.cong {I K I' K' : zI} (h : Two I K) (hI : ∀ c, c < 14 → I' c = I c) (hK : ∀ c, (c = 41 ∨ (43 ≤ c ∧ c ≤ 49)) → K' c = K c) (h7 : K' 40 7 = K 40 7) (h9 : K' 40 9 = K 40 9) : Two I' K' := by
  refine ⟨?_, ?_, ?_, ?_⟩
  · have e1 : kig K' = kig K := kig_cong (fun c q => hK c (by omega)) h7
    have e2 : blk I' 1 = blk I 1 := blk_cong (fun c _ q => hI c (by omega))
    show RelB (blk I' 1) (kig K')
    rw [e1, e2]
    exact h.1
  · rw [hI 12 (by decide)]; exact h.cnt
  · rw [h9, hI 12 (by decide)]; exact h.eC
  · rw [hK 49 (by decide), hI 13 (by decide)]; exact h.eP
/-- the step: the class's world I1 behind its call is J as far as it is seen, the reference's I2 is K -/
theorem Inv.step {q0 q1 : Option Nat} {N : Nat} {I J I1 K I2 : zI} (h : Inv q0 q1 N I) (hJ : ∀ c, 39 ≤ c → J c = I c) (h1 : ∀ c, c < 14 ∨ 39 ≤ c → I1 c = J c) (h33 : I1 33 0 = 0) (hK : ∀ c, c < 40 ∨ 56 ≤ c → K c = I1 c) (h2 : ∀ c, ¬ zscr c → I2 c = K c) (h7 : I2 40 7 = K 40 7) (h9 : I2 40 9 = K 40 9) (ht : Two J K) : Inv q0 q1 N I2 := by
  have hn : ∀ c, c ≠ 40 → c ≠ 42 → ¬ (50 ≤ c ∧ c ≤ 55) → ¬ zscr c := by
    intro c a b d q
    unfold zscr at q
    omega
  have hlo : ∀ c, c < 14 → I2 c = J c := fun c q => by rw [h2 c (hn c (by omega) (by omega) (by omega)), hK c (Or.inl (by omega)), h1 c (Or.inl q)]
  have hhi : ∀ c, 56 ≤ c → I2 c = I c := fun c q => by rw [h2 c (hn c (by omega) (by omega) (by omega)), hK c (Or.inr q), h1 c (Or.inr (by omega)), hJ c (by omega)]
  have t : Two I2 I2 := ht.cong hlo (fun c q => h2 c (hn c (by omega) (by omega) (by omega))) h7 h9
  refine ⟨t.rl, t.cnt, t.eC, t.eP, ?_, Img_cong hhi h.im0, Img_cong hhi h.im1, h.nn⟩
  rw [h2 33 (hn 33 (by decide) (by decide) (by decide)), hK 33 (by decide)]
  exact h33
/-- which of the griefs stand, after a change -/
theorem t63 (j : Nat) : (63 : Nat).testBit j = decide (j < 6) := Nat.testBit_two_pow_sub_one 6 j
theorem offN : ∀ n, n < 64 → ∀ i, i < 6 → off1 (nI n) (nI i) = nI (n &&& (63 ^^^ 2 ^ i)) := by decide +kernel
theorem gt_off {s : Nat → Int32} {i : Nat} {v : Int32} (hi : i < 6) (hv : v ≤ 0) : gt_ (upd s i v) 6 = off1 (gt_ s 6) (nI i) := by
  rw [gt_N _ 6 (by decide), gt_N s 6 (by decide), offN _ (gN_lt s 6) i hi]
  congr 1
  apply Nat.eq_of_testBit_eq
  intro j
  rw [gN_bit, Nat.testBit_and, gN_bit, Nat.testBit_xor, t63, Nat.testBit_two_pow]
  by_cases e : j = i
  · subst e; simp [upd, hv, hi]
  · by_cases q : j < 6
    · simp [upd, e, q, show ¬ i = j from fun z => e z.symm]
    · simp [q]
theorem gt_on {s : Nat → Int32} {i : Nat} {v : Int32} (hi : i < 6) (hv : ¬ v ≤ 0) : gt_ (upd s i v) 6 = gt_ s 6 ||| (1 <<< (nI i &&& 31)) := by
  rw [gt_N _ 6 (by decide), gt_N s 6 (by decide), zsh1 i (by omega), nI_or]
  congr 1
  apply Nat.eq_of_testBit_eq
  intro j
  rw [gN_bit, Nat.testBit_or, gN_bit, Nat.testBit_two_pow]
  by_cases e : j = i
  · subst e; simp [upd, hv, hi]
  · simp [upd, e, show ¬ i = j from fun z => e z.symm]
theorem gt_cong {s s' : Nat → Int32} (h : ∀ j, j < 6 → (s' j ≤ 0 ↔ s j ≤ 0)) : ∀ i, i ≤ 6 → gt_ s' i = gt_ s i
  | 0, _ => rfl
  | i + 1, hi => by
    simp only [gt_, gt_cong h i (by omega), h i (by omega)]
theorem gt_same {s : Nat → Int32} {i : Nat} {v : Int32} (h : v ≤ 0 ↔ s i ≤ 0) : gt_ (upd s i v) 6 = gt_ s 6 := by
  refine gt_cong (fun j _ => ?_) 6 (Nat.le_refl 6)
  by_cases e : j = i
  · subst e; rw [pk_us]; exact h
  · rw [pk_un e]
/-- the head of a block: what ACTS change -/
def RelH (s m : Nat → Int32) (br ho : Int32) (F : Nat → Int32) : Prop :=
  (∀ a, a < 6 → s a = nI (zx (s a)) ∧ zx (s a) ≤ 99) ∧ (∀ a, a < 6 → m a = nI (zx (m a)) ∧ zx (m a) < 256) ∧ (∃ n, n ≤ 99 ∧ br = nI n) ∧ (∃ n, n ≤ 99 ∧ ho = nI n) ∧ (∀ a, a < 6 → ¬ s a ≤ 0 → F a = s a) ∧ (∀ a, a < 6 → F (6 + a) = m a) ∧ F 12 = gt_ s 6 ∧ F 13 = br ∧ F 14 = ho
theorem RelB.hd {C : Nat → Nat → Int32} {F : Nat → Int32} (h : RelB C F) : RelH (C 1) (C 2) (C 0 11) (C 0 12) F := ⟨h.st, h.mk, h.br, h.ho, h.eS, h.eM, h.eT, h.eB, h.eH⟩
theorem RelB.wh {C C' : Nat → Nat → Int32} {F F' : Nat → Int32} (h : RelB C F) (hc : ∀ d, 3 ≤ d → C' d = C d) (h0 : C' 0 10 = C 0 10) (hF : ∀ j, 15 ≤ j → F' j = F j) (hh : RelH (C' 1) (C' 2) (C' 0 11) (C' 0 12) F') : RelB C' F' := by
  obtain ⟨a1, a2, a3, a4, a5, a6, a7, a8, a9⟩ := hh
  refine ⟨a1, a2, ?_, ?_, ?_, ?_, ?_, ?_, ?_, ?_, ?_, a3, a4, a5, a6, a7, a8, a9, ?_, ?_, ?_, ?_, ?_, ?_, ?_, ?_⟩
  · rw [hc 3 (by decide)]; exact h.gr
  · rw [hc 4 (by decide)]; exact h.fo
  · rw [hc 5 (by decide)]; exact h.tk
  · rw [hc 6 (by decide)]; exact h.cf
  · rw [hc 7 (by decide), hc 6 (by decide)]; exact h.cl
  · rw [hc 8 (by decide)]; exact h.ld
  · rw [hc 9 (by decide)]; exact h.sh
  · rw [hc 10 (by decide)]; exact h.sf
  · rw [h0]; exact h.sn
  · intro k hk; rw [hc 3 (by decide), hF _ (by omega)]; exact h.eG k hk
  · intro k hk; rw [hc 4 (by decide), hF _ (by omega)]; exact h.eF k hk
  · intro k hk; rw [hc 5 (by decide), hF _ (by omega)]; exact h.eK k hk
  · intro k hk; rw [hc 6 (by decide), hc 7 (by decide), hF _ (by omega)]; exact h.eC k hk
  · intro k hk; rw [hc 8 (by decide), hF _ (by omega)]; exact h.eL k hk
  · intro k hk; rw [hc 9 (by decide), hF _ (by omega)]; exact h.eX k hk
  · intro k hk; rw [hc 10 (by decide), hF _ (by omega)]; exact h.eY k hk
  · rw [h0, hF _ (by omega)]; exact h.eN
theorem RelH.cong {s m : Nat → Int32} {br ho : Int32} {F F' : Nat → Int32} (h : RelH s m br ho F) (hF : ∀ j, j < 15 → F' j = F j) : RelH s m br ho F' := by
  obtain ⟨a1, a2, a3, a4, a5, a6, a7, a8, a9⟩ := h
  exact ⟨a1, a2, a3, a4, fun a ha q => by rw [hF a (by omega)]; exact a5 a ha q, fun a ha => by rw [hF _ (by omega)]; exact a6 a ha, by rw [hF 12 (by decide)]; exact a7, by rw [hF 13 (by decide)]; exact a8, by rw [hF 14 (by decide)]; exact a9⟩
section HD
variable {s m F : Nat → Int32} {br ho : Int32} {a w u n : Nat}
/-- a grief laid down -/
theorem RelH.lay (h : RelH s m br ho F) (ha : a < 6) (hw : 1 ≤ w ∧ w ≤ 99) (hu : u < 256) : RelH (upd s a (nI w)) (upd m a (nI u)) br ho (upd (upd (upd F a (nI w)) (6 + a) (nI u)) 12 (F 12 ||| (1 <<< (nI a &&& 31)))) := by
  obtain ⟨a1, a2, a3, a4, a5, a6, a7, a8, a9⟩ := h
  refine ⟨fun i hi => ?_, fun i hi => ?_, a3, a4, fun i hi q => ?_, fun i hi => ?_, ?_, ?_, ?_⟩
  · by_cases e : i = a
    · subst e; rw [pk_us, zx_nI (by omega)]; exact ⟨rfl, hw.2⟩
    · rw [pk_un e]; exact a1 i hi
  · by_cases e : i = a
    · subst e; rw [pk_us, zx_nI (by omega)]; exact ⟨rfl, hu⟩
    · rw [pk_un e]; exact a2 i hi
  · rw [pk_un (by omega), pk_un (by omega)]
    by_cases e : i = a
    · subst e; rw [pk_us, pk_us]
    · rw [pk_un e] at q
      rw [pk_un e, pk_un e]; exact a5 i hi q
  · rw [pk_un (by omega)]
    by_cases e : i = a
    · subst e; rw [pk_us, pk_us]
    · rw [pk_un (by omega), pk_un (by omega), pk_un e]; exact a6 i hi
  · rw [pk_us, a7, gt_on ha (nI_nle (by omega) (by omega))]
  · rw [pk_un (by omega), pk_un (by omega), pk_un (by omega)]; exact a8
  · rw [pk_un (by omega), pk_un (by omega), pk_un (by omega)]; exact a9
theorem RelH.bre (h : RelH s m br ho F) (hn : n ≤ 99) : RelH s m (nI n) ho (upd F 13 (nI n)) := by
  obtain ⟨a1, a2, a3, a4, a5, a6, a7, a8, a9⟩ := h
  refine ⟨a1, a2, ⟨n, hn, rfl⟩, a4, fun i hi q => ?_, fun i hi => ?_, ?_, ?_, ?_⟩
  · rw [pk_un (by omega)]; exact a5 i hi q
  · rw [pk_un (by omega)]; exact a6 i hi
  · rw [pk_un (by omega)]; exact a7
  · rw [pk_us]
  · rw [pk_un (by omega)]; exact a9
/-- a standing grief has another strength, and stands -/
theorem RelH.str (h : RelH s m br ho F) (ha : a < 6) (hs : ¬ s a ≤ 0) (hw : 1 ≤ w ∧ w ≤ 99) : RelH (upd s a (nI w)) m br ho (upd F a (nI w)) := by
  obtain ⟨a1, a2, a3, a4, a5, a6, a7, a8, a9⟩ := h
  have h0 : ¬ nI w ≤ 0 := nI_nle (by omega) (by omega)
  refine ⟨fun i hi => ?_, a2, a3, a4, fun i hi q => ?_, fun i hi => ?_, ?_, ?_, ?_⟩
  · by_cases e : i = a
    · subst e; rw [pk_us, zx_nI (by omega)]; exact ⟨rfl, hw.2⟩
    · rw [pk_un e]; exact a1 i hi
  · by_cases e : i = a
    · subst e; rw [pk_us, pk_us]
    · rw [pk_un e] at q
      rw [pk_un e, pk_un e]; exact a5 i hi q
  · rw [pk_un (by omega)]; exact a6 i hi
  · rw [pk_un (by omega), a7, gt_same ⟨fun z => absurd z h0, fun z => absurd z hs⟩]
  · rw [pk_un (by omega)]; exact a8
  · rw [pk_un (by omega)]; exact a9
/-- a grief is no more -/
theorem RelH.out (h : RelH s m br ho F) (ha : a < 6) (x : Int32) : RelH (upd s a 0) m br ho (upd (upd F a x) 12 (off1 (F 12) (nI a))) := by
  obtain ⟨a1, a2, a3, a4, a5, a6, a7, a8, a9⟩ := h
  refine ⟨fun i hi => ?_, a2, a3, a4, fun i hi q => ?_, fun i hi => ?_, ?_, ?_, ?_⟩
  · by_cases e : i = a
    · subst e; rw [pk_us]; decide
    · rw [pk_un e]; exact a1 i hi
  · by_cases e : i = a
    · subst e; rw [pk_us] at q; exact absurd (by decide) q
    · rw [pk_un e] at q
      rw [pk_un (by omega), pk_un e, pk_un e]; exact a5 i hi q
  · rw [pk_un (by omega), pk_un (by omega)]; exact a6 i hi
  · rw [pk_us, a7, gt_off ha (by decide)]
  · rw [pk_un (by omega), pk_un (by omega)]; exact a8
  · rw [pk_un (by omega), pk_un (by omega)]; exact a9
theorem RelH.mks (h : RelH s m br ho F) (ha : a < 6) (hu : u < 256) : RelH s (upd m a (nI u)) br ho (upd F (6 + a) (nI u)) := by
  obtain ⟨a1, a2, a3, a4, a5, a6, a7, a8, a9⟩ := h
  refine ⟨a1, fun i hi => ?_, a3, a4, fun i hi q => ?_, fun i hi => ?_, ?_, ?_, ?_⟩
  · by_cases e : i = a
    · subst e; rw [pk_us, zx_nI (by omega)]; exact ⟨rfl, hu⟩
    · rw [pk_un e]; exact a2 i hi
  · rw [pk_un (by omega)]; exact a5 i hi q
  · by_cases e : i = a
    · subst e; rw [pk_us, pk_us]
    · rw [pk_un (by omega), pk_un e]; exact a6 i hi
  · rw [pk_un (by omega)]; exact a7
  · rw [pk_un (by omega)]; exact a8
  · rw [pk_un (by omega)]; exact a9
end HD
