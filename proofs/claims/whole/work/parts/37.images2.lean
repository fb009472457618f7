/-! IMAGES on both sides -/
theorem RelB.wImg {C C' : Nat → Nat → Int32} {F F' : Nat → Int32} (h : RelB C F) (hc : ∀ d, 1 ≤ d → C' d = C d) (h0 : C' 0 10 = C 0 10) (h1 : C' 0 11 = C 0 11) (h2 : C' 0 12 = C 0 12) (hF : ∀ j, j < 67 ∨ j = 70 → F' j = F j)  : RelB C' F' := by
  refine ⟨?_, ?_, ?_, ?_, ?_, ?_, ?_, ?_, ?_, ?_, ?_, ?_, ?_, ?_, ?_, ?_, ?_, ?_, ?_, ?_, ?_, ?_, ?_, ?_, ?_, ?_⟩
  · rw [hc 1 (by decide)]; exact h.st
  · rw [hc 2 (by decide)]; exact h.mk
  · rw [hc 3 (by decide)]; exact h.gr
  · rw [hc 4 (by decide)]; exact h.fo
  · rw [hc 5 (by decide)]; exact h.tk
  · rw [hc 6 (by decide)]; exact h.cf
  · rw [hc 7 (by decide), hc 6 (by decide)]; exact h.cl
  · rw [hc 8 (by decide)]; exact h.ld
  · rw [hc 9 (by decide)]; exact h.sh
  · rw [hc 10 (by decide)]; exact h.sf
  · rw [h0]; exact h.sn
  · rw [h1]; exact h.br
  · rw [h2]; exact h.ho
  · intro k hk q; rw [hc 1 (by decide)] at q; rw [hc 1 (by decide), hF _ (by omega)]; exact h.eS k hk q
  · intro k hk; rw [hc 2 (by decide), hF _ (by omega)]; exact h.eM k hk
  · rw [hc 1 (by decide), hF _ (by decide)]; exact h.eT
  · rw [h1, hF _ (by decide)]; exact h.eB
  · rw [h2, hF _ (by decide)]; exact h.eH
  · intro k hk; rw [hc 3 (by decide), hF _ (by omega)]; exact h.eG k hk
  · intro k hk; rw [hc 4 (by decide), hF _ (by omega)]; exact h.eF k hk
  · intro k hk; rw [hc 5 (by decide), hF _ (by omega)]; exact h.eK k hk
  · intro k hk; rw [hc 6 (by decide), hc 7 (by decide), hF _ (by omega)]; exact h.eC k hk
  · intro k hk; rw [hc 8 (by decide), hF _ (by omega)]; exact h.eL k hk
  · intro k hk; rw [hc 9 (by decide), hF _ (by omega)]; exact h.eX k hk
  · intro k hk; rw [hc 10 (by decide), hF _ (by omega)]; exact h.eY k hk
  · rw [h0, hF _ (by decide)]; exact h.eN
/-- which images are kept behind image(n) -/
def q0n (q0 : Option Nat) (m n : Nat) : Option Nat := if n = 0 then some m else q0
def q1n (q1 : Option Nat) (m n : Nat) : Option Nat := if n = 0 then q1 else some m
theorem zbec_in {I : zI} {m o d : Nat} (h : d ≤ 10) : zbec I m o (m + d) = I (o + d) := by
  simp only [zbec]
  rw [if_pos (by omega), show m + d - m + o = o + d by omega]
theorem zbec_out {I : zI} {m o c : Nat} (h : c < m ∨ m + 10 < c) : zbec I m o c = I c := by
  simp only [zbec]
  rw [if_neg (by omega)]
theorem blk_to {I J : zI} {m o : Nat} (h : ∀ d, d ≤ 10 → J (m + d) = I (o + d)) : blk J m = blk I o := by
  funext d
  unfold blk
  split
  · rw [h d (by assumption)]
  · rfl
theorem RelB.cF {C : Nat → Nat → Int32} {F F' : Nat → Int32} (h : RelB C F) (hF : ∀ j, j < 67 ∨ j = 70 → F' j = F j) : RelB C F' := h.wImg (fun _ _ => rfl) rfl rfl rfl hF
theorem nscr {c : Nat} (h : ¬ (c = 40 ∨ c = 42 ∨ (50 ≤ c ∧ c ≤ 55))) : ¬ zscr c := h
theorem kmg_is {I : zI} {n : Nat} (hn : n < 2) : kmgI I (nI n) = zu (zrow I 56 (kim I n (fun j => decide (j < 67 ∨ j = 70)))) 57 n 1 := by
  unfold kmgI
  have e : zin (nI n) 0 1 = true := by
    rcases (show n = 0 ∨ n = 1 by omega) with rfl | rfl <;> decide
  rw [if_pos e, zx_nI (by omega)]
theorem Inv.narrow {q0 q1 : Option Nat} {N : Nat} {I : zI} (h : Inv q0 q1 N I) : ∀ i, i < 8 → narrow .boolean (.int (I 11 i)) = .int (I 11 i) := fun i hi => nb01 (h.live.sf i hi)
theorem Img.narrow {m n N : Nat} {I : zI} (h : Img (some m) N I n) : ∀ i, i < 8 → narrow .boolean (.int (I (m + 10) i)) = .int (I (m + 10) i) := by
  rcases h with ⟨z, _⟩ | ⟨m', z, _, _, _, h⟩
  · cases z
  · cases z
    exact fun i hi => nb01 (h.sf i hi)
theorem Img.kept {m n N : Nat} {I : zI} (h : Img (some m) N I n) : ¬ I 57 n = 0 := by
  rcases h with ⟨z, _⟩ | ⟨m', z, _, _, h, _⟩
  · cases z
  · exact h
theorem Img.none {n N : Nat} {I : zI} (h : Img none N I n) : I 57 n = 0 := by
  rcases h with ⟨_, h⟩ | ⟨m', z, _⟩
  · exact h
  · cases z
/-- restored -/
theorem krs_kig {J : zI} {n : Nat} {j : Nat} (hj : j < 67 ∨ j = 70) : kig (krsI J n) j = J 56 (80 * n + j) := by
  by_cases e : j = 70
  · subst e
    rw [kig_8]
    unfold krsI
    rw [zu_self]
  have hj : j < 67 := by omega
  have r : ∀ c, c ≠ 40 → krsI J n c = (zrow (zrow (zrow (zrow (zrow (zrow (zrow J 41 (krk J n 0 15 41)) 43 (krk J n 15 6 43)) 44 (krk J n 21 6 44)) 45 (krk J n 27 6 45)) 46 (krk J n 33 8 46)) 47 (krk J n 41 10 47)) 48 (krk J n 51 16 48)) c := fun c hc => zrn _ _ hc
  by_cases a : j < 15
  · rw [kig_1 a, r 41 (by decide), zrow_ne _ _ (by decide), zrow_ne _ _ (by decide), zrow_ne _ _ (by decide), zrow_ne _ _ (by decide), zrow_ne _ _ (by decide), zrow_ne _ _ (by decide), zrow_k]
    unfold krk
    rw [zpre_lt a, Nat.zero_add]
  by_cases b : j < 21
  · obtain ⟨i, rfl⟩ : ∃ i, j = 15 + i := ⟨j - 15, by omega⟩
    rw [kig_2 (by omega), r 43 (by decide), zrow_ne _ _ (by decide), zrow_ne _ _ (by decide), zrow_ne _ _ (by decide), zrow_ne _ _ (by decide), zrow_ne _ _ (by decide), zrow_k]
    unfold krk
    rw [zpre_lt (by omega)]
  by_cases c : j < 27
  · obtain ⟨i, rfl⟩ : ∃ i, j = 21 + i := ⟨j - 21, by omega⟩
    rw [kig_3 (by omega), r 44 (by decide), zrow_ne _ _ (by decide), zrow_ne _ _ (by decide), zrow_ne _ _ (by decide), zrow_ne _ _ (by decide), zrow_k]
    unfold krk
    rw [zpre_lt (by omega)]
  by_cases d : j < 33
  · obtain ⟨i, rfl⟩ : ∃ i, j = 27 + i := ⟨j - 27, by omega⟩
    rw [kig_4 (by omega), r 45 (by decide), zrow_ne _ _ (by decide), zrow_ne _ _ (by decide), zrow_ne _ _ (by decide), zrow_k]
    unfold krk
    rw [zpre_lt (by omega)]
  by_cases f : j < 41
  · obtain ⟨i, rfl⟩ : ∃ i, j = 33 + i := ⟨j - 33, by omega⟩
    rw [kig_5 (by omega), r 46 (by decide), zrow_ne _ _ (by decide), zrow_ne _ _ (by decide), zrow_k]
    unfold krk
    rw [zpre_lt (by omega)]
  by_cases g : j < 51
  · obtain ⟨i, rfl⟩ : ∃ i, j = 41 + i := ⟨j - 41, by omega⟩
    rw [kig_6 (by omega), r 47 (by decide), zrow_ne _ _ (by decide), zrow_k]
    unfold krk
    rw [zpre_lt (by omega)]
  · obtain ⟨i, rfl⟩ : ∃ i, j = 51 + i := ⟨j - 51, by omega⟩
    rw [kig_7 (by omega), r 48 (by decide), zrow_k]
    unfold krk
    rw [zpre_lt (by omega)]
theorem krs_far {J : zI} {n c : Nat} (h : c ≠ 40 ∧ c ≠ 41 ∧ ¬ (43 ≤ c ∧ c ≤ 48)) : krsI J n c = J c := by
  unfold krsI
  rw [zrn _ _ (by omega), zrow_ne _ _ (by omega), zrow_ne _ _ (by omega), zrow_ne _ _ (by omega), zrow_ne _ _ (by omega), zrow_ne _ _ (by omega), zrow_ne _ _ (by omega), zrow_ne _ _ (by omega)]
theorem krs_9 {J : zI} {n : Nat} : krsI J n 40 9 = J 40 9 := by
  unfold krsI
  rw [zu_ne _ _ (Or.inr (by decide)), zrow_ne _ _ (by decide), zrow_ne _ _ (by decide), zrow_ne _ _ (by decide), zrow_ne _ _ (by decide), zrow_ne _ _ (by decide), zrow_ne _ _ (by decide), zrow_ne _ _ (by decide)]
theorem Inv.restored {q0 q1 : Option Nat} {N n m : Nat} {I I2 : zI} (h : Inv q0 q1 N I) (hi : Img (some m) N I n) (h2 : ∀ c, ¬ zscr c → I2 c = krsI (zbec I 1 m) n c) (h7 : I2 40 7 = krsI (zbec I 1 m) n 40 7) (h9 : I2 40 9 = krsI (zbec I 1 m) n 40 9) : Inv q0 q1 N I2 := by
  obtain ⟨hm, hN, hr⟩ : (m = 58 ∨ m = 69) ∧ m + 11 ≤ N ∧ RelB (blk I m) (fun j => I 56 (80 * n + j)) := by
    rcases hi with ⟨z, _⟩ | ⟨m', z, z1, z2, _, z3⟩
    · cases z
    · cases z
      exact ⟨z1, z2, z3⟩
  have far : ∀ c, ¬ (40 ≤ c ∧ c ≤ 55) → 12 ≤ c → I2 c = I c := by
    intro c a b
    rw [h2 c (nscr (by omega)), krs_far (by omega), zbec_out (by omega)]
  refine ⟨?_, ?_, ?_, ?_, ?_, Img_cong (fun c q => far c (by omega) (by omega)) h.im0, Img_cong (fun c q => far c (by omega) (by omega)) h.im1, h.nn⟩
  · have e : blk I2 1 = blk I m := blk_to (fun d hd => by rw [h2 _ (nscr (by omega)), krs_far (by omega), zbec_in hd])
    rw [e]
    refine hr.cF (fun j hj => ?_)
    have k1 : kig I2 = kig (krsI (zbec I 1 m) n) := kig_cong (fun c q => h2 c (nscr (by omega))) h7
    rw [k1, krs_kig hj, zbec_out (by omega)]
  · rw [far 12 (by decide) (by decide)]; exact h.cnt
  · rw [h9, krs_9, zbec_out (by omega), far 12 (by decide) (by decide)]; exact h.eCnt
  · rw [h2 49 (nscr (by decide)), krs_far (by decide), zbec_out (by omega), far 13 (by decide) (by decide)]
    exact h.sgn
  · rw [far 33 (by decide) (by decide)]; exact h.b0
theorem Inv.kept0 {q0 q1 : Option Nat} {N N' m : Nat} {I I2 : zI} (h : Inv q0 q1 N I) (hm : m = 58 ∨ m = 69) (hN : m + 11 ≤ N') (hNN : N ≤ N') (ho : q1 ≠ some m) (hnn : ((q0n q0 m 0 = none ∧ q1n q1 m 0 = none ∧ N' = 58) ∨ (q0n q0 m 0 = some 58 ∧ q1n q1 m 0 = none ∧ N' = 69) ∨ (q0n q0 m 0 = none ∧ q1n q1 m 0 = some 58 ∧ N' = 69) ∨ (q0n q0 m 0 = some 58 ∧ q1n q1 m 0 = some 69 ∧ N' = 80) ∨ (q0n q0 m 0 = some 69 ∧ q1n q1 m 0 = some 58 ∧ N' = 80))) (h2 : ∀ c, ¬ zscr c → I2 c = kmgI (zbec I m 1) (nI 0) c) (h7 : I2 40 7 = kmgI (zbec I m 1) (nI 0) 40 7) (h9 : I2 40 9 = kmgI (zbec I m 1) (nI 0) 40 9) : Inv (q0n q0 m 0) (q1n q1 m 0) N' I2 := by
  rw [kmg_is (by decide)] at h2 h7 h9
  have far : ∀ c, c ≠ 40 → c ≠ 42 → ¬ (50 ≤ c ∧ c ≤ 57) → ¬ (m ≤ c ∧ c ≤ m + 10) → I2 c = I c := by
    intro c a1 a2 a3 a4
    rw [h2 c (nscr (by omega)), zrn _ _ (by omega), zrow_ne _ _ (by omega), zbec_out (by omega)]
  have f7 : I2 40 7 = I 40 7 := by rw [h7, zrn _ _ (by decide), zrow_ne _ _ (by decide), zbec_out (by omega)]
  have f9 : I2 40 9 = I 40 9 := by rw [h9, zrn _ _ (by decide), zrow_ne _ _ (by decide), zbec_out (by omega)]
  have f56 : I2 56 = kim (zbec I m 1) 0 (fun j => decide (j < 67 ∨ j = 70)) := by rw [h2 56 (nscr (by decide)), zrn _ _ (by decide), zrow_k]
  have f57 : I2 57 = upd (I 57) 0 1 := by rw [h2 57 (nscr (by decide)), zu_row, zrow_ne _ _ (by decide), zbec_out (by omega)]
  have ek : kig (zbec I m 1) = kig I := kig_cong (fun c q => zbec_out (by omega)) (by rw [zbec_out (by omega)])
  have mine : Img (some m) N' I2 0 := by
    refine Or.inr ⟨m, rfl, hm, hN, by rw [f57, pk_us]; decide, ?_⟩
    have e : blk I2 m = blk I 1 := blk_to (fun d hd => by rw [h2 _ (nscr (by omega)), zrn _ _ (by omega), zrow_ne _ _ (by omega), zbec_in hd])
    rw [e]
    refine h.live.cF (fun j hj => ?_)
    rw [f56]
    unfold kim
    rw [show 80 * 0 + j - 80 * 0 = j by omega, if_pos ⟨by omega, decide_eq_true hj⟩, ek]
  have other : Img q1 N' I2 1 := by
    have ho' := h.im1
    rcases ho' with ⟨z1, z2⟩ | ⟨m', z1, z2, z3, z4, z5⟩
    · exact Or.inl ⟨z1, by rw [f57, pk_un (by decide)]; exact z2⟩
    · have hne : m' ≠ m := fun e => ho (by rw [z1, e])
      refine Or.inr ⟨m', z1, z2, by omega, by rw [f57, pk_un (by decide)]; exact z4, ?_⟩
      have e : blk I2 m' = blk I m' := blk_to (fun d hd => far _ (by omega) (by omega) (by omega) (by omega))
      rw [e]
      refine z5.cF (fun j hj => ?_)
      rw [f56]
      unfold kim
      rw [if_neg, zbec_out (by omega)]
      rintro ⟨y1, y2⟩
      have y2 := of_decide_eq_true y2
      omega
  refine ⟨?_, ?_, ?_, ?_, ?_, ?_, ?_, hnn⟩
  · have e1 : blk I2 1 = blk I 1 := blk_to (fun d hd => far _ (by omega) (by omega) (by omega) (by omega))
    have e2 : kig I2 = kig I := kig_cong (fun c q => far c (by omega) (by omega) (by omega) (by omega)) f7
    rw [e1, e2]
    exact h.live
  · rw [far 12 (by decide) (by decide) (by decide) (by omega)]; exact h.cnt
  · rw [f9, far 12 (by decide) (by decide) (by decide) (by omega)]; exact h.eCnt
  · rw [far 49 (by decide) (by decide) (by decide) (by omega), far 13 (by decide) (by decide) (by decide) (by omega)]; exact h.sgn
  · rw [far 33 (by decide) (by decide) (by decide) (by omega)]; exact h.b0
  · exact mine
  · exact other

theorem Inv.kept1 {q0 q1 : Option Nat} {N N' m : Nat} {I I2 : zI} (h : Inv q0 q1 N I) (hm : m = 58 ∨ m = 69) (hN : m + 11 ≤ N') (hNN : N ≤ N') (ho : q0 ≠ some m) (hnn : ((q0n q0 m 1 = none ∧ q1n q1 m 1 = none ∧ N' = 58) ∨ (q0n q0 m 1 = some 58 ∧ q1n q1 m 1 = none ∧ N' = 69) ∨ (q0n q0 m 1 = none ∧ q1n q1 m 1 = some 58 ∧ N' = 69) ∨ (q0n q0 m 1 = some 58 ∧ q1n q1 m 1 = some 69 ∧ N' = 80) ∨ (q0n q0 m 1 = some 69 ∧ q1n q1 m 1 = some 58 ∧ N' = 80))) (h2 : ∀ c, ¬ zscr c → I2 c = kmgI (zbec I m 1) (nI 1) c) (h7 : I2 40 7 = kmgI (zbec I m 1) (nI 1) 40 7) (h9 : I2 40 9 = kmgI (zbec I m 1) (nI 1) 40 9) : Inv (q0n q0 m 1) (q1n q1 m 1) N' I2 := by
  rw [kmg_is (by decide)] at h2 h7 h9
  have far : ∀ c, c ≠ 40 → c ≠ 42 → ¬ (50 ≤ c ∧ c ≤ 57) → ¬ (m ≤ c ∧ c ≤ m + 10) → I2 c = I c := by
    intro c a1 a2 a3 a4
    rw [h2 c (nscr (by omega)), zrn _ _ (by omega), zrow_ne _ _ (by omega), zbec_out (by omega)]
  have f7 : I2 40 7 = I 40 7 := by rw [h7, zrn _ _ (by decide), zrow_ne _ _ (by decide), zbec_out (by omega)]
  have f9 : I2 40 9 = I 40 9 := by rw [h9, zrn _ _ (by decide), zrow_ne _ _ (by decide), zbec_out (by omega)]
  have f56 : I2 56 = kim (zbec I m 1) 1 (fun j => decide (j < 67 ∨ j = 70)) := by rw [h2 56 (nscr (by decide)), zrn _ _ (by decide), zrow_k]
  have f57 : I2 57 = upd (I 57) 1 1 := by rw [h2 57 (nscr (by decide)), zu_row, zrow_ne _ _ (by decide), zbec_out (by omega)]
  have ek : kig (zbec I m 1) = kig I := kig_cong (fun c q => zbec_out (by omega)) (by rw [zbec_out (by omega)])
  have mine : Img (some m) N' I2 1 := by
    refine Or.inr ⟨m, rfl, hm, hN, by rw [f57, pk_us]; decide, ?_⟩
    have e : blk I2 m = blk I 1 := blk_to (fun d hd => by rw [h2 _ (nscr (by omega)), zrn _ _ (by omega), zrow_ne _ _ (by omega), zbec_in hd])
    rw [e]
    refine h.live.cF (fun j hj => ?_)
    rw [f56]
    unfold kim
    rw [show 80 * 1 + j - 80 * 1 = j by omega, if_pos ⟨by omega, decide_eq_true hj⟩, ek]
  have other : Img q0 N' I2 0 := by
    have ho' := h.im0
    rcases ho' with ⟨z1, z2⟩ | ⟨m', z1, z2, z3, z4, z5⟩
    · exact Or.inl ⟨z1, by rw [f57, pk_un (by decide)]; exact z2⟩
    · have hne : m' ≠ m := fun e => ho (by rw [z1, e])
      refine Or.inr ⟨m', z1, z2, by omega, by rw [f57, pk_un (by decide)]; exact z4, ?_⟩
      have e : blk I2 m' = blk I m' := blk_to (fun d hd => far _ (by omega) (by omega) (by omega) (by omega))
      rw [e]
      refine z5.cF (fun j hj => ?_)
      rw [f56]
      unfold kim
      rw [if_neg, zbec_out (by omega)]
      rintro ⟨y1, y2⟩
      have y2 := of_decide_eq_true y2
      omega
  refine ⟨?_, ?_, ?_, ?_, ?_, ?_, ?_, hnn⟩
  · have e1 : blk I2 1 = blk I 1 := blk_to (fun d hd => far _ (by omega) (by omega) (by omega) (by omega))
    have e2 : kig I2 = kig I := kig_cong (fun c q => far c (by omega) (by omega) (by omega) (by omega)) f7
    rw [e1, e2]
    exact h.live
  · rw [far 12 (by decide) (by decide) (by decide) (by omega)]; exact h.cnt
  · rw [f9, far 12 (by decide) (by decide) (by decide) (by omega)]; exact h.eCnt
  · rw [far 49 (by decide) (by decide) (by decide) (by omega), far 13 (by decide) (by decide) (by decide) (by omega)]; exact h.sgn
  · rw [far 33 (by decide) (by decide) (by decide) (by omega)]; exact h.b0
  · exact other
  · exact mine

