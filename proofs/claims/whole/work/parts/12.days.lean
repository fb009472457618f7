theorem zaw_ne {w : Nat} (h : ¬ zaw w = -1) : w ≠ 3 := fun e => h (by rw [e]; rfl)
theorem zaw_3 {w : Nat} (hw : w < 4) (h : zaw w = -1) : w = 3 := by
  rcases (show w = 0 ∨ w = 1 ∨ w = 2 ∨ w = 3 by omega) with rfl | rfl | rfl | rfl
  · exact absurd h (by decide)
  · exact absurd h (by decide)
  · exact absurd h (by decide)
  · rfl
theorem zaw_nI {w : Nat} (h : w ≠ 3) : zaw w = nI w := by simp [zaw, h]
theorem sg_in {f : Nat → Int32} {n p : Nat} (h : p < n) : sg_ f n p = f p := by simp [sg_, h]
theorem nI_z {n : Nat} (hn : n < 2 ^ 31) : nI n = 0 ↔ n = 0 := by rw [show (0 : Int32) = nI 0 from rfl, nI_eq hn (by omega)]
theorem rn_end {f : Nat → Int32} {n d p : Nat} {I : zI} (h : n ≤ p) : rn_ f n d p I = I := by
  cases d with
  | zero => rfl
  | succ d => simp [rn_, h]
theorem rn_0 {f : Nat → Int32} {n p : Nat} {I : zI} : rn_ f n 0 p I = I := rfl
/-- letters, digits as small numbers -/
theorem lt_ex {s : Int32} (h : lt_ s = true) : ∃ k, k < 6 ∧ s - 65 = nI k := by
  obtain ⟨h1, h2⟩ := zin_t h
  have hs : ¬ s < 0 := Int32.not_lt.mpr (Int32.le_trans (by decide) h1)
  obtain ⟨j, hj, rfl⟩ := nI_of hs
  have h1 := (nI_leI (a := 65) (by decide) hj).mp h1
  have h2 := (nI_leI (b := 70) hj (by decide)).mp h2
  exact ⟨j - 65, by omega, pk_sub (b := 65) h1⟩
theorem dg_ex {s : Int32} (h : zin s 48 53 = true) : ∃ k, k < 6 ∧ s - 48 = nI k := by
  obtain ⟨h1, h2⟩ := zin_t h
  have hs : ¬ s < 0 := Int32.not_lt.mpr (Int32.le_trans (by decide) h1)
  obtain ⟨j, hj, rfl⟩ := nI_of hs
  have h1 := (nI_leI (a := 48) (by decide) hj).mp h1
  have h2 := (nI_leI (b := 53) hj (by decide)).mp h2
  exact ⟨j - 48, by omega, pk_sub (b := 48) h1⟩
theorem zx_of {x : Int32} {k : Nat} (hk : k < 6) (h : x = nI k) : x = nI (zx x) ∧ zx x < 6 := by
  subst h
  rw [zx_nI (by omega)]
  exact ⟨rfl, hk⟩
theorem ds_no {f : Nat → Int32} {n : Nat} (h : fp_ f n = none) : ∀ i, i ≤ n → ds_ f i ≠ 3 := by
  induction n with
  | zero => intro i hi; rw [show i = 0 by omega]; simp [ds_]
  | succ n ih =>
    intro i hi
    simp only [fp_] at h
    split at h
    · cases h
    · rename_i h0
      by_cases e : i = n + 1
      · subst e
        intro q
        rw [if_pos q] at h
        cases h
      · exact ih h0 i (by omega)
/-- an ACT of DAYS without a FAULT -/
theorem rd_ok {f : Nat → Int32} {n p : Nat} (hf : fp_ f n = none) (hd : ds_ f n = 0) (hp : p < n) (h0 : ds_ f p = 0) :
    rdK f n p < 5 ∧ (rdA f n p = nI (zx (rdA f n p)) ∧ zx (rdA f n p) < 6) ∧ (rdK f n p ≤ 1 → rdB f n p = nI (zx (rdB f n p)) ∧ zx (rdB f n p) < 6) ∧ ds_ f (p + rdL f n p) = 0 ∧ p + rdL f n p ≤ n ∧ 1 ≤ rdL f n p := by
  have h1 : ds_ f (p + 1) = awN 0 (f p) := by rw [ds_, h0]
  have n1 := ds_no hf (p + 1) (by omega)
  have hs := sg_in (f := f) hp
  by_cases hl : lt_ (f p) = true
  · have hd1 : ds_ f (p + 1) = 1 := by rw [h1]; simp [awN, hl]
    have hp1 : p + 1 < n := by
      rcases Nat.lt_or_ge (p + 1) n with q | q
      · exact q
      · rw [show n = p + 1 by omega, hd1] at hd; cases hd
    have hs1 := sg_in (f := f) hp1
    have h2 : ds_ f (p + 2) = awN 1 (f (p + 1)) := by rw [ds_, hd1]
    have n2 := ds_no hf (p + 2) (by omega)
    have hA : rdA f n p = f p - 65 := by simp [rdA, hs, hl]
    obtain ⟨ka, hka, ea⟩ := lt_ex hl
    have hA2 := zx_of hka (hA.trans ea)
    by_cases h43 : f (p + 1) = 43
    · have hd2 : ds_ f (p + 2) = 2 := by rw [h2]; simp [awN, h43]
      have hp2 : p + 2 < n := by
        rcases Nat.lt_or_ge (p + 2) n with q | q
        · exact q
        · rw [show n = p + 2 by omega, hd2] at hd; cases hd
      have hs2 := sg_in (f := f) hp2
      have h3 : ds_ f (p + 3) = awN 2 (f (p + 2)) := by rw [ds_, hd2]
      have n3 := ds_no hf (p + 3) (by omega)
      have hl2 : lt_ (f (p + 2)) = true := by
        cases q : lt_ (f (p + 2)) with
        | true => rfl
        | false => exact absurd (by rw [h3]; simp [awN, q]) n3
      have hd3 : ds_ f (p + 3) = 0 := by rw [h3]; simp [awN, hl2]
      have hL : rdL f n p = 3 := by simp [rdL, hs, hl, hs1, h43]
      have hK : rdK f n p = 1 := by simp [rdK, hs, hl, hs1, h43]
      have hB : rdB f n p = f (p + 2) - 65 := by simp [rdB, hs, hl, hs1, h43, hs2]
      obtain ⟨kb, hkb, eb⟩ := lt_ex hl2
      rw [hL, hK]
      exact ⟨by omega, hA2, fun _ => zx_of hkb (hB.trans eb), hd3, by omega, by omega⟩
    · by_cases h95 : f (p + 1) = 95
      · have hd2 : ds_ f (p + 2) = 0 := by rw [h2]; simp [awN, h95]
        have hL : rdL f n p = 2 := by simp [rdL, hs, hl, hs1, h43]
        have hK : rdK f n p = 2 := by simp [rdK, hs, hl, hs1, h95]
        rw [hL, hK]
        exact ⟨by omega, hA2, fun q => absurd q (by omega), hd2, by omega, by omega⟩
      · have hz : zin (f (p + 1)) 48 53 = true := by
          cases q : zin (f (p + 1)) 48 53 with
          | true => rfl
          | false => exact absurd (by rw [h2]; simp [awN, h43, h95, q]) n2
        have hd2 : ds_ f (p + 2) = 0 := by rw [h2]; simp [awN, h43, h95, hz]
        have hL : rdL f n p = 2 := by simp [rdL, hs, hl, hs1, h43]
        have hK : rdK f n p = 0 := by simp [rdK, hs, hl, hs1, h43, h95]
        have hB : rdB f n p = f (p + 1) - 48 := by simp [rdB, hs, hl, hs1, h43]
        obtain ⟨kb, hkb, eb⟩ := dg_ex hz
        rw [hL, hK]
        exact ⟨by omega, hA2, fun _ => zx_of hkb (hB.trans eb), hd2, by omega, by omega⟩
  · have hl : lt_ (f p) = false := by simpa using hl
    have hL : rdL f n p = 1 := by simp [rdL, hs, hl]
    have hd1 : ds_ f (p + 1) = 0 := by
      rw [h1]
      have q : awN 0 (f p) ≠ 3 := by rw [← h1]; exact n1
      revert q
      simp only [awN, hl]
      by_cases a : f p = 126
      · simp [a]
      · by_cases b : f p = 46
        · simp [b]
        · simp [a, b]
    have hA : rdA f n p = 0 := by simp [rdA, hs, hl]
    have hK : 3 ≤ rdK f n p ∧ rdK f n p < 5 := by
      simp only [rdK, hs, hl]
      by_cases a : f p = 126 <;> simp [a]
    rw [hL]
    exact ⟨hK.2, zx_of (k := 0) (by omega) (hA.trans rfl), fun q => absurd q (by omega), hd1, by omega, by omega⟩
/-- what an ACT leaves alone -/
theorem atI_far {I : zI} {k a b c : Nat} (h : c ≠ 15) (h2 : c ≠ 16) (h3 : c ≠ 17) : atI I k a b c = I c := by
  simp only [atI, tkI, jnI, siI, reI, phI]
  repeat' split
  all_goals simp [zrn, zrow_ne, h, h2, h3]
theorem acI_far {I : zI} {c : Nat} (h : c ≠ 15) (h2 : c ≠ 16) (h3 : c ≠ 17) : acI I c = I c := atI_far h h2 h3
theorem ndI_far {I : zI} {c : Nat} (h : c ≠ 14) : ndI I c = I c := by
  simp only [ndI]
  repeat' split
  all_goals simp [zrn, h]
theorem rdI_far {I : zI} {f : Nat → Int32} {n p c : Nat} (h : c ≠ 26) : rdI I f n p c = I c := by simp [rdI, b3I, zrn, h]
theorem dwI_far {I : zI} {lot y c : Nat} (h : c ≠ 26) : dwI I lot y c = I c := by
  simp only [dwI, b3I]
  repeat' split
  all_goals simp [zrn, h]
theorem zrem_nI {a d : Nat} {e : Int32} (he : e = nI d) (ha : a < 2 ^ 31) (h0 : 0 < d) (hd : d < 2 ^ 31) : nI a - nI a / e * e = nI (a % d) := by subst he; exact pk_rem ha h0 hd
theorem zdiv_nI {a d : Nat} {e : Int32} (he : e = nI d) (ha : a < 2 ^ 31) (h0 : 0 < d) (hd : d < 2 ^ 31) : nI a / e = nI (a / d) := by subst he; exact pk_div ha h0 hd
theorem yx_step {x : Nat} (h : x < 65537) : (75 * nI x + 74) - (75 * nI x + 74) / 65537 * 65537 = nI ((75 * x + 74) % 65537) := by
  rw [show (75 : Int32) * nI x + 74 = nI (75 * x + 74) from by rw [show (75 : Int32) = nI 75 from rfl, pk_mul, show (74 : Int32) = nI 74 from rfl, nI_add]]
  exact zrem_nI (d := 65537) rfl (by omega) (by omega) (by omega)
theorem dw_ok {I : zI} {lot y : Nat} (hl : lot < 8) : (zx (dwI I lot y 26 0) < 5 ∧ dwI I lot y 26 0 = nI (zx (dwI I lot y 26 0))) ∧ (dwI I lot y 26 1 = nI (zx (dwI I lot y 26 1)) ∧ zx (dwI I lot y 26 1) < 6) ∧ (zx (dwI I lot y 26 0) ≤ 1 → dwI I lot y 26 2 = nI (zx (dwI I lot y 26 2)) ∧ zx (dwI I lot y 26 2) < 6) := by
  have k1 : y / 6 % 6 < 6 := Nat.mod_lt _ (by omega)
  have k2 : y % 6 < 6 := Nat.mod_lt _ (by omega)
  have z0 : (0 : Int32) = nI 0 := rfl
  have q : ∀ k : Nat, k < 6 → nI k = nI (zx (nI k)) ∧ zx (nI k) < 6 := fun k hk => zx_of hk rfl
  have e : ∀ (x a b : Int32), b3I I x a b 26 0 = x ∧ b3I I x a b 26 1 = a ∧ b3I I x a b 26 2 = b := fun x a b => by simp [b3I, zu]
  unfold dwI
  split
  · obtain ⟨e1, e2, e3⟩ := e 0 (nI (y / 6 % 6)) (nI (y % 6))
    rw [e1, e2, e3]
    exact ⟨⟨by decide, rfl⟩, q _ k1, fun _ => q _ k2⟩
  · split
    · obtain ⟨e1, e2, e3⟩ := e 2 (nI (y % 6)) 0
      rw [e1, e2, e3]
      exact ⟨⟨by decide, rfl⟩, q _ k2, fun h => absurd h (by decide)⟩
    · split
      · obtain ⟨e1, e2, e3⟩ := e 3 0 0
        rw [e1, e2, e3]
        exact ⟨⟨by decide, rfl⟩, q 0 (by omega), fun h => absurd h (by decide)⟩
      · obtain ⟨e1, e2, e3⟩ := e 4 0 0
        rw [e1, e2, e3]
        exact ⟨⟨by decide, rfl⟩, q 0 (by omega), fun h => absurd h (by decide)⟩
theorem ct_X3_attempt_z {g : zG} {N : Nat} {I : zI} {L : zL} {q0 q1 : Option Nat} (hN : 58 ≤ N) (hk : zx (I 26 0) < 5 ∧ I 26 0 = nI (zx (I 26 0))) (h1 : I 26 1 = nI (zx (I 26 1)) ∧ zx (I 26 1) < 6) (h2 : zx (I 26 0) ≤ 1 → I 26 2 = nI (zx (I 26 2)) ∧ zx (I 26 2) < 6) : Ct g yX3_attempt mX3_attempt [.ref (g.2.1 + 15), .ref (g.2.1 + 26)] N I L (zRw q0 q1) (zD (some (.int (acR I))) N (acI I) L (zRw q0 q1)) :=
  ct_X3_attempt hN hk.1 hk.2 h1.1 (fun h => (h2 h).1) h1.2 (fun h => (h2 h).2)
theorem rd26 {J : zI} {f : Nat → Int32} {n p : Nat} : rdI J f n p 26 0 = nI (rdK f n p) ∧ rdI J f n p 26 1 = rdA f n p ∧ rdI J f n p 26 2 = rdB f n p := by simp [rdI, b3I, zu]

theorem ct_X0_become {g : zG} {N : Nat} {I : zI} {L : zL} {q0 q1 : Option Nat} {k a b : Int32} (hN : 58 ≤ N) : Ct g yX0_become mX0_become [.ref (g.2.1 + 26), .int k, .int a, .int b] N I L (zRw q0 q1) (zD none N (b3I I k a b) L (zRw q0 q1)) := by
  refine Ct_of (lo0 := [some (.ref (g.2.1 + 26)), some (.int k), some (.int a), some (.int b)]) rfl rfl rfl rfl (Nat.le_of_ble_eq_true rfl) (fun E => ?_)
  refine x_aload_n dX0_become_0 rfl ?_
  refine x_iload_n dX0_become_1 rfl ?_
  refine x_putI dX0_become_2 fp_X0_9 (by omega) rfl ?_
  refine x_aload_n dX0_become_5 rfl ?_
  refine x_iload_n dX0_become_6 rfl ?_
  refine x_pc (pc2 := 7) rfl ?_
  refine x_putI dX0_become_7 fp_X0_13 (by omega) rfl ?_
  refine x_aload_n dX0_become_10 rfl ?_
  refine x_iload_n dX0_become_11 rfl ?_
  refine x_putI dX0_become_12 fp_X0_16 (by omega) rfl ?_
  exact x_vret dX0_become_15 rfl (Nat.le_of_ble_eq_true rfl) (Nat.le_of_ble_eq_true rfl) ⟨rfl, rfl, by rfl, by rfl, rfl⟩
theorem ct_X5_write {g : zG} {N : Nat} {I : zI} {L : zL} {q0 q1 : Option Nat} {s : Int32} {n : Nat} (hN : 58 ≤ N) (hn : n ≤ 60) (hc : I 12 1 = nI n) : Ct g yX5_write mX5_write [.ref (g.2.1 + 12), .int s] N I L (zRw q0 q1) (zD (some (.int (zb (decide (n < 60))))) N (if n < 60 then zu (zu I 13 n s) 12 1 (nI (n + 1)) else I) L (zRw q0 q1)) := by
  refine Ct_of (lo0 := [some (.ref (g.2.1 + 12)), some (.int s)]) rfl rfl rfl rfl (Nat.le_of_ble_eq_true rfl) (fun E => ?_)
  refine x_aload_n dX5_write_0 rfl ?_
  refine x_getI dX5_write_1 fl_X5_15 (by omega) rfl rfl ?_
  refine x_bipush (v := 60) dX5_write_4 (by decide) ?_
  refine x_icmp_lt (tgt := 11) dX5_write_6 (by decide) (fun h6 => ?_) (fun h6 => ?_)
  · skip
    have hlt : n < 60 := by rw [hc] at h6; exact (nI_ltI (b := 60) (by omega) (by decide)).mp h6
    refine x_aload_n dX5_write_11 rfl ?_
    refine x_getR dX5_write_12 fl_X5_9 (by omega) rfl rfl rfl ?_
    refine x_aload_n dX5_write_15 rfl ?_
    refine x_getI dX5_write_16 fl_X5_15 (by omega) rfl rfl ?_
    refine x_iload_n dX5_write_19 rfl ?_
    refine x_pc (pc2 := 20) rfl ?_
    refine x_iast dX5_write_20 (by omega) rfl hc hlt ?_
    refine x_aload_n dX5_write_21 rfl ?_
    refine x_dup dX5_write_22 rfl ?_
    refine x_getI dX5_write_23 fl_X5_15 (by omega) rfl rfl ?_
    refine x_iconst (v := 1) dX5_write_26 (by decide) ?_
    refine x_iadd dX5_write_27 ?_
    refine x_pc (pc2 := 28) rfl ?_
    refine x_putI dX5_write_28 fp_X5_15 (by omega) rfl ?_
    refine x_iconst (v := 1) dX5_write_31 (by decide) ?_
    exact x_zret dX5_write_32 rfl rfl (Nat.le_of_ble_eq_true rfl) (Nat.le_of_ble_eq_true rfl) ⟨congrArg (fun z => some (Value.int z)) (by simp [hlt, zb]), rfl, by first | (simp [hge]; done) | (simp [hlt, zu, hc, nI_succ]), by rfl, rfl⟩
  · skip
    have hge : ¬ n < 60 := by rw [hc] at h6; exact mt (nI_ltI (b := 60) (show n < 2 ^ 31 by omega) (by decide)).mpr h6
    refine x_iconst (v := 0) dX5_write_9 (by decide) ?_
    exact x_zret dX5_write_10 rfl rfl (Nat.le_of_ble_eq_true rfl) (Nat.le_of_ble_eq_true rfl) ⟨congrArg (fun z => some (Value.int z)) (by simp [hge, zb]), rfl, by first | (simp [hge]; done) | (simp [hlt, zu, hc, nI_succ]), by rfl, rfl⟩
theorem ct_X5_isLetter {g : zG} {N : Nat} {I : zI} {L : zL} {R : zR} {a : Int32} : Ct g yX5_isLetter mX5_isLetter [.int a] N I L R (zD (some (.int (zb (lt_ a)))) N I L R) := by
  refine Ct_of (lo0 := [some (.int a)]) rfl rfl rfl rfl (Nat.le_of_ble_eq_true rfl) (fun E => ?_)
  refine x_iload_n dX5_isLetter_0 rfl ?_
  refine x_bipush (v := 65) dX5_isLetter_1 (by decide) ?_
  refine x_bipush (v := 70) dX5_isLetter_3 (by decide) ?_
  refine x_callNi dX5_isLetter_5 nn_X5_31 mt_X8_isFrom st_X8_isFrom (ct_X8_isFrom) rfl rfl (Nat.le_of_ble_eq_true rfl) ⟨(Nat.le_of_ble_eq_true rfl), (Nat.le_of_ble_eq_true rfl)⟩ ⟨rfl, rfl⟩ ⟨(Nat.le_of_ble_eq_true rfl), (Nat.le_of_ble_eq_true rfl)⟩ ?_
  exact x_zretb dX5_isLetter_8 rfl (Nat.le_of_ble_eq_true rfl) (Nat.le_of_ble_eq_true rfl) ⟨congrArg (fun z => some (Value.int z)) (by rfl), rfl, by rfl, by rfl, rfl⟩
theorem ct_X5_signAt {g : zG} {N : Nat} {I : zI} {L : zL} {q0 q1 : Option Nat} {p : Nat} {f : Nat → Int32} {n : Nat} (hN : 58 ≤ N) (hc : I 12 1 = nI n) (hn : n ≤ 60) (hf : I 13 = f) (hp : p < 2 ^ 31) : Ct g yX5_signAt mX5_signAt [.ref (g.2.1 + 12), .int (nI p)] N I L (zRw q0 q1) (zD (some (.int (sg_ f n p))) N I L (zRw q0 q1)) := by
  refine Ct_of (lo0 := [some (.ref (g.2.1 + 12)), some (.int (nI p))]) rfl rfl rfl rfl (Nat.le_of_ble_eq_true rfl) (fun E => ?_)
  refine x_iload_n dX5_signAt_0 rfl ?_
  refine x_aload_n dX5_signAt_1 rfl ?_
  refine x_getI dX5_signAt_2 fl_X5_15 (by omega) rfl rfl ?_
  refine x_icmp_ge (tgt := 27) dX5_signAt_5 (by decide) (fun h5 => ?_) (fun h5 => ?_)
  · skip
    rw [hc, nI_leI (by omega) hp] at h5
    refine x_iconst (v := 0) dX5_signAt_27 (by decide) ?_
    exact x_iret dX5_signAt_28 rfl (Nat.le_of_ble_eq_true rfl) (Nat.le_of_ble_eq_true rfl) ⟨congrArg (fun z => some (Value.int z)) (by first | (simp [sg_, show ¬ p < n by omega]; done) | (rw [hf, sg_, if_pos (show p < n by omega)])), rfl, by rfl, by rfl, rfl⟩
  · skip
    rw [hc, nI_leI (by omega) hp] at h5
    refine x_iload_n dX5_signAt_8 rfl ?_
    refine x_iconst (v := 0) dX5_signAt_9 (by decide) ?_
    refine x_bipush (v := 59) dX5_signAt_10 (by decide) ?_
    refine x_callNi dX5_signAt_12 nn_X5_31 mt_X8_isFrom st_X8_isFrom (ct_X8_isFrom) rfl rfl (Nat.le_of_ble_eq_true rfl) ⟨(Nat.le_of_ble_eq_true rfl), (Nat.le_of_ble_eq_true rfl)⟩ ⟨rfl, rfl⟩ ⟨(Nat.le_of_ble_eq_true rfl), (Nat.le_of_ble_eq_true rfl)⟩ ?_
    refine x_if_eq (tgt := 27) dX5_signAt_15 (by decide) (fun h15 => ?_) (fun h15 => ?_)
    · skip
      replace h15 := zb0 h15
      exact absurd h15 (by rw [show zin (nI p) 0 59 = true from by rw [show (0 : Int32) = nI 0 from rfl, show (59 : Int32) = nI 59 from rfl, zin_nI (by omega) (by omega) (by omega)]; simp; omega]; decide)
    · skip
      replace h15 := zb1 h15
      refine x_aload_n dX5_signAt_18 rfl ?_
      refine x_getR dX5_signAt_19 fl_X5_9 (by omega) rfl rfl rfl ?_
      refine x_iload_n dX5_signAt_22 rfl ?_
      refine x_ialdN dX5_signAt_23 (by omega) rfl rfl (by omega) ?_
      refine x_goto (tgt := 28) dX5_signAt_24 (by decide) ?_
      exact x_iret dX5_signAt_28 rfl (Nat.le_of_ble_eq_true rfl) (Nat.le_of_ble_eq_true rfl) ⟨congrArg (fun z => some (Value.int z)) (by first | (simp [sg_, show ¬ p < n by omega]; done) | (rw [hf, sg_, if_pos (show p < n by omega)])), rfl, by rfl, by rfl, rfl⟩
theorem ct_X5_awaitedAfter {g : zG} {N : Nat} {I : zI} {L : zL} {R : zR} {w : Nat} {s : Int32} (hw : w < 3) : Ct g yX5_awaitedAfter mX5_awaitedAfter [.int (nI w), .int s] N I L R (zD (some (.int (zaw (awN w s)))) N I L R) := by
  refine Ct_of (lo0 := [some (.int (nI w)), some (.int s)]) rfl rfl rfl rfl (Nat.le_of_ble_eq_true rfl) (fun E => ?_)
  refine x_iload_n dX5_awaitedAfter_0 rfl ?_
  rcases (show w = 0 ∨ w = 1 ∨ w = 2 by omega) with rfl | rfl | rfl
  · skip
    refine x_lookup (off := 27) (tgt := 28) dX5_awaitedAfter_1 (by decide) (by decide) (by decide) ?_
    refine x_iload_n dX5_awaitedAfter_28 rfl ?_
    refine x_callSi dX5_awaitedAfter_29 ml_X5_27 mt_X5_isLetter st_X5_isLetter (ct_X5_isLetter) rfl rfl (Nat.le_of_ble_eq_true rfl) ⟨(Nat.le_of_ble_eq_true rfl), (Nat.le_of_ble_eq_true rfl)⟩ ⟨rfl, rfl⟩ ⟨(Nat.le_of_ble_eq_true rfl), (Nat.le_of_ble_eq_true rfl)⟩ ?_
    refine x_if_eq (tgt := 37) dX5_awaitedAfter_32 (by decide) (fun h32 => ?_) (fun h32 => ?_)
    · skip
      replace h32 := zb0 h32
      refine x_iload_n dX5_awaitedAfter_37 rfl ?_
      refine x_bipush (v := 126) dX5_awaitedAfter_38 (by decide) ?_
      refine x_icmp_eq (tgt := 49) dX5_awaitedAfter_40 (by decide) (fun h40 => ?_) (fun h40 => ?_)
      · skip
        refine x_iconst (v := 0) dX5_awaitedAfter_49 (by decide) ?_
        refine x_goto (tgt := 54) dX5_awaitedAfter_50 (by decide) ?_
        exact x_iret dX5_awaitedAfter_54 rfl (Nat.le_of_ble_eq_true rfl) (Nat.le_of_ble_eq_true rfl) ⟨congrArg (fun z => some (Value.int z)) (by first | (simp [awN, zaw, h32, h40]; done) | (simp [awN, zaw, h32, h40]; rfl)), rfl, by rfl, by rfl, rfl⟩
      · skip
        refine x_iload_n dX5_awaitedAfter_43 rfl ?_
        refine x_bipush (v := 46) dX5_awaitedAfter_44 (by decide) ?_
        refine x_icmp_ne (tgt := 53) dX5_awaitedAfter_46 (by decide) (fun h46 => ?_) (fun h46 => ?_)
        · skip
          refine x_iconst (v := (-1)) dX5_awaitedAfter_53 (by decide) ?_
          exact x_iret dX5_awaitedAfter_54 rfl (Nat.le_of_ble_eq_true rfl) (Nat.le_of_ble_eq_true rfl) ⟨congrArg (fun z => some (Value.int z)) (by first | (simp [awN, zaw, h32, h40, h46]; done) | (simp [awN, zaw, h32, h40, h46]; rfl)), rfl, by rfl, by rfl, rfl⟩
        · skip
          refine x_iconst (v := 0) dX5_awaitedAfter_49 (by decide) ?_
          refine x_goto (tgt := 54) dX5_awaitedAfter_50 (by decide) ?_
          exact x_iret dX5_awaitedAfter_54 rfl (Nat.le_of_ble_eq_true rfl) (Nat.le_of_ble_eq_true rfl) ⟨congrArg (fun z => some (Value.int z)) (by first | (simp [awN, zaw, h32, h40, h46]; done) | (simp [awN, zaw, h32, h40, h46]; rfl)), rfl, by rfl, by rfl, rfl⟩
    · skip
      replace h32 := zb1 h32
      refine x_iconst (v := 1) dX5_awaitedAfter_35 (by decide) ?_
      exact x_iret dX5_awaitedAfter_36 rfl (Nat.le_of_ble_eq_true rfl) (Nat.le_of_ble_eq_true rfl) ⟨congrArg (fun z => some (Value.int z)) (by first | (simp [awN, zaw, h32]; done) | (simp [awN, zaw, h32]; rfl)), rfl, by rfl, by rfl, rfl⟩
  · skip
    refine x_lookup (off := 54) (tgt := 55) dX5_awaitedAfter_1 (by decide) (by decide) (by decide) ?_
    refine x_iload_n dX5_awaitedAfter_55 rfl ?_
    refine x_bipush (v := 43) dX5_awaitedAfter_56 (by decide) ?_
    refine x_icmp_ne (tgt := 63) dX5_awaitedAfter_58 (by decide) (fun h58 => ?_) (fun h58 => ?_)
    · skip
      refine x_iload_n dX5_awaitedAfter_63 rfl ?_
      refine x_bipush (v := 95) dX5_awaitedAfter_64 (by decide) ?_
      refine x_icmp_eq (tgt := 80) dX5_awaitedAfter_66 (by decide) (fun h66 => ?_) (fun h66 => ?_)
      · skip
        refine x_iconst (v := 0) dX5_awaitedAfter_80 (by decide) ?_
        refine x_goto (tgt := 85) dX5_awaitedAfter_81 (by decide) ?_
        exact x_iret dX5_awaitedAfter_85 rfl (Nat.le_of_ble_eq_true rfl) (Nat.le_of_ble_eq_true rfl) ⟨congrArg (fun z => some (Value.int z)) (by first | (simp [awN, zaw, h58, h66]; done) | (simp [awN, zaw, h58, h66]; rfl)), rfl, by rfl, by rfl, rfl⟩
      · skip
        refine x_iload_n dX5_awaitedAfter_69 rfl ?_
        refine x_bipush (v := 48) dX5_awaitedAfter_70 (by decide) ?_
        refine x_bipush (v := 53) dX5_awaitedAfter_72 (by decide) ?_
        refine x_callNi dX5_awaitedAfter_74 nn_X5_31 mt_X8_isFrom st_X8_isFrom (ct_X8_isFrom) rfl rfl (Nat.le_of_ble_eq_true rfl) ⟨(Nat.le_of_ble_eq_true rfl), (Nat.le_of_ble_eq_true rfl)⟩ ⟨rfl, rfl⟩ ⟨(Nat.le_of_ble_eq_true rfl), (Nat.le_of_ble_eq_true rfl)⟩ ?_
        refine x_if_eq (tgt := 84) dX5_awaitedAfter_77 (by decide) (fun h77 => ?_) (fun h77 => ?_)
        · skip
          replace h77 := zb0 h77
          refine x_iconst (v := (-1)) dX5_awaitedAfter_84 (by decide) ?_
          exact x_iret dX5_awaitedAfter_85 rfl (Nat.le_of_ble_eq_true rfl) (Nat.le_of_ble_eq_true rfl) ⟨congrArg (fun z => some (Value.int z)) (by first | (simp [awN, zaw, h58, h66, h77]; done) | (simp [awN, zaw, h58, h66, h77]; rfl)), rfl, by rfl, by rfl, rfl⟩
        · skip
          replace h77 := zb1 h77
          refine x_iconst (v := 0) dX5_awaitedAfter_80 (by decide) ?_
          refine x_goto (tgt := 85) dX5_awaitedAfter_81 (by decide) ?_
          exact x_iret dX5_awaitedAfter_85 rfl (Nat.le_of_ble_eq_true rfl) (Nat.le_of_ble_eq_true rfl) ⟨congrArg (fun z => some (Value.int z)) (by first | (simp [awN, zaw, h58, h66, h77]; done) | (simp [awN, zaw, h58, h66, h77]; rfl)), rfl, by rfl, by rfl, rfl⟩
    · skip
      refine x_iconst (v := 2) dX5_awaitedAfter_61 (by decide) ?_
      exact x_iret dX5_awaitedAfter_62 rfl (Nat.le_of_ble_eq_true rfl) (Nat.le_of_ble_eq_true rfl) ⟨congrArg (fun z => some (Value.int z)) (by first | (simp [awN, zaw, h58]; done) | (simp [awN, zaw, h58]; rfl)), rfl, by rfl, by rfl, rfl⟩
  · skip
    refine x_lookup (off := 85) (tgt := 86) dX5_awaitedAfter_1 (by decide) (by decide) (by decide) ?_
    refine x_iload_n dX5_awaitedAfter_86 rfl ?_
    refine x_callSi dX5_awaitedAfter_87 ml_X5_27 mt_X5_isLetter st_X5_isLetter (ct_X5_isLetter) rfl rfl (Nat.le_of_ble_eq_true rfl) ⟨(Nat.le_of_ble_eq_true rfl), (Nat.le_of_ble_eq_true rfl)⟩ ⟨rfl, rfl⟩ ⟨(Nat.le_of_ble_eq_true rfl), (Nat.le_of_ble_eq_true rfl)⟩ ?_
    refine x_if_eq (tgt := 97) dX5_awaitedAfter_90 (by decide) (fun h90 => ?_) (fun h90 => ?_)
    · skip
      replace h90 := zb0 h90
      refine x_iconst (v := (-1)) dX5_awaitedAfter_97 (by decide) ?_
      exact x_iret dX5_awaitedAfter_98 rfl (Nat.le_of_ble_eq_true rfl) (Nat.le_of_ble_eq_true rfl) ⟨congrArg (fun z => some (Value.int z)) (by first | (simp [awN, zaw, h90]; done) | (simp [awN, zaw, h90]; rfl)), rfl, by rfl, by rfl, rfl⟩
    · skip
      replace h90 := zb1 h90
      refine x_iconst (v := 0) dX5_awaitedAfter_93 (by decide) ?_
      refine x_goto (tgt := 98) dX5_awaitedAfter_94 (by decide) ?_
      exact x_iret dX5_awaitedAfter_98 rfl (Nat.le_of_ble_eq_true rfl) (Nat.le_of_ble_eq_true rfl) ⟨congrArg (fun z => some (Value.int z)) (by first | (simp [awN, zaw, h90]; done) | (simp [awN, zaw, h90]; rfl)), rfl, by rfl, by rfl, rfl⟩
theorem ct_X5_findFault {g : zG} {N : Nat} {I : zI} {L : zL} {q0 q1 : Option Nat} {f : Nat → Int32} {n : Nat} (hN : 58 ≤ N) (hc : I 12 1 = nI n) (hn : n ≤ 60) (hf : I 13 = f) : Ct g yX5_findFault mX5_findFault [.ref (g.2.1 + 12)] N I L (zRw q0 q1) (zD (some (.int (ff_ f n))) N I L (zRw q0 q1)) := by
  refine Ct_of (lo0 := [some (.ref (g.2.1 + 12)), none, none]) rfl rfl rfl rfl (Nat.le_of_ble_eq_true rfl) (fun E => ?_)
  refine x_iconst (v := 0) dX5_findFault_0 (by decide) ?_
  refine x_istore_n (lo2 := [_, _, _]) dX5_findFault_1 (by decide) rfl rfl ?_
  refine x_iconst (v := 0) dX5_findFault_2 (by decide) ?_
  refine x_istore_n (lo2 := [_, _, _]) dX5_findFault_3 (by decide) rfl rfl ?_
  refine x_loop (inv := fun i => fp_ f i = none ∧ ds_ f i < 3) (fun i => [some (.ref (g.2.1 + 12)), some (.int (nI (ds_ f i))), some (.int (nI i))]) (fun i => I) (fun i => L) 0 n (by omega) (by exact ⟨rfl, by simp [ds_]⟩) (by rfl) (by rfl) (by rfl) (fun i hloi hhii hinvi Ki => ?_) (fun hinvi => ?_)
  · skip
    refine x_iload_n dX5_findFault_4 rfl ?_
    refine x_aload_n dX5_findFault_5 rfl ?_
    refine x_getI dX5_findFault_6 fl_X5_15 (by omega) rfl rfl ?_
    refine x_icmp_ge (tgt := 35) dX5_findFault_9 (by decide) (fun h9 => ?_) (fun h9 => ?_)
    · skip
      exact absurd (hc ▸ h9) (nI_ge hhii (by omega))
    · skip
      refine x_iload_n dX5_findFault_12 rfl ?_
      refine x_aload_n dX5_findFault_13 rfl ?_
      refine x_iload_n dX5_findFault_14 rfl ?_
      refine x_callVi dX5_findFault_15 ml_X5_19 mt_X5_signAt mv_X5_signAt (ct_X5_signAt hN hc hn hf (by omega)) (by omega) rfl rfl rfl rfl (Nat.le_of_ble_eq_true rfl) ⟨(Nat.le_of_ble_eq_true rfl), (Nat.le_of_ble_eq_true rfl)⟩ ⟨rfl, rfl⟩ ⟨(Nat.le_of_ble_eq_true rfl), (Nat.le_of_ble_eq_true rfl)⟩ ?_
      rw [sg_in hhii]
      refine x_callSi dX5_findFault_18 ml_X5_23 mt_X5_awaitedAfter st_X5_awaitedAfter (ct_X5_awaitedAfter hinvi.2) rfl rfl (Nat.le_of_ble_eq_true rfl) ⟨(Nat.le_of_ble_eq_true rfl), (Nat.le_of_ble_eq_true rfl)⟩ ⟨rfl, rfl⟩ ⟨(Nat.le_of_ble_eq_true rfl), (Nat.le_of_ble_eq_true rfl)⟩ ?_
      refine x_pc (pc2 := 21) rfl ?_
      refine x_istore_n (lo2 := [_, _, _]) dX5_findFault_21 (by decide) rfl rfl ?_
      refine x_iload_n dX5_findFault_22 rfl ?_
      refine x_iconst (v := (-1)) dX5_findFault_23 (by decide) ?_
      refine x_icmp_ne (tgt := 29) dX5_findFault_24 (by decide) (fun h24 => ?_) (fun h24 => ?_)
      · skip
        refine x_iincN (lo2 := [_, _, _]) dX5_findFault_29 rfl rfl rfl ?_
        refine x_goto (tgt := 4) dX5_findFault_32 (by decide) ?_
        exact x_eq (by rw [zaw_nI (w := awN (ds_ f i) (f i)) (zaw_ne h24)]; rfl) (by rfl) (by rfl) (Ki (by exact ⟨by simp [fp_, hinvi.1, show ds_ f (i + 1) ≠ 3 from zaw_ne h24], by have := zaw_ne h24; have := awN_lt (ds_ f i) (f i); show awN (ds_ f i) (f i) < 3; omega⟩))
      · skip
        refine x_iload_n dX5_findFault_27 rfl ?_
        exact x_iret dX5_findFault_28 rfl (Nat.le_of_ble_eq_true rfl) (Nat.le_of_ble_eq_true rfl) ⟨congrArg (fun z => some (Value.int z)) (by rw [ff_, fp_some (fp_first hinvi.1 (zaw_3 (awN_lt _ _) h24)) hhii]), rfl, by rfl, by rfl, rfl⟩
  · skip
    refine x_iload_n dX5_findFault_4 rfl ?_
    refine x_aload_n dX5_findFault_5 rfl ?_
    refine x_getI dX5_findFault_6 fl_X5_15 (by omega) rfl rfl ?_
    refine x_icmp_ge (tgt := 35) dX5_findFault_9 (by decide) (fun h9 => ?_) (fun h9 => ?_)
    · skip
      refine x_iload_n dX5_findFault_35 rfl ?_
      refine x_if_ne (tgt := 44) dX5_findFault_36 (by decide) (fun h36 => ?_) (fun h36 => ?_)
      · skip
        refine x_aload_n dX5_findFault_44 rfl ?_
        refine x_getI dX5_findFault_45 fl_X5_15 (by omega) rfl rfl ?_
        exact x_iret dX5_findFault_48 rfl (Nat.le_of_ble_eq_true rfl) (Nat.le_of_ble_eq_true rfl) ⟨congrArg (fun z => some (Value.int z)) (by first | (rw [ff_, hinvi.1]; rw [nI_z (by omega)] at h36; simp [h36]; done) | (rw [ff_, hinvi.1]; rw [nI_z (by omega)] at h36; simp [h36, hc])), rfl, by rfl, by rfl, rfl⟩
      · skip
        refine x_bipush (v := (-6)) dX5_findFault_39 (by decide) ?_
        refine x_goto (tgt := 48) dX5_findFault_41 (by decide) ?_
        exact x_iret dX5_findFault_48 rfl (Nat.le_of_ble_eq_true rfl) (Nat.le_of_ble_eq_true rfl) ⟨congrArg (fun z => some (Value.int z)) (by first | (rw [ff_, hinvi.1]; rw [nI_z (by omega)] at h36; simp [h36]; done) | (rw [ff_, hinvi.1]; rw [nI_z (by omega)] at h36; simp [h36, hc])), rfl, by rfl, by rfl, rfl⟩
    · skip
      exact absurd (hc ▸ nI_le (Nat.le_refl n) (by omega)) h9
theorem ct_X5_read {g : zG} {N : Nat} {I : zI} {L : zL} {q0 q1 : Option Nat} {p : Nat} {f : Nat → Int32} {n : Nat} (hN : 58 ≤ N) (hc : I 12 1 = nI n) (hn : n ≤ 60) (hf : I 13 = f) (hp : p + 2 < 2 ^ 31) : Ct g yX5_read mX5_read [.ref (g.2.1 + 12), .int (nI p), .ref (g.2.1 + 26)] N I L (zRw q0 q1) (zD (some (.int (nI (rdL f n p)))) N (rdI I f n p) L (zRw q0 q1)) := by
  refine Ct_of (lo0 := [some (.ref (g.2.1 + 12)), some (.int (nI p)), some (.ref (g.2.1 + 26)), none, none]) rfl rfl rfl rfl (Nat.le_of_ble_eq_true rfl) (fun E => ?_)
  refine x_aload_n dX5_read_0 rfl ?_
  refine x_iload_n dX5_read_1 rfl ?_
  refine x_callVi dX5_read_2 ml_X5_19 mt_X5_signAt mv_X5_signAt (ct_X5_signAt hN hc hn hf (by omega)) (by omega) rfl rfl rfl rfl (Nat.le_of_ble_eq_true rfl) ⟨(Nat.le_of_ble_eq_true rfl), (Nat.le_of_ble_eq_true rfl)⟩ ⟨rfl, rfl⟩ ⟨(Nat.le_of_ble_eq_true rfl), (Nat.le_of_ble_eq_true rfl)⟩ ?_
  refine x_istore_n (lo2 := [_, _, _, _, _]) dX5_read_5 (by decide) rfl rfl ?_
  refine x_iload_n dX5_read_6 rfl ?_
  refine x_pc (pc2 := 7) rfl ?_
  refine x_callSi dX5_read_7 ml_X5_27 mt_X5_isLetter st_X5_isLetter (ct_X5_isLetter) rfl rfl (Nat.le_of_ble_eq_true rfl) ⟨(Nat.le_of_ble_eq_true rfl), (Nat.le_of_ble_eq_true rfl)⟩ ⟨rfl, rfl⟩ ⟨(Nat.le_of_ble_eq_true rfl), (Nat.le_of_ble_eq_true rfl)⟩ ?_
  refine x_if_ne (tgt := 32) dX5_read_10 (by decide) (fun h10 => ?_) (fun h10 => ?_)
  · skip
    replace h10 := zb1 h10
    refine x_aload_n dX5_read_32 rfl ?_
    refine x_iload_n dX5_read_33 rfl ?_
    refine x_iconst (v := 1) dX5_read_34 (by decide) ?_
    refine x_iadd dX5_read_35 ?_
    rw [show nI p + 1 = nI (p + 1) from nI_1 p]
    refine x_callVi dX5_read_36 ml_X5_19 mt_X5_signAt mv_X5_signAt (ct_X5_signAt hN hc hn hf (by omega)) (by omega) rfl rfl rfl rfl (Nat.le_of_ble_eq_true rfl) ⟨(Nat.le_of_ble_eq_true rfl), (Nat.le_of_ble_eq_true rfl)⟩ ⟨rfl, rfl⟩ ⟨(Nat.le_of_ble_eq_true rfl), (Nat.le_of_ble_eq_true rfl)⟩ ?_
    refine x_pc (pc2 := 39) rfl ?_
    refine x_istore (lo2 := [_, _, _, _, _]) dX5_read_39 (by decide) rfl rfl ?_
    refine x_iload dX5_read_41 rfl ?_
    refine x_bipush (v := 43) dX5_read_43 (by decide) ?_
    refine x_icmp_ne (tgt := 69) dX5_read_45 (by decide) (fun h45 => ?_) (fun h45 => ?_)
    · skip
      refine x_aload_n dX5_read_69 rfl ?_
      refine x_iload dX5_read_70 rfl ?_
      refine x_bipush (v := 95) dX5_read_72 (by decide) ?_
      refine x_icmp_ne (tgt := 81) dX5_read_74 (by decide) (fun h74 => ?_) (fun h74 => ?_)
      · skip
        refine x_iconst (v := 0) dX5_read_81 (by decide) ?_
        refine x_iload_n dX5_read_82 rfl ?_
        refine x_bipush (v := 65) dX5_read_83 (by decide) ?_
        refine x_isub dX5_read_85 ?_
        refine x_iload dX5_read_86 rfl ?_
        refine x_pc (pc2 := 88) rfl ?_
        refine x_bipush (v := 48) dX5_read_88 (by decide) ?_
        refine x_isub dX5_read_90 ?_
        refine x_callVv dX5_read_91 ml_X5_37 mt_X0_become mv_X0_become (ct_X0_become hN) (by omega) rfl rfl rfl rfl (Nat.le_of_ble_eq_true rfl) ⟨(Nat.le_of_ble_eq_true rfl), (Nat.le_of_ble_eq_true rfl)⟩ ⟨rfl, rfl⟩ ⟨(Nat.le_of_ble_eq_true rfl), (Nat.le_of_ble_eq_true rfl)⟩ ?_
        refine x_iconst (v := 2) dX5_read_94 (by decide) ?_
        exact x_iret dX5_read_95 rfl (Nat.le_of_ble_eq_true rfl) (Nat.le_of_ble_eq_true rfl) ⟨congrArg (fun z => some (Value.int z)) (by first | (simp [rdL, h10, h45, h74]; done) | (simp [rdL, h10, h45, h74]; rfl)), rfl, by first | (simp [rdI, rdK, rdA, rdB, h10, h45, h74]; done) | (simp [rdI, rdK, rdA, rdB, h10, h45, h74]; rfl), by rfl, rfl⟩
      · skip
        refine x_iconst (v := 2) dX5_read_77 (by decide) ?_
        refine x_goto (tgt := 82) dX5_read_78 (by decide) ?_
        refine x_iload_n dX5_read_82 rfl ?_
        refine x_bipush (v := 65) dX5_read_83 (by decide) ?_
        refine x_isub dX5_read_85 ?_
        refine x_iload dX5_read_86 rfl ?_
        refine x_bipush (v := 48) dX5_read_88 (by decide) ?_
        refine x_pc (pc2 := 90) rfl ?_
        refine x_isub dX5_read_90 ?_
        refine x_callVv dX5_read_91 ml_X5_37 mt_X0_become mv_X0_become (ct_X0_become hN) (by omega) rfl rfl rfl rfl (Nat.le_of_ble_eq_true rfl) ⟨(Nat.le_of_ble_eq_true rfl), (Nat.le_of_ble_eq_true rfl)⟩ ⟨rfl, rfl⟩ ⟨(Nat.le_of_ble_eq_true rfl), (Nat.le_of_ble_eq_true rfl)⟩ ?_
        refine x_iconst (v := 2) dX5_read_94 (by decide) ?_
        exact x_iret dX5_read_95 rfl (Nat.le_of_ble_eq_true rfl) (Nat.le_of_ble_eq_true rfl) ⟨congrArg (fun z => some (Value.int z)) (by first | (simp [rdL, h10, h45, h74]; done) | (simp [rdL, h10, h45, h74]; rfl)), rfl, by first | (simp [rdI, rdK, rdA, rdB, h10, h45, h74]; done) | (simp [rdI, rdK, rdA, rdB, h10, h45, h74]; rfl), by rfl, rfl⟩
    · skip
      refine x_aload_n dX5_read_48 rfl ?_
      refine x_iconst (v := 1) dX5_read_49 (by decide) ?_
      refine x_iload_n dX5_read_50 rfl ?_
      refine x_bipush (v := 65) dX5_read_51 (by decide) ?_
      refine x_isub dX5_read_53 ?_
      refine x_pc (pc2 := 54) rfl ?_
      refine x_aload_n dX5_read_54 rfl ?_
      refine x_iload_n dX5_read_55 rfl ?_
      refine x_iconst (v := 2) dX5_read_56 (by decide) ?_
      refine x_iadd dX5_read_57 ?_
      rw [show nI p + 2 = nI (p + 2) from nI_add p 2]
      refine x_callVi dX5_read_58 ml_X5_19 mt_X5_signAt mv_X5_signAt (ct_X5_signAt hN hc hn hf (by omega)) (by omega) rfl rfl rfl rfl (Nat.le_of_ble_eq_true rfl) ⟨(Nat.le_of_ble_eq_true rfl), (Nat.le_of_ble_eq_true rfl)⟩ ⟨rfl, rfl⟩ ⟨(Nat.le_of_ble_eq_true rfl), (Nat.le_of_ble_eq_true rfl)⟩ ?_
      refine x_bipush (v := 65) dX5_read_61 (by decide) ?_
      refine x_pc (pc2 := 63) rfl ?_
      refine x_isub dX5_read_63 ?_
      refine x_callVv dX5_read_64 ml_X5_37 mt_X0_become mv_X0_become (ct_X0_become hN) (by omega) rfl rfl rfl rfl (Nat.le_of_ble_eq_true rfl) ⟨(Nat.le_of_ble_eq_true rfl), (Nat.le_of_ble_eq_true rfl)⟩ ⟨rfl, rfl⟩ ⟨(Nat.le_of_ble_eq_true rfl), (Nat.le_of_ble_eq_true rfl)⟩ ?_
      refine x_iconst (v := 3) dX5_read_67 (by decide) ?_
      exact x_iret dX5_read_68 rfl (Nat.le_of_ble_eq_true rfl) (Nat.le_of_ble_eq_true rfl) ⟨congrArg (fun z => some (Value.int z)) (by first | (simp [rdL, h10, h45]; done) | (simp [rdL, h10, h45]; rfl)), rfl, by first | (simp [rdI, rdK, rdA, rdB, h10, h45]; done) | (simp [rdI, rdK, rdA, rdB, h10, h45]; rfl), by rfl, rfl⟩
  · skip
    replace h10 := zb0 h10
    refine x_aload_n dX5_read_13 rfl ?_
    refine x_iload_n dX5_read_14 rfl ?_
    refine x_bipush (v := 126) dX5_read_15 (by decide) ?_
    refine x_icmp_ne (tgt := 24) dX5_read_17 (by decide) (fun h17 => ?_) (fun h17 => ?_)
    · skip
      refine x_iconst (v := 4) dX5_read_24 (by decide) ?_
      refine x_iconst (v := 0) dX5_read_25 (by decide) ?_
      refine x_iconst (v := 0) dX5_read_26 (by decide) ?_
      refine x_callVv dX5_read_27 ml_X5_37 mt_X0_become mv_X0_become (ct_X0_become hN) (by omega) rfl rfl rfl rfl (Nat.le_of_ble_eq_true rfl) ⟨(Nat.le_of_ble_eq_true rfl), (Nat.le_of_ble_eq_true rfl)⟩ ⟨rfl, rfl⟩ ⟨(Nat.le_of_ble_eq_true rfl), (Nat.le_of_ble_eq_true rfl)⟩ ?_
      refine x_iconst (v := 1) dX5_read_30 (by decide) ?_
      refine x_pc (pc2 := 31) rfl ?_
      exact x_iret dX5_read_31 rfl (Nat.le_of_ble_eq_true rfl) (Nat.le_of_ble_eq_true rfl) ⟨congrArg (fun z => some (Value.int z)) (by first | (simp [rdL, h10, h17]; done) | (simp [rdL, h10, h17]; rfl)), rfl, by first | (simp [rdI, rdK, rdA, rdB, h10, h17]; done) | (simp [rdI, rdK, rdA, rdB, h10, h17]; rfl), by rfl, rfl⟩
    · skip
      refine x_iconst (v := 3) dX5_read_20 (by decide) ?_
      refine x_goto (tgt := 25) dX5_read_21 (by decide) ?_
      refine x_iconst (v := 0) dX5_read_25 (by decide) ?_
      refine x_iconst (v := 0) dX5_read_26 (by decide) ?_
      refine x_callVv dX5_read_27 ml_X5_37 mt_X0_become mv_X0_become (ct_X0_become hN) (by omega) rfl rfl rfl rfl (Nat.le_of_ble_eq_true rfl) ⟨(Nat.le_of_ble_eq_true rfl), (Nat.le_of_ble_eq_true rfl)⟩ ⟨rfl, rfl⟩ ⟨(Nat.le_of_ble_eq_true rfl), (Nat.le_of_ble_eq_true rfl)⟩ ?_
      refine x_iconst (v := 1) dX5_read_30 (by decide) ?_
      exact x_iret dX5_read_31 rfl (Nat.le_of_ble_eq_true rfl) (Nat.le_of_ble_eq_true rfl) ⟨congrArg (fun z => some (Value.int z)) (by first | (simp [rdL, h10, h17]; done) | (simp [rdL, h10, h17]; rfl)), rfl, by first | (simp [rdI, rdK, rdA, rdB, h10, h17]; done) | (simp [rdI, rdK, rdA, rdB, h10, h17]; rfl), by rfl, rfl⟩
theorem ct_X1_begin {g : zG} {N : Nat} {I : zI} {L : zL} {q0 q1 : Option Nat} (hN : 58 ≤ N) (hz : ∀ i, i < 8 → narrow .boolean (.int (I 11 i)) = .int (I 11 i)) : Ct g yX1_begin mX1_begin [.ref (g.2.1 + 14), .ref (g.2.1 + 1)] N I L (zRw q0 q1) (zD none N (bgI I) L (zRw q0 q1)) := by
  refine Ct_of (lo0 := [some (.ref (g.2.1 + 14)), some (.ref (g.2.1 + 1))]) rfl rfl rfl rfl (Nat.le_of_ble_eq_true rfl) (fun E => ?_)
  refine x_aload_n dX1_begin_0 rfl ?_
  refine x_getR dX1_begin_1 fl_X1_12 (by omega) rfl rfl rfl ?_
  refine x_aload_n dX1_begin_4 rfl ?_
  refine x_callVv dX1_begin_5 ml_X1_61 mt_X3_become mv_X3_become (ct_X3_become_15_1 hN hz) (by omega) rfl rfl rfl rfl (Nat.le_of_ble_eq_true rfl) ⟨(Nat.le_of_ble_eq_true rfl), (Nat.le_of_ble_eq_true rfl)⟩ ⟨rfl, rfl⟩ ⟨(Nat.le_of_ble_eq_true rfl), (Nat.le_of_ble_eq_true rfl)⟩ ?_
  refine x_aload_n dX1_begin_8 rfl ?_
  refine x_pc (pc2 := 9) rfl ?_
  refine x_iconst (v := 0) dX1_begin_9 (by decide) ?_
  refine x_putI dX1_begin_10 fp_X1_25 (by omega) rfl ?_
  refine x_aload_n dX1_begin_13 rfl ?_
  refine x_iconst (v := 0) dX1_begin_14 (by decide) ?_
  refine x_putI dX1_begin_15 fp_X1_29 (by omega) rfl ?_
  refine x_aload_n dX1_begin_18 rfl ?_
  refine x_pc (pc2 := 19) rfl ?_
  refine x_iconst (v := 0) dX1_begin_19 (by decide) ?_
  refine x_putI dX1_begin_20 fp_X1_32 (by omega) rfl ?_
  refine x_aload_n dX1_begin_23 rfl ?_
  refine x_bipush (v := (-6)) dX1_begin_24 (by decide) ?_
  refine x_putI dX1_begin_26 fp_X1_35 (by omega) rfl ?_
  refine x_aload_n dX1_begin_29 rfl ?_
  refine x_pc (pc2 := 30) rfl ?_
  refine x_bipush (v := (-6)) dX1_begin_30 (by decide) ?_
  refine x_putI dX1_begin_32 fp_X1_38 (by omega) rfl ?_
  exact x_vret dX1_begin_35 rfl (Nat.le_of_ble_eq_true rfl) (Nat.le_of_ble_eq_true rfl) ⟨rfl, rfl, by rfl, by rfl, rfl⟩
theorem ct_X1_noteDown {g : zG} {N : Nat} {I : zI} {L : zL} {q0 q1 : Option Nat} (hN : 58 ≤ N) : Ct g yX1_noteDown mX1_noteDown [.ref (g.2.1 + 14)] N I L (zRw q0 q1) (zD none N (ndI I) L (zRw q0 q1)) := by
  refine Ct_of (lo0 := [some (.ref (g.2.1 + 14))]) rfl rfl rfl rfl (Nat.le_of_ble_eq_true rfl) (fun E => ?_)
  refine x_aload_n dX1_noteDown_0 rfl ?_
  refine x_getR dX1_noteDown_1 fl_X1_21 (by omega) rfl rfl rfl ?_
  refine x_getI dX1_noteDown_4 fl_X1_64 (by omega) rfl rfl ?_
  refine x_if_ne (tgt := 27) dX1_noteDown_7 (by decide) (fun h7 => ?_) (fun h7 => ?_)
  · skip
    exact x_vret dX1_noteDown_27 rfl (Nat.le_of_ble_eq_true rfl) (Nat.le_of_ble_eq_true rfl) ⟨rfl, rfl, by simp [ndI, zu, h7], by rfl, rfl⟩
  · skip
    refine x_aload_n dX1_noteDown_10 rfl ?_
    refine x_getR dX1_noteDown_11 fl_X1_12 (by omega) rfl rfl rfl ?_
    refine x_aload_n dX1_noteDown_14 rfl ?_
    refine x_getR dX1_noteDown_15 fl_X1_21 (by omega) rfl rfl rfl ?_
    refine x_getI dX1_noteDown_18 fl_X1_67 (by omega) rfl rfl ?_
    refine x_pc (pc2 := 21) rfl ?_
    refine x_callVi dX1_noteDown_21 ml_X1_70 mt_X3_isThere mv_X3_isThere (ct_X3_isThere (Or.inr (Or.inl rfl)) (by omega)) (by omega) rfl rfl rfl rfl (Nat.le_of_ble_eq_true rfl) ⟨(Nat.le_of_ble_eq_true rfl), (Nat.le_of_ble_eq_true rfl)⟩ ⟨rfl, rfl⟩ ⟨(Nat.le_of_ble_eq_true rfl), (Nat.le_of_ble_eq_true rfl)⟩ ?_
    refine x_if_eq (tgt := 28) dX1_noteDown_24 (by decide) (fun h24 => ?_) (fun h24 => ?_)
    · skip
      replace h24 := zb0 h24
      refine x_aload_n dX1_noteDown_28 rfl ?_
      refine x_getI dX1_noteDown_29 fl_X1_32 (by omega) rfl rfl ?_
      refine x_if_ne (tgt := 54) dX1_noteDown_32 (by decide) (fun h32 => ?_) (fun h32 => ?_)
      · skip
        refine x_aload_n dX1_noteDown_54 rfl ?_
        refine x_dup dX1_noteDown_55 rfl ?_
        refine x_getI dX1_noteDown_56 fl_X1_32 (by omega) rfl rfl ?_
        refine x_iconst (v := 1) dX1_noteDown_59 (by decide) ?_
        refine x_iadd dX1_noteDown_60 ?_
        refine x_pc (pc2 := 61) rfl ?_
        refine x_putI dX1_noteDown_61 fp_X1_32 (by omega) rfl ?_
        exact x_vret dX1_noteDown_64 rfl (Nat.le_of_ble_eq_true rfl) (Nat.le_of_ble_eq_true rfl) ⟨rfl, rfl, by simp [ndI, zu, h7, h24, h32], by rfl, rfl⟩
      · skip
        refine x_aload_n dX1_noteDown_35 rfl ?_
        refine x_aload_n dX1_noteDown_36 rfl ?_
        refine x_getI dX1_noteDown_37 fl_X1_25 (by omega) rfl rfl ?_
        refine x_putI dX1_noteDown_40 fp_X1_35 (by omega) rfl ?_
        refine x_aload_n dX1_noteDown_43 rfl ?_
        refine x_pc (pc2 := 44) rfl ?_
        refine x_aload_n dX1_noteDown_44 rfl ?_
        refine x_getR dX1_noteDown_45 fl_X1_21 (by omega) rfl rfl rfl ?_
        refine x_getI dX1_noteDown_48 fl_X1_67 (by omega) rfl rfl ?_
        refine x_putI dX1_noteDown_51 fp_X1_38 (by omega) rfl ?_
        refine x_aload_n dX1_noteDown_54 rfl ?_
        refine x_dup dX1_noteDown_55 rfl ?_
        refine x_pc (pc2 := 56) rfl ?_
        refine x_getI dX1_noteDown_56 fl_X1_32 (by omega) rfl rfl ?_
        refine x_iconst (v := 1) dX1_noteDown_59 (by decide) ?_
        refine x_iadd dX1_noteDown_60 ?_
        refine x_putI dX1_noteDown_61 fp_X1_32 (by omega) rfl ?_
        exact x_vret dX1_noteDown_64 rfl (Nat.le_of_ble_eq_true rfl) (Nat.le_of_ble_eq_true rfl) ⟨rfl, rfl, by simp [ndI, zu, h7, h24, h32], by rfl, rfl⟩
    · skip
      replace h24 := zb1 h24
      exact x_vret dX1_noteDown_27 rfl (Nat.le_of_ble_eq_true rfl) (Nat.le_of_ble_eq_true rfl) ⟨rfl, rfl, by simp [ndI, zu, h7, h24], by rfl, rfl⟩
theorem ct_X1_run {g : zG} {N : Nat} {I : zI} {L : zL} {q0 q1 : Option Nat} {f : Nat → Int32} {n : Nat} (hN : 58 ≤ N) (hc : I 12 1 = nI n) (hn : n ≤ 60) (hf : I 13 = f) (hff : fp_ f n = none) (hdd : ds_ f n = 0) (hz : ∀ i, i < 8 → narrow .boolean (.int (I 11 i)) = .int (I 11 i)) : Ct g yX1_run mX1_run [.ref (g.2.1 + 14), .ref (g.2.1 + 12), .ref (g.2.1 + 1)] N I L (zRw q0 q1) (zD none N (rn_ f n 60 0 (bgI I)) L (zRw q0 q1)) := by
  refine Ct_of (lo0 := [some (.ref (g.2.1 + 14)), some (.ref (g.2.1 + 12)), some (.ref (g.2.1 + 1)), none, none]) rfl rfl rfl rfl (Nat.le_of_ble_eq_true rfl) (fun E => ?_)
  refine x_aload_n dX1_run_0 rfl ?_
  refine x_aload_n dX1_run_1 rfl ?_
  refine x_callVv dX1_run_2 ml_X1_41 mt_X1_begin mv_X1_begin (ct_X1_begin hN hz) (by omega) rfl rfl rfl rfl (Nat.le_of_ble_eq_true rfl) ⟨(Nat.le_of_ble_eq_true rfl), (Nat.le_of_ble_eq_true rfl)⟩ ⟨rfl, rfl⟩ ⟨(Nat.le_of_ble_eq_true rfl), (Nat.le_of_ble_eq_true rfl)⟩ ?_
  refine x_iconst (v := 0) dX1_run_5 (by decide) ?_
  refine x_istore_n (lo2 := [_, _, _, _, _]) dX1_run_6 (by decide) rfl rfl ?_
  refine x_pc (pc2 := 7) rfl ?_
  refine x_iconst (v := 0) dX1_run_7 (by decide) ?_
  refine x_istore (lo2 := [_, _, _, _, _]) dX1_run_8 (by decide) rfl rfl ?_
  refine x_while (σ := Nat × Nat × zI) (fun t => t.1 ≤ 60 ∧ t.2.1 ≤ n ∧ ds_ f t.2.1 = 0 ∧ t.2.2 12 1 = nI n ∧ t.2.2 13 = f ∧ rn_ f n (60 - t.1) t.2.1 t.2.2 = rn_ f n 60 0 (bgI I)) (fun t => 60 - t.1) (fun t => [some (.ref (g.2.1 + 14)), some (.ref (g.2.1 + 12)), some (.ref (g.2.1 + 1)), some (.int (nI t.2.1)), some (.int (nI t.1))]) (fun t => t.2.2) (fun _ => L) (0, 0, bgI I) ⟨Nat.zero_le _, Nat.zero_le _, rfl, by simp [bgI, zu, zbec, hc], by funext j; simp [bgI, zu, zbec, hf], rfl⟩ rfl rfl rfl (fun t ht K => ?_)
  obtain ⟨i, p, J⟩ := t
  obtain ⟨t1, t2, t3, t4, t5, t6⟩ := ht
  dsimp only at t1 t2 t3 t4 t5 t6 K ⊢
  refine x_iload dX1_run_10 rfl ?_
  refine x_bipush (v := 60) dX1_run_12 (by decide) ?_
  refine x_icmp_ge (tgt := 80) dX1_run_14 (by decide) (fun h14 => ?_) (fun h14 => ?_)
  · skip
    have hi60 : i = 60 := by rw [show (60 : Int32) = nI 60 from rfl, nI_leI (by decide) (by omega)] at h14; omega
    exact x_vret dX1_run_80 rfl (Nat.le_of_ble_eq_true rfl) (Nat.le_of_ble_eq_true rfl) ⟨rfl, rfl, by first | (rw [← t6, hi60]; rfl) | (rw [← t6, rn_end hpn]) | (rw [← t6, show 60 - i = (60 - (i + 1)) + 1 by omega]; simp only [rn_, if_neg hpn, if_neg (show ¬ acR (rdI J f n p) = 0 by simpa [zu] using h56)]), by rfl, rfl⟩
  · skip
    have hi60 : i < 60 := by rw [show (60 : Int32) = nI 60 from rfl, nI_leI (by decide) (by omega)] at h14; omega
    refine x_iload_n dX1_run_17 rfl ?_
    refine x_aload_n dX1_run_18 rfl ?_
    refine x_getI dX1_run_19 fl_X1_45 (by omega) rfl rfl ?_
    refine x_icmp_ge (tgt := 80) dX1_run_22 (by decide) (fun h22 => ?_) (fun h22 => ?_)
    · skip
      have hpn : n ≤ p := by rw [t4, nI_leI (by omega) (by omega)] at h22; exact h22
      exact x_vret dX1_run_80 rfl (Nat.le_of_ble_eq_true rfl) (Nat.le_of_ble_eq_true rfl) ⟨rfl, rfl, by first | (rw [← t6, hi60]; rfl) | (rw [← t6, rn_end hpn]) | (rw [← t6, show 60 - i = (60 - (i + 1)) + 1 by omega]; simp only [rn_, if_neg hpn, if_neg (show ¬ acR (rdI J f n p) = 0 by simpa [zu] using h56)]), by rfl, rfl⟩
    · skip
      have hpn : ¬ n ≤ p := by rw [t4, nI_leI (by omega) (by omega)] at h22; exact h22
      refine x_iload_n dX1_run_25 rfl ?_
      refine x_aload_n dX1_run_26 rfl ?_
      refine x_iload_n dX1_run_27 rfl ?_
      refine x_aload_n dX1_run_28 rfl ?_
      refine x_getR dX1_run_29 fl_X1_21 (by omega) rfl rfl rfl ?_
      refine x_pc (pc2 := 32) rfl ?_
      refine x_callVi dX1_run_32 ml_X1_50 mt_X5_read mv_X5_read (ct_X5_read hN t4 hn t5 (by omega)) (by omega) rfl rfl rfl rfl (Nat.le_of_ble_eq_true rfl) ⟨(Nat.le_of_ble_eq_true rfl), (Nat.le_of_ble_eq_true rfl)⟩ ⟨rfl, rfl⟩ ⟨(Nat.le_of_ble_eq_true rfl), (Nat.le_of_ble_eq_true rfl)⟩ ?_
      refine x_iadd dX1_run_35 ?_
      rw [nI_add]
      have ok := rd_ok hff hdd (show p < n by omega) t3
      refine x_istore_n (lo2 := [_, _, _, _, _]) dX1_run_36 (by decide) rfl rfl ?_
      refine x_aload_n dX1_run_37 rfl ?_
      refine x_aload_n dX1_run_38 rfl ?_
      refine x_getR dX1_run_39 fl_X1_12 (by omega) rfl rfl rfl ?_
      refine x_pc (pc2 := 42) rfl ?_
      refine x_aload_n dX1_run_42 rfl ?_
      refine x_getR dX1_run_43 fl_X1_21 (by omega) rfl rfl rfl ?_
      refine x_callVi dX1_run_46 ml_X1_54 mt_X3_attempt mv_X3_attempt (ct_X3_attempt_z hN ⟨by rw [rd26.1, zx_nI (by have := ok.1; omega)]; exact ok.1, by rw [rd26.1, zx_nI (by have := ok.1; omega)]⟩ (by rw [rd26.2.1]; exact ok.2.1) (by rw [rd26.1, rd26.2.2, zx_nI (by have := ok.1; omega)]; exact ok.2.2.1)) (by omega) rfl rfl rfl rfl (Nat.le_of_ble_eq_true rfl) ⟨(Nat.le_of_ble_eq_true rfl), (Nat.le_of_ble_eq_true rfl)⟩ ⟨rfl, rfl⟩ ⟨(Nat.le_of_ble_eq_true rfl), (Nat.le_of_ble_eq_true rfl)⟩ ?_
      refine x_putI dX1_run_49 fp_X1_29 (by omega) rfl ?_
      refine x_aload_n dX1_run_52 rfl ?_
      refine x_getI dX1_run_53 fl_X1_29 (by omega) rfl rfl ?_
      refine x_pc (pc2 := 56) rfl ?_
      refine x_if_eq (tgt := 60) dX1_run_56 (by decide) (fun h56 => ?_) (fun h56 => ?_)
      · skip
        refine x_aload_n dX1_run_60 rfl ?_
        refine x_callVv dX1_run_61 ml_X1_58 mt_X1_noteDown mv_X1_noteDown (ct_X1_noteDown hN) (by omega) rfl rfl rfl rfl (Nat.le_of_ble_eq_true rfl) ⟨(Nat.le_of_ble_eq_true rfl), (Nat.le_of_ble_eq_true rfl)⟩ ⟨rfl, rfl⟩ ⟨(Nat.le_of_ble_eq_true rfl), (Nat.le_of_ble_eq_true rfl)⟩ ?_
        refine x_aload_n dX1_run_64 rfl ?_
        refine x_dup dX1_run_65 rfl ?_
        refine x_getI dX1_run_66 fl_X1_25 (by omega) rfl rfl ?_
        refine x_pc (pc2 := 69) rfl ?_
        refine x_iconst (v := 1) dX1_run_69 (by decide) ?_
        refine x_iadd dX1_run_70 ?_
        refine x_putI dX1_run_71 fp_X1_25 (by omega) rfl ?_
        refine x_iincN (lo2 := [_, _, _, _, _]) dX1_run_74 rfl rfl rfl ?_
        refine x_goto (tgt := 10) dX1_run_77 (by decide) ?_
        have hp : p < n := by omega
        have ok := rd_ok hff hdd hp t3
        refine x_eq (by rfl) (by rfl) (by rfl) (K (i + 1, p + rdL f n p, zu (ndI (zu (acI (rdI J f n p)) 14 3 (acR (rdI J f n p)))) 14 2 (ndI (zu (acI (rdI J f n p)) 14 3 (acR (rdI J f n p))) 14 2 + 1)) ⟨by dsimp only; omega, ok.2.2.2.2.1, ok.2.2.2.1, ?_, ?_, ?_⟩ (by dsimp only; omega))
        · dsimp only
          rw [zrn _ _ (by decide), ndI_far (by decide), zrn _ _ (by decide), acI_far (by decide) (by decide) (by decide), rdI_far (by decide), t4]
        · dsimp only
          rw [zrn _ _ (by decide), ndI_far (by decide), zrn _ _ (by decide), acI_far (by decide) (by decide) (by decide), rdI_far (by decide), t5]
        · dsimp only
          rw [← t6, show 60 - i = (60 - (i + 1)) + 1 by omega]
          have h56' : acR (rdI J f n p) = 0 := by simpa [zu] using h56
          simp only [rn_, if_neg (show ¬ n ≤ p by omega), if_pos h56']
      · skip
        exact x_vret dX1_run_59 rfl (Nat.le_of_ble_eq_true rfl) (Nat.le_of_ble_eq_true rfl) ⟨rfl, rfl, by first | (rw [← t6, hi60]; rfl) | (rw [← t6, rn_end hpn]) | (rw [← t6, show 60 - i = (60 - (i + 1)) + 1 by omega]; simp only [rn_, if_neg hpn, if_neg (show ¬ acR (rdI J f n p) = 0 by simpa [zu] using h56)]), by rfl, rfl⟩
theorem ct_X1_draw {g : zG} {N : Nat} {I : zI} {L : zL} {q0 q1 : Option Nat} {lot y : Nat} (hN : 58 ≤ N) (hl : lot < 8) (hy : y < 2 ^ 31) : Ct g yX1_draw mX1_draw [.ref (g.2.1 + 14), .int (nI lot), .int (nI y)] N I L (zRw q0 q1) (zD none N (dwI I lot y) L (zRw q0 q1)) := by
  refine Ct_of (lo0 := [some (.ref (g.2.1 + 14)), some (.int (nI lot)), some (.int (nI y))]) rfl rfl rfl rfl (Nat.le_of_ble_eq_true rfl) (fun E => ?_)
  refine x_iload_n dX1_draw_0 rfl ?_
  refine x_iconst (v := 4) dX1_draw_1 (by decide) ?_
  refine x_icmp_ge (tgt := 27) dX1_draw_2 (by decide) (fun h2 => ?_) (fun h2 => ?_)
  · skip
    rw [show (4 : Int32) = nI 4 from rfl, nI_leI (by decide) (by omega)] at h2
    refine x_iload_n dX1_draw_27 rfl ?_
    refine x_iconst (v := 4) dX1_draw_28 (by decide) ?_
    refine x_icmp_ne (tgt := 48) dX1_draw_29 (by decide) (fun h29 => ?_) (fun h29 => ?_)
    · skip
      rw [show (4 : Int32) = nI 4 from rfl, nI_eq (by omega) (by decide)] at h29
      refine x_aload_n dX1_draw_48 rfl ?_
      refine x_getR dX1_draw_49 fl_X1_21 (by omega) rfl rfl rfl ?_
      refine x_iload_n dX1_draw_52 rfl ?_
      refine x_iconst (v := 5) dX1_draw_53 (by decide) ?_
      refine x_icmp_ne (tgt := 61) dX1_draw_54 (by decide) (fun h54 => ?_) (fun h54 => ?_)
      · skip
        rw [show (5 : Int32) = nI 5 from rfl, nI_eq (by omega) (by decide)] at h54
        refine x_iconst (v := 4) dX1_draw_61 (by decide) ?_
        refine x_iconst (v := 0) dX1_draw_62 (by decide) ?_
        refine x_iconst (v := 0) dX1_draw_63 (by decide) ?_
        refine x_callVv dX1_draw_64 ml_X1_79 mt_X0_become mv_X0_become (ct_X0_become hN) (by omega) rfl rfl rfl rfl (Nat.le_of_ble_eq_true rfl) ⟨(Nat.le_of_ble_eq_true rfl), (Nat.le_of_ble_eq_true rfl)⟩ ⟨rfl, rfl⟩ ⟨(Nat.le_of_ble_eq_true rfl), (Nat.le_of_ble_eq_true rfl)⟩ ?_
        exact x_vret dX1_draw_67 rfl (Nat.le_of_ble_eq_true rfl) (Nat.le_of_ble_eq_true rfl) ⟨rfl, rfl, by first | (rw [dwI, if_pos (show lot < 4 by omega)]; done) | (rw [dwI, if_neg (show ¬ lot < 4 by omega), if_pos (show lot = 4 by omega)]; done) | (rw [dwI, if_neg (show ¬ lot < 4 by omega), if_neg (show ¬ lot = 4 by omega), if_pos (show lot = 5 by omega)]; done) | (rw [dwI, if_neg (show ¬ lot < 4 by omega), if_neg (show ¬ lot = 4 by omega), if_neg (show ¬ lot = 5 by omega)]), by rfl, rfl⟩
      · skip
        rw [show (5 : Int32) = nI 5 from rfl, nI_eq (by omega) (by decide)] at h54
        refine x_iconst (v := 3) dX1_draw_57 (by decide) ?_
        refine x_goto (tgt := 62) dX1_draw_58 (by decide) ?_
        refine x_iconst (v := 0) dX1_draw_62 (by decide) ?_
        refine x_iconst (v := 0) dX1_draw_63 (by decide) ?_
        refine x_callVv dX1_draw_64 ml_X1_79 mt_X0_become mv_X0_become (ct_X0_become hN) (by omega) rfl rfl rfl rfl (Nat.le_of_ble_eq_true rfl) ⟨(Nat.le_of_ble_eq_true rfl), (Nat.le_of_ble_eq_true rfl)⟩ ⟨rfl, rfl⟩ ⟨(Nat.le_of_ble_eq_true rfl), (Nat.le_of_ble_eq_true rfl)⟩ ?_
        exact x_vret dX1_draw_67 rfl (Nat.le_of_ble_eq_true rfl) (Nat.le_of_ble_eq_true rfl) ⟨rfl, rfl, by first | (rw [dwI, if_pos (show lot < 4 by omega)]; done) | (rw [dwI, if_neg (show ¬ lot < 4 by omega), if_pos (show lot = 4 by omega)]; done) | (rw [dwI, if_neg (show ¬ lot < 4 by omega), if_neg (show ¬ lot = 4 by omega), if_pos (show lot = 5 by omega)]; done) | (rw [dwI, if_neg (show ¬ lot < 4 by omega), if_neg (show ¬ lot = 4 by omega), if_neg (show ¬ lot = 5 by omega)]), by rfl, rfl⟩
    · skip
      rw [show (4 : Int32) = nI 4 from rfl, nI_eq (by omega) (by decide)] at h29
      refine x_aload_n dX1_draw_32 rfl ?_
      refine x_getR dX1_draw_33 fl_X1_21 (by omega) rfl rfl rfl ?_
      refine x_iconst (v := 2) dX1_draw_36 (by decide) ?_
      refine x_iload_n dX1_draw_37 rfl ?_
      refine x_bipush (v := 6) dX1_draw_38 (by decide) ?_
      refine x_pc (pc2 := 40) rfl ?_
      refine x_irem dX1_draw_40 (by decide) ?_
      rw [zrem_nI (d := 6) (e := 6) rfl hy (by decide) (by decide)]
      refine x_iconst (v := 0) dX1_draw_41 (by decide) ?_
      refine x_callVv dX1_draw_42 ml_X1_79 mt_X0_become mv_X0_become (ct_X0_become hN) (by omega) rfl rfl rfl rfl (Nat.le_of_ble_eq_true rfl) ⟨(Nat.le_of_ble_eq_true rfl), (Nat.le_of_ble_eq_true rfl)⟩ ⟨rfl, rfl⟩ ⟨(Nat.le_of_ble_eq_true rfl), (Nat.le_of_ble_eq_true rfl)⟩ ?_
      refine x_goto (tgt := 67) dX1_draw_45 (by decide) ?_
      exact x_vret dX1_draw_67 rfl (Nat.le_of_ble_eq_true rfl) (Nat.le_of_ble_eq_true rfl) ⟨rfl, rfl, by first | (rw [dwI, if_pos (show lot < 4 by omega)]; done) | (rw [dwI, if_neg (show ¬ lot < 4 by omega), if_pos (show lot = 4 by omega)]; done) | (rw [dwI, if_neg (show ¬ lot < 4 by omega), if_neg (show ¬ lot = 4 by omega), if_pos (show lot = 5 by omega)]; done) | (rw [dwI, if_neg (show ¬ lot < 4 by omega), if_neg (show ¬ lot = 4 by omega), if_neg (show ¬ lot = 5 by omega)]), by rfl, rfl⟩
  · skip
    rw [show (4 : Int32) = nI 4 from rfl, nI_leI (by decide) (by omega)] at h2
    refine x_aload_n dX1_draw_5 rfl ?_
    refine x_getR dX1_draw_6 fl_X1_21 (by omega) rfl rfl rfl ?_
    refine x_iconst (v := 0) dX1_draw_9 (by decide) ?_
    refine x_iload_n dX1_draw_10 rfl ?_
    refine x_bipush (v := 6) dX1_draw_11 (by decide) ?_
    refine x_pc (pc2 := 13) rfl ?_
    refine x_idiv dX1_draw_13 (by decide) ?_
    rw [zdiv_nI (d := 6) (e := 6) rfl hy (by decide) (by decide)]
    refine x_bipush (v := 6) dX1_draw_14 (by decide) ?_
    refine x_irem dX1_draw_16 (by decide) ?_
    rw [zrem_nI (d := 6) (e := 6) rfl (by omega) (by decide) (by decide)]
    refine x_iload_n dX1_draw_17 rfl ?_
    refine x_bipush (v := 6) dX1_draw_18 (by decide) ?_
    refine x_irem dX1_draw_20 (by decide) ?_
    rw [zrem_nI (d := 6) (e := 6) rfl hy (by decide) (by decide)]
    refine x_pc (pc2 := 21) rfl ?_
    refine x_callVv dX1_draw_21 ml_X1_79 mt_X0_become mv_X0_become (ct_X0_become hN) (by omega) rfl rfl rfl rfl (Nat.le_of_ble_eq_true rfl) ⟨(Nat.le_of_ble_eq_true rfl), (Nat.le_of_ble_eq_true rfl)⟩ ⟨rfl, rfl⟩ ⟨(Nat.le_of_ble_eq_true rfl), (Nat.le_of_ble_eq_true rfl)⟩ ?_
    refine x_goto (tgt := 67) dX1_draw_24 (by decide) ?_
    exact x_vret dX1_draw_67 rfl (Nat.le_of_ble_eq_true rfl) (Nat.le_of_ble_eq_true rfl) ⟨rfl, rfl, by first | (rw [dwI, if_pos (show lot < 4 by omega)]; done) | (rw [dwI, if_neg (show ¬ lot < 4 by omega), if_pos (show lot = 4 by omega)]; done) | (rw [dwI, if_neg (show ¬ lot < 4 by omega), if_neg (show ¬ lot = 4 by omega), if_pos (show lot = 5 by omega)]; done) | (rw [dwI, if_neg (show ¬ lot < 4 by omega), if_neg (show ¬ lot = 4 by omega), if_neg (show ¬ lot = 5 by omega)]), by rfl, rfl⟩
theorem ct_X1_runYear {g : zG} {N : Nat} {I : zI} {L : zL} {q0 q1 : Option Nat} {s mm : Nat} (hN : 58 ≤ N) (hs : s < 65537) (hm : mm < 2 ^ 31) (hz : ∀ i, i < 8 → narrow .boolean (.int (I 11 i)) = .int (I 11 i)) : Ct g yX1_runYear mX1_runYear [.ref (g.2.1 + 14), .int (nI s), .int (nI mm), .ref (g.2.1 + 1)] N I L (zRw q0 q1) (zD none N (yI_ s (zbec I 15 1) mm) L (zRw q0 q1)) := by
  refine Ct_of (lo0 := [some (.ref (g.2.1 + 14)), some (.int (nI s)), some (.int (nI mm)), some (.ref (g.2.1 + 1)), none, none]) rfl rfl rfl rfl (Nat.le_of_ble_eq_true rfl) (fun E => ?_)
  refine x_aload_n dX1_runYear_0 rfl ?_
  refine x_getR dX1_runYear_1 fl_X1_12 (by omega) rfl rfl rfl ?_
  refine x_aload_n dX1_runYear_4 rfl ?_
  refine x_callVv dX1_runYear_5 ml_X1_61 mt_X3_become mv_X3_become (ct_X3_become_15_1 hN hz) (by omega) rfl rfl rfl rfl (Nat.le_of_ble_eq_true rfl) ⟨(Nat.le_of_ble_eq_true rfl), (Nat.le_of_ble_eq_true rfl)⟩ ⟨rfl, rfl⟩ ⟨(Nat.le_of_ble_eq_true rfl), (Nat.le_of_ble_eq_true rfl)⟩ ?_
  refine x_iload_n dX1_runYear_8 rfl ?_
  refine x_pc (pc2 := 9) rfl ?_
  refine x_istore (lo2 := [_, _, _, _, _, _]) dX1_runYear_9 (by decide) rfl rfl ?_
  refine x_iconst (v := 0) dX1_runYear_11 (by decide) ?_
  refine x_istore (lo2 := [_, _, _, _, _, _]) dX1_runYear_12 (by decide) rfl rfl ?_
  refine x_loop (inv := fun i => True) (fun i => [some (.ref (g.2.1 + 14)), some (.int (nI s)), some (.int (nI mm)), some (.ref (g.2.1 + 1)), some (.int (nI (yx_ s i))), some (.int (nI i))]) (fun i => yI_ s (zbec I 15 1) i) (fun i => L) 0 mm (by omega) (by trivial) (by rfl) (by rfl) (by rfl) (fun i hloi hhii hinvi Ki => ?_) (fun hinvi => ?_)
  · skip
    refine x_iload dX1_runYear_14 rfl ?_
    refine x_iload_n dX1_runYear_16 rfl ?_
    refine x_icmp_ge (tgt := 65) dX1_runYear_17 (by decide) (fun h17 => ?_) (fun h17 => ?_)
    · skip
      exact absurd h17 (nI_ge hhii hm)
    · skip
      refine x_bipush (v := 75) dX1_runYear_20 (by decide) ?_
      refine x_iload dX1_runYear_22 rfl ?_
      refine x_imul dX1_runYear_24 ?_
      refine x_bipush (v := 74) dX1_runYear_25 (by decide) ?_
      refine x_iadd dX1_runYear_27 ?_
      refine x_pc (pc2 := 28) rfl ?_
      refine x_ldc dX1_runYear_28 cn_X1_74 ?_
      refine x_irem dX1_runYear_30 (by decide) ?_
      rw [yx_step (yx_lt hs i), show (75 * yx_ s i + 74) % 65537 = yx_ s (i + 1) from rfl]
      have hyx := yx_lt hs (i + 1)
      refine x_istore (lo2 := [_, _, _, _, _, _]) dX1_runYear_31 (by decide) rfl rfl ?_
      refine x_aload_n dX1_runYear_33 rfl ?_
      refine x_iload dX1_runYear_34 rfl ?_
      refine x_bipush (v := 8) dX1_runYear_36 (by decide) ?_
      refine x_pc (pc2 := 38) rfl ?_
      refine x_irem dX1_runYear_38 (by decide) ?_
      rw [zrem_nI (d := 8) (e := 8) rfl (by omega) (by decide) (by decide)]
      refine x_iload dX1_runYear_39 rfl ?_
      refine x_bipush (v := 8) dX1_runYear_41 (by decide) ?_
      refine x_idiv dX1_runYear_43 (by decide) ?_
      rw [zdiv_nI (d := 8) (e := 8) rfl (by omega) (by decide) (by decide)]
      refine x_callVv dX1_runYear_44 ml_X1_75 mt_X1_draw mv_X1_draw (ct_X1_draw hN (Nat.mod_lt _ (by omega)) (by have := yx_lt hs (i + 1); omega)) (by omega) rfl rfl rfl rfl (Nat.le_of_ble_eq_true rfl) ⟨(Nat.le_of_ble_eq_true rfl), (Nat.le_of_ble_eq_true rfl)⟩ ⟨rfl, rfl⟩ ⟨(Nat.le_of_ble_eq_true rfl), (Nat.le_of_ble_eq_true rfl)⟩ ?_
      refine x_aload_n dX1_runYear_47 rfl ?_
      refine x_pc (pc2 := 48) rfl ?_
      refine x_getR dX1_runYear_48 fl_X1_12 (by omega) rfl rfl rfl ?_
      refine x_aload_n dX1_runYear_51 rfl ?_
      refine x_getR dX1_runYear_52 fl_X1_21 (by omega) rfl rfl rfl ?_
      refine x_callVi dX1_runYear_55 ml_X1_54 mt_X3_attempt mv_X3_attempt (ct_X3_attempt_z hN (dw_ok (Nat.mod_lt _ (by omega))).1 (dw_ok (Nat.mod_lt _ (by omega))).2.1 (dw_ok (Nat.mod_lt _ (by omega))).2.2) (by omega) rfl rfl rfl rfl (Nat.le_of_ble_eq_true rfl) ⟨(Nat.le_of_ble_eq_true rfl), (Nat.le_of_ble_eq_true rfl)⟩ ⟨rfl, rfl⟩ ⟨(Nat.le_of_ble_eq_true rfl), (Nat.le_of_ble_eq_true rfl)⟩ ?_
      refine x_pop dX1_runYear_58 rfl ?_
      refine x_iincN (lo2 := [_, _, _, _, _, _]) dX1_runYear_59 rfl rfl rfl ?_
      refine x_pc (pc2 := 62) rfl ?_
      refine x_goto (tgt := 14) dX1_runYear_62 (by decide) ?_
      exact x_eq (by rfl) (by rfl) (by rfl) (Ki (by trivial))
  · skip
    refine x_iload dX1_runYear_14 rfl ?_
    refine x_iload_n dX1_runYear_16 rfl ?_
    refine x_icmp_ge (tgt := 65) dX1_runYear_17 (by decide) (fun h17 => ?_) (fun h17 => ?_)
    · skip
      exact x_vret dX1_runYear_65 rfl (Nat.le_of_ble_eq_true rfl) (Nat.le_of_ble_eq_true rfl) ⟨rfl, rfl, by rfl, by rfl, rfl⟩
    · skip
      exact absurd (nI_le (Nat.le_refl mm) hm) h17
