/-! DAYS and YEARS on both sides -/
theorem kig_hi {K K' : zI} (h : ∀ c, 43 ≤ c ∧ c ≤ 48 → K' c = K c) (h7 : K' 40 7 = K 40 7) {j : Nat} (hj : 15 ≤ j) : kig K' j = kig K j := by
  unfold kig
  rw [h 43 (by decide), h 44 (by decide), h 45 (by decide), h 46 (by decide), h 47 (by decide), h 48 (by decide), h7, if_neg (show ¬ j < 15 by omega), if_neg (show ¬ j < 15 by omega)]
theorem dr_cong {I K I' K' : zI} (h : Dr I K) (hI : ∀ c, 15 ≤ c → c ≤ 25 → I' c = I c) (hK : ∀ c, c ≠ 40 → K' c = K c) (h7 : K' 40 7 = K 40 7) : Dr I' K' := by
  refine dr_wh h (fun c q1 q2 => hI c (by omega) q2) (by rw [hI 15 (by decide) (by decide)]) (fun c q _ => hK c q) h7 ?_
  rw [hI 15 (by decide) (by decide), hI 16 (by decide) (by decide), hI 17 (by decide) (by decide), hK 42 (by decide)]
  exact dr_hd h
theorem dr_of {I K I' K' : zI} (h : Rl I K) (hI : ∀ d, d ≤ 10 → I' (15 + d) = I (1 + d)) (hK : ∀ j, j < 15 → K' 42 j = K 41 j) (hc : ∀ c, 43 ≤ c ∧ c ≤ 48 → K' c = K c) (h7 : K' 40 7 = K 40 7) : Dr I' K' := by
  have e1 : blk I' 15 = blk I 1 := by
    funext d
    unfold blk
    split
    · rw [hI d (by assumption)]
    · rfl
  have e2 : kin K' = kig K := by
    funext j
    by_cases q : j < 15
    · rw [kin_1 q, hK j q, kig_1 q]
    · rw [kin_2 q, kig_hi hc h7 (by omega)]
  show RelB (blk I' 15) (kin K')
  rw [e1, e2]
  exact h
theorem bg_15 {I : zI} {d : Nat} (h : d ≤ 10) : bgI I (15 + d) = I (1 + d) := by
  have e : 15 + d ≠ 14 := by omega
  simp only [bgI]
  rw [zrn _ _ e, zrn _ _ e, zrn _ _ e, zrn _ _ e, zrn _ _ e]
  simp only [zbec]
  rw [if_pos (by omega), show 15 + d - 15 + 1 = 1 + d by omega]
theorem an_42 {K : zI} {j : Nat} (h : j < 15) : anI K 42 j = K 41 j := by
  simp only [anI]
  rw [zrn _ _ (by decide), zrn _ _ (by decide), zrn _ _ (by decide), zrow_k, zpre_lt h]
/-! the PAD read alike -/
section PAD
variable {f f' : Nat → Int32} {n : Nat}
theorem sg_cong (h : ∀ i, i < n → f i = f' i) : sg_ f n = sg_ f' n := by
  funext p
  unfold sg_
  by_cases q : p < n
  · rw [if_pos q, if_pos q, h p q]
  · rw [if_neg q, if_neg q]
theorem rdK_cong (h : ∀ i, i < n → f i = f' i) : rdK f n = rdK f' n := by
  funext p
  unfold rdK
  rw [sg_cong h]
theorem rdL_cong (h : ∀ i, i < n → f i = f' i) : rdL f n = rdL f' n := by
  funext p
  unfold rdL
  rw [sg_cong h]
theorem rdA_cong (h : ∀ i, i < n → f i = f' i) : rdA f n = rdA f' n := by
  funext p
  unfold rdA
  rw [sg_cong h]
theorem rdB_cong (h : ∀ i, i < n → f i = f' i) : rdB f n = rdB f' n := by
  funext p
  unfold rdB
  rw [sg_cong h]
theorem kgo_cong (h : ∀ i, i < n → f i = f' i) : ∀ d p K, kgo f n d p K = kgo f' n d p K
  | 0, _, _ => rfl
  | d + 1, p, K => by
    simp only [kgo]
    rw [rdK_cong h, rdA_cong h, rdB_cong h, rdL_cong h]
    simp only [kgo_cong h d]
theorem ds_cong (h : ∀ i, i < n → f i = f' i) : ∀ i, i ≤ n → ds_ f i = ds_ f' i
  | 0, _ => rfl
  | i + 1, hi => by simp only [ds_, ds_cong h i (by omega), h i (by omega)]
theorem fp_cong (h : ∀ i, i < n → f i = f' i) : ∀ i, i ≤ n → fp_ f i = fp_ f' i
  | 0, _ => rfl
  | i + 1, hi => by simp only [fp_, fp_cong h i (by omega), ds_cong h (i + 1) hi]
theorem ff_cong (h : ∀ i, i < n → f i = f' i) : ff_ f n = ff_ f' n := by
  unfold ff_
  rw [fp_cong h n (Nat.le_refl n), ds_cong h n (Nat.le_refl n)]
end PAD
/-- what went DOWN, on both sides -/
theorem nd_sim {W J : zI} {k a dn ac : Nat} {D A : Int32} (hk : k < 5) (ha : a < 6) (h0 : W 26 0 = nI k) (h1 : W 26 1 = nI a) (hA : A = nI a) (h11 : J 40 11 = if k = 0 ∧ W 16 a ≤ 0 then D + 1 else D) (hD : D = nI dn) (h4 : W 14 4 = D) (h5 : W 14 5 = J 40 12) (h6 : W 14 6 = J 40 13) (h2 : W 14 2 = J 40 15) (hac : W 14 2 = nI ac) (bd : dn < 100 ∧ ac < 100) (hq : (dn = 0 ∧ W 14 5 = -6) ∨ (0 < dn ∧ ∃ q, q ≤ ac ∧ W 14 5 = nI q)) : ∃ U, U = (if J 40 11 ≤ D then J else if 0 ≤ J 40 12 then J else zu (zu J 40 12 (J 40 15)) 40 13 A) ∧ ndI W 14 4 = U 40 11 ∧ ndI W 14 5 = U 40 12 ∧ ndI W 14 6 = U 40 13 ∧ ndI W 14 2 = W 14 2 ∧ ndI W 14 3 = W 14 3 ∧ U 40 15 = J 40 15 ∧ U 40 7 = J 40 7 ∧ (∀ c, c ≠ 40 → U c = J c) ∧ ∃ dn', dn' ≤ dn + 1 ∧ ndI W 14 4 = nI dn' ∧ ((dn' = 0 ∧ ndI W 14 5 = -6) ∨ (0 < dn' ∧ ∃ q, q ≤ ac ∧ ndI W 14 5 = nI q)) := by
  refine ⟨_, rfl, ?_⟩
  by_cases T : k = 0 ∧ W 16 a ≤ 0
  · rw [if_pos T] at h11
    have e0 : ndI W = if W 14 4 = 0 then zu (zu (zu W 14 5 (W 14 2)) 14 6 (W 26 1)) 14 4 (W 14 4 + 1) else zu W 14 4 (W 14 4 + 1) := by
      unfold ndI
      rw [if_pos (by rw [h0, T.1]; rfl), if_neg (by rw [h1, zth_le ha]; simp [T.2])]
    have c1 : ¬ J 40 11 ≤ D := by rw [h11, hD, nI_1]; exact nI_ge (by omega) (by omega)
    rcases hq with ⟨d0, q5⟩ | ⟨d0, q, hq, q5⟩
    · have e1 : ndI W = zu (zu (zu W 14 5 (W 14 2)) 14 6 (W 26 1)) 14 4 (D + 1) := by rw [e0, h4, if_pos (by rw [hD, d0]; rfl)]
      have c2 : ¬ 0 ≤ J 40 12 := by rw [← h5, q5]; decide
      rw [if_neg c1, if_neg c2, e1]
      refine ⟨by simp [zu, h11], by simp [zu, h2], by simp [zu, h1, hA], by simp [zu], by simp [zu], by simp [zu], by simp [zu], fun c hc => by rw [zrn _ _ hc, zrn _ _ hc], 1, by omega, ?_, Or.inr ⟨by omega, ac, Nat.le_refl _, ?_⟩⟩
      · rw [zu_self, hD, d0]; rfl
      · rw [zu_ne _ _ (Or.inr (by decide)), zu_ne _ _ (Or.inr (by decide)), zu_self, hac]
    · have e1 : ndI W = zu W 14 4 (D + 1) := by rw [e0, h4, if_neg (by rw [hD]; exact nI_ne0 d0 (by omega))]
      have c2 : 0 ≤ J 40 12 := by rw [← h5, q5]; exact Int32.not_lt.mp (nI_pos (by omega))
      rw [if_neg c1, if_pos c2, e1]
      refine ⟨by rw [zu_self, h11], by rw [zu_ne _ _ (Or.inr (by decide)), h5], by rw [zu_ne _ _ (Or.inr (by decide)), h6], zu_ne _ _ (Or.inr (by decide)), zu_ne _ _ (Or.inr (by decide)), rfl, rfl, fun _ _ => rfl, dn + 1, Nat.le_refl _, by rw [zu_self, hD, nI_1], Or.inr ⟨by omega, q, hq, by rw [zu_ne _ _ (Or.inr (by decide)), q5]⟩⟩
  · rw [if_neg T] at h11
    have e1 : ndI W = W := by
      unfold ndI
      by_cases q : k = 0
      · rw [if_pos (by rw [h0, q]; rfl), if_pos]
        rw [h1, zth_le ha]
        simp [show ¬ W 16 a ≤ 0 from fun z => T ⟨q, z⟩]
      · rw [if_neg]
        rw [h0]
        exact nI_ne0 (by omega) (by omega)
    have c1 : J 40 11 ≤ D := by rw [h11]; exact Int32.le_refl _
    rw [if_pos c1, e1]
    exact ⟨by rw [h4, h11], h5, h6, rfl, rfl, rfl, rfl, fun _ _ => rfl, dn, by omega, by rw [h4, hD], hq⟩
/-- the two loops, at their head with d to go -/
def Dl (d : Nat) (I K : zI) : Prop := Dr I K ∧ I 14 2 = K 40 15 ∧ I 14 4 = K 40 11 ∧ I 14 5 = K 40 12 ∧ I 14 6 = K 40 13 ∧ I 14 3 = 0 ∧ ∃ ac dn, I 14 2 = nI ac ∧ I 14 4 = nI dn ∧ dn ≤ ac ∧ ac + d ≤ 60 ∧ ((dn = 0 ∧ I 14 5 = -6) ∨ (0 < dn ∧ ∃ q, q ≤ ac ∧ I 14 5 = nI q))
def De (J K : zI) (r : Int32) : Prop := (J 14 3 = 0 ∧ r = -6 ∧ ∃ d, Dl d J K) ∨ (¬ J 14 3 = 0 ∧ J 14 3 = K 40 14 ∧ r = J 14 2 ∧ ∃ ac, ac ≤ 60 ∧ J 14 2 = nI ac)
theorem dl_run {f : Nat → Int32} {n : Nat} (hff : fp_ f n = none) (hdd : ds_ f n = 0) : ∀ d p I K, ds_ f p = 0 → Dl d I K → De (rn_ f n d p I) (kgo f n d p K).1 (kgo f n d p K).2
  | 0, p, I, K, _, h => Or.inl ⟨h.2.2.2.2.2.1, rfl, 0, h⟩
  | d + 1, p, I, K, h0, h => by
    by_cases hp : n ≤ p
    · rw [rn_end hp, kgo_end hp]
      exact Or.inl ⟨h.2.2.2.2.2.1, rfl, d + 1, h⟩
    obtain ⟨hk, ⟨hA, ha⟩, hB, hds, hle, hL1⟩ := rd_ok hff hdd (by omega) h0
    obtain ⟨hD, g2, g4, g5, g6, g3, ac, dn, hac, hdn, hda, had, hq⟩ := h
    obtain ⟨w0, w1, w2⟩ := rd26 (J := I) (f := f) (n := n) (p := p)
    have z0 : zx (rdI I f n p 26 0) = rdK f n p := by rw [w0, zx_nI (by omega)]
    have z1 : zx (rdI I f n p 26 1) = zx (rdA f n p) := by rw [w1]
    have z2 : zx (rdI I f n p 26 2) = zx (rdB f n p) := by rw [w2]
    have eR : acR (rdI I f n p) = atR (rdI I f n p) (rdK f n p) (zx (rdA f n p)) (zx (rdB f n p)) := by unfold acR; rw [z0, z1, z2]
    have eI : acI (rdI I f n p) = atI (rdI I f n p) (rdK f n p) (zx (rdA f n p)) (zx (rdB f n p)) := by unfold acI; rw [z0, z1, z2]
    have hD1 : Dr (rdI I f n p) K := dr_cong hD (fun c _ q => rdI_far (by omega)) (fun _ _ => rfl) rfl
    have h14 : rdI I f n p 14 = I 14 := rdI_far (by decide)
    simp only [rn_, kgo]
    rw [if_neg hp, if_neg hp, eR, eI]
    generalize rdI I f n p = I1 at *
    generalize rdK f n p = k at *
    generalize hAe : rdA f n p = A at *
    generalize zx (rdB f n p) = b at *
    generalize rdL f n p = l at *
    obtain ⟨a, ha6, rfl⟩ : ∃ a, a < 6 ∧ A = nI a := ⟨zx A, ha, hA⟩
    rw [zx_nI (by omega)] at *
    obtain ⟨e1, e2, e3⟩ := act_sim hD1 hk ha6 (fun q => (hB q).2)
    have i14 : atI I1 k a b 14 = I 14 := by rw [atI_far (by decide) (by decide) (by decide), h14]
    have i26 : atI I1 k a b 26 = I1 26 := atI_far (by decide) (by decide) (by decide)
    rw [e1]
    by_cases qr : atR I1 k a b = 0
    · rw [if_pos qr, qr, if_pos (show (0 : Int32) ≤ 0 by decide)]
      rw [qr] at e3
      simp only [true_and] at e3
      obtain ⟨U, hU, n4, n5, n6, n2, n3, u15, u7, uc, dn', d1, d2, d3⟩ := nd_sim (W := zu (atI I1 k a b) 14 3 0) (J := zu (kaI K k a b) 40 14 0) (k := k) (a := a) (dn := dn) (ac := ac) (D := K 40 11) (A := nI a) hk ha6
        (by rw [zrn _ _ (by decide), i26, w0]) (by rw [zrn _ _ (by decide), i26, w1]) rfl
        (by rw [zu_ne _ _ (Or.inr (by decide)), e3, zrn _ _ (by decide)]) (by rw [← g4, hdn])
        (by rw [zu_ne _ _ (Or.inr (by decide)), i14, g4]) (by rw [zu_ne _ _ (Or.inr (by decide)), zu_ne _ _ (Or.inr (by decide)), i14, g5, kaI_40 (by decide)])
        (by rw [zu_ne _ _ (Or.inr (by decide)), zu_ne _ _ (Or.inr (by decide)), i14, g6, kaI_40 (by decide)]) (by rw [zu_ne _ _ (Or.inr (by decide)), zu_ne _ _ (Or.inr (by decide)), i14, g2, kaI_40 (by decide)])
        (by rw [zu_ne _ _ (Or.inr (by decide)), i14, hac]) (by omega)
        (by rw [zu_ne _ _ (Or.inr (by decide)), i14]; exact hq)
      rw [← hU]
      refine dl_run hff hdd d (p + l) _ _ hds ⟨?_, ?_, ?_, ?_, ?_, ?_, ac + 1, dn', ?_, ?_, by omega, by omega, ?_⟩
      · refine dr_cong e2 (fun c q1 q2 => ?_) (fun c q => ?_) ?_
        · rw [zrn _ _ (by omega), ndI_far (by omega), zrn _ _ (by omega)]
        · rw [zrn _ _ q, uc c q, zrn _ _ q]
        · rw [zu_ne _ _ (Or.inr (by decide)), u7, zu_ne _ _ (Or.inr (by decide))]
      · rw [zu_self, zu_self, n2, u15, zu_ne _ _ (Or.inr (by decide)), zu_ne _ _ (Or.inr (by decide)), i14, g2, kaI_40 (by decide)]
      · rw [zu_ne _ _ (Or.inr (by decide)), zu_ne _ _ (Or.inr (by decide)), n4]
      · rw [zu_ne _ _ (Or.inr (by decide)), zu_ne _ _ (Or.inr (by decide)), n5]
      · rw [zu_ne _ _ (Or.inr (by decide)), zu_ne _ _ (Or.inr (by decide)), n6]
      · rw [zu_ne _ _ (Or.inr (by decide)), n3, zu_self]
      · rw [zu_self, n2, zu_ne _ _ (Or.inr (by decide)), i14, hac, nI_1]
      · rw [zu_ne _ _ (Or.inr (by decide)), d2]
      · rw [zu_ne _ _ (Or.inr (by decide))]
        rcases d3 with d3 | ⟨d3, q, q1, q2⟩
        · exact Or.inl d3
        · exact Or.inr ⟨d3, q, by omega, q2⟩
    · have qn : ¬ atR I1 k a b ≤ 0 := at_pos.resolve_left qr
      rw [if_neg qr, if_neg qn]
      refine Or.inr ⟨by rw [zu_self]; exact qr, by rw [zu_self]; exact (zu_self (kaI K k a b) 40 14 (atR I1 k a b)).symm, ?_, ac, by omega, ?_⟩
      · show zu (kaI K k a b) 40 14 (atR I1 k a b) 40 15 = _
        rw [zu_ne _ _ (Or.inr (by decide)), zu_ne _ _ (Or.inr (by decide)), i14, g2, kaI_40 (by decide)]
      · rw [zu_ne _ _ (Or.inr (by decide)), i14, hac]
theorem dy_sim {I K : zI} {n : Nat} (h : Two I K) (hn : n ≤ 60) (hff : ff_ (I 13) n = -6) : De (dyI I n) (kdy K n).1 (kdy K n).2 := by
  obtain ⟨h1, h2⟩ := ff_ok (by omega) hff
  unfold kdy dyI
  rw [kgo_cong (f := K 49) (f' := I 13) (n := n) (fun i hi => h.eP i (by omega))]
  refine dl_run h1 h2 60 0 _ _ rfl ⟨dr_of h.rl (fun d hd => bg_15 hd) (fun j hj => ?_) (fun c q => ?_) ?_, by simp [bgI, zu], by simp [bgI, zu, anI, zrow], by simp [bgI, zu, anI, zrow], by simp [bgI, zu, anI, zrow], by simp [bgI, zu], 0, 0, by simp [bgI, zu, nI_0], by simp [bgI, zu, nI_0], Nat.le_refl _, Nat.le_refl _, Or.inl ⟨rfl, by simp [bgI, zu]⟩⟩
  · rw [zrn _ _ (by decide), an_42 hj]
  · rw [zrn _ _ (by omega), an_far (by omega) (by omega)]
  · rw [zu_ne _ _ (Or.inr (by decide)), an_40 (by decide)]
/-! the answers -/
section DA
variable {I K : zI} {n : Nat}
theorem ff_two (h : Two I K) (hn : n ≤ 60) : ff_ (K 49) n = ff_ (I 13) n := ff_cong (fun i hi => h.eP i (by omega))
theorem de_neg {J K : zI} {r : Int32} (h : De J K r) : r < 0 ↔ J 14 3 = 0 := by
  rcases h with ⟨h1, h2, _⟩ | ⟨h1, _, h3, ac, h4, h5⟩
  · rw [h2]; exact ⟨fun _ => h1, fun _ => by decide⟩
  · rw [h3, h5]
    exact ⟨fun z => absurd z (nI_pos (by omega)), fun z => absurd z h1⟩
theorem kok_eq (h : Two I K) (hn : n ≤ 60) : kok K n = okD I n := by
  unfold kok okD
  rw [ff_two h hn]
  by_cases q : ff_ (I 13) n = -6
  · have e := de_neg (dy_sim h hn q)
    simp [q, e]
  · simp [q]
theorem ok_dl (h : Two I K) (hn : n ≤ 60) (ho : okD I n = true) : ∃ d, Dl d (dyI I n) (kdy K n).1 := by
  unfold okD at ho
  obtain ⟨q1, q2⟩ := of_decide_eq_true ho
  rcases dy_sim h hn q1 with ⟨_, _, h3⟩ | ⟨h1, _⟩
  · exact h3
  · exact absurd q2 h1
theorem ju_eq (h : Two I K) (hn : n ≤ 60) (w : Int32) : kjuA K n w = juA I n w := by
  unfold kjuA juA
  rw [ff_two h hn]
  by_cases z : zin w 0 1 = false
  · rw [if_pos z, if_pos z]
  rw [if_neg z, if_neg z]
  by_cases q : ff_ (I 13) n = -6
  · rw [if_pos q, if_pos q]
    have hs := dy_sim h hn q
    have e := de_neg hs
    rcases hs with ⟨h1, h2, _⟩ | ⟨h1, h2, h3, _⟩
    · rw [if_pos (e.mpr h1), if_pos h1, h2]
    · rw [if_neg (fun y => h1 (e.mp y)), if_neg h1, h3, h2]
  · rw [if_neg q, if_neg q]
theorem do_eq (h : Two I K) (hn : n ≤ 60) : kdoA K n = doA I n := by
  unfold kdoA doA
  rw [kok_eq h hn]
  by_cases q : okD I n = true
  · obtain ⟨d, hd⟩ := ok_dl h hn q
    rw [if_pos q, if_pos q, hd.2.1]
  · rw [if_neg q, if_neg q]
theorem do_two (h : Two I K) (hn : n ≤ 60) : Two (doI I n) (kdoI K n) := by
  unfold doI kdoI
  rw [kok_eq h hn]
  by_cases q : okD I n = true
  · obtain ⟨d, hd⟩ := ok_dl h hn q
    rw [if_pos q, if_pos q]
    refine ⟨?_, ⟨0, by decide, by rw [zu_self]; rfl⟩, by rw [zu_self, zu_self], fun i hi => ?_⟩
    · have e1 : blk (zu (zbec (dyI I n) 1 15) 12 1 0) 1 = blk (dyI I n) 15 := by
        funext c
        unfold blk
        split
        · rw [zrn _ _ (by omega)]
          simp only [zbec]
          rw [if_pos (by omega), show 1 + c - 1 + 15 = 15 + c by omega]
        · rfl
      have e2 : kig (zu (zrow (kdy K n).1 41 (zpre 15 ((kdy K n).1 42) (K 41))) 40 9 0) = kin (kdy K n).1 := by
        funext j
        by_cases q : j < 15
        · rw [kin_1 q, kig_1 q, zrn _ _ (by decide), zrow_k, zpre_lt q]
        · rw [kin_2 q]
          refine kig_hi (fun c hc => ?_) ?_ (by omega)
          · rw [zrn _ _ (by omega), zrow_ne _ _ (by omega)]
          · rw [zu_ne _ _ (Or.inr (by decide)), zrow_ne _ _ (by decide)]
      show RelB (blk _ 1) (kig _)
      rw [e1, e2]
      exact hd.1
    · rw [zrn _ _ (by decide), zrow_ne _ _ (by decide), kdy_far (fun z => by unfold zscr at z; omega), zrn _ _ (by decide)]
      simp only [zbec]
      rw [if_neg (by decide), dy_far (by decide)]
      exact h.eP i hi
  · rw [if_neg q, if_neg q]
    exact h
theorem be_eq (h : Two I K) (hn : n ≤ 60) (a w : Int32) : kbeA K n a w = beA I n a w := by
  unfold kbeA beA
  rw [kok_eq h hn, k_th h.rl]
  by_cases z1 : zth (I 2) a = false
  · rw [if_pos z1, if_pos z1]
  rw [if_neg z1, if_neg z1]
  by_cases z : zin w 0 1 = false
  · rw [if_pos z, if_pos z]
  rw [if_neg z, if_neg z]
  by_cases q : okD I n = false
  · rw [if_pos q, if_pos q]
  rw [if_neg q, if_neg q]
  obtain ⟨d, hd⟩ := ok_dl h hn (by simpa using q)
  have hh := dr_hd hd.1
  obtain ⟨i, hi, rfl⟩ := zth_ex (s := I 2) (j := a) (by simpa using z1)
  have e : std (kdy K n).1 (nI i) = zth (dyI I n 16) (nI i) := by rw [std_nI hi, hh.2.2.2.2.2.2.1, gt_is hi, zth_le hi]
  rw [e]
  by_cases q2 : zth (dyI I n 16) (nI i) = true
  · rw [if_pos q2, if_pos q2, zx_nI (by omega)]
    obtain ⟨u, hu, rfl⟩ := zin_ex (b := 1) (by decide) (show zin w 0 1 = true by simpa using z)
    rw [zx_nI (by omega)]
    rcases (show u = 0 ∨ u = 1 by omega) with rfl | rfl
    · rw [if_pos (show nI 0 = 0 from rfl), show 6 * 0 + i = i by omega]
      exact hh.2.2.2.2.1 i hi (zth_T hi q2)
    · rw [if_neg (by decide), show 6 * 1 + i = 6 + i by omega]
      exact hh.2.2.2.2.2.1 i hi
  · rw [if_neg q2, if_neg q2]
theorem th_eq (h : Two I K) (hn : n ≤ 60) (w : Int32) : kthA K n w = thA I n w := by
  unfold kthA thA
  rw [kok_eq h hn]
  by_cases z : zin w 0 5 = false
  · rw [if_pos z, if_pos z]
  rw [if_neg z, if_neg z]
  by_cases q : okD I n = false
  · rw [if_pos q, if_pos q]
  rw [if_neg q, if_neg q]
  obtain ⟨d, hd⟩ := ok_dl h hn (by simpa using q)
  have hh := dr_hd hd.1
  obtain ⟨u, hu, rfl⟩ := zin_ex (b := 5) (by decide) (show zin w 0 5 = true by simpa using z)
  rw [zx_nI (by omega)]
  rcases (show u = 0 ∨ u = 1 ∨ u = 2 ∨ u = 3 ∨ u = 4 ∨ u = 5 by omega) with rfl | rfl | rfl | rfl | rfl | rfl
  · rw [if_neg (by decide), if_pos (by decide)]
    exact hh.2.2.2.2.2.2.1
  · rw [if_neg (by decide), if_neg (by decide), if_pos (by decide)]
    exact hh.2.2.2.2.2.2.2.1
  · rw [if_neg (by decide), if_neg (by decide), if_neg (by decide), if_pos (by decide)]
    exact hh.2.2.2.2.2.2.2.2
  · rw [if_pos (by decide), if_pos (by decide), if_neg (by decide), if_neg (by decide), if_neg (by decide), if_pos (by decide)]
    exact hd.2.2.1.symm
  · rw [if_pos (by decide), if_neg (by decide), if_pos (by decide), if_neg (by decide), if_neg (by decide), if_neg (by decide), if_neg (by decide), if_pos (by decide)]
    exact hd.2.2.2.1.symm
  · rw [if_pos (by decide), if_neg (by decide), if_neg (by decide), if_neg (by decide), if_neg (by decide), if_neg (by decide), if_neg (by decide), if_neg (by decide)]
    exact hd.2.2.2.2.1.symm
/-- YEAR -/
theorem ac_b3 {J : zI} {k a b : Nat} (hk : k < 9) (ha : a < 9) (hb : b < 9) : acI (b3I J (nI k) (nI a) (nI b)) = atI (b3I J (nI k) (nI a) (nI b)) k a b := by
  unfold acI
  rw [show b3I J (nI k) (nI a) (nI b) 26 0 = nI k by simp [b3I, zu], show b3I J (nI k) (nI a) (nI b) 26 1 = nI a by simp [b3I, zu], show b3I J (nI k) (nI a) (nI b) 26 2 = nI b by simp [b3I, zu], zx_nI (by omega), zx_nI (by omega), zx_nI (by omega)]
theorem at_2 {J : zI} {a b b' : Nat} : atI J 2 a b = atI J 2 a b' := (ka_2 (I := J) (K := J) (a := a) (b := b)).2.2.2.trans (ka_2 (I := J) (K := J) (a := a) (b := b')).2.2.2.symm
theorem at_3 {J : zI} {a b a' b' : Nat} : atI J 3 a b = atI J 3 a' b' := (ka_3 (I := J) (K := J) (a := a) (b := b)).2.2.2.trans (ka_3 (I := J) (K := J) (a := a') (b := b')).2.2.2.symm
theorem at_4 {J : zI} {a b a' b' : Nat} : atI J 4 a b = atI J 4 a' b' := (ka_4 (I := J) (K := J) (a := a) (b := b)).2.2.2.trans (ka_4 (I := J) (K := J) (a := a') (b := b')).2.2.2.symm
theorem dr_b3 {x y z : Int32} (h : Dr I K) : Dr (b3I I x y z) K := dr_cong h (fun c _ q => by simp only [b3I]; rw [zrn _ _ (by omega), zrn _ _ (by omega), zrn _ _ (by omega)]) (fun _ _ => rfl) rfl
theorem dr_14 {K' : zI} {v : Int32} (h : Dr I K') : Dr I (zu K' 40 14 v) := dr_cong h (fun _ _ _ => rfl) (fun c q => zrn _ _ q) (zu_ne _ _ (Or.inr (by decide)))
theorem ye_sim (h : Rl I K) (s : Nat) : ∀ m, Dr (yI_ s (zbec I 15 1) m) (kyI s (anI K) m)
  | 0 => by
    refine dr_of h (fun d hd => ?_) (fun j hj => an_42 hj) (fun c q => an_far (by omega) (by omega)) (an_40 (by decide))
    show zbec I 15 1 (15 + d) = _
    simp only [zbec]
    rw [if_pos (by omega), show 15 + d - 15 + 1 = 1 + d by omega]
  | m + 1 => by
    have ih := ye_sim h s m
    simp only [yI_, kyI]
    refine dr_14 ?_
    generalize yx_ s (m + 1) = x
    generalize yI_ s (zbec I 15 1) m = J at ih ⊢
    generalize kyI s (anI K) m = G at ih ⊢
    unfold dwI kk_ kaa
    have k1 : x / 8 / 6 % 6 < 6 := Nat.mod_lt _ (by omega)
    have k2 : x / 8 % 6 < 6 := Nat.mod_lt _ (by omega)
    by_cases q1 : x % 8 < 4
    · rw [if_pos q1, if_pos q1, if_pos q1]
      rw [show (0 : Int32) = nI 0 from rfl, ac_b3 (by omega) (by omega) (by omega)]
      exact (act_sim (dr_b3 ih) (by omega) k1 (fun _ => k2)).2.1
    · rw [if_neg q1, if_neg q1, if_neg q1]
      by_cases q2 : x % 8 = 4
      · rw [if_pos q2, if_pos q2]
        rw [show b3I J 2 (nI (x / 8 % 6)) 0 = b3I J (nI 2) (nI (x / 8 % 6)) (nI 0) from rfl, ac_b3 (by omega) (by omega) (by omega), at_2 (b' := x / 8 % 6)]
        exact (act_sim (dr_b3 ih) (by omega) k2 (fun z => absurd z (by decide))).2.1
      · rw [if_neg q2, if_neg q2]
        by_cases q3 : x % 8 = 5
        · rw [if_pos q3, if_pos q3]
          rw [show b3I J 3 0 0 = b3I J (nI 3) (nI 0) (nI 0) from rfl, ac_b3 (by omega) (by omega) (by omega), at_3 (a' := x / 8 % 6) (b' := x / 8 % 6)]
          exact (act_sim (dr_b3 ih) (by omega) k2 (fun z => absurd z (by decide))).2.1
        · rw [if_neg q3, if_neg q3]
          rw [show b3I J 4 0 0 = b3I J (nI 4) (nI 0) (nI 0) from rfl, ac_b3 (by omega) (by omega) (by omega), at_4 (a' := x / 8 % 6) (b' := x / 8 % 6)]
          exact (act_sim (dr_b3 ih) (by omega) k2 (fun z => absurd z (by decide))).2.1
theorem so_ks {s : Nat → Int32} {J : zI} (h1 : J 42 12 = gt_ s 6) (h2 : ∀ a, a < 6 → ¬ s a ≤ 0 → J 42 a = s a) : ∀ i, i ≤ 6 → kso J i = so_ s (gt_ s 6) i
  | 0, _ => rfl
  | i + 1, hi => by
    simp only [kso, so_, so_ks h1 h2 i (by omega), std_nI (I := J) (show i < 6 by omega), h1]
    by_cases q : zis (gt_ s 6) (nI i) = true
    · rw [if_pos q, if_pos q, h2 i (by omega)]
      rw [gt_is (by omega)] at q
      simpa using q
    · rw [if_neg q, if_neg q]
theorem gt_bt {s : Nat → Int32} : bt_ (gt_ s 6) 10 = bc (gt_ s 6) := by
  rw [gt_N s 6 (by decide)]
  exact (bc_bt _ (Nat.lt_trans (gN_lt s 6) (by decide))).symm
theorem ye_eq (h : Rl I K) (s m w : Int32) : kyeA K s m w = yeA I s m w := by
  unfold kyeA yeA yeY
  by_cases z : zin s 0 9999 = false ∨ zin m 1 99 = false ∨ zin w 0 2 = false
  · rw [if_pos z, if_pos z]
  rw [if_neg z, if_neg z]
  have hh := dr_hd (ye_sim h (zx s) (zx m))
  by_cases q1 : w = 0
  · rw [if_pos q1, if_pos q1, hh.2.2.2.2.2.2.1, gt_bt]
  rw [if_neg q1, if_neg q1]
  by_cases q2 : w = 1
  · rw [if_pos q2, if_pos q2, hh.2.2.2.2.2.2.2.1]
  rw [if_neg q2, if_neg q2]
  exact so_ks hh.2.2.2.2.2.2.1 hh.2.2.2.2.1 6 (Nat.le_refl 6)
end DA
