/-! constructors: a world is told by what is seen of it; a constructor fills the cells that the final world already shows -/
def zC (N : Nat) (I : zI) (R : zR) : zPost := fun r' N' I' _ R' => r' = none ∧ N' = N ∧ I' = I ∧ R' = R
section ZB4
variable {g : zG} {M M2 : zM} {E : zE} {Q : State → Prop} {kc ks pc : Nat} {lo : List (Option Value)} {rest st : List Value} {N N2 : Nat} {I I2 : zI} {L : zL} {R R2 : zR} {y : MethodName} {As : List Value} {idx n k ci : Nat}
theorem zP_R {R' : zR} {H : Heap} (h : ∀ k, k < N → ∀ j, R' k j = R k j) (hP : zP g N I L R H) : zP g N I L R' H := by
  refine ⟨hP.1, fun k q hq => ?_⟩
  obtain ⟨hk, rfl⟩ := zw_some hq
  have := hP.2 k _ (zw_at hk)
  rw [zc_congr (I' := I) (L' := L) (fun _ => rfl) (fun _ => rfl) (h k hk)]
  exact this
theorem x_sameW {I' : zI} {R' : zR} (h : ∀ k, k < N → ∀ j, zvis k j → I' k j = I k j) (h2 : ∀ k, k < N → ∀ j, R' k j = R k j) (kk : X g M E Q kc ks pc lo st N I' L R') : X g M E Q kc ks pc lo st N I L R := by
  obtain ⟨p, e, s, m, args, below, meth, c⟩ := E
  intro hx ls H locs hl hP hS
  exact kk hx ls H locs hl (zP_R h2 (zP_vis h hP)) hS
theorem x_callIc (hd : decode M.1 pc = .ok (.invokespecial idx, 3)) (hl : Cond.methodLink M.2.1 idx y ∈ wsL_law) (hm : zMt y M2 n) (hrn : M2.2.2.2.1 = none) (hi : Cond.instanceMethod y ∈ wsL_law) (hy1 : y.name = "<init>") (ct : Ct g y M2 (.ref (g.2.1 + k) :: As) N I L R (zC N2 I2 R2)) (hst : st = As.reverse ++ .ref (g.2.1 + k) :: rest) (hn : As.length = n) (hw : (rest.map fun v => v.category).sum ≤ 8) (hR : M2.2.2.2.2.1.frames + 1 ≤ M.2.2.2.2.1.frames ∧ 8 + (M2.2.2.1 + 11) + M2.2.2.2.2.1.locals ≤ M.2.2.2.2.1.locals) (hcs : kc + M2.2.2.2.2.1.cells ≤ M.2.2.2.2.1.cells ∧ ks + M2.2.2.2.2.1.slots ≤ M.2.2.2.2.1.slots) (kk : ∀ L', X g M E Q (kc + M2.2.2.2.2.1.cells) (ks + M2.2.2.2.2.1.slots) (pc + 3) lo rest N2 I2 L' R2) : X g M E Q kc ks pc lo st N I L R :=
  x_callI hd hl hm hrn hi hy1 ct hst hn hw hR hcs (fun r N' I' L' R' h => by obtain ⟨rfl, rfl, rfl, rfl⟩ := h; exact kk L')
theorem x_callINc {host : String} (hd : decode M.1 pc = .ok (.invokespecial idx, 3)) (hnw : (M.2.1, idx, y, host) ∈ zNW) (hm : zMt y M2 n) (hrn : M2.2.2.2.1 = none) (hi : Cond.instanceMethod y ∈ wsL_law) (hy1 : y.name = "<init>") (ct : Ct g y M2 (.ref (g.2.1 + k) :: As) N I L R (zC N2 I2 R2)) (hst : st = As.reverse ++ .ref (g.2.1 + k) :: rest) (hn : As.length = n) (hw : (rest.map fun v => v.category).sum ≤ 8) (hR : M2.2.2.2.2.1.frames + 1 ≤ M.2.2.2.2.1.frames ∧ 8 + (M2.2.2.1 + 11) + M2.2.2.2.2.1.locals ≤ M.2.2.2.2.1.locals) (hcs : kc + M2.2.2.2.2.1.cells ≤ M.2.2.2.2.1.cells ∧ ks + M2.2.2.2.2.1.slots ≤ M.2.2.2.2.1.slots) (kk : ∀ L', X g M E Q (kc + M2.2.2.2.2.1.cells) (ks + M2.2.2.2.2.1.slots) (pc + 3) lo rest N2 I2 L' R2) : X g M E Q kc ks pc lo st N I L R :=
  x_callIN hd hnw hm hrn hi hy1 ct hst hn hw hR hcs (fun r N' I' L' R' h => by obtain ⟨rfl, rfl, rfl, rfl⟩ := h; exact kk L')
end ZB4
def zmok (J : zI) (m : Nat) : Prop := (∀ d, 1 ≤ d → d ≤ 10 → d ≠ 4 → d ≠ 5 → ∀ j, J (m + d) j = 0) ∧ (∀ j, j < 6 → J (m + 4) j = 5) ∧ (∀ j, j < 6 → J (m + 5) j = 2) ∧ J m 10 = 0 ∧ J m 11 = 50 ∧ J m 12 = 0
def zmor (R : zR) (m : Nat) : Prop := (∀ j, j < 10 → R m j = some (m + 1 + j)) ∧ (∀ j, 10 ≤ j → R m j = none) ∧ ∀ d, 1 ≤ d → d ≤ 10 → ∀ j, R (m + d) j = none
def zmA (J : zI) (m i : Nat) : zI := zrow (zrow J (m + 4) (zpre i (fun _ => 5) (fun _ => 0))) (m + 5) (zpre i (fun _ => 2) (fun _ => 0))
theorem zmA_s (J : zI) (m i : Nat) : zu (zu (zmA J m i) (m + 4) i 5) (m + 5) i 2 = zmA J m (i + 1) := by
  unfold zmA
  rw [← zpre_s i (fun _ => (5 : Int32)), ← zpre_s i (fun _ => (2 : Int32))]
  funext a j
  simp only [zu, zrow, upd]
  by_cases q1 : a = m + 5
  · subst q1
    by_cases z : j = i <;> simp [z, upd]
  · by_cases q2 : a = m + 4
    · subst q2
      by_cases z : j = i <;> simp [z, upd]
    · simp [q1, q2]
theorem zd11 {m k : Nat} (h : ¬ k < m) (h2 : k < m + 11) : k = m ∨ k = m + 1 ∨ k = m + 2 ∨ k = m + 3 ∨ k = m + 4 ∨ k = m + 5 ∨ k = m + 6 ∨ k = m + 7 ∨ k = m + 8 ∨ k = m + 9 ∨ k = m + 10 := by omega
theorem zvis_4 {m j : Nat} (hm : zMi m) (h : zvis (m + 4) j) : j < 6 := by rcases hm with rfl | rfl | rfl | rfl <;> exact h
theorem zvis_5 {m j : Nat} (hm : zMi m) (h : zvis (m + 5) j) : j < 6 := by rcases hm with rfl | rfl | rfl | rfl <;> exact h
theorem zvis_0 {m j : Nat} (hm : zMi m) (h : zvis m j) : j = 10 ∨ j = 11 ∨ j = 12 := by
  have h : j < 13 ∧ zrf 3 j = false := by rcases hm with rfl | rfl | rfl | rfl <;> exact h
  obtain ⟨h1, h2⟩ := h
  rcases (show j = 0 ∨ j = 1 ∨ j = 2 ∨ j = 3 ∨ j = 4 ∨ j = 5 ∨ j = 6 ∨ j = 7 ∨ j = 8 ∨ j = 9 ∨ 10 ≤ j by omega) with rfl | rfl | rfl | rfl | rfl | rfl | rfl | rfl | rfl | rfl | h3
  all_goals first | (exact absurd h2 (by decide)) | omega

theorem ct_X3_init {g : zG} {I J : zI} {L : zL} {R : zR} {m : Nat} (hm : zMi m) (hJ : zmok J m) (hR : zmor R m) : Ct g yX3_init mX3_init [.ref (g.2.1 + m)] (m + 1) (z0 J m) L (z0R R m) (zC (m + 11) J R) := by
  refine Ct_of (lo0 := [some (.ref (g.2.1 + m)), none]) rfl rfl rfl rfl (Nat.le_of_ble_eq_true rfl) (fun E => ?_)
  refine x_aload_n dX3_init_0 rfl ?_
  refine x_obj (M := mX3_init) dX3_init_1 ml_X3_3 o_im o_cd (Nat.le_of_ble_eq_true rfl) (Nat.le_of_ble_eq_true rfl) (Nat.le_of_ble_eq_true rfl) ?_
  refine x_aload_n dX3_init_4 rfl ?_
  refine x_bipush (v := 6) dX3_init_5 (by decide) ?_
  refine x_newI (n0 := 6) dX3_init_7 ar_int (zM_t1 hm) rfl (Nat.le_of_ble_eq_true rfl) (Nat.le_of_ble_eq_true rfl) ?_
  refine x_pc (pc2 := 9) rfl ?_
  refine x_putF rfl dX3_init_9 fq_X3_9 (by omega) (zM_t0 hm) ?_
  refine x_aload_n dX3_init_12 rfl ?_
  refine x_bipush (v := 6) dX3_init_13 (by decide) ?_
  refine x_newI (n0 := 6) dX3_init_15 ar_int (zM_t2 hm) rfl (Nat.le_of_ble_eq_true rfl) (Nat.le_of_ble_eq_true rfl) ?_
  refine x_putF rfl dX3_init_17 fq_X3_15 (by omega) (zM_t0 hm) ?_
  refine x_aload_n dX3_init_20 rfl ?_
  refine x_pc (pc2 := 21) rfl ?_
  refine x_bipush (v := 6) dX3_init_21 (by decide) ?_
  refine x_newI (n0 := 6) dX3_init_23 ar_int (zM_t3 hm) rfl (Nat.le_of_ble_eq_true rfl) (Nat.le_of_ble_eq_true rfl) ?_
  refine x_putF rfl dX3_init_25 fq_X3_18 (by omega) (zM_t0 hm) ?_
  refine x_aload_n dX3_init_28 rfl ?_
  refine x_bipush (v := 6) dX3_init_29 (by decide) ?_
  refine x_newI (n0 := 6) dX3_init_31 ar_int (zM_t4 hm) rfl (Nat.le_of_ble_eq_true rfl) (Nat.le_of_ble_eq_true rfl) ?_
  refine x_pc (pc2 := 33) rfl ?_
  refine x_putF rfl dX3_init_33 fq_X3_21 (by omega) (zM_t0 hm) ?_
  refine x_aload_n dX3_init_36 rfl ?_
  refine x_bipush (v := 6) dX3_init_37 (by decide) ?_
  refine x_newI (n0 := 6) dX3_init_39 ar_int (zM_t5 hm) rfl (Nat.le_of_ble_eq_true rfl) (Nat.le_of_ble_eq_true rfl) ?_
  refine x_putF rfl dX3_init_41 fq_X3_24 (by omega) (zM_t0 hm) ?_
  refine x_aload_n dX3_init_44 rfl ?_
  refine x_pc (pc2 := 45) rfl ?_
  refine x_bipush (v := 8) dX3_init_45 (by decide) ?_
  refine x_newI (n0 := 8) dX3_init_47 ar_int (zM_t6 hm) rfl (Nat.le_of_ble_eq_true rfl) (Nat.le_of_ble_eq_true rfl) ?_
  refine x_putF rfl dX3_init_49 fq_X3_27 (by omega) (zM_t0 hm) ?_
  refine x_aload_n dX3_init_52 rfl ?_
  refine x_bipush (v := 8) dX3_init_53 (by decide) ?_
  refine x_newI (n0 := 8) dX3_init_55 ar_int (zM_t7 hm) rfl (Nat.le_of_ble_eq_true rfl) (Nat.le_of_ble_eq_true rfl) ?_
  refine x_pc (pc2 := 57) rfl ?_
  refine x_putF rfl dX3_init_57 fq_X3_30 (by omega) (zM_t0 hm) ?_
  refine x_aload_n dX3_init_60 rfl ?_
  refine x_bipush (v := 10) dX3_init_61 (by decide) ?_
  refine x_newI (n0 := 10) dX3_init_63 ar_int (zM_t8 hm) rfl (Nat.le_of_ble_eq_true rfl) (Nat.le_of_ble_eq_true rfl) ?_
  refine x_putF rfl dX3_init_65 fq_X3_33 (by omega) (zM_t0 hm) ?_
  refine x_aload_n dX3_init_68 rfl ?_
  refine x_pc (pc2 := 69) rfl ?_
  refine x_bipush (v := 8) dX3_init_69 (by decide) ?_
  refine x_newI (n0 := 8) dX3_init_71 ar_int (zM_t9 hm) rfl (Nat.le_of_ble_eq_true rfl) (Nat.le_of_ble_eq_true rfl) ?_
  refine x_putF rfl dX3_init_73 fq_X3_36 (by omega) (zM_t0 hm) ?_
  refine x_aload_n dX3_init_76 rfl ?_
  refine x_bipush (v := 8) dX3_init_77 (by decide) ?_
  refine x_newZ (n0 := 8) dX3_init_79 ar_bool (zM_t10 hm) rfl (Nat.le_of_ble_eq_true rfl) (Nat.le_of_ble_eq_true rfl) ?_
  refine x_pc (pc2 := 81) rfl ?_
  refine x_putF rfl dX3_init_81 fq_X3_39 (by omega) (zM_t0 hm) ?_
  refine x_aload_n dX3_init_84 rfl ?_
  refine x_iconst (v := 0) dX3_init_85 (by decide) ?_
  refine x_putI dX3_init_86 fp_X3_43 (by omega) (zM_t0 hm) ?_
  refine x_aload_n dX3_init_89 rfl ?_
  refine x_bipush (v := 50) dX3_init_90 (by decide) ?_
  refine x_pc (pc2 := 92) rfl ?_
  refine x_putI dX3_init_92 fp_X3_47 (by omega) (zM_t0 hm) ?_
  refine x_aload_n dX3_init_95 rfl ?_
  refine x_iconst (v := 0) dX3_init_96 (by decide) ?_
  refine x_putI dX3_init_97 fp_X3_50 (by omega) (zM_t0 hm) ?_
  refine x_sameW (I' := zmA J m 0) (R' := R) (fun k hk j hv => ?_) (fun k hk j => ?_) ?_
  · by_cases h : k < m
    · simp [zmA, zrow, z0, zu, show ¬ k = m by omega, show ¬ k = m + 1 by omega, show ¬ k = m + 2 by omega, show ¬ k = m + 3 by omega, show ¬ k = m + 4 by omega, show ¬ k = m + 5 by omega, show ¬ k = m + 6 by omega, show ¬ k = m + 7 by omega, show ¬ k = m + 8 by omega, show ¬ k = m + 9 by omega, show ¬ k = m + 10 by omega]
    · rcases zd11 h (by omega) with rfl | rfl | rfl | rfl | rfl | rfl | rfl | rfl | rfl | rfl | rfl
      · rcases zvis_0 hm hv with rfl | rfl | rfl
        · simp [zmA, zrow, z0, zu, hJ.2.2.2.1]
        · simp [zmA, zrow, z0, zu, hJ.2.2.2.2.1]
        · simp [zmA, zrow, z0, zu, hJ.2.2.2.2.2]
      all_goals first | (simp [zmA, zrow, z0, zu, zpre]; done) | (simp [zmA, zrow, z0, zu, zpre]; exact hJ.1 _ (by decide) (by decide) (by decide) (by decide) j)
  · by_cases h : k < m
    · simp [z0R, zuR, show ¬ k = m by omega, show ¬ k = m + 1 by omega, show ¬ k = m + 2 by omega, show ¬ k = m + 3 by omega, show ¬ k = m + 4 by omega, show ¬ k = m + 5 by omega, show ¬ k = m + 6 by omega, show ¬ k = m + 7 by omega, show ¬ k = m + 8 by omega, show ¬ k = m + 9 by omega, show ¬ k = m + 10 by omega]
    · rcases zd11 h (by omega) with rfl | rfl | rfl | rfl | rfl | rfl | rfl | rfl | rfl | rfl | rfl
      · rcases (show j = 0 ∨ j = 1 ∨ j = 2 ∨ j = 3 ∨ j = 4 ∨ j = 5 ∨ j = 6 ∨ j = 7 ∨ j = 8 ∨ j = 9 ∨ 10 ≤ j by omega) with rfl | rfl | rfl | rfl | rfl | rfl | rfl | rfl | rfl | rfl | h3
        all_goals first | (rw [hR.2.1 _ (by assumption)]; simp [z0R, zuR, show ¬ j = 0 by omega, show ¬ j = 1 by omega, show ¬ j = 2 by omega, show ¬ j = 3 by omega, show ¬ j = 4 by omega, show ¬ j = 5 by omega, show ¬ j = 6 by omega, show ¬ j = 7 by omega, show ¬ j = 8 by omega, show ¬ j = 9 by omega]; done) | (rw [hR.1 _ (by decide)]; simp [z0R, zuR] <;> omega)
      all_goals (rw [hR.2.2 _ (by decide) (by decide)]; simp [z0R, zuR])
  refine x_iconst (v := 0) dX3_init_100 (by decide) ?_
  refine x_istore_n (lo2 := [_, _]) dX3_init_101 (by decide) rfl rfl ?_
  refine x_loop (inv := fun i => True) (fun i => [some (.ref (g.2.1 + m)), some (.int (nI i))]) (fun i => zmA J m i) (fun i => (z0L (z0L (z0L (z0L (z0L (z0L (z0L (z0L (z0L (z0L L (m + 1)) (m + 2)) (m + 3)) (m + 4)) (m + 5)) (m + 6)) (m + 7)) (m + 8)) (m + 9)) (m + 10))) 0 6 (by omega) (by trivial) (by rfl) (by rfl) (by rfl) (fun i hloi hhii hinvi Ki => ?_) (fun hinvi => ?_)
  · skip
    refine x_iload_n dX3_init_102 rfl ?_
    refine x_bipush (v := 6) dX3_init_103 (by decide) ?_
    refine x_icmp_ge (tgt := 128) dX3_init_105 (by decide) (fun h105 => ?_) (fun h105 => ?_)
    · skip
      exact absurd h105 (nI_ge (b := 6) hhii (by decide))
    · skip
      refine x_aload_n dX3_init_108 rfl ?_
      refine x_getR dX3_init_109 fl_X3_21 (by omega) (zM_t0 hm) rfl (hR.1 3 (by decide)) ?_
      refine x_iload_n dX3_init_112 rfl ?_
      refine x_iconst (v := 5) dX3_init_113 (by decide) ?_
      refine x_iast dX3_init_114 (by omega) (zM_t4 hm) rfl (by omega) ?_
      refine x_pc (pc2 := 115) rfl ?_
      refine x_aload_n dX3_init_115 rfl ?_
      refine x_getR dX3_init_116 fl_X3_24 (by omega) (zM_t0 hm) rfl (hR.1 4 (by decide)) ?_
      refine x_iload_n dX3_init_119 rfl ?_
      refine x_iconst (v := 2) dX3_init_120 (by decide) ?_
      refine x_iast dX3_init_121 (by omega) (zM_t5 hm) rfl (by omega) ?_
      refine x_iincN (lo2 := [_, _]) dX3_init_122 rfl rfl rfl ?_
      refine x_pc (pc2 := 125) rfl ?_
      refine x_goto (tgt := 102) dX3_init_125 (by decide) ?_
      exact x_eq (by rfl) (by exact zmA_s J m i) (by rfl) (Ki (by trivial))
  · skip
    refine x_iload_n dX3_init_102 rfl ?_
    refine x_bipush (v := 6) dX3_init_103 (by decide) ?_
    refine x_icmp_ge (tgt := 128) dX3_init_105 (by decide) (fun h105 => ?_) (fun h105 => ?_)
    · skip
      refine x_sameV (I' := J) (fun k hk j hv => ?_) ?_
      · by_cases h4 : k = m + 4
        · subst h4
          have hj := zvis_4 hm hv
          simp [zmA, zrow, zpre, hj, hJ.2.1 j hj]
        · by_cases h5 : k = m + 5
          · subst h5
            have hj := zvis_5 hm hv
            simp [zmA, zrow, zpre, hj, hJ.2.2.1 j hj]
          · simp [zmA, zrow, h4, h5]
      exact x_vret dX3_init_128 rfl (Nat.le_of_ble_eq_true rfl) (Nat.le_of_ble_eq_true rfl) (by exact ⟨rfl, rfl, rfl, rfl⟩)
    · skip
      exact absurd (nI_le (b := 6) (Nat.le_refl 6) (by decide)) h105
