theorem ct_X8_init {g : zG} {L : zL} : Ct g yX8_init mX8_init [.ref (g.2.1 + 0)] 1 (z0 zJ0 0) L (z0R zRn 0) (zC 40 zJ0 zRn) := by
  refine Ct_of (lo0 := [some (.ref (g.2.1 + 0))]) rfl rfl rfl rfl (Nat.le_of_ble_eq_true rfl) (fun E => ?_)
  refine x_aload_n dX8_init_0 rfl ?_
  refine x_obj (M := mX8_init) dX8_init_1 ml_X8_1 o_im o_cd (Nat.le_of_ble_eq_true rfl) (Nat.le_of_ble_eq_true rfl) (Nat.le_of_ble_eq_true rfl) ?_
  refine x_aload_n dX8_init_4 rfl ?_
  refine x_new dX8_init_5 nw_X8_7 rfl (Nat.le_of_ble_eq_true rfl) (Nat.le_of_ble_eq_true rfl) ?_
  refine x_dup dX8_init_8 rfl ?_
  refine x_pc (pc2 := 9) rfl ?_
  refine x_callIc dX8_init_9 ml_X8_9 mt_X3_init rfl im_X3_init rfl (ct_X3_init (m := 1) (Or.inl rfl) (zmok_of (Or.inl rfl) (zsubJ (a := 0) (b := 39) (fun _ _ _ => rfl) (by decide) (by decide) (by decide))) (zmor_cong (zsubR (a := 0) (b := 39) (fun _ _ _ => rfl) (by decide) (by decide) (by decide)) (zmor_Rw (Or.inl rfl)))) rfl rfl (Nat.le_of_ble_eq_true rfl) ⟨(Nat.le_of_ble_eq_true rfl), (Nat.le_of_ble_eq_true rfl)⟩ ⟨(Nat.le_of_ble_eq_true rfl), (Nat.le_of_ble_eq_true rfl)⟩ (fun L9 => ?_)
  refine x_putF rfl dX8_init_12 fq_X8_10 (by decide) rfl ?_
  refine x_aload_n dX8_init_15 rfl ?_
  refine x_new dX8_init_16 nw_X8_16 rfl (Nat.le_of_ble_eq_true rfl) (Nat.le_of_ble_eq_true rfl) ?_
  refine x_dup dX8_init_19 rfl ?_
  refine x_callINc dX8_init_20 nn_X8_18 mt_X5_init rfl im_X5_init rfl (ct_X5_init (zsubJ (a := 0) (b := 39) (fun _ _ _ => rfl) (by decide) (by decide) (by decide)) (zsubU (zsubR (a := 0) (b := 39) (fun _ _ _ => rfl) (by decide) (by decide) (by decide)) (by decide))) rfl rfl (Nat.le_of_ble_eq_true rfl) ⟨(Nat.le_of_ble_eq_true rfl), (Nat.le_of_ble_eq_true rfl)⟩ ⟨(Nat.le_of_ble_eq_true rfl), (Nat.le_of_ble_eq_true rfl)⟩ (fun L20 => ?_)
  refine x_pc (pc2 := 23) rfl ?_
  refine x_putF rfl dX8_init_23 fq_X8_19 (by decide) rfl ?_
  refine x_aload_n dX8_init_26 rfl ?_
  refine x_new dX8_init_27 nw_X8_23 rfl (Nat.le_of_ble_eq_true rfl) (Nat.le_of_ble_eq_true rfl) ?_
  refine x_dup dX8_init_30 rfl ?_
  refine x_callINc dX8_init_31 nn_X8_25 mt_X1_init rfl im_X1_init rfl (ct_X1_init (zsubJ (a := 0) (b := 39) (fun _ _ _ => rfl) (by decide) (by decide) (by decide)) (zsubU (zsubU (zsubR (a := 0) (b := 39) (fun _ _ _ => rfl) (by decide) (by decide) (by decide)) (by decide)) (by decide))) rfl rfl (Nat.le_of_ble_eq_true rfl) ⟨(Nat.le_of_ble_eq_true rfl), (Nat.le_of_ble_eq_true rfl)⟩ ⟨(Nat.le_of_ble_eq_true rfl), (Nat.le_of_ble_eq_true rfl)⟩ (fun L31 => ?_)
  refine x_putF rfl dX8_init_34 fq_X8_26 (by decide) rfl ?_
  refine x_pc (pc2 := 37) rfl ?_
  refine x_aload_n dX8_init_37 rfl ?_
  refine x_new dX8_init_38 nw_X8_30 rfl (Nat.le_of_ble_eq_true rfl) (Nat.le_of_ble_eq_true rfl) ?_
  refine x_dup dX8_init_41 rfl ?_
  refine x_callINc dX8_init_42 nn_X8_32 mt_X6_init rfl im_X6_init rfl (ct_X6_init_27 (zsubJ (a := 0) (b := 39) (fun _ _ _ => rfl) (by decide) (by decide) (by decide)) (zsubU (zsubU (zsubU (zsubR (a := 0) (b := 39) (fun _ _ _ => rfl) (by decide) (by decide) (by decide)) (by decide)) (by decide)) (by decide))) rfl rfl (Nat.le_of_ble_eq_true rfl) ⟨(Nat.le_of_ble_eq_true rfl), (Nat.le_of_ble_eq_true rfl)⟩ ⟨(Nat.le_of_ble_eq_true rfl), (Nat.le_of_ble_eq_true rfl)⟩ (fun L42 => ?_)
  refine x_putF rfl dX8_init_45 fq_X8_33 (by decide) rfl ?_
  refine x_aload_n dX8_init_48 rfl ?_
  refine x_pc (pc2 := 49) rfl ?_
  refine x_new dX8_init_49 nw_X8_37 rfl (Nat.le_of_ble_eq_true rfl) (Nat.le_of_ble_eq_true rfl) ?_
  refine x_dup dX8_init_52 rfl ?_
  refine x_callINc dX8_init_53 nn_X8_39 mt_X4_init rfl im_X4_init rfl (ct_X4_init (zsubJ (a := 0) (b := 39) (fun _ _ _ => rfl) (by decide) (by decide) (by decide)) (zsubU (zsubU (zsubU (zsubU (zsubR (a := 0) (b := 39) (fun _ _ _ => rfl) (by decide) (by decide) (by decide)) (by decide)) (by decide)) (by decide)) (by decide))) rfl rfl (Nat.le_of_ble_eq_true rfl) ⟨(Nat.le_of_ble_eq_true rfl), (Nat.le_of_ble_eq_true rfl)⟩ ⟨(Nat.le_of_ble_eq_true rfl), (Nat.le_of_ble_eq_true rfl)⟩ (fun L53 => ?_)
  refine x_putF rfl dX8_init_56 fq_X8_40 (by decide) rfl ?_
  refine x_aload_n dX8_init_59 rfl ?_
  refine x_new dX8_init_60 nw_X8_44 rfl (Nat.le_of_ble_eq_true rfl) (Nat.le_of_ble_eq_true rfl) ?_
  refine x_pc (pc2 := 63) rfl ?_
  refine x_dup dX8_init_63 rfl ?_
  refine x_callINc dX8_init_64 nn_X8_46 mt_X7_init rfl im_X7_init rfl (ct_X7_init (zsubJ (a := 0) (b := 39) (fun _ _ _ => rfl) (by decide) (by decide) (by decide)) (zsubU (zsubU (zsubU (zsubU (zsubU (zsubR (a := 0) (b := 39) (fun _ _ _ => rfl) (by decide) (by decide) (by decide)) (by decide)) (by decide)) (by decide)) (by decide)) (by decide))) rfl rfl (Nat.le_of_ble_eq_true rfl) ⟨(Nat.le_of_ble_eq_true rfl), (Nat.le_of_ble_eq_true rfl)⟩ ⟨(Nat.le_of_ble_eq_true rfl), (Nat.le_of_ble_eq_true rfl)⟩ (fun L64 => ?_)
  refine x_putF rfl dX8_init_67 fq_X8_47 (by decide) rfl ?_
  refine x_aload_n dX8_init_70 rfl ?_
  refine x_new dX8_init_71 nw_X8_51 rfl (Nat.le_of_ble_eq_true rfl) (Nat.le_of_ble_eq_true rfl) ?_
  refine x_dup dX8_init_74 rfl ?_
  refine x_pc (pc2 := 75) rfl ?_
  refine x_callINc dX8_init_75 nn_X8_53 mt_X2_init rfl im_X2_init rfl (ct_X2_init (zsubJ (a := 0) (b := 39) (fun _ _ _ => rfl) (by decide) (by decide) (by decide)) (zsubU (zsubU (zsubU (zsubU (zsubU (zsubU (zsubR (a := 0) (b := 39) (fun _ _ _ => rfl) (by decide) (by decide) (by decide)) (by decide)) (by decide)) (by decide)) (by decide)) (by decide)) (by decide))) rfl rfl (Nat.le_of_ble_eq_true rfl) ⟨(Nat.le_of_ble_eq_true rfl), (Nat.le_of_ble_eq_true rfl)⟩ ⟨(Nat.le_of_ble_eq_true rfl), (Nat.le_of_ble_eq_true rfl)⟩ (fun L75 => ?_)
  refine x_putF rfl dX8_init_78 fq_X8_54 (by decide) rfl ?_
  refine x_aload_n dX8_init_81 rfl ?_
  refine x_iconst (v := 2) dX8_init_82 (by decide) ?_
  refine x_newQ (n0 := 2) dX8_init_83 cl_X8_7 rfl rfl (Nat.le_of_ble_eq_true rfl) (Nat.le_of_ble_eq_true rfl) ?_
  refine x_putF rfl dX8_init_86 fq_X8_58 (by decide) rfl ?_
  refine x_pc (pc2 := 89) rfl ?_
  refine x_sameW (I' := zJ0) (R' := zRn) (fun k hk j hv => ?_) (fun k hk j => ?_) ?_
  · by_cases h0 : k = 0
    · subst h0
      obtain ⟨h1, h2⟩ : j < 8 ∧ zrf 8 j = false := hv
      rcases (show j = 0 ∨ j = 1 ∨ j = 2 ∨ j = 3 ∨ j = 4 ∨ j = 5 ∨ j = 6 ∨ j = 7 by omega) with rfl | rfl | rfl | rfl | rfl | rfl | rfl | rfl
      all_goals exact absurd h2 (by decide)
    · by_cases h39 : k = 39
      · subst h39
        exact absurd hv (by intro q; exact q)
      · simp [z0, h0, h39]
  · by_cases h0 : k = 0
    · subst h0
      rcases (show j = 0 ∨ j = 1 ∨ j = 2 ∨ j = 3 ∨ j = 4 ∨ j = 5 ∨ j = 6 ∨ j = 7 ∨ 8 ≤ j by omega) with rfl | rfl | rfl | rfl | rfl | rfl | rfl | rfl | h3
      all_goals first | rfl | (obtain ⟨t, rfl⟩ : ∃ t, j = t + 8 := ⟨j - 8, by omega⟩; simp [z0R, zuR]; rfl)
    · by_cases h39 : k = 39
      · subst h39
        rcases (show j = 0 ∨ j = 1 ∨ 2 ≤ j by omega) with rfl | rfl | h3
        all_goals first | rfl | (obtain ⟨t, rfl⟩ : ∃ t, j = t + 2 := ⟨j - 2, by omega⟩; rfl)
      · simp [z0R, zuR, h0, h39]
  exact x_vret dX8_init_89 rfl (Nat.le_of_ble_eq_true rfl) (Nat.le_of_ble_eq_true rfl) (by exact ⟨rfl, rfl, rfl, rfl⟩)
theorem ct_X9_init {g : zG} {L : zL} : Ct g yX9_init mX9_init [.ref (g.2.1 + 40)] 41 (z0 zJ0 40) L (z0R zRn 40) (zC 58 zJ0 zRn) := by
  refine Ct_of (lo0 := [some (.ref (g.2.1 + 40)), none]) rfl rfl rfl rfl (Nat.le_of_ble_eq_true rfl) (fun E => ?_)
  refine x_aload_n dX9_init_0 rfl ?_
  refine x_obj (M := mX9_init) dX9_init_1 ml_X9_1 o_im o_cd (Nat.le_of_ble_eq_true rfl) (Nat.le_of_ble_eq_true rfl) (Nat.le_of_ble_eq_true rfl) ?_
  refine x_aload_n dX9_init_4 rfl ?_
  refine x_bipush (v := 15) dX9_init_5 (by decide) ?_
  refine x_newI (n0 := 15) dX9_init_7 ar_int rfl rfl (Nat.le_of_ble_eq_true rfl) (Nat.le_of_ble_eq_true rfl) ?_
  refine x_pc (pc2 := 9) rfl ?_
  refine x_putF rfl dX9_init_9 fq_X9_7 (by decide) rfl ?_
  refine x_aload_n dX9_init_12 rfl ?_
  refine x_bipush (v := 15) dX9_init_13 (by decide) ?_
  refine x_newI (n0 := 15) dX9_init_15 ar_int rfl rfl (Nat.le_of_ble_eq_true rfl) (Nat.le_of_ble_eq_true rfl) ?_
  refine x_putF rfl dX9_init_17 fq_X9_13 (by decide) rfl ?_
  refine x_aload_n dX9_init_20 rfl ?_
  refine x_pc (pc2 := 21) rfl ?_
  refine x_bipush (v := 6) dX9_init_21 (by decide) ?_
  refine x_newI (n0 := 6) dX9_init_23 ar_int rfl rfl (Nat.le_of_ble_eq_true rfl) (Nat.le_of_ble_eq_true rfl) ?_
  refine x_putF rfl dX9_init_25 fq_X9_16 (by decide) rfl ?_
  refine x_aload_n dX9_init_28 rfl ?_
  refine x_bipush (v := 6) dX9_init_29 (by decide) ?_
  refine x_newI (n0 := 6) dX9_init_31 ar_int rfl rfl (Nat.le_of_ble_eq_true rfl) (Nat.le_of_ble_eq_true rfl) ?_
  refine x_pc (pc2 := 33) rfl ?_
  refine x_putF rfl dX9_init_33 fq_X9_19 (by decide) rfl ?_
  refine x_aload_n dX9_init_36 rfl ?_
  refine x_bipush (v := 6) dX9_init_37 (by decide) ?_
  refine x_newI (n0 := 6) dX9_init_39 ar_int rfl rfl (Nat.le_of_ble_eq_true rfl) (Nat.le_of_ble_eq_true rfl) ?_
  refine x_putF rfl dX9_init_41 fq_X9_22 (by decide) rfl ?_
  refine x_aload_n dX9_init_44 rfl ?_
  refine x_pc (pc2 := 45) rfl ?_
  refine x_bipush (v := 8) dX9_init_45 (by decide) ?_
  refine x_newI (n0 := 8) dX9_init_47 ar_int rfl rfl (Nat.le_of_ble_eq_true rfl) (Nat.le_of_ble_eq_true rfl) ?_
  refine x_putF rfl dX9_init_49 fq_X9_25 (by decide) rfl ?_
  refine x_aload_n dX9_init_52 rfl ?_
  refine x_bipush (v := 10) dX9_init_53 (by decide) ?_
  refine x_newI (n0 := 10) dX9_init_55 ar_int rfl rfl (Nat.le_of_ble_eq_true rfl) (Nat.le_of_ble_eq_true rfl) ?_
  refine x_pc (pc2 := 57) rfl ?_
  refine x_putF rfl dX9_init_57 fq_X9_28 (by decide) rfl ?_
  refine x_aload_n dX9_init_60 rfl ?_
  refine x_bipush (v := 16) dX9_init_61 (by decide) ?_
  refine x_newI (n0 := 16) dX9_init_63 ar_int rfl rfl (Nat.le_of_ble_eq_true rfl) (Nat.le_of_ble_eq_true rfl) ?_
  refine x_putF rfl dX9_init_65 fq_X9_31 (by decide) rfl ?_
  refine x_aload_n dX9_init_68 rfl ?_
  refine x_pc (pc2 := 69) rfl ?_
  refine x_bipush (v := 60) dX9_init_69 (by decide) ?_
  refine x_newI (n0 := 60) dX9_init_71 ar_int rfl rfl (Nat.le_of_ble_eq_true rfl) (Nat.le_of_ble_eq_true rfl) ?_
  refine x_putF rfl dX9_init_73 fq_X9_34 (by decide) rfl ?_
  refine x_aload_n dX9_init_76 rfl ?_
  refine x_bipush (v := 100) dX9_init_77 (by decide) ?_
  refine x_newI (n0 := 100) dX9_init_79 ar_int rfl rfl (Nat.le_of_ble_eq_true rfl) (Nat.le_of_ble_eq_true rfl) ?_
  refine x_pc (pc2 := 81) rfl ?_
  refine x_putF rfl dX9_init_81 fq_X9_37 (by decide) rfl ?_
  refine x_aload_n dX9_init_84 rfl ?_
  refine x_bipush (v := 6) dX9_init_85 (by decide) ?_
  refine x_newI (n0 := 6) dX9_init_87 ar_int rfl rfl (Nat.le_of_ble_eq_true rfl) (Nat.le_of_ble_eq_true rfl) ?_
  refine x_putF rfl dX9_init_89 fq_X9_40 (by decide) rfl ?_
  refine x_aload_n dX9_init_92 rfl ?_
  refine x_pc (pc2 := 93) rfl ?_
  refine x_bipush (v := 64) dX9_init_93 (by decide) ?_
  refine x_newI (n0 := 64) dX9_init_95 ar_int rfl rfl (Nat.le_of_ble_eq_true rfl) (Nat.le_of_ble_eq_true rfl) ?_
  refine x_putF rfl dX9_init_97 fq_X9_43 (by decide) rfl ?_
  refine x_aload_n dX9_init_100 rfl ?_
  refine x_bipush (v := 10) dX9_init_101 (by decide) ?_
  refine x_newI (n0 := 10) dX9_init_103 ar_int rfl rfl (Nat.le_of_ble_eq_true rfl) (Nat.le_of_ble_eq_true rfl) ?_
  refine x_pc (pc2 := 105) rfl ?_
  refine x_putF rfl dX9_init_105 fq_X9_46 (by decide) rfl ?_
  refine x_aload_n dX9_init_108 rfl ?_
  refine x_bipush (v := 10) dX9_init_109 (by decide) ?_
  refine x_newI (n0 := 10) dX9_init_111 ar_int rfl rfl (Nat.le_of_ble_eq_true rfl) (Nat.le_of_ble_eq_true rfl) ?_
  refine x_putF rfl dX9_init_113 fq_X9_49 (by decide) rfl ?_
  refine x_aload_n dX9_init_116 rfl ?_
  refine x_pc (pc2 := 117) rfl ?_
  refine x_bipush (v := 19) dX9_init_117 (by decide) ?_
  refine x_newJ (n0 := 19) dX9_init_119 ar_long rfl rfl (Nat.le_of_ble_eq_true rfl) (Nat.le_of_ble_eq_true rfl) ?_
  refine x_putF rfl dX9_init_121 fq_X9_52 (by decide) rfl ?_
  refine x_aload_n dX9_init_124 rfl ?_
  refine x_sipush (v := 160) dX9_init_125 (by decide) ?_
  refine x_newI (n0 := 160) dX9_init_128 ar_int rfl rfl (Nat.le_of_ble_eq_true rfl) (Nat.le_of_ble_eq_true rfl) ?_
  refine x_pc (pc2 := 130) rfl ?_
  refine x_putF rfl dX9_init_130 fq_X9_56 (by decide) rfl ?_
  refine x_aload_n dX9_init_133 rfl ?_
  refine x_iconst (v := 2) dX9_init_134 (by decide) ?_
  refine x_newZ (n0 := 2) dX9_init_135 ar_bool rfl rfl (Nat.le_of_ble_eq_true rfl) (Nat.le_of_ble_eq_true rfl) ?_
  refine x_putF rfl dX9_init_137 fq_X9_59 (by decide) rfl ?_
  refine x_sameW (I' := zmA (zu zJ0 41 13 0) 40 0) (R' := zRn) (fun k hk j hv => ?_) (fun k hk j => ?_) ?_
  · by_cases h : k < 40
    · have ne : k ≠ 40 ∧ k ≠ 41 ∧ k ≠ 42 ∧ k ≠ 43 ∧ k ≠ 44 ∧ k ≠ 45 ∧ k ≠ 46 ∧ k ≠ 47 ∧ k ≠ 48 ∧ k ≠ 49 ∧ k ≠ 50 ∧ k ≠ 51 ∧ k ≠ 52 ∧ k ≠ 53 ∧ k ≠ 54 ∧ k ≠ 55 ∧ k ≠ 56 ∧ k ≠ 57 := by omega
      simp [zmA, zrow, zu, z0, ne]
    · rcases (show k = 40 ∨ k = 41 ∨ k = 42 ∨ k = 43 ∨ k = 44 ∨ k = 45 ∨ k = 46 ∨ k = 47 ∨ k = 48 ∨ k = 49 ∨ k = 50 ∨ k = 51 ∨ k = 52 ∨ k = 53 ∨ k = 54 ∨ k = 55 ∨ k = 56 ∨ k = 57 by omega) with rfl | rfl | rfl | rfl | rfl | rfl | rfl | rfl | rfl | rfl | rfl | rfl | rfl | rfl | rfl | rfl | rfl | rfl
      all_goals first | (simp [zmA, zrow, zu, z0, zJ0, zpre]; done) | (by_cases q : j = 13 <;> simp [zmA, zrow, zu, z0, zJ0, zpre, q])
  · by_cases h : k < 40
    · have ne : k ≠ 40 ∧ k ≠ 41 ∧ k ≠ 42 ∧ k ≠ 43 ∧ k ≠ 44 ∧ k ≠ 45 ∧ k ≠ 46 ∧ k ≠ 47 ∧ k ≠ 48 ∧ k ≠ 49 ∧ k ≠ 50 ∧ k ≠ 51 ∧ k ≠ 52 ∧ k ≠ 53 ∧ k ≠ 54 ∧ k ≠ 55 ∧ k ≠ 56 ∧ k ≠ 57 := by omega
      simp [z0R, zuR, ne]
    · rcases (show k = 40 ∨ k = 41 ∨ k = 42 ∨ k = 43 ∨ k = 44 ∨ k = 45 ∨ k = 46 ∨ k = 47 ∨ k = 48 ∨ k = 49 ∨ k = 50 ∨ k = 51 ∨ k = 52 ∨ k = 53 ∨ k = 54 ∨ k = 55 ∨ k = 56 ∨ k = 57 by omega) with rfl | rfl | rfl | rfl | rfl | rfl | rfl | rfl | rfl | rfl | rfl | rfl | rfl | rfl | rfl | rfl | rfl | rfl
      · rcases (show j = 0 ∨ j = 1 ∨ j = 2 ∨ j = 3 ∨ j = 4 ∨ j = 5 ∨ j = 6 ∨ j = 7 ∨ j = 8 ∨ j = 9 ∨ j = 10 ∨ j = 11 ∨ j = 12 ∨ j = 13 ∨ j = 14 ∨ j = 15 ∨ j = 16 ∨ j = 17 ∨ j = 18 ∨ j = 19 ∨ j = 20 ∨ j = 21 ∨ j = 22 ∨ j = 23 ∨ 24 ≤ j by omega) with rfl | rfl | rfl | rfl | rfl | rfl | rfl | rfl | rfl | rfl | rfl | rfl | rfl | rfl | rfl | rfl | rfl | rfl | rfl | rfl | rfl | rfl | rfl | rfl | h3
        all_goals first | rfl | (obtain ⟨t, rfl⟩ : ∃ t, j = t + 24 := ⟨j - 24, by omega⟩; simp [z0R, zuR]; rfl)
      all_goals rfl
  refine x_iconst (v := 0) dX9_init_140 (by decide) ?_
  refine x_istore_n (lo2 := [_, _]) dX9_init_141 (by decide) rfl rfl ?_
  refine x_loop (inv := fun i => True) (fun i => [some (.ref (g.2.1 + 40)), some (.int (nI i))]) (fun i => zmA (zu zJ0 41 13 0) 40 i) (fun i => (z0L (z0L (z0L (z0L (z0L (z0L (z0L (z0L (z0L (z0L (z0L (z0L (z0L (z0L (z0L (z0L (z0L L 41) 42) 43) 44) 45) 46) 47) 48) 49) 50) 51) 52) 53) 54) 55) 56) 57)) 0 6 (by omega) (by trivial) (by rfl) (by rfl) (by rfl) (fun i hloi hhii hinvi Ki => ?_) (fun hinvi => ?_)
  · skip
    refine x_iload_n dX9_init_142 rfl ?_
    refine x_bipush (v := 6) dX9_init_143 (by decide) ?_
    refine x_icmp_ge (tgt := 168) dX9_init_145 (by decide) (fun h145 => ?_) (fun h145 => ?_)
    · skip
      exact absurd h145 (nI_ge (b := 6) hhii (by decide))
    · skip
      refine x_aload_n dX9_init_148 rfl ?_
      refine x_getR dX9_init_149 fl_X9_19 (by decide) rfl rfl rfl ?_
      refine x_iload_n dX9_init_152 rfl ?_
      refine x_iconst (v := 5) dX9_init_153 (by decide) ?_
      refine x_iast dX9_init_154 (by decide) rfl rfl (by omega) ?_
      refine x_pc (pc2 := 155) rfl ?_
      refine x_aload_n dX9_init_155 rfl ?_
      refine x_getR dX9_init_156 fl_X9_22 (by decide) rfl rfl rfl ?_
      refine x_iload_n dX9_init_159 rfl ?_
      refine x_iconst (v := 2) dX9_init_160 (by decide) ?_
      refine x_iast dX9_init_161 (by decide) rfl rfl (by omega) ?_
      refine x_iincN (lo2 := [_, _]) dX9_init_162 rfl rfl rfl ?_
      refine x_pc (pc2 := 165) rfl ?_
      refine x_goto (tgt := 142) dX9_init_165 (by decide) ?_
      exact x_eq (by rfl) (by exact zmA_s _ 40 i) (by rfl) (Ki (by trivial))
  · skip
    refine x_iload_n dX9_init_142 rfl ?_
    refine x_bipush (v := 6) dX9_init_143 (by decide) ?_
    refine x_icmp_ge (tgt := 168) dX9_init_145 (by decide) (fun h145 => ?_) (fun h145 => ?_)
    · skip
      refine x_aload_n dX9_init_168 rfl ?_
      refine x_getR dX9_init_169 fl_X9_7 (by decide) rfl rfl rfl ?_
      refine x_bipush (v := 13) dX9_init_172 (by decide) ?_
      refine x_bipush (v := 50) dX9_init_174 (by decide) ?_
      refine x_iast (i := 13) dX9_init_176 (by decide) rfl rfl (by decide) ?_
      refine x_pc (pc2 := 177) rfl ?_
      refine x_sameV (I' := zJ0) (fun k hk j hv => ?_) ?_
      · by_cases h4 : k = 44
        · subst h4
          have hj : j < 6 := hv
          simp [zmA, zrow, zu, zpre, zJ0, hj]
        · by_cases h5 : k = 45
          · subst h5
            have hj : j < 6 := hv
            simp [zmA, zrow, zu, zpre, zJ0, hj]
          · by_cases h1 : k = 41
            · subst h1
              by_cases q : j = 13 <;> simp [zmA, zrow, zu, zJ0, q]
            · simp [zmA, zrow, zu, h4, h5, h1]
      exact x_vret dX9_init_177 rfl (Nat.le_of_ble_eq_true rfl) (Nat.le_of_ble_eq_true rfl) (by exact ⟨rfl, rfl, rfl, rfl⟩)
    · skip
      exact absurd (nI_le (b := 6) (Nat.le_refl 6) (by decide)) h145
