theorem ct_X6_cheapest_27 {g : zG} {N : Nat} {I : zI} {L : zL} {q0 q1 : Option Nat} {need : Nat} {hs : Int32} {fit : Nat → Bool} {fo tk row : Nat → Nat} (hN : 58 ≤ N) (h1 : 1 ≤ need) (h2 : need ≤ 99) (hf : ∀ h, h < 6 → I 5 h = nI (fo h) ∧ 1 ≤ fo h ∧ fo h ≤ 20) (ht : ∀ h, h < 6 → I 6 h = nI (tk h) ∧ tk h ≤ 9) (hr : ∀ k, k < need → I 28 k = nI (row k) ∧ row k ≤ 1000000000) (hfit : ∀ h, h < 6 → zis hs (nI h) = fit h) : Ct g yX6_cheapest mX6_cheapest [.ref (g.2.1 + 27), .ref (g.2.1 + 1), .int hs, .int (nI need)] N I L (zRw q0 q1) (zD (some (.int (nI (ch_ fit fo tk row need 6)))) N I L (zRw q0 q1)) := by
  refine Ct_of (lo0 := [some (.ref (g.2.1 + 27)), some (.ref (g.2.1 + 1)), some (.int hs), some (.int (nI need)), none, none, none]) rfl rfl rfl rfl (Nat.le_of_ble_eq_true rfl) (fun E => ?_)
  refine x_ldc dX6_cheapest_0 cn_X6_32 ?_
  refine x_istore (lo2 := [_, _, _, _, _, _, _]) dX6_cheapest_2 (by decide) rfl rfl ?_
  refine x_iconst (v := 0) dX6_cheapest_4 (by decide) ?_
  refine x_istore (lo2 := [_, _, _, _, _, _, _]) dX6_cheapest_5 (by decide) rfl rfl ?_
  refine x_loop (inv := fun i => True) (fun i => [some (.ref (g.2.1 + 27)), some (.ref (g.2.1 + 1)), some (.int hs), some (.int (nI need)), some (.int (nI (ch_ fit fo tk row need i))), some (.int (nI i)), none]) (fun i => I) (fun i => L) 0 6 (by omega) (by trivial) (by rfl) (by rfl) (by rfl) (fun i hloi hhii hinvi Ki => ?_) (fun hinvi => ?_)
  · skip
    refine x_iload dX6_cheapest_7 rfl ?_
    refine x_bipush (v := 6) dX6_cheapest_9 (by decide) ?_
    refine x_icmp_ge (tgt := 72) dX6_cheapest_11 (by decide) (fun h11 => ?_) (fun h11 => ?_)
    · skip
      exact absurd h11 (nI_ge (b := 6) hhii (by decide))
    · skip
      refine x_iload_n dX6_cheapest_14 rfl ?_
      refine x_iload dX6_cheapest_15 rfl ?_
      refine x_callNi dX6_cheapest_17 nn_X6_33 mt_X8_isIn st_X8_isIn (ct_X8_isIn) rfl rfl (Nat.le_of_ble_eq_true rfl) ⟨(Nat.le_of_ble_eq_true rfl), (Nat.le_of_ble_eq_true rfl)⟩ ⟨rfl, rfl⟩ ⟨(Nat.le_of_ble_eq_true rfl), (Nat.le_of_ble_eq_true rfl)⟩ ?_
      refine x_if_eq (tgt := 66) dX6_cheapest_20 (by decide) (fun h20 => ?_) (fun h20 => ?_)
      · skip
        replace h20 := zb0 h20
        refine x_iincN (lo2 := [_, _, _, _, _, _, _]) dX6_cheapest_66 rfl rfl rfl ?_
        refine x_goto (tgt := 7) dX6_cheapest_69 (by decide) ?_
        exact x_eq (by rw [hfit i hhii] at h20; simp [ch_, h20]) (by rfl) (by rfl) (Ki (by trivial))
      · skip
        replace h20 := zb1 h20
        refine x_iload_n dX6_cheapest_23 rfl ?_
        refine x_aload_n dX6_cheapest_24 rfl ?_
        refine x_getR dX6_cheapest_25 fl_X6_37 (by omega) rfl rfl rfl ?_
        refine x_iload dX6_cheapest_28 rfl ?_
        refine x_ialdN dX6_cheapest_30 (by omega) rfl rfl (by omega) ?_
        rw [(hf i hhii).1]
        refine x_pc (pc2 := 31) rfl ?_
        refine x_isub dX6_cheapest_31 ?_
        refine x_iconst (v := 0) dX6_cheapest_32 (by decide) ?_
        refine x_mmax dX6_cheapest_33 ml_X6_40 j_max_st j_math j_max_cd (Nat.le_of_ble_eq_true rfl) ⟨(Nat.le_of_ble_eq_true rfl), (Nat.le_of_ble_eq_true rfl)⟩ ⟨(Nat.le_of_ble_eq_true rfl), (Nat.le_of_ble_eq_true rfl)⟩ ?_
        have hf1 := hf i hhii
        rw [zsub_max (by omega) (by omega)]
        have hr1 := hr (need - fo i) (by omega)
        refine x_istore (lo2 := [_, _, _, _, _, _, _]) dX6_cheapest_36 (by decide) rfl rfl ?_
        refine x_iload dX6_cheapest_38 rfl ?_
        refine x_aload_n dX6_cheapest_40 rfl ?_
        refine x_pc (pc2 := 41) rfl ?_
        refine x_getR dX6_cheapest_41 fl_X6_9 (by omega) rfl rfl rfl ?_
        refine x_iload dX6_cheapest_44 rfl ?_
        refine x_ialdN dX6_cheapest_46 (by omega) rfl rfl (by omega) ?_
        rw [hr1.1]
        refine x_sipush (v := 1000) dX6_cheapest_47 (by decide) ?_
        refine x_aload_n dX6_cheapest_50 rfl ?_
        refine x_getR dX6_cheapest_51 fl_X6_46 (by omega) rfl rfl rfl ?_
        refine x_pc (pc2 := 54) rfl ?_
        refine x_iload dX6_cheapest_54 rfl ?_
        refine x_ialdN dX6_cheapest_56 (by omega) rfl rfl (by omega) ?_
        have ht1 := ht i hhii
        rw [ht1.1]
        refine x_imul dX6_cheapest_57 ?_
        refine x_iadd dX6_cheapest_58 ?_
        refine x_iconst (v := 1) dX6_cheapest_59 (by decide) ?_
        refine x_iadd dX6_cheapest_60 ?_
        rw [show nI (row (need - fo i)) + 1000 * nI (tk i) + 1 = nI (row (need - fo i) + 1000 * tk i + 1) from by rw [show (1000 : Int32) = nI 1000 from rfl, pk_mul, nI_add, nI_1]]
        have hch := ch_le fit fo tk row need i
        refine x_pc (pc2 := 61) rfl ?_
        refine x_mmin dX6_cheapest_61 ml_X6_49 j_min_st j_math j_min_cd (Nat.le_of_ble_eq_true rfl) ⟨(Nat.le_of_ble_eq_true rfl), (Nat.le_of_ble_eq_true rfl)⟩ ⟨(Nat.le_of_ble_eq_true rfl), (Nat.le_of_ble_eq_true rfl)⟩ ?_
        rw [zmin_nI (by omega) (by omega)]
        refine x_istore (lo2 := [_, _, _, _, _, _, _]) dX6_cheapest_64 (by decide) rfl rfl ?_
        refine x_iincN (lo2 := [_, _, _, _, _, _, _]) dX6_cheapest_66 rfl rfl rfl ?_
        refine x_goto (tgt := 7) dX6_cheapest_69 (by decide) ?_
        refine x_drop (i := 6) (lo2 := [_, _, _, _, _, _, _]) rfl ?_
        exact x_eq (by rw [hfit i hhii] at h20; simp [ch_, h20]) (by rfl) (by rfl) (Ki (by trivial))
  · skip
    refine x_iload dX6_cheapest_7 rfl ?_
    refine x_bipush (v := 6) dX6_cheapest_9 (by decide) ?_
    refine x_icmp_ge (tgt := 72) dX6_cheapest_11 (by decide) (fun h11 => ?_) (fun h11 => ?_)
    · skip
      refine x_iload dX6_cheapest_72 rfl ?_
      exact x_iret dX6_cheapest_74 rfl (Nat.le_of_ble_eq_true rfl) (Nat.le_of_ble_eq_true rfl) ⟨congrArg (fun z => some (Value.int z)) (by rfl), rfl, by rfl, by rfl, rfl⟩
    · skip
      exact absurd (nI_le (b := 6) (Nat.le_refl 6) (by decide)) h11
theorem ct_X6_priceOf_27 {g : zG} {N : Nat} {I : zI} {L : zL} {q0 q1 : Option Nat} {a s : Nat} {fo tk : Nat → Nat} (hN : 58 ≤ N) (ha : a < 6) (hs : I 2 a = nI s) (hs2 : s ≤ 99) (hf : ∀ h, h < 6 → I 5 h = nI (fo h) ∧ 1 ≤ fo h ∧ fo h ≤ 20) (ht : ∀ h, h < 6 → I 6 h = nI (tk h) ∧ tk h ≤ 9) : Ct g yX6_priceOf mX6_priceOf [.ref (g.2.1 + 27), .ref (g.2.1 + 1), .int (nI a)] N I L (zRw q0 q1) (zD1 (some (.int (if hf_ (I 4) (I 3 a) 6 = 0 then -6 else nI ((pt_ (fun h => zis (hf_ (I 4) (I 3 a) 6) (nI h)) fo tk) s s)))) N I 28 L (zRw q0 q1)) := by
  refine Ct_of (lo0 := [some (.ref (g.2.1 + 27)), some (.ref (g.2.1 + 1)), some (.int (nI a)), none, none, none]) rfl rfl rfl rfl (Nat.le_of_ble_eq_true rfl) (fun E => ?_)
  refine x_aload_n dX6_priceOf_0 rfl ?_
  refine x_iload_n dX6_priceOf_1 rfl ?_
  refine x_callVi dX6_priceOf_2 ml_X6_15 mt_X3_holdsThatFit mv_X3_holdsThatFit (ct_X3_holdsThatFit (Or.inl rfl) (by omega) rfl ha) (by omega) rfl rfl rfl rfl (Nat.le_of_ble_eq_true rfl) ⟨(Nat.le_of_ble_eq_true rfl), (Nat.le_of_ble_eq_true rfl)⟩ ⟨rfl, rfl⟩ ⟨(Nat.le_of_ble_eq_true rfl), (Nat.le_of_ble_eq_true rfl)⟩ ?_
  refine x_istore_n (lo2 := [_, _, _, _, _, _]) dX6_priceOf_5 (by decide) rfl rfl ?_
  refine x_aload_n dX6_priceOf_6 rfl ?_
  refine x_pc (pc2 := 7) rfl ?_
  refine x_getR dX6_priceOf_7 fl_X6_21 (by omega) rfl rfl rfl ?_
  refine x_iload_n dX6_priceOf_10 rfl ?_
  refine x_ialdN dX6_priceOf_11 (by omega) rfl rfl ha ?_
  rw [hs]
  refine x_istore (lo2 := [_, _, _, _, _, _]) dX6_priceOf_12 (by decide) rfl rfl ?_
  refine x_iload_n dX6_priceOf_14 rfl ?_
  refine x_if_eq (tgt := 29) dX6_priceOf_15 (by decide) (fun h15 => ?_) (fun h15 => ?_)
  · skip
    refine x_bipush (v := (-6)) dX6_priceOf_29 (by decide) ?_
    exact x_iret dX6_priceOf_31 rfl (Nat.le_of_ble_eq_true rfl) (Nat.le_of_ble_eq_true rfl) (by exact ⟨by rw [if_pos h15], rfl, ⟨I 28, (zrow_same I _).symm⟩, rfl, rfl⟩)
  · skip
    refine x_iload dX6_priceOf_18 rfl ?_
    refine x_iconst (v := 0) dX6_priceOf_20 (by decide) ?_
    refine x_bipush (v := 99) dX6_priceOf_21 (by decide) ?_
    refine x_callNi dX6_priceOf_23 nn_X6_24 mt_X8_isFrom st_X8_isFrom (ct_X8_isFrom) rfl rfl (Nat.le_of_ble_eq_true rfl) ⟨(Nat.le_of_ble_eq_true rfl), (Nat.le_of_ble_eq_true rfl)⟩ ⟨rfl, rfl⟩ ⟨(Nat.le_of_ble_eq_true rfl), (Nat.le_of_ble_eq_true rfl)⟩ ?_
    refine x_if_ne (tgt := 32) dX6_priceOf_26 (by decide) (fun h26 => ?_) (fun h26 => ?_)
    · skip
      replace h26 := zb1 h26
      refine x_aload_n dX6_priceOf_32 rfl ?_
      refine x_getR dX6_priceOf_33 fl_X6_9 (by omega) rfl rfl rfl ?_
      refine x_iconst (v := 0) dX6_priceOf_36 (by decide) ?_
      refine x_iconst (v := 0) dX6_priceOf_37 (by decide) ?_
      refine x_iast (i := 0) dX6_priceOf_38 (by omega) rfl rfl (by decide) ?_
      refine x_pc (pc2 := 39) rfl ?_
      refine x_iconst (v := 1) dX6_priceOf_39 (by decide) ?_
      refine x_istore (lo2 := [_, _, _, _, _, _]) dX6_priceOf_40 (by decide) rfl rfl ?_
      refine x_loop (inv := fun i => True) (fun i => [some (.ref (g.2.1 + 27)), some (.ref (g.2.1 + 1)), some (.int (nI a)), some (.int (hf_ (I 4) (I 3 a) 6)), some (.int (nI s)), some (.int (nI i))]) (fun i => zrow I 28 (prw (fun h => zis (hf_ (I 4) (I 3 a) 6) (nI h)) fo tk (I 28) i)) (fun i => L) 1 (s + 1) (by omega) (by trivial) (by rfl) (by rw [zu_is, prw_1]) (by rfl) (fun i hloi hhii hinvi Ki => ?_) (fun hinvi => ?_)
      · skip
        refine x_iload dX6_priceOf_42 rfl ?_
        refine x_iload dX6_priceOf_44 rfl ?_
        refine x_icmp_gt (tgt := 70) dX6_priceOf_46 (by decide) (fun h46 => ?_) (fun h46 => ?_)
        · skip
          exact absurd h46 (nI_nlt (show i ≤ s by omega) (by omega))
        · skip
          refine x_aload_n dX6_priceOf_49 rfl ?_
          refine x_getR dX6_priceOf_50 fl_X6_9 (by omega) rfl rfl rfl ?_
          refine x_iload dX6_priceOf_53 rfl ?_
          refine x_aload_n dX6_priceOf_55 rfl ?_
          refine x_aload_n dX6_priceOf_56 rfl ?_
          refine x_pc (pc2 := 57) rfl ?_
          refine x_iload_n dX6_priceOf_57 rfl ?_
          refine x_iload dX6_priceOf_58 rfl ?_
          refine x_callVi dX6_priceOf_60 ml_X6_28 mt_X6_cheapest mv_X6_cheapest (ct_X6_cheapest_27 hN hloi (by omega) (fun h hh => by rw [zrow_ne _ _ (by decide)]; exact hf h hh) (fun h hh => by rw [zrow_ne _ _ (by decide)]; exact ht h hh) (row := (pt_ (fun h => zis (hf_ (I 4) (I 3 a) 6) (nI h)) fo tk) (i - 1)) (fun k hk => ⟨by rw [zrow_k]; simp [prw, hk], pt_le _ _ _ _ _⟩) (fun _ _ => rfl)) (by omega) rfl rfl rfl rfl (Nat.le_of_ble_eq_true rfl) ⟨(Nat.le_of_ble_eq_true rfl), (Nat.le_of_ble_eq_true rfl)⟩ ⟨rfl, rfl⟩ ⟨(Nat.le_of_ble_eq_true rfl), (Nat.le_of_ble_eq_true rfl)⟩ ?_
          refine x_iast dX6_priceOf_63 (by omega) rfl rfl (by omega) ?_
          refine x_iincN (lo2 := [_, _, _, _, _, _]) dX6_priceOf_64 rfl rfl rfl ?_
          refine x_goto (tgt := 42) dX6_priceOf_67 (by decide) ?_
          exact x_eq (by rfl) (by rw [zu_zrow, prw_s hloi]) (by rfl) (Ki (by trivial))
      · skip
        refine x_iload dX6_priceOf_42 rfl ?_
        refine x_iload dX6_priceOf_44 rfl ?_
        refine x_icmp_gt (tgt := 70) dX6_priceOf_46 (by decide) (fun h46 => ?_) (fun h46 => ?_)
        · skip
          refine x_aload_n dX6_priceOf_70 rfl ?_
          refine x_getR dX6_priceOf_71 fl_X6_9 (by omega) rfl rfl rfl ?_
          refine x_iload dX6_priceOf_74 rfl ?_
          refine x_ialdN dX6_priceOf_76 (by omega) rfl rfl (by omega) ?_
          exact x_iret dX6_priceOf_77 rfl (Nat.le_of_ble_eq_true rfl) (Nat.le_of_ble_eq_true rfl) (by exact ⟨by rw [if_neg h15, zrow_k]; simp [prw], rfl, ⟨_, rfl⟩, rfl, rfl⟩)
        · skip
          exact absurd (nI_lt (Nat.lt_succ_self s) (by omega)) h46
    · skip
      replace h26 := zb0 h26
      exact absurd h26 (by rw [show zin (nI s) 0 99 = true from by rw [show (0 : Int32) = nI 0 from rfl, show (99 : Int32) = nI 99 from rfl, zin_nI (by omega) (by omega) (by omega)]; simp; omega]; decide)
theorem ct_X6_cheapest_30 {g : zG} {N : Nat} {I : zI} {L : zL} {q0 q1 : Option Nat} {need : Nat} {hs : Int32} {fit : Nat → Bool} {fo tk row : Nat → Nat} (hN : 58 ≤ N) (h1 : 1 ≤ need) (h2 : need ≤ 99) (hf : ∀ h, h < 6 → I 5 h = nI (fo h) ∧ 1 ≤ fo h ∧ fo h ≤ 20) (ht : ∀ h, h < 6 → I 6 h = nI (tk h) ∧ tk h ≤ 9) (hr : ∀ k, k < need → I 31 k = nI (row k) ∧ row k ≤ 1000000000) (hfit : ∀ h, h < 6 → zis hs (nI h) = fit h) : Ct g yX6_cheapest mX6_cheapest [.ref (g.2.1 + 30), .ref (g.2.1 + 1), .int hs, .int (nI need)] N I L (zRw q0 q1) (zD (some (.int (nI (ch_ fit fo tk row need 6)))) N I L (zRw q0 q1)) := by
  refine Ct_of (lo0 := [some (.ref (g.2.1 + 30)), some (.ref (g.2.1 + 1)), some (.int hs), some (.int (nI need)), none, none, none]) rfl rfl rfl rfl (Nat.le_of_ble_eq_true rfl) (fun E => ?_)
  refine x_ldc dX6_cheapest_0 cn_X6_32 ?_
  refine x_istore (lo2 := [_, _, _, _, _, _, _]) dX6_cheapest_2 (by decide) rfl rfl ?_
  refine x_iconst (v := 0) dX6_cheapest_4 (by decide) ?_
  refine x_istore (lo2 := [_, _, _, _, _, _, _]) dX6_cheapest_5 (by decide) rfl rfl ?_
  refine x_loop (inv := fun i => True) (fun i => [some (.ref (g.2.1 + 30)), some (.ref (g.2.1 + 1)), some (.int hs), some (.int (nI need)), some (.int (nI (ch_ fit fo tk row need i))), some (.int (nI i)), none]) (fun i => I) (fun i => L) 0 6 (by omega) (by trivial) (by rfl) (by rfl) (by rfl) (fun i hloi hhii hinvi Ki => ?_) (fun hinvi => ?_)
  · skip
    refine x_iload dX6_cheapest_7 rfl ?_
    refine x_bipush (v := 6) dX6_cheapest_9 (by decide) ?_
    refine x_icmp_ge (tgt := 72) dX6_cheapest_11 (by decide) (fun h11 => ?_) (fun h11 => ?_)
    · skip
      exact absurd h11 (nI_ge (b := 6) hhii (by decide))
    · skip
      refine x_iload_n dX6_cheapest_14 rfl ?_
      refine x_iload dX6_cheapest_15 rfl ?_
      refine x_callNi dX6_cheapest_17 nn_X6_33 mt_X8_isIn st_X8_isIn (ct_X8_isIn) rfl rfl (Nat.le_of_ble_eq_true rfl) ⟨(Nat.le_of_ble_eq_true rfl), (Nat.le_of_ble_eq_true rfl)⟩ ⟨rfl, rfl⟩ ⟨(Nat.le_of_ble_eq_true rfl), (Nat.le_of_ble_eq_true rfl)⟩ ?_
      refine x_if_eq (tgt := 66) dX6_cheapest_20 (by decide) (fun h20 => ?_) (fun h20 => ?_)
      · skip
        replace h20 := zb0 h20
        refine x_iincN (lo2 := [_, _, _, _, _, _, _]) dX6_cheapest_66 rfl rfl rfl ?_
        refine x_goto (tgt := 7) dX6_cheapest_69 (by decide) ?_
        exact x_eq (by rw [hfit i hhii] at h20; simp [ch_, h20]) (by rfl) (by rfl) (Ki (by trivial))
      · skip
        replace h20 := zb1 h20
        refine x_iload_n dX6_cheapest_23 rfl ?_
        refine x_aload_n dX6_cheapest_24 rfl ?_
        refine x_getR dX6_cheapest_25 fl_X6_37 (by omega) rfl rfl rfl ?_
        refine x_iload dX6_cheapest_28 rfl ?_
        refine x_ialdN dX6_cheapest_30 (by omega) rfl rfl (by omega) ?_
        rw [(hf i hhii).1]
        refine x_pc (pc2 := 31) rfl ?_
        refine x_isub dX6_cheapest_31 ?_
        refine x_iconst (v := 0) dX6_cheapest_32 (by decide) ?_
        refine x_mmax dX6_cheapest_33 ml_X6_40 j_max_st j_math j_max_cd (Nat.le_of_ble_eq_true rfl) ⟨(Nat.le_of_ble_eq_true rfl), (Nat.le_of_ble_eq_true rfl)⟩ ⟨(Nat.le_of_ble_eq_true rfl), (Nat.le_of_ble_eq_true rfl)⟩ ?_
        have hf1 := hf i hhii
        rw [zsub_max (by omega) (by omega)]
        have hr1 := hr (need - fo i) (by omega)
        refine x_istore (lo2 := [_, _, _, _, _, _, _]) dX6_cheapest_36 (by decide) rfl rfl ?_
        refine x_iload dX6_cheapest_38 rfl ?_
        refine x_aload_n dX6_cheapest_40 rfl ?_
        refine x_pc (pc2 := 41) rfl ?_
        refine x_getR dX6_cheapest_41 fl_X6_9 (by omega) rfl rfl rfl ?_
        refine x_iload dX6_cheapest_44 rfl ?_
        refine x_ialdN dX6_cheapest_46 (by omega) rfl rfl (by omega) ?_
        rw [hr1.1]
        refine x_sipush (v := 1000) dX6_cheapest_47 (by decide) ?_
        refine x_aload_n dX6_cheapest_50 rfl ?_
        refine x_getR dX6_cheapest_51 fl_X6_46 (by omega) rfl rfl rfl ?_
        refine x_pc (pc2 := 54) rfl ?_
        refine x_iload dX6_cheapest_54 rfl ?_
        refine x_ialdN dX6_cheapest_56 (by omega) rfl rfl (by omega) ?_
        have ht1 := ht i hhii
        rw [ht1.1]
        refine x_imul dX6_cheapest_57 ?_
        refine x_iadd dX6_cheapest_58 ?_
        refine x_iconst (v := 1) dX6_cheapest_59 (by decide) ?_
        refine x_iadd dX6_cheapest_60 ?_
        rw [show nI (row (need - fo i)) + 1000 * nI (tk i) + 1 = nI (row (need - fo i) + 1000 * tk i + 1) from by rw [show (1000 : Int32) = nI 1000 from rfl, pk_mul, nI_add, nI_1]]
        have hch := ch_le fit fo tk row need i
        refine x_pc (pc2 := 61) rfl ?_
        refine x_mmin dX6_cheapest_61 ml_X6_49 j_min_st j_math j_min_cd (Nat.le_of_ble_eq_true rfl) ⟨(Nat.le_of_ble_eq_true rfl), (Nat.le_of_ble_eq_true rfl)⟩ ⟨(Nat.le_of_ble_eq_true rfl), (Nat.le_of_ble_eq_true rfl)⟩ ?_
        rw [zmin_nI (by omega) (by omega)]
        refine x_istore (lo2 := [_, _, _, _, _, _, _]) dX6_cheapest_64 (by decide) rfl rfl ?_
        refine x_iincN (lo2 := [_, _, _, _, _, _, _]) dX6_cheapest_66 rfl rfl rfl ?_
        refine x_goto (tgt := 7) dX6_cheapest_69 (by decide) ?_
        refine x_drop (i := 6) (lo2 := [_, _, _, _, _, _, _]) rfl ?_
        exact x_eq (by rw [hfit i hhii] at h20; simp [ch_, h20]) (by rfl) (by rfl) (Ki (by trivial))
  · skip
    refine x_iload dX6_cheapest_7 rfl ?_
    refine x_bipush (v := 6) dX6_cheapest_9 (by decide) ?_
    refine x_icmp_ge (tgt := 72) dX6_cheapest_11 (by decide) (fun h11 => ?_) (fun h11 => ?_)
    · skip
      refine x_iload dX6_cheapest_72 rfl ?_
      exact x_iret dX6_cheapest_74 rfl (Nat.le_of_ble_eq_true rfl) (Nat.le_of_ble_eq_true rfl) ⟨congrArg (fun z => some (Value.int z)) (by rfl), rfl, by rfl, by rfl, rfl⟩
    · skip
      exact absurd (nI_le (b := 6) (Nat.le_refl 6) (by decide)) h11
theorem ct_X6_priceOf_30 {g : zG} {N : Nat} {I : zI} {L : zL} {q0 q1 : Option Nat} {a s : Nat} {fo tk : Nat → Nat} (hN : 58 ≤ N) (ha : a < 6) (hs : I 2 a = nI s) (hs2 : s ≤ 99) (hf : ∀ h, h < 6 → I 5 h = nI (fo h) ∧ 1 ≤ fo h ∧ fo h ≤ 20) (ht : ∀ h, h < 6 → I 6 h = nI (tk h) ∧ tk h ≤ 9) : Ct g yX6_priceOf mX6_priceOf [.ref (g.2.1 + 30), .ref (g.2.1 + 1), .int (nI a)] N I L (zRw q0 q1) (zD1 (some (.int (if hf_ (I 4) (I 3 a) 6 = 0 then -6 else nI ((pt_ (fun h => zis (hf_ (I 4) (I 3 a) 6) (nI h)) fo tk) s s)))) N I 31 L (zRw q0 q1)) := by
  refine Ct_of (lo0 := [some (.ref (g.2.1 + 30)), some (.ref (g.2.1 + 1)), some (.int (nI a)), none, none, none]) rfl rfl rfl rfl (Nat.le_of_ble_eq_true rfl) (fun E => ?_)
  refine x_aload_n dX6_priceOf_0 rfl ?_
  refine x_iload_n dX6_priceOf_1 rfl ?_
  refine x_callVi dX6_priceOf_2 ml_X6_15 mt_X3_holdsThatFit mv_X3_holdsThatFit (ct_X3_holdsThatFit (Or.inl rfl) (by omega) rfl ha) (by omega) rfl rfl rfl rfl (Nat.le_of_ble_eq_true rfl) ⟨(Nat.le_of_ble_eq_true rfl), (Nat.le_of_ble_eq_true rfl)⟩ ⟨rfl, rfl⟩ ⟨(Nat.le_of_ble_eq_true rfl), (Nat.le_of_ble_eq_true rfl)⟩ ?_
  refine x_istore_n (lo2 := [_, _, _, _, _, _]) dX6_priceOf_5 (by decide) rfl rfl ?_
  refine x_aload_n dX6_priceOf_6 rfl ?_
  refine x_pc (pc2 := 7) rfl ?_
  refine x_getR dX6_priceOf_7 fl_X6_21 (by omega) rfl rfl rfl ?_
  refine x_iload_n dX6_priceOf_10 rfl ?_
  refine x_ialdN dX6_priceOf_11 (by omega) rfl rfl ha ?_
  rw [hs]
  refine x_istore (lo2 := [_, _, _, _, _, _]) dX6_priceOf_12 (by decide) rfl rfl ?_
  refine x_iload_n dX6_priceOf_14 rfl ?_
  refine x_if_eq (tgt := 29) dX6_priceOf_15 (by decide) (fun h15 => ?_) (fun h15 => ?_)
  · skip
    refine x_bipush (v := (-6)) dX6_priceOf_29 (by decide) ?_
    exact x_iret dX6_priceOf_31 rfl (Nat.le_of_ble_eq_true rfl) (Nat.le_of_ble_eq_true rfl) (by exact ⟨by rw [if_pos h15], rfl, ⟨I 31, (zrow_same I _).symm⟩, rfl, rfl⟩)
  · skip
    refine x_iload dX6_priceOf_18 rfl ?_
    refine x_iconst (v := 0) dX6_priceOf_20 (by decide) ?_
    refine x_bipush (v := 99) dX6_priceOf_21 (by decide) ?_
    refine x_callNi dX6_priceOf_23 nn_X6_24 mt_X8_isFrom st_X8_isFrom (ct_X8_isFrom) rfl rfl (Nat.le_of_ble_eq_true rfl) ⟨(Nat.le_of_ble_eq_true rfl), (Nat.le_of_ble_eq_true rfl)⟩ ⟨rfl, rfl⟩ ⟨(Nat.le_of_ble_eq_true rfl), (Nat.le_of_ble_eq_true rfl)⟩ ?_
    refine x_if_ne (tgt := 32) dX6_priceOf_26 (by decide) (fun h26 => ?_) (fun h26 => ?_)
    · skip
      replace h26 := zb1 h26
      refine x_aload_n dX6_priceOf_32 rfl ?_
      refine x_getR dX6_priceOf_33 fl_X6_9 (by omega) rfl rfl rfl ?_
      refine x_iconst (v := 0) dX6_priceOf_36 (by decide) ?_
      refine x_iconst (v := 0) dX6_priceOf_37 (by decide) ?_
      refine x_iast (i := 0) dX6_priceOf_38 (by omega) rfl rfl (by decide) ?_
      refine x_pc (pc2 := 39) rfl ?_
      refine x_iconst (v := 1) dX6_priceOf_39 (by decide) ?_
      refine x_istore (lo2 := [_, _, _, _, _, _]) dX6_priceOf_40 (by decide) rfl rfl ?_
      refine x_loop (inv := fun i => True) (fun i => [some (.ref (g.2.1 + 30)), some (.ref (g.2.1 + 1)), some (.int (nI a)), some (.int (hf_ (I 4) (I 3 a) 6)), some (.int (nI s)), some (.int (nI i))]) (fun i => zrow I 31 (prw (fun h => zis (hf_ (I 4) (I 3 a) 6) (nI h)) fo tk (I 31) i)) (fun i => L) 1 (s + 1) (by omega) (by trivial) (by rfl) (by rw [zu_is, prw_1]) (by rfl) (fun i hloi hhii hinvi Ki => ?_) (fun hinvi => ?_)
      · skip
        refine x_iload dX6_priceOf_42 rfl ?_
        refine x_iload dX6_priceOf_44 rfl ?_
        refine x_icmp_gt (tgt := 70) dX6_priceOf_46 (by decide) (fun h46 => ?_) (fun h46 => ?_)
        · skip
          exact absurd h46 (nI_nlt (show i ≤ s by omega) (by omega))
        · skip
          refine x_aload_n dX6_priceOf_49 rfl ?_
          refine x_getR dX6_priceOf_50 fl_X6_9 (by omega) rfl rfl rfl ?_
          refine x_iload dX6_priceOf_53 rfl ?_
          refine x_aload_n dX6_priceOf_55 rfl ?_
          refine x_aload_n dX6_priceOf_56 rfl ?_
          refine x_pc (pc2 := 57) rfl ?_
          refine x_iload_n dX6_priceOf_57 rfl ?_
          refine x_iload dX6_priceOf_58 rfl ?_
          refine x_callVi dX6_priceOf_60 ml_X6_28 mt_X6_cheapest mv_X6_cheapest (ct_X6_cheapest_30 hN hloi (by omega) (fun h hh => by rw [zrow_ne _ _ (by decide)]; exact hf h hh) (fun h hh => by rw [zrow_ne _ _ (by decide)]; exact ht h hh) (row := (pt_ (fun h => zis (hf_ (I 4) (I 3 a) 6) (nI h)) fo tk) (i - 1)) (fun k hk => ⟨by rw [zrow_k]; simp [prw, hk], pt_le _ _ _ _ _⟩) (fun _ _ => rfl)) (by omega) rfl rfl rfl rfl (Nat.le_of_ble_eq_true rfl) ⟨(Nat.le_of_ble_eq_true rfl), (Nat.le_of_ble_eq_true rfl)⟩ ⟨rfl, rfl⟩ ⟨(Nat.le_of_ble_eq_true rfl), (Nat.le_of_ble_eq_true rfl)⟩ ?_
          refine x_iast dX6_priceOf_63 (by omega) rfl rfl (by omega) ?_
          refine x_iincN (lo2 := [_, _, _, _, _, _]) dX6_priceOf_64 rfl rfl rfl ?_
          refine x_goto (tgt := 42) dX6_priceOf_67 (by decide) ?_
          exact x_eq (by rfl) (by rw [zu_zrow, prw_s hloi]) (by rfl) (Ki (by trivial))
      · skip
        refine x_iload dX6_priceOf_42 rfl ?_
        refine x_iload dX6_priceOf_44 rfl ?_
        refine x_icmp_gt (tgt := 70) dX6_priceOf_46 (by decide) (fun h46 => ?_) (fun h46 => ?_)
        · skip
          refine x_aload_n dX6_priceOf_70 rfl ?_
          refine x_getR dX6_priceOf_71 fl_X6_9 (by omega) rfl rfl rfl ?_
          refine x_iload dX6_priceOf_74 rfl ?_
          refine x_ialdN dX6_priceOf_76 (by omega) rfl rfl (by omega) ?_
          exact x_iret dX6_priceOf_77 rfl (Nat.le_of_ble_eq_true rfl) (Nat.le_of_ble_eq_true rfl) (by exact ⟨by rw [if_neg h15, zrow_k]; simp [prw], rfl, ⟨_, rfl⟩, rfl, rfl⟩)
        · skip
          exact absurd (nI_lt (Nat.lt_succ_self s) (by omega)) h46
    · skip
      replace h26 := zb0 h26
      exact absurd h26 (by rw [show zin (nI s) 0 99 = true from by rw [show (0 : Int32) = nI 0 from rfl, show (99 : Int32) = nI 99 from rfl, zin_nI (by omega) (by omega) (by omega)]; simp; omega]; decide)
theorem ct_X4_borneIfFirst {g : zG} {N : Nat} {I : zI} {L : zL} {q0 q1 : Option Nat} {n h : Nat} {st hr B : Nat → Nat} (hN : 58 ≤ N) (hn : n < 64) (hh : h < 6) (hb : n.testBit h = true) (hst : ∀ k, k < 6 → I 2 k = nI (st k)) (hst2 : ∀ k, k < 6 → st k ≤ 99) (hhr : I 32 h = nI (hr h)) (hB : I 33 (n - 2 ^ h) = nI (B (n - 2 ^ h))) : Ct g yX4_borneIfFirst mX4_borneIfFirst [.ref (g.2.1 + 29), .ref (g.2.1 + 1), .int (nI n), .int (nI h)] N I L (zRw q0 q1) (zD (some (.int (nI (bf_ st hr B n h)))) N I L (zRw q0 q1)) := by
  refine Ct_of (lo0 := [some (.ref (g.2.1 + 29)), some (.ref (g.2.1 + 1)), some (.int (nI n)), some (.int (nI h))]) rfl rfl rfl rfl (Nat.le_of_ble_eq_true rfl) (fun E => ?_)
  refine x_aload_n dX4_borneIfFirst_0 rfl ?_
  refine x_iload_n dX4_borneIfFirst_1 rfl ?_
  refine x_callVi dX4_borneIfFirst_2 ml_X4_60 mt_X3_strengthOf mv_X3_strengthOf (ct_X3_strengthOf (m := 1) (Or.inl rfl) (by omega)) (by omega) rfl rfl rfl rfl (Nat.le_of_ble_eq_true rfl) ⟨(Nat.le_of_ble_eq_true rfl), (Nat.le_of_ble_eq_true rfl)⟩ ⟨rfl, rfl⟩ ⟨(Nat.le_of_ble_eq_true rfl), (Nat.le_of_ble_eq_true rfl)⟩ ?_
  rw [so_nI hn hst 6 (Nat.le_refl 6)]
  refine x_aload_n dX4_borneIfFirst_5 rfl ?_
  refine x_getR dX4_borneIfFirst_6 fl_X4_18 (by omega) rfl rfl rfl ?_
  refine x_pc (pc2 := 9) rfl ?_
  refine x_iload_n dX4_borneIfFirst_9 rfl ?_
  refine x_ialdN dX4_borneIfFirst_10 (by omega) rfl rfl hh ?_
  refine x_imul dX4_borneIfFirst_11 ?_
  refine x_aload_n dX4_borneIfFirst_12 rfl ?_
  refine x_getR dX4_borneIfFirst_13 fl_X4_22 (by omega) rfl rfl rfl ?_
  refine x_iload_n dX4_borneIfFirst_16 rfl ?_
  refine x_pc (pc2 := 17) rfl ?_
  refine x_iconst (v := 1) dX4_borneIfFirst_17 (by decide) ?_
  refine x_iload_n dX4_borneIfFirst_18 rfl ?_
  refine x_ishl dX4_borneIfFirst_19 ?_
  refine x_iconst (v := (-1)) dX4_borneIfFirst_20 (by decide) ?_
  refine x_ixor dX4_borneIfFirst_21 ?_
  refine x_iand dX4_borneIfFirst_22 ?_
  refine x_pc (pc2 := 23) rfl ?_
  refine x_ialdN dX4_borneIfFirst_23 (by omega) rfl (zclr hn hh hb) (Nat.lt_of_le_of_lt (Nat.sub_le n (2 ^ h)) hn) ?_
  refine x_iadd dX4_borneIfFirst_24 ?_
  exact x_iret dX4_borneIfFirst_25 rfl (Nat.le_of_ble_eq_true rfl) (Nat.le_of_ble_eq_true rfl) ⟨congrArg (fun z => some (Value.int z)) (by rw [hhr, hB, pk_mul, nI_add]; rfl), rfl, by rfl, by rfl, rfl⟩
theorem ct_X4_leastOf {g : zG} {N : Nat} {I : zI} {L : zL} {q0 q1 : Option Nat} {n : Nat} {st hr B : Nat → Nat} (hN : 58 ≤ N) (hn : n < 64) (hst : ∀ k, k < 6 → I 2 k = nI (st k)) (hst2 : ∀ k, k < 6 → st k ≤ 99) (hhr : ∀ h, h < 6 → n.testBit h = true → I 32 h = nI (hr h) ∧ hr h ≤ 999) (hB : ∀ h, h < 6 → n.testBit h = true → I 33 (n - 2 ^ h) = nI (B (n - 2 ^ h)) ∧ B (n - 2 ^ h) ≤ 1000000000) : Ct g yX4_leastOf mX4_leastOf [.ref (g.2.1 + 29), .ref (g.2.1 + 1), .int (nI n)] N I L (zRw q0 q1) (zD (some (.int (nI (lo_ st hr B n 6)))) N I L (zRw q0 q1)) := by
  refine Ct_of (lo0 := [some (.ref (g.2.1 + 29)), some (.ref (g.2.1 + 1)), some (.int (nI n)), none, none]) rfl rfl rfl rfl (Nat.le_of_ble_eq_true rfl) (fun E => ?_)
  refine x_ldc dX4_leastOf_0 cn_X4_46 ?_
  refine x_istore_n (lo2 := [_, _, _, _, _]) dX4_leastOf_2 (by decide) rfl rfl ?_
  refine x_iconst (v := 0) dX4_leastOf_3 (by decide) ?_
  refine x_istore (lo2 := [_, _, _, _, _]) dX4_leastOf_4 (by decide) rfl rfl ?_
  refine x_loop (inv := fun i => True) (fun i => [some (.ref (g.2.1 + 29)), some (.ref (g.2.1 + 1)), some (.int (nI n)), some (.int (nI (lo_ st hr B n i))), some (.int (nI i))]) (fun i => I) (fun i => L) 0 6 (by omega) (by trivial) (by rfl) (by rfl) (by rfl) (fun i hloi hhii hinvi Ki => ?_) (fun hinvi => ?_)
  · skip
    refine x_iload dX4_leastOf_6 rfl ?_
    refine x_bipush (v := 6) dX4_leastOf_8 (by decide) ?_
    refine x_icmp_ge (tgt := 41) dX4_leastOf_10 (by decide) (fun h10 => ?_) (fun h10 => ?_)
    · skip
      exact absurd h10 (nI_ge (b := 6) hhii (by decide))
    · skip
      refine x_iload_n dX4_leastOf_13 rfl ?_
      refine x_iload dX4_leastOf_14 rfl ?_
      refine x_callNi dX4_leastOf_16 nn_X4_47 mt_X8_isIn st_X8_isIn (ct_X8_isIn) rfl rfl (Nat.le_of_ble_eq_true rfl) ⟨(Nat.le_of_ble_eq_true rfl), (Nat.le_of_ble_eq_true rfl)⟩ ⟨rfl, rfl⟩ ⟨(Nat.le_of_ble_eq_true rfl), (Nat.le_of_ble_eq_true rfl)⟩ ?_
      refine x_if_eq (tgt := 35) dX4_leastOf_19 (by decide) (fun h19 => ?_) (fun h19 => ?_)
      · skip
        replace h19 := zb0 h19
        rw [zis_nI (by omega) (by omega)] at h19
        refine x_iincN (lo2 := [_, _, _, _, _]) dX4_leastOf_35 rfl rfl rfl ?_
        refine x_goto (tgt := 6) dX4_leastOf_38 (by decide) ?_
        exact x_eq (by first | (simp [lo_, h19]; done) | (simp [lo_, hb])) (by rfl) (by rfl) (Ki (by trivial))
      · skip
        replace h19 := zb1 h19
        rw [zis_nI (by omega) (by omega)] at h19
        have hb := h19
        have hB1 := hB i hhii hb
        have hhr1 := hhr i hhii hb
        have hlo := lo_le st hr B n i
        have hbf := bf_le (n := n) (B := B) hst2 hhr1.2 hB1.2
        refine x_iload_n dX4_leastOf_22 rfl ?_
        refine x_aload_n dX4_leastOf_23 rfl ?_
        refine x_aload_n dX4_leastOf_24 rfl ?_
        refine x_iload_n dX4_leastOf_25 rfl ?_
        refine x_iload dX4_leastOf_26 rfl ?_
        refine x_pc (pc2 := 28) rfl ?_
        refine x_callVi dX4_leastOf_28 ml_X4_50 mt_X4_borneIfFirst mv_X4_borneIfFirst (ct_X4_borneIfFirst hN hn hhii hb hst hst2 hhr1.1 hB1.1) (by omega) rfl rfl rfl rfl (Nat.le_of_ble_eq_true rfl) ⟨(Nat.le_of_ble_eq_true rfl), (Nat.le_of_ble_eq_true rfl)⟩ ⟨rfl, rfl⟩ ⟨(Nat.le_of_ble_eq_true rfl), (Nat.le_of_ble_eq_true rfl)⟩ ?_
        refine x_mmin dX4_leastOf_31 ml_X4_54 j_min_st j_math j_min_cd (Nat.le_of_ble_eq_true rfl) ⟨(Nat.le_of_ble_eq_true rfl), (Nat.le_of_ble_eq_true rfl)⟩ ⟨(Nat.le_of_ble_eq_true rfl), (Nat.le_of_ble_eq_true rfl)⟩ ?_
        rw [zmin_nI (by omega) (by omega)]
        refine x_istore_n (lo2 := [_, _, _, _, _]) dX4_leastOf_34 (by decide) rfl rfl ?_
        refine x_iincN (lo2 := [_, _, _, _, _]) dX4_leastOf_35 rfl rfl rfl ?_
        refine x_goto (tgt := 6) dX4_leastOf_38 (by decide) ?_
        exact x_eq (by first | (simp [lo_, h19]; done) | (simp [lo_, hb])) (by rfl) (by rfl) (Ki (by trivial))
  · skip
    refine x_iload dX4_leastOf_6 rfl ?_
    refine x_bipush (v := 6) dX4_leastOf_8 (by decide) ?_
    refine x_icmp_ge (tgt := 41) dX4_leastOf_10 (by decide) (fun h10 => ?_) (fun h10 => ?_)
    · skip
      refine x_iload_n dX4_leastOf_41 rfl ?_
      exact x_iret dX4_leastOf_42 rfl (Nat.le_of_ble_eq_true rfl) (Nat.le_of_ble_eq_true rfl) ⟨congrArg (fun z => some (Value.int z)) (by rfl), rfl, by rfl, by rfl, rfl⟩
    · skip
      exact absurd (nI_le (b := 6) (Nat.le_refl 6) (by decide)) h10
theorem ct_X4_leastBorne {g : zG} {N : Nat} {I : zI} {L : zL} {q0 q1 : Option Nat} {t : Nat} (hN : 58 ≤ N) (h : I 29 3 = nI t) (ht : t < 64) : Ct g yX4_leastBorne mX4_leastBorne [.ref (g.2.1 + 29)] N I L (zRw q0 q1) (zD (some (.int (I 33 t))) N I L (zRw q0 q1)) := by
  refine Ct_of (lo0 := [some (.ref (g.2.1 + 29))]) rfl rfl rfl rfl (Nat.le_of_ble_eq_true rfl) (fun E => ?_)
  refine x_aload_n dX4_leastBorne_0 rfl ?_
  refine x_getR dX4_leastBorne_1 fl_X4_22 (by omega) rfl rfl rfl ?_
  refine x_aload_n dX4_leastBorne_4 rfl ?_
  refine x_getI dX4_leastBorne_5 fl_X4_25 (by omega) rfl rfl ?_
  refine x_ialdN dX4_leastBorne_8 (by omega) rfl h ht ?_
  refine x_pc (pc2 := 9) rfl ?_
  exact x_iret dX4_leastBorne_9 rfl (Nat.le_of_ble_eq_true rfl) (Nat.le_of_ble_eq_true rfl) ⟨congrArg (fun z => some (Value.int z)) (by rfl), rfl, by rfl, by rfl, rfl⟩
theorem ct_X4_firstTaken {g : zG} {N : Nat} {I : zI} {L : zL} {q0 q1 : Option Nat} {t v : Nat} {st hr B : Nat → Nat} (hN : 58 ≤ N) (h0 : I 29 3 = nI t) (ht : t < 64) (hst : ∀ k, k < 6 → I 2 k = nI (st k)) (hst2 : ∀ k, k < 6 → st k ≤ 99) (hv : I 33 t = nI v) (hv2 : v ≤ 1000000000) (hhr : ∀ h, h < 6 → t.testBit h = true → I 32 h = nI (hr h) ∧ hr h ≤ 999) (hB : ∀ h, h < 6 → t.testBit h = true → I 33 (t - 2 ^ h) = nI (B (t - 2 ^ h)) ∧ B (t - 2 ^ h) ≤ 1000000000) : Ct g yX4_firstTaken mX4_firstTaken [.ref (g.2.1 + 29), .ref (g.2.1 + 1)] N I L (zRw q0 q1) (zD (some (.int (zo (ft_ st hr B t v 6)))) N I L (zRw q0 q1)) := by
  refine Ct_of (lo0 := [some (.ref (g.2.1 + 29)), some (.ref (g.2.1 + 1)), none]) rfl rfl rfl rfl (Nat.le_of_ble_eq_true rfl) (fun E => ?_)
  refine x_iconst (v := 0) dX4_firstTaken_0 (by decide) ?_
  refine x_istore_n (lo2 := [_, _, _]) dX4_firstTaken_1 (by decide) rfl rfl ?_
  refine x_loop (inv := fun i => ft_ st hr B t v i = none) (fun i => [some (.ref (g.2.1 + 29)), some (.ref (g.2.1 + 1)), some (.int (nI i))]) (fun i => I) (fun i => L) 0 6 (by omega) (by rfl) (by rfl) (by rfl) (by rfl) (fun i hloi hhii hinvi Ki => ?_) (fun hinvi => ?_)
  · skip
    refine x_iload_n dX4_firstTaken_2 rfl ?_
    refine x_bipush (v := 6) dX4_firstTaken_3 (by decide) ?_
    refine x_icmp_ge (tgt := 49) dX4_firstTaken_5 (by decide) (fun h5 => ?_) (fun h5 => ?_)
    · skip
      exact absurd h5 (nI_ge (b := 6) hhii (by decide))
    · skip
      refine x_aload_n dX4_firstTaken_8 rfl ?_
      refine x_getI dX4_firstTaken_9 fl_X4_25 (by omega) rfl rfl ?_
      rw [h0]
      refine x_iload_n dX4_firstTaken_12 rfl ?_
      refine x_callNi dX4_firstTaken_13 nn_X4_47 mt_X8_isIn st_X8_isIn (ct_X8_isIn) rfl rfl (Nat.le_of_ble_eq_true rfl) ⟨(Nat.le_of_ble_eq_true rfl), (Nat.le_of_ble_eq_true rfl)⟩ ⟨rfl, rfl⟩ ⟨(Nat.le_of_ble_eq_true rfl), (Nat.le_of_ble_eq_true rfl)⟩ ?_
      refine x_if_eq (tgt := 43) dX4_firstTaken_16 (by decide) (fun h16 => ?_) (fun h16 => ?_)
      · skip
        replace h16 := zb0 h16
        rw [zis_nI (by omega) (by omega)] at h16
        refine x_iincN (lo2 := [_, _, _]) dX4_firstTaken_43 rfl rfl rfl ?_
        refine x_goto (tgt := 2) dX4_firstTaken_46 (by decide) ?_
        exact x_eq (by rfl) (by rfl) (by rfl) (Ki (by first | (simp [ft_, hinvi, h16]; done) | (simp [ft_, hinvi, hne])))
      · skip
        replace h16 := zb1 h16
        rw [zis_nI (by omega) (by omega)] at h16
        have hb := h16
        have hB1 := hB i hhii hb
        have hhr1 := hhr i hhii hb
        have hbf := bf_le (n := t) (B := B) hst2 hhr1.2 hB1.2
        refine x_aload_n dX4_firstTaken_19 rfl ?_
        refine x_aload_n dX4_firstTaken_20 rfl ?_
        refine x_aload_n dX4_firstTaken_21 rfl ?_
        refine x_getI dX4_firstTaken_22 fl_X4_25 (by omega) rfl rfl ?_
        rw [h0]
        refine x_iload_n dX4_firstTaken_25 rfl ?_
        refine x_pc (pc2 := 26) rfl ?_
        refine x_callVi dX4_firstTaken_26 ml_X4_50 mt_X4_borneIfFirst mv_X4_borneIfFirst (ct_X4_borneIfFirst hN ht hhii hb hst hst2 hhr1.1 hB1.1) (by omega) rfl rfl rfl rfl (Nat.le_of_ble_eq_true rfl) ⟨(Nat.le_of_ble_eq_true rfl), (Nat.le_of_ble_eq_true rfl)⟩ ⟨rfl, rfl⟩ ⟨(Nat.le_of_ble_eq_true rfl), (Nat.le_of_ble_eq_true rfl)⟩ ?_
        refine x_aload_n dX4_firstTaken_29 rfl ?_
        refine x_getR dX4_firstTaken_30 fl_X4_22 (by omega) rfl rfl rfl ?_
        refine x_aload_n dX4_firstTaken_33 rfl ?_
        refine x_getI dX4_firstTaken_34 fl_X4_25 (by omega) rfl rfl ?_
        refine x_ialdN dX4_firstTaken_37 (by omega) rfl h0 ht ?_
        refine x_pc (pc2 := 38) rfl ?_
        refine x_icmp_ne (tgt := 43) dX4_firstTaken_38 (by decide) (fun h38 => ?_) (fun h38 => ?_)
        · skip
          have hne : ¬ bf_ st hr B t i = v := by rw [hv, nI_eq (by omega) (by omega)] at h38; exact h38
          refine x_iincN (lo2 := [_, _, _]) dX4_firstTaken_43 rfl rfl rfl ?_
          refine x_goto (tgt := 2) dX4_firstTaken_46 (by decide) ?_
          exact x_eq (by rfl) (by rfl) (by rfl) (Ki (by first | (simp [ft_, hinvi, h16]; done) | (simp [ft_, hinvi, hne])))
        · skip
          have heq : bf_ st hr B t i = v := by rw [hv, nI_eq (by omega) (by omega)] at h38; exact h38
          refine x_iload_n dX4_firstTaken_41 rfl ?_
          exact x_iret dX4_firstTaken_42 rfl (Nat.le_of_ble_eq_true rfl) (Nat.le_of_ble_eq_true rfl) ⟨congrArg (fun z => some (Value.int z)) (by rw [ft_some (i := i + 1) (show ft_ st hr B t v (i + 1) = some i by simp [ft_, hinvi, hb, heq]) hhii]; rfl), rfl, by rfl, by rfl, rfl⟩
  · skip
    refine x_iload_n dX4_firstTaken_2 rfl ?_
    refine x_bipush (v := 6) dX4_firstTaken_3 (by decide) ?_
    refine x_icmp_ge (tgt := 49) dX4_firstTaken_5 (by decide) (fun h5 => ?_) (fun h5 => ?_)
    · skip
      refine x_bipush (v := (-6)) dX4_firstTaken_49 (by decide) ?_
      exact x_iret dX4_firstTaken_51 rfl (Nat.le_of_ble_eq_true rfl) (Nat.le_of_ble_eq_true rfl) ⟨congrArg (fun z => some (Value.int z)) (by rw [hinvi]; rfl), rfl, by rfl, by rfl, rfl⟩
    · skip
      exact absurd (nI_le (b := 6) (Nat.le_refl 6) (by decide)) h5
theorem ct_X4_work {g : zG} {N : Nat} {I : zI} {L : zL} {q0 q1 : Option Nat} {st fo tk : Nat → Nat} (hN : 58 ≤ N) (hst : ∀ k, k < 6 → I 2 k = nI (st k)) (hst2 : ∀ k, k < 6 → st k ≤ 99) (hf : ∀ h, h < 6 → I 5 h = nI (fo h) ∧ 1 ≤ fo h ∧ fo h ≤ 20) (ht : ∀ h, h < 6 → I 6 h = nI (tk h) ∧ tk h ≤ 9) (hB0 : I 33 0 = 0) : Ct g yX4_work mX4_work [.ref (g.2.1 + 29), .ref (g.2.1 + 1)] N I L (zRw q0 q1) (fun r' N' I' L' R' => r' = none ∧ N' = N ∧ L' = L ∧ R' = zRw q0 q1 ∧ ((∀ c, c ≠ 29 → c ≠ 31 → c ≠ 32 → c ≠ 33 → I' c = I c) ∧ I' 29 3 = nI (ts_ (fun a => decide (0 < st a) && !decide (hf_ (I 4) (I 3 a) 6 = 0)) 6) ∧ (∀ a, a < 6 → (fun a => decide (0 < st a) && !decide (hf_ (I 4) (I 3 a) 6 = 0)) a = true → I' 32 a = nI ((fun a => pt_ (fun h => zis (hf_ (I 4) (I 3 a) 6) (nI h)) fo tk (st a) (st a) % 1000) a)) ∧ (∀ k, k ≤ ts_ (fun a => decide (0 < st a) && !decide (hf_ (I 4) (I 3 a) 6 = 0)) 6 → k &&& ts_ (fun a => decide (0 < st a) && !decide (hf_ (I 4) (I 3 a) 6 = 0)) 6 = k → I' 33 k = nI (BT_ st (fun a => pt_ (fun h => zis (hf_ (I 4) (I 3 a) 6) (nI h)) fo tk (st a) (st a) % 1000) (ts_ (fun a => decide (0 < st a) && !decide (hf_ (I 4) (I 3 a) 6 = 0)) 6 + 1) k)))) := by
  refine Ct_of (lo0 := [some (.ref (g.2.1 + 29)), some (.ref (g.2.1 + 1)), none, none]) rfl rfl rfl rfl (Nat.le_of_ble_eq_true rfl) (fun E => ?_)
  refine x_aload_n dX4_work_0 rfl ?_
  refine x_iconst (v := 0) dX4_work_1 (by decide) ?_
  refine x_putI dX4_work_2 fp_X4_25 (by omega) rfl ?_
  refine x_iconst (v := 0) dX4_work_5 (by decide) ?_
  refine x_istore_n (lo2 := [_, _, _, _]) dX4_work_6 (by decide) rfl rfl ?_
  refine x_while (σ := Nat × zI) (fun t => t.1 ≤ 6 ∧ (∀ c, c ≠ 29 → c ≠ 31 → c ≠ 32 → t.2 c = I c) ∧ t.2 29 3 = nI (ts_ (fun a => decide (0 < st a) && !decide (hf_ (I 4) (I 3 a) 6 = 0)) t.1) ∧ ∀ a, a < t.1 → (fun a => decide (0 < st a) && !decide (hf_ (I 4) (I 3 a) 6 = 0)) a = true → t.2 32 a = nI ((fun a => pt_ (fun h => zis (hf_ (I 4) (I 3 a) 6) (nI h)) fo tk (st a) (st a) % 1000) a)) (fun t => 6 - t.1) (fun t => [some (.ref (g.2.1 + 29)), some (.ref (g.2.1 + 1)), some (.int (nI t.1)), none]) (fun t => t.2) (fun _ => L) (0, zu I 29 3 0) ⟨Nat.zero_le _, fun c h _ _ => zrn _ _ h, by simp [zu, ts_, nI_0], fun a h => absurd h (Nat.not_lt_zero a)⟩ rfl rfl rfl (fun t ht0 K => ?_)
  obtain ⟨i, J⟩ := t
  obtain ⟨t1, t2, t3, t4⟩ := ht0
  dsimp only at t1 t2 t3 t4 K ⊢
  refine x_iload_n dX4_work_7 rfl ?_
  refine x_bipush (v := 6) dX4_work_8 (by decide) ?_
  refine x_icmp_ge (tgt := 71) dX4_work_10 (by decide) (fun h10 => ?_) (fun h10 => ?_)
  · skip
    refine x_iconst (v := 1) dX4_work_71 (by decide) ?_
    refine x_istore_n (lo2 := [_, _, _, _]) dX4_work_72 (by decide) rfl rfl ?_
    have ei : i = 6 := by rw [show (6 : Int32) = nI 6 from rfl, nI_leI (by decide) (by omega)] at h10; omega
    subst ei
    have hts := ts_lt (fun a => decide (0 < st a) && !decide (hf_ (I 4) (I 3 a) 6 = 0)) 6
    generalize hT : ts_ (fun a => decide (0 < st a) && !decide (hf_ (I 4) (I 3 a) 6 = 0)) 6 = T at t3 hts
    refine x_while (σ := Nat × zI) (fun t => 1 ≤ t.1 ∧ t.1 ≤ T + 1 ∧ (∀ c, c ≠ 29 → c ≠ 31 → c ≠ 32 → c ≠ 33 → t.2 c = I c) ∧ t.2 29 3 = nI T ∧ (∀ a, a < 6 → (fun a => decide (0 < st a) && !decide (hf_ (I 4) (I 3 a) 6 = 0)) a = true → t.2 32 a = nI ((fun a => pt_ (fun h => zis (hf_ (I 4) (I 3 a) 6) (nI h)) fo tk (st a) (st a) % 1000) a)) ∧ ∀ k, k < t.1 → k &&& T = k → t.2 33 k = nI (BT_ st (fun a => pt_ (fun h => zis (hf_ (I 4) (I 3 a) 6) (nI h)) fo tk (st a) (st a) % 1000) t.1 k)) (fun t => T + 1 - t.1) (fun t => [some (.ref (g.2.1 + 29)), some (.ref (g.2.1 + 1)), some (.int (nI t.1)), none]) (fun t => t.2) (fun _ => L) (1, J) ⟨Nat.le_refl 1, by omega, fun c h1 h2 h3 _ => t2 c h1 h2 h3, t3, t4, fun k hk _ => by rw [show k = 0 from Nat.lt_one_iff.mp hk]; show J 33 0 = _; rw [t2 33 (by decide) (by decide) (by decide), hB0]; simp [BT_, nI_0]⟩ rfl rfl rfl (fun t hu0 K2 => ?_)
    obtain ⟨j, W⟩ := t
    obtain ⟨u1, u2, u3, u4, u5, u6⟩ := hu0
    dsimp only at u1 u2 u3 u4 u5 u6 K2 ⊢
    refine x_iload_n dX4_work_73 rfl ?_
    refine x_aload_n dX4_work_74 rfl ?_
    refine x_getI dX4_work_75 fl_X4_25 (by omega) rfl rfl ?_
    refine x_icmp_gt (tgt := 110) dX4_work_78 (by decide) (fun h78 => ?_) (fun h78 => ?_)
    · skip
      have hj : T < j := by rw [u4] at h78; exact (nI_ltI (by omega) (by omega)).mp h78
      exact x_vret dX4_work_110 rfl (Nat.le_of_ble_eq_true rfl) (Nat.le_of_ble_eq_true rfl) (by exact ⟨rfl, rfl, rfl, rfl, u3, u4, u5, fun k hk e => by have := u6 k (by omega) e; rwa [BT_eq (i := T + 1) (j := j) (by omega) (by omega)] at this⟩)
    · skip
      have hj : j ≤ T := by rw [u4] at h78; have := mt (nI_ltI (by omega) (by omega)).mpr h78; omega
      refine x_iload_n dX4_work_81 rfl ?_
      refine x_aload_n dX4_work_82 rfl ?_
      refine x_getI dX4_work_83 fl_X4_25 (by omega) rfl rfl ?_
      refine x_callNi dX4_work_86 nn_X4_39 mt_X8_isWithin st_X8_isWithin (ct_X8_isWithin) rfl rfl (Nat.le_of_ble_eq_true rfl) ⟨(Nat.le_of_ble_eq_true rfl), (Nat.le_of_ble_eq_true rfl)⟩ ⟨rfl, rfl⟩ ⟨(Nat.le_of_ble_eq_true rfl), (Nat.le_of_ble_eq_true rfl)⟩ ?_
      refine x_if_eq (tgt := 104) dX4_work_89 (by decide) (fun h89 => ?_) (fun h89 => ?_)
      · skip
        replace h89 := zb0 h89
        rw [u4, zwi_64 (by omega) hts] at h89
        have hno : ¬ j &&& T = j := of_decide_eq_false h89
        refine x_iincN (lo2 := [_, _, _, _]) dX4_work_104 rfl rfl rfl ?_
        refine x_goto (tgt := 73) dX4_work_107 (by decide) ?_
        exact K2 (j + 1, W) ⟨by dsimp only; omega, by dsimp only; omega, u3, u4, u5, fun k hk e => by
          dsimp only at hk ⊢
          by_cases q : k = j
          · subst q; exact absurd e hno
          · rw [BT_eq (i := j) (by omega) (by omega)]; exact u6 k (by omega) e⟩ (by dsimp only; omega)
      · skip
        replace h89 := zb1 h89
        rw [u4, zwi_64 (by omega) hts] at h89
        have hyes : j &&& T = j := of_decide_eq_true h89
        refine x_aload_n dX4_work_92 rfl ?_
        refine x_getR dX4_work_93 fl_X4_22 (by omega) rfl rfl rfl ?_
        refine x_iload_n dX4_work_96 rfl ?_
        refine x_aload_n dX4_work_97 rfl ?_
        refine x_aload_n dX4_work_98 rfl ?_
        refine x_pc (pc2 := 99) rfl ?_
        refine x_iload_n dX4_work_99 rfl ?_
        refine x_callVi dX4_work_100 ml_X4_43 mt_X4_leastOf mv_X4_leastOf (ct_X4_leastOf (st := st) (hr := (fun a => pt_ (fun h => zis (hf_ (I 4) (I 3 a) 6) (nI h)) fo tk (st a) (st a) % 1000)) (B := BT_ st (fun a => pt_ (fun h => zis (hf_ (I 4) (I 3 a) 6) (nI h)) fo tk (st a) (st a) % 1000) j) hN (by omega) (fun k hk => by rw [u3 2 (by decide) (by decide) (by decide) (by decide)]; exact hst k hk) hst2 (fun h hh hb => ⟨u5 h hh (by have e := (zsubs (by omega) hts hyes hh hb).2.2; rw [← hT, ts_bit] at e; simpa [hh] using e), by have := Nat.mod_lt (pt_ (fun k => zis (hf_ (I 4) (I 3 h) 6) (nI k)) fo tk (st h) (st h)) (show 0 < 1000 by decide); omega⟩) (fun h hh hb => ⟨u6 _ (zsubs (by omega) hts hyes hh hb).2.1 (zsubs (by omega) hts hyes hh hb).1, BT_le _ _ _ _⟩)) (by omega) rfl rfl rfl rfl (Nat.le_of_ble_eq_true rfl) ⟨(Nat.le_of_ble_eq_true rfl), (Nat.le_of_ble_eq_true rfl)⟩ ⟨rfl, rfl⟩ ⟨(Nat.le_of_ble_eq_true rfl), (Nat.le_of_ble_eq_true rfl)⟩ ?_
        refine x_iast dX4_work_103 (by omega) rfl rfl (by omega) ?_
        refine x_iincN (lo2 := [_, _, _, _]) dX4_work_104 rfl rfl rfl ?_
        refine x_goto (tgt := 73) dX4_work_107 (by decide) ?_
        exact K2 (j + 1, zu W 33 j _) ⟨by dsimp only; omega, by dsimp only; omega, fun c h1 h2 h3 h4 => by dsimp only; rw [zrn _ _ h4]; exact u3 c h1 h2 h3 h4, by dsimp only; rw [zrn _ _ (by decide)]; exact u4, fun a ha hk => by dsimp only; rw [zrn _ _ (by decide)]; exact u5 a ha hk, fun k hk e => by
          dsimp only at hk ⊢
          by_cases q : k = j
          · subst q; rw [zu_self]; simp [BT_, show k ≠ 0 by omega]
          · rw [zu_ne _ _ (Or.inr q), BT_eq (i := j) (by omega) (by omega)]; exact u6 k (by omega) e⟩ (by dsimp only; omega)
  · skip
    have hi6 : i < 6 := by rw [show (6 : Int32) = nI 6 from rfl, nI_leI (by decide) (by omega)] at h10; omega
    refine x_aload_n dX4_work_13 rfl ?_
    refine x_iload_n dX4_work_14 rfl ?_
    refine x_callVi dX4_work_15 ml_X4_29 mt_X3_isThere mv_X3_isThere (ct_X3_isThere (m := 1) (Or.inl rfl) (by omega)) (by omega) rfl rfl rfl rfl (Nat.le_of_ble_eq_true rfl) ⟨(Nat.le_of_ble_eq_true rfl), (Nat.le_of_ble_eq_true rfl)⟩ ⟨rfl, rfl⟩ ⟨(Nat.le_of_ble_eq_true rfl), (Nat.le_of_ble_eq_true rfl)⟩ ?_
    refine x_if_eq (tgt := 33) dX4_work_18 (by decide) (fun h18 => ?_) (fun h18 => ?_)
    · skip
      replace h18 := zb0 h18
      rw [show J 2 = I 2 from t2 2 (by decide) (by decide) (by decide)] at h18
      have hz0 := zth_F hi6 h18
      have hst0 : st i = 0 := by rw [hst i hi6, show (0 : Int32) = nI 0 from rfl, nI_leI (by have := hst2 i hi6; omega) (by decide)] at hz0; omega
      refine x_bipush (v := (-6)) dX4_work_33 (by decide) ?_
      refine x_istore_n (lo2 := [_, _, _, _]) dX4_work_35 (by decide) rfl rfl ?_
      refine x_iload_n dX4_work_36 rfl ?_
      refine x_bipush (v := (-6)) dX4_work_37 (by decide) ?_
      refine x_icmp_eq (tgt := 65) dX4_work_39 (by decide) (fun h39 => ?_) (fun h39 => ?_)
      · skip
        refine x_iincN (lo2 := [_, _, _, _]) dX4_work_65 rfl rfl rfl ?_
        refine x_goto (tgt := 7) dX4_work_68 (by decide) ?_
        refine x_drop (i := 3) (lo2 := [_, _, _, _]) rfl ?_
        exact K (i + 1, J) ⟨hi6, t2, by dsimp only; rw [t3]; simp [ts_, hst0], fun a ha hk => by
          by_cases e : a = i
          · subst e; simp [hst0] at hk
          · exact t4 a (by omega) hk⟩ (by dsimp only; omega)
      · skip
        exact absurd rfl h39
    · skip
      replace h18 := zb1 h18
      rw [show J 2 = I 2 from t2 2 (by decide) (by decide) (by decide)] at h18
      have hz0 := zth_T hi6 h18
      have hst0 : 0 < st i := by rw [hst i hi6, show (0 : Int32) = nI 0 from rfl, nI_leI (by have := hst2 i hi6; omega) (by decide)] at hz0; omega
      refine x_aload_n dX4_work_21 rfl ?_
      refine x_getR dX4_work_22 fl_X4_12 (by omega) rfl rfl rfl ?_
      refine x_aload_n dX4_work_25 rfl ?_
      refine x_iload_n dX4_work_26 rfl ?_
      refine x_callV1 dX4_work_27 ml_X4_35 mt_X6_priceOf mv_X6_priceOf (ct_X6_priceOf_30 (a := i) (fo := fo) (tk := tk) hN hi6 (by rw [t2 2 (by decide) (by decide) (by decide)]; exact hst i hi6) (hst2 i hi6) (fun h hh => by rw [t2 5 (by decide) (by decide) (by decide)]; exact hf h hh) (fun h hh => by rw [t2 6 (by decide) (by decide) (by decide)]; exact ht h hh)) (by omega) rfl rfl rfl rfl (Nat.le_of_ble_eq_true rfl) ⟨(Nat.le_of_ble_eq_true rfl), (Nat.le_of_ble_eq_true rfl)⟩ ⟨rfl, rfl⟩ ⟨(Nat.le_of_ble_eq_true rfl), (Nat.le_of_ble_eq_true rfl)⟩ (fun f => ?_)
      refine x_pc (pc2 := 30) rfl ?_
      refine x_goto (tgt := 35) dX4_work_30 (by decide) ?_
      generalize hpv : (if hf_ (J 4) (J 3 i) 6 = 0 then (-6 : Int32) else nI (pt_ (fun h => zis (hf_ (J 4) (J 3 i) 6) (nI h)) fo tk (st i) (st i))) = pv
      refine x_istore_n (lo2 := [_, _, _, _]) dX4_work_35 (by decide) rfl rfl ?_
      refine x_iload_n dX4_work_36 rfl ?_
      refine x_bipush (v := (-6)) dX4_work_37 (by decide) ?_
      refine x_icmp_eq (tgt := 65) dX4_work_39 (by decide) (fun h39 => ?_) (fun h39 => ?_)
      · skip
        refine x_iincN (lo2 := [_, _, _, _]) dX4_work_65 rfl rfl rfl ?_
        refine x_goto (tgt := 7) dX4_work_68 (by decide) ?_
        refine x_drop (i := 3) (lo2 := [_, _, _, _]) rfl ?_
        have hz6 : hf_ (I 4) (I 3 i) 6 = 0 := by
          by_cases q : hf_ (I 4) (I 3 i) 6 = 0
          · exact q
          · rw [t2 4 (by decide) (by decide) (by decide), t2 3 (by decide) (by decide) (by decide), if_neg q] at hpv
            exact absurd (hpv.trans h39) (nI_n6 (by have := pt_le (fun h => zis (hf_ (I 4) (I 3 i) 6) (nI h)) fo tk (st i) (st i); omega))
        exact K (i + 1, zrow J 31 f) ⟨hi6, fun c h1 h2 h3 => by dsimp only; rw [zrow_ne _ _ h2]; exact t2 c h1 h2 h3, by dsimp only; rw [zrow_ne _ _ (by decide), t3]; simp [ts_, hz6], fun a ha hk => by
          by_cases e : a = i
          · subst e; simp [hz6] at hk
          · dsimp only; rw [zrow_ne _ _ (by decide)]; exact t4 a (by omega) hk⟩ (by dsimp only; omega)
      · skip
        refine x_aload_n dX4_work_42 rfl ?_
        refine x_dup dX4_work_43 rfl ?_
        refine x_getI dX4_work_44 fl_X4_25 (by omega) rfl rfl ?_
        refine x_iconst (v := 1) dX4_work_47 (by decide) ?_
        refine x_iload_n dX4_work_48 rfl ?_
        refine x_pc (pc2 := 49) rfl ?_
        refine x_ishl dX4_work_49 ?_
        refine x_ior dX4_work_50 ?_
        refine x_putI dX4_work_51 fp_X4_25 (by omega) rfl ?_
        refine x_aload_n dX4_work_54 rfl ?_
        refine x_getR dX4_work_55 fl_X4_18 (by omega) rfl rfl rfl ?_
        refine x_iload_n dX4_work_58 rfl ?_
        refine x_pc (pc2 := 59) rfl ?_
        refine x_iload_n dX4_work_59 rfl ?_
        refine x_sipush (v := 1000) dX4_work_60 (by decide) ?_
        refine x_irem dX4_work_63 (by decide) ?_
        refine x_iast dX4_work_64 (by omega) rfl rfl hi6 ?_
        refine x_iincN (lo2 := [_, _, _, _]) dX4_work_65 rfl rfl rfl ?_
        refine x_goto (tgt := 7) dX4_work_68 (by decide) ?_
        refine x_drop (i := 3) (lo2 := [_, _, _, _]) rfl ?_
        have hz6 : ¬ hf_ (I 4) (I 3 i) 6 = 0 := fun q => h39 (by rw [← hpv, t2 4 (by decide) (by decide) (by decide), t2 3 (by decide) (by decide) (by decide), if_pos q])
        exact K (i + 1, zu (zu (zrow J 31 f) 29 3 (zrow J 31 f 29 3 ||| 1 <<< (nI i &&& 31))) 32 i (pv - pv / 1000 * 1000)) ⟨hi6, fun c h1 h2 h3 => by dsimp only; rw [zrn _ _ h3, zrn _ _ h1, zrow_ne _ _ h2]; exact t2 c h1 h2 h3, by
          dsimp only
          rw [zrn _ _ (by decide), zu_self, zrow_ne _ _ (by decide), t3, zsh1 i (by omega), nI_or]
          simp [ts_, hz6, hst0], fun a ha hk => by
          dsimp only
          by_cases e : a = i
          · subst e
            rw [zu_self, ← hpv, t2 4 (by decide) (by decide) (by decide), t2 3 (by decide) (by decide) (by decide), if_neg hz6]
            exact zrem_nI (d := 1000) (e := 1000) rfl (by have := pt_le (fun h => zis (hf_ (I 4) (I 3 a) 6) (nI h)) fo tk (st a) (st a); omega) (by decide) (by decide)
          · rw [zu_ne _ _ (Or.inr e), zrn _ _ (by decide), zrow_ne _ _ (by decide)]
            exact t4 a (by omega) hk⟩ (by dsimp only; omega)
