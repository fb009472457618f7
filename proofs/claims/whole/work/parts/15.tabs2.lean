theorem ct_X7_find {g : zG} {N : Nat} {I : zI} {L : zL} {q0 q1 : Option Nat} {n : Nat} (hN : 58 ≤ N) (hn : n ≤ 8) (hs : I 1 10 = nI n) (hh : ∀ i, i < 8 → ∃ k, k < 6 ∧ I 10 i = nI k) : Ct g yX7_find mX7_find [.ref (g.2.1 + 34), .ref (g.2.1 + 1)] N I L (zRw q0 q1) (fun r' N' I' L' R' => r' = none ∧ N' = N ∧ L' = L ∧ R' = zRw q0 q1 ∧ ((∀ c, c ≠ 34 → c ≠ 35 → I' c = I c) ∧ I' 34 1 = nI (cn_ (fun s => has_ (I 4) (I 10) (I 11) (nI s) n) 256) ∧ ∀ s, s < 256 → (fun s => has_ (I 4) (I 10) (I 11) (nI s) n) s = true → I' 35 (cn_ (fun s => has_ (I 4) (I 10) (I 11) (nI s) n) s) = nI s)) := by
  refine Ct_of (lo0 := [some (.ref (g.2.1 + 34)), some (.ref (g.2.1 + 1)), none]) rfl rfl rfl rfl (Nat.le_of_ble_eq_true rfl) (fun E => ?_)
  refine x_aload_n dX7_find_0 rfl ?_
  refine x_iconst (v := 0) dX7_find_1 (by decide) ?_
  refine x_putI dX7_find_2 fp_X7_15 (by omega) rfl ?_
  refine x_iconst (v := 0) dX7_find_5 (by decide) ?_
  refine x_istore_n (lo2 := [_, _, _]) dX7_find_6 (by decide) rfl rfl ?_
  refine x_while (σ := Nat × zI) (fun t => t.1 ≤ 256 ∧ (∀ c, c ≠ 34 → c ≠ 35 → t.2 c = I c) ∧ t.2 34 1 = nI (cn_ (fun s => has_ (I 4) (I 10) (I 11) (nI s) n) t.1) ∧ ∀ s, s < t.1 → (fun s => has_ (I 4) (I 10) (I 11) (nI s) n) s = true → t.2 35 (cn_ (fun s => has_ (I 4) (I 10) (I 11) (nI s) n) s) = nI s) (fun t => 256 - t.1) (fun t => [some (.ref (g.2.1 + 34)), some (.ref (g.2.1 + 1)), some (.int (nI t.1))]) (fun t => t.2) (fun _ => L) (0, zu I 34 1 0) ⟨Nat.zero_le _, fun c h _ => zrn _ _ h, by simp [zu, cn_, nI_0], fun s h => absurd h (Nat.not_lt_zero s)⟩ rfl rfl rfl (fun t ht0 K => ?_)
  obtain ⟨i, J⟩ := t
  obtain ⟨t1, t2, t3, t4⟩ := ht0
  dsimp only at t1 t2 t3 t4 K ⊢
  have hcn := cn_le (fun s => has_ (I 4) (I 10) (I 11) (nI s) n) i
  refine x_iload_n dX7_find_7 rfl ?_
  refine x_sipush (v := 256) dX7_find_8 (by decide) ?_
  refine x_icmp_ge (tgt := 48) dX7_find_11 (by decide) (fun h11 => ?_) (fun h11 => ?_)
  · skip
    have ei : i = 256 := by rw [show (256 : Int32) = nI 256 from rfl, nI_leI (by decide) (by omega)] at h11; omega
    exact x_vret dX7_find_48 rfl (Nat.le_of_ble_eq_true rfl) (Nat.le_of_ble_eq_true rfl) (by subst ei; exact ⟨rfl, rfl, rfl, rfl, t2, t3, t4⟩)
  · skip
    have hi : i < 256 := by rw [show (256 : Int32) = nI 256 from rfl, nI_leI (by decide) (by omega)] at h11; omega
    refine x_aload_n dX7_find_14 rfl ?_
    refine x_iload_n dX7_find_15 rfl ?_
    refine x_callVi dX7_find_16 ml_X7_19 mt_X3_isAsSeen mv_X3_isAsSeen (ct_X3_isAsSeen hN hn (by rw [t2 1 (by decide) (by decide)]; exact hs) (fun i hi => by rw [t2 10 (by decide) (by decide)]; exact hh i hi)) (by omega) rfl rfl rfl rfl (Nat.le_of_ble_eq_true rfl) ⟨(Nat.le_of_ble_eq_true rfl), (Nat.le_of_ble_eq_true rfl)⟩ ⟨rfl, rfl⟩ ⟨(Nat.le_of_ble_eq_true rfl), (Nat.le_of_ble_eq_true rfl)⟩ ?_
    refine x_if_eq (tgt := 42) dX7_find_19 (by decide) (fun h19 => ?_) (fun h19 => ?_)
    · skip
      replace h19 := zb0 h19
      refine x_iincN (lo2 := [_, _, _]) dX7_find_42 rfl rfl rfl ?_
      refine x_goto (tgt := 7) dX7_find_45 (by decide) ?_
      have hp : has_ (I 4) (I 10) (I 11) (nI i) n = false := by rw [← h19, t2 4 (by decide) (by decide), t2 10 (by decide) (by decide), t2 11 (by decide) (by decide)]
      exact K (i + 1, J) ⟨by dsimp only; omega, t2, by dsimp only; rw [t3]; simp [cn_, hp], fun s hs2 hq => by
        by_cases e : s = i
        · subst e; rw [hp] at hq; cases hq
        · exact t4 s (show s < i by have : s < i + 1 := hs2; omega) hq⟩ (by dsimp only; omega)
    · skip
      replace h19 := zb1 h19
      refine x_aload_n dX7_find_22 rfl ?_
      refine x_getR dX7_find_23 fl_X7_9 (by omega) rfl rfl rfl ?_
      refine x_aload_n dX7_find_26 rfl ?_
      refine x_getI dX7_find_27 fl_X7_15 (by omega) rfl rfl ?_
      refine x_iload_n dX7_find_30 rfl ?_
      refine x_pc (pc2 := 31) rfl ?_
      refine x_iast dX7_find_31 (by omega) rfl t3 (by omega) ?_
      refine x_aload_n dX7_find_32 rfl ?_
      refine x_dup dX7_find_33 rfl ?_
      refine x_getI dX7_find_34 fl_X7_15 (by omega) rfl rfl ?_
      refine x_iconst (v := 1) dX7_find_37 (by decide) ?_
      refine x_iadd dX7_find_38 ?_
      refine x_pc (pc2 := 39) rfl ?_
      refine x_putI dX7_find_39 fp_X7_15 (by omega) rfl ?_
      refine x_iincN (lo2 := [_, _, _]) dX7_find_42 rfl rfl rfl ?_
      refine x_goto (tgt := 7) dX7_find_45 (by decide) ?_
      have hp : has_ (I 4) (I 10) (I 11) (nI i) n = true := by rw [← h19, t2 4 (by decide) (by decide), t2 10 (by decide) (by decide), t2 11 (by decide) (by decide)]
      exact K (i + 1, zu (zu J 35 (cn_ (fun s => has_ (I 4) (I 10) (I 11) (nI s) n) i) (nI i)) 34 1 (zu J 35 (cn_ (fun s => has_ (I 4) (I 10) (I 11) (nI s) n) i) (nI i) 34 1 + 1)) ⟨by dsimp only; omega, fun c h1 h2 => by dsimp only; rw [zrn _ _ h1, zrn _ _ h2]; exact t2 c h1 h2, by dsimp only; rw [zu_self, zrn _ _ (by decide), t3, nI_1]; simp [cn_, hp], fun s hs2 hq => by
        dsimp only
        rw [zrn _ _ (by decide)]
        by_cases e : s = i
        · subst e; rw [zu_self]
        · have hlt : s < i := by have : s < i + 1 := hs2; omega
          rw [zu_ne _ _ (Or.inr (Nat.ne_of_lt (cn_lt (p := (fun s => has_ (I 4) (I 10) (I 11) (nI s) n)) hlt hq)))]
          exact t4 s hlt hq⟩ (by dsimp only; omega)
theorem ct_X7_shapeAt {g : zG} {N : Nat} {I : zI} {L : zL} {q0 q1 : Option Nat} {j : Int32} {c : Nat} (hN : 58 ≤ N) (hc : I 34 1 = nI c) (hc2 : c ≤ 256) : Ct g yX7_shapeAt mX7_shapeAt [.ref (g.2.1 + 34), .int j] N I L (zRw q0 q1) (zD (some (.int (if zin j 0 (nI c - 1) = true then I 35 (zx j) else -6))) N I L (zRw q0 q1)) := by
  refine Ct_of (lo0 := [some (.ref (g.2.1 + 34)), some (.int j)]) rfl rfl rfl rfl (Nat.le_of_ble_eq_true rfl) (fun E => ?_)
  refine x_iload_n dX7_shapeAt_0 rfl ?_
  refine x_iconst (v := 0) dX7_shapeAt_1 (by decide) ?_
  refine x_aload_n dX7_shapeAt_2 rfl ?_
  refine x_getI dX7_shapeAt_3 fl_X7_15 (by omega) rfl rfl ?_
  refine x_iconst (v := 1) dX7_shapeAt_6 (by decide) ?_
  refine x_pc (pc2 := 7) rfl ?_
  refine x_isub dX7_shapeAt_7 ?_
  rw [hc]
  refine x_callNi dX7_shapeAt_8 nn_X7_25 mt_X8_isFrom st_X8_isFrom (ct_X8_isFrom) rfl rfl (Nat.le_of_ble_eq_true rfl) ⟨(Nat.le_of_ble_eq_true rfl), (Nat.le_of_ble_eq_true rfl)⟩ ⟨rfl, rfl⟩ ⟨(Nat.le_of_ble_eq_true rfl), (Nat.le_of_ble_eq_true rfl)⟩ ?_
  refine x_if_eq (tgt := 23) dX7_shapeAt_11 (by decide) (fun h11 => ?_) (fun h11 => ?_)
  · skip
    replace h11 := zb0 h11
    refine x_bipush (v := (-6)) dX7_shapeAt_23 (by decide) ?_
    exact x_iret dX7_shapeAt_25 rfl (Nat.le_of_ble_eq_true rfl) (Nat.le_of_ble_eq_true rfl) ⟨congrArg (fun z => some (Value.int z)) (by first | (rw [if_neg (by rw [h11]; decide)]; done) | (rw [if_pos h11, zx_nI (by omega)])), rfl, by rfl, by rfl, rfl⟩
  · skip
    replace h11 := zb1 h11
    have hc1 : 1 ≤ c := by
      rcases Nat.eq_zero_or_pos c with q | q
      · subst q
        obtain ⟨z1, z2⟩ := zin_t h11
        exact absurd (Int32.le_trans z1 z2) (by decide)
      · exact q
    obtain ⟨k, hk, rfl⟩ := zin_ex (b := c - 1) (by omega) (by rw [← pk_sub (b := 1) hc1]; exact h11)
    refine x_aload_n dX7_shapeAt_14 rfl ?_
    refine x_getR dX7_shapeAt_15 fl_X7_9 (by omega) rfl rfl rfl ?_
    refine x_iload_n dX7_shapeAt_18 rfl ?_
    refine x_ialdN dX7_shapeAt_19 (by omega) rfl rfl (by omega) ?_
    refine x_goto (tgt := 25) dX7_shapeAt_20 (by decide) ?_
    exact x_iret dX7_shapeAt_25 rfl (Nat.le_of_ble_eq_true rfl) (Nat.le_of_ble_eq_true rfl) ⟨congrArg (fun z => some (Value.int z)) (by first | (rw [if_neg (by rw [h11]; decide)]; done) | (rw [if_pos h11, zx_nI (by omega)])), rfl, by rfl, by rfl, rfl⟩
theorem ct_X7_mostLeftBy {g : zG} {N : Nat} {I : zI} {L : zL} {q0 q1 : Option Nat} {gr : Int32} {c : Nat} (hN : 58 ≤ N) (hc : I 34 1 = nI c) (hc2 : c ≤ 256) : Ct g yX7_mostLeftBy mX7_mostLeftBy [.ref (g.2.1 + 34), .int gr] N I L (zRw q0 q1) (zD (some (.int (nI (mx_ (I 35) c gr)))) N I L (zRw q0 q1)) := by
  refine Ct_of (lo0 := [some (.ref (g.2.1 + 34)), some (.int gr), none, none]) rfl rfl rfl rfl (Nat.le_of_ble_eq_true rfl) (fun E => ?_)
  refine x_iconst (v := 0) dX7_mostLeftBy_0 (by decide) ?_
  refine x_istore_n (lo2 := [_, _, _, _]) dX7_mostLeftBy_1 (by decide) rfl rfl ?_
  refine x_iconst (v := 0) dX7_mostLeftBy_2 (by decide) ?_
  refine x_istore_n (lo2 := [_, _, _, _]) dX7_mostLeftBy_3 (by decide) rfl rfl ?_
  refine x_loop (inv := fun i => True) (fun i => [some (.ref (g.2.1 + 34)), some (.int gr), some (.int (nI (ml_ (I 35) gr i))), some (.int (nI i))]) (fun i => I) (fun i => L) 0 c (by omega) (by trivial) (by rfl) (by rfl) (by rfl) (fun i hloi hhii hinvi Ki => ?_) (fun hinvi => ?_)
  · skip
    refine x_iload_n dX7_mostLeftBy_4 rfl ?_
    refine x_aload_n dX7_mostLeftBy_5 rfl ?_
    refine x_getI dX7_mostLeftBy_6 fl_X7_15 (by omega) rfl rfl ?_
    refine x_icmp_ge (tgt := 34) dX7_mostLeftBy_9 (by decide) (fun h9 => ?_) (fun h9 => ?_)
    · skip
      exact absurd (hc ▸ h9) (nI_ge hhii (by omega))
    · skip
      refine x_iload_n dX7_mostLeftBy_12 rfl ?_
      refine x_aload_n dX7_mostLeftBy_13 rfl ?_
      refine x_getR dX7_mostLeftBy_14 fl_X7_9 (by omega) rfl rfl rfl ?_
      refine x_iload_n dX7_mostLeftBy_17 rfl ?_
      refine x_ialdN dX7_mostLeftBy_18 (by omega) rfl rfl (by omega) ?_
      refine x_pc (pc2 := 19) rfl ?_
      refine x_callNi dX7_mostLeftBy_19 nn_X7_36 mt_X8_isWithin st_X8_isWithin (ct_X8_isWithin) rfl rfl (Nat.le_of_ble_eq_true rfl) ⟨(Nat.le_of_ble_eq_true rfl), (Nat.le_of_ble_eq_true rfl)⟩ ⟨rfl, rfl⟩ ⟨(Nat.le_of_ble_eq_true rfl), (Nat.le_of_ble_eq_true rfl)⟩ ?_
      refine x_if_eq (tgt := 28) dX7_mostLeftBy_22 (by decide) (fun h22 => ?_) (fun h22 => ?_)
      · skip
        replace h22 := zb0 h22
        refine x_iincN (lo2 := [_, _, _, _]) dX7_mostLeftBy_28 rfl rfl rfl ?_
        refine x_goto (tgt := 4) dX7_mostLeftBy_31 (by decide) ?_
        exact x_eq (by simp [ml_, h9, h22]) (by rfl) (by rfl) (Ki (by trivial))
      · skip
        replace h22 := zb1 h22
        refine x_iincN (lo2 := [_, _, _, _]) dX7_mostLeftBy_25 rfl rfl rfl ?_
        refine x_iincN (lo2 := [_, _, _, _]) dX7_mostLeftBy_28 rfl rfl rfl ?_
        refine x_goto (tgt := 4) dX7_mostLeftBy_31 (by decide) ?_
        exact x_eq (by simp [ml_, h9, h22]) (by rfl) (by rfl) (Ki (by trivial))
  · skip
    refine x_iload_n dX7_mostLeftBy_4 rfl ?_
    refine x_aload_n dX7_mostLeftBy_5 rfl ?_
    refine x_getI dX7_mostLeftBy_6 fl_X7_15 (by omega) rfl rfl ?_
    refine x_icmp_ge (tgt := 34) dX7_mostLeftBy_9 (by decide) (fun h9 => ?_) (fun h9 => ?_)
    · skip
      refine x_iload_n dX7_mostLeftBy_34 rfl ?_
      refine x_aload_n dX7_mostLeftBy_35 rfl ?_
      refine x_getI dX7_mostLeftBy_36 fl_X7_15 (by omega) rfl rfl ?_
      refine x_iload_n dX7_mostLeftBy_39 rfl ?_
      refine x_isub dX7_mostLeftBy_40 ?_
      have hml := ml_le (I 35) gr c
      rw [hc, pk_sub hml]
      refine x_pc (pc2 := 41) rfl ?_
      refine x_mmax dX7_mostLeftBy_41 ml_X7_40 j_max_st j_math j_max_cd (Nat.le_of_ble_eq_true rfl) ⟨(Nat.le_of_ble_eq_true rfl), (Nat.le_of_ble_eq_true rfl)⟩ ⟨(Nat.le_of_ble_eq_true rfl), (Nat.le_of_ble_eq_true rfl)⟩ ?_
      rw [zmax_nI (by omega) (by omega)]
      exact x_iret dX7_mostLeftBy_44 rfl (Nat.le_of_ble_eq_true rfl) (Nat.le_of_ble_eq_true rfl) ⟨congrArg (fun z => some (Value.int z)) (by rfl), rfl, by rfl, by rfl, rfl⟩
    · skip
      exact absurd (hc ▸ nI_le (Nat.le_refl c) (by omega)) h9
theorem ct_X7_holdToTry {g : zG} {N : Nat} {I : zI} {L : zL} {q0 q1 : Option Nat} {c : Nat} (hN : 58 ≤ N) (hc : I 34 1 = nI c) (hc2 : c ≤ 256) : Ct g yX7_holdToTry mX7_holdToTry [.ref (g.2.1 + 34), .ref (g.2.1 + 1)] N I L (zRw q0 q1) (zD (some (.int (if c = 0 then -6 else nI (bh_ (I 35) c (I 4) 5)))) N I L (zRw q0 q1)) := by
  refine Ct_of (lo0 := [some (.ref (g.2.1 + 34)), some (.ref (g.2.1 + 1)), none, none]) rfl rfl rfl rfl (Nat.le_of_ble_eq_true rfl) (fun E => ?_)
  refine x_aload_n dX7_holdToTry_0 rfl ?_
  refine x_getI dX7_holdToTry_1 fl_X7_15 (by omega) rfl rfl ?_
  refine x_if_ne (tgt := 10) dX7_holdToTry_4 (by decide) (fun h4 => ?_) (fun h4 => ?_)
  · skip
    rw [hc, nI_z (by omega)] at h4
    refine x_iconst (v := 0) dX7_holdToTry_10 (by decide) ?_
    refine x_istore_n (lo2 := [_, _, _, _]) dX7_holdToTry_11 (by decide) rfl rfl ?_
    refine x_iconst (v := 1) dX7_holdToTry_12 (by decide) ?_
    refine x_istore_n (lo2 := [_, _, _, _]) dX7_holdToTry_13 (by decide) rfl rfl ?_
    refine x_loop (inv := fun i => True) (fun i => [some (.ref (g.2.1 + 34)), some (.ref (g.2.1 + 1)), some (.int (nI (bh_ (I 35) c (I 4) (i - 1)))), some (.int (nI i))]) (fun i => I) (fun i => L) 1 6 (by omega) (by trivial) (by rfl) (by rfl) (by rfl) (fun i hloi hhii hinvi Ki => ?_) (fun hinvi => ?_)
    · skip
      refine x_iload_n dX7_holdToTry_14 rfl ?_
      refine x_bipush (v := 6) dX7_holdToTry_15 (by decide) ?_
      refine x_icmp_ge (tgt := 51) dX7_holdToTry_17 (by decide) (fun h17 => ?_) (fun h17 => ?_)
      · skip
        exact absurd h17 (nI_ge (b := 6) hhii (by decide))
      · skip
        have hbl := bh_le (I 35) c (I 4) (i - 1)
        refine x_aload_n dX7_holdToTry_20 rfl ?_
        refine x_aload_n dX7_holdToTry_21 rfl ?_
        refine x_getR dX7_holdToTry_22 fl_X7_29 (by omega) rfl rfl rfl ?_
        refine x_iload_n dX7_holdToTry_25 rfl ?_
        refine x_ialdN dX7_holdToTry_26 (by omega) rfl rfl (by omega) ?_
        refine x_pc (pc2 := 27) rfl ?_
        refine x_callVi dX7_holdToTry_27 ml_X7_32 mt_X7_mostLeftBy mv_X7_mostLeftBy (ct_X7_mostLeftBy hN hc hc2) (by omega) rfl rfl rfl rfl (Nat.le_of_ble_eq_true rfl) ⟨(Nat.le_of_ble_eq_true rfl), (Nat.le_of_ble_eq_true rfl)⟩ ⟨rfl, rfl⟩ ⟨(Nat.le_of_ble_eq_true rfl), (Nat.le_of_ble_eq_true rfl)⟩ ?_
        refine x_aload_n dX7_holdToTry_30 rfl ?_
        refine x_aload_n dX7_holdToTry_31 rfl ?_
        refine x_getR dX7_holdToTry_32 fl_X7_29 (by omega) rfl rfl rfl ?_
        refine x_iload_n dX7_holdToTry_35 rfl ?_
        refine x_ialdN dX7_holdToTry_36 (by omega) rfl rfl (by omega) ?_
        refine x_pc (pc2 := 37) rfl ?_
        refine x_callVi dX7_holdToTry_37 ml_X7_32 mt_X7_mostLeftBy mv_X7_mostLeftBy (ct_X7_mostLeftBy hN hc hc2) (by omega) rfl rfl rfl rfl (Nat.le_of_ble_eq_true rfl) ⟨(Nat.le_of_ble_eq_true rfl), (Nat.le_of_ble_eq_true rfl)⟩ ⟨rfl, rfl⟩ ⟨(Nat.le_of_ble_eq_true rfl), (Nat.le_of_ble_eq_true rfl)⟩ ?_
        refine x_icmp_ge (tgt := 45) dX7_holdToTry_40 (by decide) (fun h40 => ?_) (fun h40 => ?_)
        · skip
          have hb1 := ml_le (I 35) (I 4 i) c
          have hb2 := ml_le (I 35) (I 4 (bh_ (I 35) c (I 4) (i - 1))) c
          rw [nI_leI (by unfold mx_; omega) (by unfold mx_; omega)] at h40
          refine x_iincN (lo2 := [_, _, _, _]) dX7_holdToTry_45 rfl rfl rfl ?_
          refine x_goto (tgt := 14) dX7_holdToTry_48 (by decide) ?_
          exact x_eq (by obtain ⟨k, rfl⟩ : ∃ k, i = k + 1 := ⟨i - 1, by omega⟩; simp only [Nat.add_sub_cancel] at h40 ⊢; first | (rw [bh_, if_pos (by omega)]; done) | (rw [bh_, if_neg (by omega)])) (by rfl) (by rfl) (Ki (by trivial))
        · skip
          have hb1 := ml_le (I 35) (I 4 i) c
          have hb2 := ml_le (I 35) (I 4 (bh_ (I 35) c (I 4) (i - 1))) c
          rw [nI_leI (by unfold mx_; omega) (by unfold mx_; omega)] at h40
          refine x_iload_n dX7_holdToTry_43 rfl ?_
          refine x_istore_n (lo2 := [_, _, _, _]) dX7_holdToTry_44 (by decide) rfl rfl ?_
          refine x_iincN (lo2 := [_, _, _, _]) dX7_holdToTry_45 rfl rfl rfl ?_
          refine x_goto (tgt := 14) dX7_holdToTry_48 (by decide) ?_
          exact x_eq (by obtain ⟨k, rfl⟩ : ∃ k, i = k + 1 := ⟨i - 1, by omega⟩; simp only [Nat.add_sub_cancel] at h40 ⊢; first | (rw [bh_, if_pos (by omega)]; done) | (rw [bh_, if_neg (by omega)])) (by rfl) (by rfl) (Ki (by trivial))
    · skip
      refine x_iload_n dX7_holdToTry_14 rfl ?_
      refine x_bipush (v := 6) dX7_holdToTry_15 (by decide) ?_
      refine x_icmp_ge (tgt := 51) dX7_holdToTry_17 (by decide) (fun h17 => ?_) (fun h17 => ?_)
      · skip
        refine x_iload_n dX7_holdToTry_51 rfl ?_
        exact x_iret dX7_holdToTry_52 rfl (Nat.le_of_ble_eq_true rfl) (Nat.le_of_ble_eq_true rfl) ⟨congrArg (fun z => some (Value.int z)) (by rw [if_neg h4]), rfl, by rfl, by rfl, rfl⟩
      · skip
        exact absurd (nI_le (b := 6) (Nat.le_refl 6) (by decide)) h17
  · skip
    rw [hc, nI_z (by omega)] at h4
    refine x_bipush (v := (-6)) dX7_holdToTry_7 (by decide) ?_
    exact x_iret dX7_holdToTry_9 rfl (Nat.le_of_ble_eq_true rfl) (Nat.le_of_ble_eq_true rfl) ⟨congrArg (fun z => some (Value.int z)) (by rw [if_pos h4]), rfl, by rfl, by rfl, rfl⟩
theorem ct_X2_leastSettled {g : zG} {N : Nat} {I : zI} {L : zL} {q0 q1 : Option Nat} {set a r : Int32} (hN : 58 ≤ N) : Ct g yX2_leastSettled mX2_leastSettled [.ref (g.2.1 + 36), .int set, .int a, .int r] N I L (zRw q0 q1) (zD (some (.int (zo (l2_ (I 37) (I 38) set a r 10)))) N I L (zRw q0 q1)) := by
  refine Ct_of (lo0 := [some (.ref (g.2.1 + 36)), some (.int set), some (.int a), some (.int r), none]) rfl rfl rfl rfl (Nat.le_of_ble_eq_true rfl) (fun E => ?_)
  refine x_iconst (v := 0) dX2_leastSettled_0 (by decide) ?_
  refine x_istore (lo2 := [_, _, _, _, _]) dX2_leastSettled_1 (by decide) rfl rfl ?_
  refine x_loop (inv := fun i => l2_ (I 37) (I 38) set a r i = none) (fun i => [some (.ref (g.2.1 + 36)), some (.int set), some (.int a), some (.int r), some (.int (nI i))]) (fun i => I) (fun i => L) 0 10 (by omega) (by rfl) (by rfl) (by rfl) (by rfl) (fun i hloi hhii hinvi Ki => ?_) (fun hinvi => ?_)
  · skip
    refine x_iload dX2_leastSettled_3 rfl ?_
    refine x_bipush (v := 10) dX2_leastSettled_5 (by decide) ?_
    refine x_icmp_ge (tgt := 50) dX2_leastSettled_7 (by decide) (fun h7 => ?_) (fun h7 => ?_)
    · skip
      exact absurd h7 (nI_ge (b := 10) hhii (by decide))
    · skip
      refine x_iload_n dX2_leastSettled_10 rfl ?_
      refine x_iload dX2_leastSettled_11 rfl ?_
      refine x_callNi dX2_leastSettled_13 nn_X2_30 mt_X8_isIn st_X8_isIn (ct_X8_isIn) rfl rfl (Nat.le_of_ble_eq_true rfl) ⟨(Nat.le_of_ble_eq_true rfl), (Nat.le_of_ble_eq_true rfl)⟩ ⟨rfl, rfl⟩ ⟨(Nat.le_of_ble_eq_true rfl), (Nat.le_of_ble_eq_true rfl)⟩ ?_
      refine x_if_eq (tgt := 44) dX2_leastSettled_16 (by decide) (fun h16 => ?_) (fun h16 => ?_)
      · skip
        replace h16 := zb0 h16
        refine x_iincN (lo2 := [_, _, _, _, _]) dX2_leastSettled_44 rfl rfl rfl ?_
        refine x_goto (tgt := 3) dX2_leastSettled_47 (by decide) ?_
        exact x_eq (by rfl) (by rfl) (by rfl) (Ki (by simp [l2_, hinvi, h7, h16]))
      · skip
        replace h16 := zb1 h16
        refine x_aload_n dX2_leastSettled_19 rfl ?_
        refine x_getR dX2_leastSettled_20 fl_X2_9 (by omega) rfl rfl rfl ?_
        refine x_iload dX2_leastSettled_23 rfl ?_
        refine x_ialdN dX2_leastSettled_25 (by omega) rfl rfl (by omega) ?_
        refine x_iload_n dX2_leastSettled_26 rfl ?_
        refine x_pc (pc2 := 27) rfl ?_
        refine x_icmp_ne (tgt := 44) dX2_leastSettled_27 (by decide) (fun h27 => ?_) (fun h27 => ?_)
        · skip
          refine x_iincN (lo2 := [_, _, _, _, _]) dX2_leastSettled_44 rfl rfl rfl ?_
          refine x_goto (tgt := 3) dX2_leastSettled_47 (by decide) ?_
          exact x_eq (by rfl) (by rfl) (by rfl) (Ki (by simp [l2_, hinvi, h7, h16, h27]))
        · skip
          refine x_aload_n dX2_leastSettled_30 rfl ?_
          refine x_getR dX2_leastSettled_31 fl_X2_15 (by omega) rfl rfl rfl ?_
          refine x_iload dX2_leastSettled_34 rfl ?_
          refine x_ialdN dX2_leastSettled_36 (by omega) rfl rfl (by omega) ?_
          refine x_iload_n dX2_leastSettled_37 rfl ?_
          refine x_pc (pc2 := 38) rfl ?_
          refine x_icmp_ge (tgt := 44) dX2_leastSettled_38 (by decide) (fun h38 => ?_) (fun h38 => ?_)
          · skip
            refine x_iincN (lo2 := [_, _, _, _, _]) dX2_leastSettled_44 rfl rfl rfl ?_
            refine x_goto (tgt := 3) dX2_leastSettled_47 (by decide) ?_
            exact x_eq (by rfl) (by rfl) (by rfl) (Ki (by simp [l2_, hinvi, h7, h16, h27, h38]))
          · skip
            refine x_iload dX2_leastSettled_41 rfl ?_
            exact x_iret dX2_leastSettled_43 rfl (Nat.le_of_ble_eq_true rfl) (Nat.le_of_ble_eq_true rfl) ⟨congrArg (fun z => some (Value.int z)) (by rw [l2_some (i := i + 1) (show l2_ (I 37) (I 38) set a r (i + 1) = some i by simp [l2_, hinvi, h16, h27, h38]) hhii]; rfl), rfl, by rfl, by rfl, rfl⟩
  · skip
    refine x_iload dX2_leastSettled_3 rfl ?_
    refine x_bipush (v := 10) dX2_leastSettled_5 (by decide) ?_
    refine x_icmp_ge (tgt := 50) dX2_leastSettled_7 (by decide) (fun h7 => ?_) (fun h7 => ?_)
    · skip
      refine x_bipush (v := (-6)) dX2_leastSettled_50 (by decide) ?_
      exact x_iret dX2_leastSettled_52 rfl (Nat.le_of_ble_eq_true rfl) (Nat.le_of_ble_eq_true rfl) ⟨congrArg (fun z => some (Value.int z)) (by rw [hinvi]; rfl), rfl, by rfl, by rfl, rfl⟩
    · skip
      exact absurd (nI_le (b := 10) (Nat.le_refl 10) (by decide)) h7
theorem ct_X2_areAllWon {g : zG} {N : Nat} {I : zI} {L : zL} {q0 q1 : Option Nat} {set r : Int32} (hN : 58 ≤ N) : Ct g yX2_areAllWon mX2_areAllWon [.ref (g.2.1 + 36), .int set, .int r] N I L (zRw q0 q1) (zD (some (.int (zb (a2_ (I 37) (I 38) set r 10)))) N I L (zRw q0 q1)) := by
  refine Ct_of (lo0 := [some (.ref (g.2.1 + 36)), some (.int set), some (.int r), none]) rfl rfl rfl rfl (Nat.le_of_ble_eq_true rfl) (fun E => ?_)
  refine x_iconst (v := 0) dX2_areAllWon_0 (by decide) ?_
  refine x_istore_n (lo2 := [_, _, _, _]) dX2_areAllWon_1 (by decide) rfl rfl ?_
  refine x_loop (inv := fun i => a2_ (I 37) (I 38) set r i = true) (fun i => [some (.ref (g.2.1 + 36)), some (.int set), some (.int r), some (.int (nI i))]) (fun i => I) (fun i => L) 0 10 (by omega) (by rfl) (by rfl) (by rfl) (by rfl) (fun i hloi hhii hinvi Ki => ?_) (fun hinvi => ?_)
  · skip
    refine x_iload_n dX2_areAllWon_2 rfl ?_
    refine x_bipush (v := 10) dX2_areAllWon_3 (by decide) ?_
    refine x_icmp_ge (tgt := 44) dX2_areAllWon_5 (by decide) (fun h5 => ?_) (fun h5 => ?_)
    · skip
      exact absurd h5 (nI_ge (b := 10) hhii (by decide))
    · skip
      refine x_iload_n dX2_areAllWon_8 rfl ?_
      refine x_iload_n dX2_areAllWon_9 rfl ?_
      refine x_callNi dX2_areAllWon_10 nn_X2_30 mt_X8_isIn st_X8_isIn (ct_X8_isIn) rfl rfl (Nat.le_of_ble_eq_true rfl) ⟨(Nat.le_of_ble_eq_true rfl), (Nat.le_of_ble_eq_true rfl)⟩ ⟨rfl, rfl⟩ ⟨(Nat.le_of_ble_eq_true rfl), (Nat.le_of_ble_eq_true rfl)⟩ ?_
      refine x_if_eq (tgt := 38) dX2_areAllWon_13 (by decide) (fun h13 => ?_) (fun h13 => ?_)
      · skip
        replace h13 := zb0 h13
        refine x_iincN (lo2 := [_, _, _, _]) dX2_areAllWon_38 rfl rfl rfl ?_
        refine x_goto (tgt := 2) dX2_areAllWon_41 (by decide) ?_
        exact x_eq (by rfl) (by rfl) (by rfl) (Ki (by simp [a2_, hinvi, h5, h13]))
      · skip
        replace h13 := zb1 h13
        refine x_aload_n dX2_areAllWon_16 rfl ?_
        refine x_getR dX2_areAllWon_17 fl_X2_9 (by omega) rfl rfl rfl ?_
        refine x_iload_n dX2_areAllWon_20 rfl ?_
        refine x_ialdN dX2_areAllWon_21 (by omega) rfl rfl (by omega) ?_
        refine x_iconst (v := 1) dX2_areAllWon_22 (by decide) ?_
        refine x_pc (pc2 := 23) rfl ?_
        refine x_icmp_ne (tgt := 36) dX2_areAllWon_23 (by decide) (fun h23 => ?_) (fun h23 => ?_)
        · skip
          refine x_iconst (v := 0) dX2_areAllWon_36 (by decide) ?_
          exact x_zret dX2_areAllWon_37 rfl rfl (Nat.le_of_ble_eq_true rfl) (Nat.le_of_ble_eq_true rfl) ⟨congrArg (fun z => some (Value.int z)) (by rw [a2_no (i := i + 1) (by simp [a2_, h5, h13, h23]) hhii]; rfl), rfl, by rfl, by rfl, rfl⟩
        · skip
          refine x_aload_n dX2_areAllWon_26 rfl ?_
          refine x_getR dX2_areAllWon_27 fl_X2_15 (by omega) rfl rfl rfl ?_
          refine x_iload_n dX2_areAllWon_30 rfl ?_
          refine x_ialdN dX2_areAllWon_31 (by omega) rfl rfl (by omega) ?_
          refine x_iload_n dX2_areAllWon_32 rfl ?_
          refine x_pc (pc2 := 33) rfl ?_
          refine x_icmp_lt (tgt := 38) dX2_areAllWon_33 (by decide) (fun h33 => ?_) (fun h33 => ?_)
          · skip
            refine x_iincN (lo2 := [_, _, _, _]) dX2_areAllWon_38 rfl rfl rfl ?_
            refine x_goto (tgt := 2) dX2_areAllWon_41 (by decide) ?_
            exact x_eq (by rfl) (by rfl) (by rfl) (Ki (by simp [a2_, hinvi, h5, h13, h23, h33]))
          · skip
            refine x_iconst (v := 0) dX2_areAllWon_36 (by decide) ?_
            exact x_zret dX2_areAllWon_37 rfl rfl (Nat.le_of_ble_eq_true rfl) (Nat.le_of_ble_eq_true rfl) ⟨congrArg (fun z => some (Value.int z)) (by rw [a2_no (i := i + 1) (by simp [a2_, h5, h13, h23, h33]) hhii]; rfl), rfl, by rfl, by rfl, rfl⟩
  · skip
    refine x_iload_n dX2_areAllWon_2 rfl ?_
    refine x_bipush (v := 10) dX2_areAllWon_3 (by decide) ?_
    refine x_icmp_ge (tgt := 44) dX2_areAllWon_5 (by decide) (fun h5 => ?_) (fun h5 => ?_)
    · skip
      refine x_iconst (v := 1) dX2_areAllWon_44 (by decide) ?_
      exact x_zret dX2_areAllWon_45 rfl rfl (Nat.le_of_ble_eq_true rfl) (Nat.le_of_ble_eq_true rfl) ⟨congrArg (fun z => some (Value.int z)) (by rw [hinvi]; rfl), rfl, by rfl, by rfl, rfl⟩
    · skip
      exact absurd (nI_le (b := 10) (Nat.le_refl 10) (by decide)) h5
theorem ct_X2_settle {g : zG} {N : Nat} {I : zI} {L : zL} {q0 q1 : Option Nat} {nx r : Int32} {i : Nat} (hN : 58 ≤ N) (hi : i < 10) : Ct g yX2_settle mX2_settle [.ref (g.2.1 + 36), .int nx, .int (nI i), .int r] N I L (zRw q0 q1) (zD none N (wmI I (st_ nx r i (I 37, I 38))) L (zRw q0 q1)) := by
  refine Ct_of (lo0 := [some (.ref (g.2.1 + 36)), some (.int nx), some (.int (nI i)), some (.int r)]) rfl rfl rfl rfl (Nat.le_of_ble_eq_true rfl) (fun E => ?_)
  refine x_aload_n dX2_settle_0 rfl ?_
  refine x_iload_n dX2_settle_1 rfl ?_
  refine x_iconst (v := 0) dX2_settle_2 (by decide) ?_
  refine x_iload_n dX2_settle_3 rfl ?_
  refine x_callVi dX2_settle_4 ml_X2_22 mt_X2_leastSettled mv_X2_leastSettled (ct_X2_leastSettled hN) (by omega) rfl rfl rfl rfl (Nat.le_of_ble_eq_true rfl) ⟨(Nat.le_of_ble_eq_true rfl), (Nat.le_of_ble_eq_true rfl)⟩ ⟨rfl, rfl⟩ ⟨(Nat.le_of_ble_eq_true rfl), (Nat.le_of_ble_eq_true rfl)⟩ ?_
  refine x_pc (pc2 := 7) rfl ?_
  refine x_bipush (v := (-6)) dX2_settle_7 (by decide) ?_
  refine x_icmp_eq (tgt := 29) dX2_settle_9 (by decide) (fun h9 => ?_) (fun h9 => ?_)
  · skip
    rw [zo_ne (fun x hx => by have := l2_lt hx; omega)] at h9
    refine x_aload_n dX2_settle_29 rfl ?_
    refine x_iload_n dX2_settle_30 rfl ?_
    refine x_iload_n dX2_settle_31 rfl ?_
    refine x_callVi dX2_settle_32 ml_X2_26 mt_X2_areAllWon mv_X2_areAllWon (ct_X2_areAllWon hN) (by omega) rfl rfl rfl rfl (Nat.le_of_ble_eq_true rfl) ⟨(Nat.le_of_ble_eq_true rfl), (Nat.le_of_ble_eq_true rfl)⟩ ⟨rfl, rfl⟩ ⟨(Nat.le_of_ble_eq_true rfl), (Nat.le_of_ble_eq_true rfl)⟩ ?_
    refine x_if_eq (tgt := 52) dX2_settle_35 (by decide) (fun h35 => ?_) (fun h35 => ?_)
    · skip
      replace h35 := zb0 h35
      exact x_vret dX2_settle_52 rfl (Nat.le_of_ble_eq_true rfl) (Nat.le_of_ble_eq_true rfl) ⟨rfl, rfl, by first | (rw [wmI_u, st_, if_pos hsome]; done) | (rw [wmI_u]; simp [st_, h9, h35]; done) | (simp [st_, h9, h35]; exact (wmI_same I).symm), by rfl, rfl⟩
    · skip
      replace h35 := zb1 h35
      refine x_aload_n dX2_settle_38 rfl ?_
      refine x_getR dX2_settle_39 fl_X2_9 (by omega) rfl rfl rfl ?_
      refine x_iload_n dX2_settle_42 rfl ?_
      refine x_iconst (v := 0) dX2_settle_43 (by decide) ?_
      refine x_iast dX2_settle_44 (by omega) rfl rfl hi ?_
      refine x_pc (pc2 := 45) rfl ?_
      refine x_aload_n dX2_settle_45 rfl ?_
      refine x_getR dX2_settle_46 fl_X2_15 (by omega) rfl rfl rfl ?_
      refine x_iload_n dX2_settle_49 rfl ?_
      refine x_iload_n dX2_settle_50 rfl ?_
      refine x_iast dX2_settle_51 (by omega) rfl rfl hi ?_
      exact x_vret dX2_settle_52 rfl (Nat.le_of_ble_eq_true rfl) (Nat.le_of_ble_eq_true rfl) ⟨rfl, rfl, by first | (rw [wmI_u, st_, if_pos hsome]; done) | (rw [wmI_u]; simp [st_, h9, h35]; done) | (simp [st_, h9, h35]; exact (wmI_same I).symm), by rfl, rfl⟩
  · skip
    rw [zo_ne (fun x hx => by have := l2_lt hx; omega)] at h9
    have hsome := Option.isSome_iff_ne_none.mpr h9
    refine x_aload_n dX2_settle_12 rfl ?_
    refine x_getR dX2_settle_13 fl_X2_9 (by omega) rfl rfl rfl ?_
    refine x_iload_n dX2_settle_16 rfl ?_
    refine x_iconst (v := 1) dX2_settle_17 (by decide) ?_
    refine x_iast dX2_settle_18 (by omega) rfl rfl hi ?_
    refine x_pc (pc2 := 19) rfl ?_
    refine x_aload_n dX2_settle_19 rfl ?_
    refine x_getR dX2_settle_20 fl_X2_15 (by omega) rfl rfl rfl ?_
    refine x_iload_n dX2_settle_23 rfl ?_
    refine x_iload_n dX2_settle_24 rfl ?_
    refine x_iast dX2_settle_25 (by omega) rfl rfl hi ?_
    refine x_goto (tgt := 52) dX2_settle_26 (by decide) ?_
    exact x_vret dX2_settle_52 rfl (Nat.le_of_ble_eq_true rfl) (Nat.le_of_ble_eq_true rfl) ⟨rfl, rfl, by first | (rw [wmI_u, st_, if_pos hsome]; done) | (rw [wmI_u]; simp [st_, h9, h35]; done) | (simp [st_, h9, h35]; exact (wmI_same I).symm), by rfl, rfl⟩
theorem ct_X2_solve {g : zG} {N : Nat} {I : zI} {L : zL} {q0 q1 : Option Nat} (hN : 58 ≤ N) : Ct g yX2_solve mX2_solve [.ref (g.2.1 + 36), .ref (g.2.1 + 9)] N I L (zRw q0 q1) (zD none N (wmI I (rs_ (I 9) (wm0 I 10) 10)) L (zRw q0 q1)) := by
  refine Ct_of (lo0 := [some (.ref (g.2.1 + 36)), some (.ref (g.2.1 + 9)), none, none]) rfl rfl rfl rfl (Nat.le_of_ble_eq_true rfl) (fun E => ?_)
  refine x_iconst (v := 0) dX2_solve_0 (by decide) ?_
  refine x_istore_n (lo2 := [_, _, _, _]) dX2_solve_1 (by decide) rfl rfl ?_
  refine x_loop (inv := fun i => True) (fun i => [some (.ref (g.2.1 + 36)), some (.ref (g.2.1 + 9)), some (.int (nI i)), none]) (fun i => wmI I (wm0 I i)) (fun i => L) 0 10 (by omega) (by trivial) (by rfl) (by rw [show wm0 I 0 = (I 37, I 38) from by simp [wm0]]; exact (wmI_same I).symm) (by rfl) (fun i hloi hhii hinvi Ki => ?_) (fun hinvi => ?_)
  · skip
    refine x_iload_n dX2_solve_2 rfl ?_
    refine x_bipush (v := 10) dX2_solve_3 (by decide) ?_
    refine x_icmp_ge (tgt := 29) dX2_solve_5 (by decide) (fun h5 => ?_) (fun h5 => ?_)
    · skip
      exact absurd h5 (nI_ge (b := 10) hhii (by decide))
    · skip
      refine x_aload_n dX2_solve_8 rfl ?_
      refine x_getR dX2_solve_9 fl_X2_9 (by omega) rfl rfl rfl ?_
      refine x_iload_n dX2_solve_12 rfl ?_
      refine x_iconst (v := 2) dX2_solve_13 (by decide) ?_
      refine x_iast dX2_solve_14 (by omega) rfl rfl (by omega) ?_
      refine x_pc (pc2 := 15) rfl ?_
      refine x_aload_n dX2_solve_15 rfl ?_
      refine x_getR dX2_solve_16 fl_X2_15 (by omega) rfl rfl rfl ?_
      refine x_iload_n dX2_solve_19 rfl ?_
      refine x_bipush (v := (-6)) dX2_solve_20 (by decide) ?_
      refine x_iast dX2_solve_22 (by omega) rfl rfl (by omega) ?_
      refine x_iincN (lo2 := [_, _, _, _]) dX2_solve_23 rfl rfl rfl ?_
      refine x_pc (pc2 := 26) rfl ?_
      refine x_goto (tgt := 2) dX2_solve_26 (by decide) ?_
      exact x_eq (by rfl) (by rw [wmI_u, wmI_37, wmI_38, wmI_wmI]; congr 1; simp only [wm0]; congr 1 <;> (funext k; by_cases e : k = i <;> simp [upd, e] <;> (by_cases q : k < i <;> simp [q] <;> omega))) (by rfl) (Ki (by trivial))
  · skip
    refine x_iload_n dX2_solve_2 rfl ?_
    refine x_bipush (v := 10) dX2_solve_3 (by decide) ?_
    refine x_icmp_ge (tgt := 29) dX2_solve_5 (by decide) (fun h5 => ?_) (fun h5 => ?_)
    · skip
      refine x_iconst (v := 0) dX2_solve_29 (by decide) ?_
      refine x_istore_n (lo2 := [_, _, _, _]) dX2_solve_30 (by decide) rfl rfl ?_
      refine x_loop (inv := fun r => True) (fun r => [some (.ref (g.2.1 + 36)), some (.ref (g.2.1 + 9)), some (.int (nI r)), none]) (fun r => wmI I (rs_ (I 9) (wm0 I 10) r)) (fun r => L) 0 10 (by omega) (by trivial) (by rfl) (by rfl) (by rfl) (fun r hlor hhir hinvr Kr => ?_) (fun hinvr => ?_)
      · skip
        refine x_iload_n dX2_solve_31 rfl ?_
        refine x_bipush (v := 10) dX2_solve_32 (by decide) ?_
        refine x_icmp_ge (tgt := 76) dX2_solve_34 (by decide) (fun h34 => ?_) (fun h34 => ?_)
        · skip
          exact absurd h34 (nI_ge (b := 10) hhir (by decide))
        · skip
          refine x_iconst (v := 0) dX2_solve_37 (by decide) ?_
          refine x_istore_n (lo2 := [_, _, _, _]) dX2_solve_38 (by decide) rfl rfl ?_
          refine x_loop (inv := fun i => True) (fun i => [some (.ref (g.2.1 + 36)), some (.ref (g.2.1 + 9)), some (.int (nI r)), some (.int (nI i))]) (fun i => wmI I (rd_ (I 9) (nI r) (rs_ (I 9) (wm0 I 10) r) i)) (fun i => L) 0 10 (by omega) (by trivial) (by rfl) (by rfl) (by rfl) (fun i hloi hhii hinvi Ki => ?_) (fun hinvi => ?_)
          · skip
            refine x_iload_n dX2_solve_39 rfl ?_
            refine x_bipush (v := 10) dX2_solve_40 (by decide) ?_
            refine x_icmp_ge (tgt := 70) dX2_solve_42 (by decide) (fun h42 => ?_) (fun h42 => ?_)
            · skip
              exact absurd h42 (nI_ge (b := 10) hhii (by decide))
            · skip
              refine x_aload_n dX2_solve_45 rfl ?_
              refine x_getR dX2_solve_46 fl_X2_9 (by omega) rfl rfl rfl ?_
              refine x_iload_n dX2_solve_49 rfl ?_
              refine x_ialdN dX2_solve_50 (by omega) rfl rfl (by omega) ?_
              refine x_iconst (v := 2) dX2_solve_51 (by decide) ?_
              refine x_pc (pc2 := 52) rfl ?_
              refine x_icmp_ne (tgt := 64) dX2_solve_52 (by decide) (fun h52 => ?_) (fun h52 => ?_)
              · skip
                refine x_iincN (lo2 := [_, _, _, _]) dX2_solve_64 rfl rfl rfl ?_
                refine x_goto (tgt := 39) dX2_solve_67 (by decide) ?_
                exact x_eq (by rfl) (by first | (rw [wmI_37, wmI_38, wmI_wmI, wmI_ne _ _ (by decide) (by decide)]; rw [wmI_37] at h52; simp only [rd_, se_, if_pos h52]; rfl) | (rw [wmI_37] at h52; simp only [rd_, se_, if_neg h52])) (by rfl) (Ki (by trivial))
              · skip
                refine x_aload_n dX2_solve_55 rfl ?_
                refine x_aload_n dX2_solve_56 rfl ?_
                refine x_iload_n dX2_solve_57 rfl ?_
                refine x_ialdN dX2_solve_58 (by omega) rfl rfl (by omega) ?_
                refine x_iload_n dX2_solve_59 rfl ?_
                refine x_pc (pc2 := 60) rfl ?_
                refine x_iload_n dX2_solve_60 rfl ?_
                refine x_callVv dX2_solve_61 ml_X2_18 mt_X2_settle mv_X2_settle (ct_X2_settle hN hhii) (by omega) rfl rfl rfl rfl (Nat.le_of_ble_eq_true rfl) ⟨(Nat.le_of_ble_eq_true rfl), (Nat.le_of_ble_eq_true rfl)⟩ ⟨rfl, rfl⟩ ⟨(Nat.le_of_ble_eq_true rfl), (Nat.le_of_ble_eq_true rfl)⟩ ?_
                refine x_iincN (lo2 := [_, _, _, _]) dX2_solve_64 rfl rfl rfl ?_
                refine x_goto (tgt := 39) dX2_solve_67 (by decide) ?_
                exact x_eq (by rfl) (by first | (rw [wmI_37, wmI_38, wmI_wmI, wmI_ne _ _ (by decide) (by decide)]; rw [wmI_37] at h52; simp only [rd_, se_, if_pos h52]; rfl) | (rw [wmI_37] at h52; simp only [rd_, se_, if_neg h52])) (by rfl) (Ki (by trivial))
          · skip
            refine x_iload_n dX2_solve_39 rfl ?_
            refine x_bipush (v := 10) dX2_solve_40 (by decide) ?_
            refine x_icmp_ge (tgt := 70) dX2_solve_42 (by decide) (fun h42 => ?_) (fun h42 => ?_)
            · skip
              refine x_iincN (lo2 := [_, _, _, _]) dX2_solve_70 rfl rfl rfl ?_
              refine x_goto (tgt := 31) dX2_solve_73 (by decide) ?_
              refine x_drop (i := 3) (lo2 := [_, _, _, _]) rfl ?_
              exact x_eq (by rfl) (by rfl) (by rfl) (Kr (by trivial))
            · skip
              exact absurd (nI_le (b := 10) (Nat.le_refl 10) (by decide)) h42
      · skip
        refine x_iload_n dX2_solve_31 rfl ?_
        refine x_bipush (v := 10) dX2_solve_32 (by decide) ?_
        refine x_icmp_ge (tgt := 76) dX2_solve_34 (by decide) (fun h34 => ?_) (fun h34 => ?_)
        · skip
          exact x_vret dX2_solve_76 rfl (Nat.le_of_ble_eq_true rfl) (Nat.le_of_ble_eq_true rfl) ⟨rfl, rfl, by rfl, by rfl, rfl⟩
        · skip
          exact absurd (nI_le (b := 10) (Nat.le_refl 10) (by decide)) h34
    · skip
      exact absurd (nI_le (b := 10) (Nat.le_refl 10) (by decide)) h5
theorem ct_X2_firstMove {g : zG} {N : Nat} {I : zI} {L : zL} {q0 q1 : Option Nat} {i : Nat} (hN : 58 ≤ N) (hi : i < 10) : Ct g yX2_firstMove mX2_firstMove [.ref (g.2.1 + 36), .ref (g.2.1 + 9), .int (nI i)] N I L (zRw q0 q1) (zD (some (.int (if I 37 i = 1 then zo (l2_ (I 37) (I 38) (I 9 i) 0 (I 38 i) 10) else -6))) N I L (zRw q0 q1)) := by
  refine Ct_of (lo0 := [some (.ref (g.2.1 + 36)), some (.ref (g.2.1 + 9)), some (.int (nI i))]) rfl rfl rfl rfl (Nat.le_of_ble_eq_true rfl) (fun E => ?_)
  refine x_aload_n dX2_firstMove_0 rfl ?_
  refine x_getR dX2_firstMove_1 fl_X2_9 (by omega) rfl rfl rfl ?_
  refine x_iload_n dX2_firstMove_4 rfl ?_
  refine x_ialdN dX2_firstMove_5 (by omega) rfl rfl hi ?_
  refine x_iconst (v := 1) dX2_firstMove_6 (by decide) ?_
  refine x_pc (pc2 := 7) rfl ?_
  refine x_icmp_ne (tgt := 27) dX2_firstMove_7 (by decide) (fun h7 => ?_) (fun h7 => ?_)
  · skip
    refine x_bipush (v := (-6)) dX2_firstMove_27 (by decide) ?_
    exact x_iret dX2_firstMove_29 rfl (Nat.le_of_ble_eq_true rfl) (Nat.le_of_ble_eq_true rfl) ⟨congrArg (fun z => some (Value.int z)) (by first | (rw [if_pos h7]; done) | (rw [if_neg h7])), rfl, by rfl, by rfl, rfl⟩
  · skip
    refine x_aload_n dX2_firstMove_10 rfl ?_
    refine x_aload_n dX2_firstMove_11 rfl ?_
    refine x_iload_n dX2_firstMove_12 rfl ?_
    refine x_ialdN dX2_firstMove_13 (by omega) rfl rfl hi ?_
    refine x_iconst (v := 0) dX2_firstMove_14 (by decide) ?_
    refine x_pc (pc2 := 15) rfl ?_
    refine x_aload_n dX2_firstMove_15 rfl ?_
    refine x_getR dX2_firstMove_16 fl_X2_15 (by omega) rfl rfl rfl ?_
    refine x_iload_n dX2_firstMove_19 rfl ?_
    refine x_ialdN dX2_firstMove_20 (by omega) rfl rfl hi ?_
    refine x_callVi dX2_firstMove_21 ml_X2_22 mt_X2_leastSettled mv_X2_leastSettled (ct_X2_leastSettled hN) (by omega) rfl rfl rfl rfl (Nat.le_of_ble_eq_true rfl) ⟨(Nat.le_of_ble_eq_true rfl), (Nat.le_of_ble_eq_true rfl)⟩ ⟨rfl, rfl⟩ ⟨(Nat.le_of_ble_eq_true rfl), (Nat.le_of_ble_eq_true rfl)⟩ ?_
    refine x_goto (tgt := 29) dX2_firstMove_24 (by decide) ?_
    exact x_iret dX2_firstMove_29 rfl (Nat.le_of_ble_eq_true rfl) (Nat.le_of_ble_eq_true rfl) ⟨congrArg (fun z => some (Value.int z)) (by first | (rw [if_pos h7]; done) | (rw [if_neg h7])), rfl, by rfl, by rfl, rfl⟩
