theorem ff_lt {f : Nat → Int32} {n : Nat} (hn : n ≤ 60) : ff_ f n < 0 ↔ ff_ f n = -6 := by
  constructor
  · intro h
    unfold ff_ at h ⊢
    split
    · rename_i p hp
      rw [hp] at h
      have h : nI p < 0 := h
      have fl : ∀ i q, fp_ f i = some q → q < i := by
        intro i
        induction i with
        | zero => intro q h; simp [fp_] at h
        | succ i ih =>
          intro q h
          simp only [fp_] at h
          split at h
          · cases h; rename_i h0; have := ih _ h0; omega
          · split at h
            · cases h; omega
            · cases h
      exact absurd h (nI_pos (by have := fl n p hp; omega))
    · rename_i hp
      rw [hp] at h
      split
      · rfl
      · rename_i q
        have h : (if ds_ f n = 0 then (-6 : Int32) else nI n) < 0 := h
        rw [if_neg q] at h
        exact absurd h (nI_pos (by omega))
  · intro h; rw [h]; decide
theorem kaI_far {I : zI} {k a b c : Nat} (h : c ≠ 40) (h2 : c ≠ 42) : kaI I k a b c = I c := by
  simp only [kaI, gkI, kjI, ksI, krI, khI]
  repeat' split
  all_goals simp [zrn, zrow_ne, h, h2]
theorem kaI_40 {I : zI} {k a b j : Nat} (h : j ≠ 11) : kaI I k a b 40 j = I 40 j := by
  simp only [kaI, gkI, kjI, ksI, krI, khI]
  repeat' split
  all_goals simp [zu, zrow, h]
theorem kgo_far {f : Nat → Int32} {n c : Nat} (h : c ≠ 40) (h2 : c ≠ 42) : ∀ (d p : Nat) (I : zI), (kgo f n d p I).1 c = I c
  | 0, _, _ => rfl
  | d + 1, p, I => by
    simp only [kgo]
    split
    · rfl
    · split
      · rw [kgo_far h h2 d, zrn _ _ h]
        split
        · rw [zrn _ _ h, kaI_far h h2]
        · split
          · rw [zrn _ _ h, kaI_far h h2]
          · rw [zrn _ _ h, zrn _ _ h, zrn _ _ h, kaI_far h h2]
      · exact (zrn _ _ h).trans (kaI_far h h2)
theorem kgo_40 {f : Nat → Int32} {n j : Nat} (h : j < 11) : ∀ (d p : Nat) (I : zI), (kgo f n d p I).1 40 j = I 40 j
  | 0, _, _ => rfl
  | d + 1, p, I => by
    have e11 : j ≠ 11 := by omega
    have e12 : j ≠ 12 := by omega
    have e13 : j ≠ 13 := by omega
    have e14 : j ≠ 14 := by omega
    have e15 : j ≠ 15 := by omega
    simp only [kgo]
    split
    · rfl
    · split
      · rw [kgo_40 h d, zur e15]
        split
        · rw [zur e14, kaI_40 e11]
        · split
          · rw [zur e14, kaI_40 e11]
          · rw [zur e13, zur e12, zur e14, kaI_40 e11]
      · exact (zur e14).trans (kaI_40 e11)
theorem kgo_end {f : Nat → Int32} {n d p : Nat} {I : zI} (h : n ≤ p) : kgo f n d p I = (I, -6) := by
  cases d with
  | zero => rfl
  | succ d => simp [kgo, h]
def kdy (I : zI) (n : Nat) : zI × Int32 := kgo (I 49) n 60 0 (zu (anI I) 40 15 0)
theorem an_far {I : zI} {c : Nat} (h : c ≠ 40) (h2 : c ≠ 42) : anI I c = I c := by simp [anI, zrn, zrow_ne, h, h2]
theorem an_40 {I : zI} {j : Nat} (h : j < 11) : anI I 40 j = I 40 j := by
  simp only [anI]
  rw [zur (by omega), zur (by omega), zur (by omega), zrow_ne _ _ (by decide)]
theorem kdy_far {I : zI} {n c : Nat} (h : ¬ zscr c) : (kdy I n).1 c = I c := by
  unfold zscr at h
  unfold kdy
  rw [kgo_far (by omega) (by omega), zrn _ _ (by omega), an_far (by omega) (by omega)]
theorem kdy_40 {I : zI} {n j : Nat} (h : j < 11) : (kdy I n).1 40 j = I 40 j := by
  unfold kdy
  rw [kgo_40 h, zur (by omega), an_40 h]
theorem iteK {I J : zI} {p : Prop} [Decidable p] {c : Nat} (h : J c = I c) : (if p then J else I) c = I c := by
  split
  · exact h
  · rfl
theorem iteK2 {I J : zI} {p : Prop} [Decidable p] {c j : Nat} (h : J c j = I c j) : (if p then J else I) c j = I c j := by
  split
  · exact h
  · rfl
def kjuA (I : zI) (n : Nat) (w : Int32) : Int32 := if zin w 0 1 = false then -2 else if ff_ (I 49) n = -6 then (if (kdy I n).2 < 0 then (kdy I n).2 else if w = 0 then (kdy I n).2 else (kdy I n).1 40 14) else -5
def kok (I : zI) (n : Nat) : Bool := decide (ff_ (I 49) n = -6 ∧ (kdy I n).2 < 0)
def kdoI (I : zI) (n : Nat) : zI := if kok I n = true then zu (zrow (kdy I n).1 41 (zpre 15 ((kdy I n).1 42) (I 41))) 40 9 0 else I
def kdoA (I : zI) (n : Nat) : Int32 := if kok I n = true then (kdy I n).1 40 15 else -5
def kbeA (I : zI) (n : Nat) (a w : Int32) : Int32 := if thr I a = false then -1 else if zin w 0 1 = false then -2 else if kok I n = false then -5 else if std (kdy I n).1 a = true then (kdy I n).1 42 (6 * zx w + zx a) else -6
def kthA (I : zI) (n : Nat) (w : Int32) : Int32 := if zin w 0 5 = false then -2 else if kok I n = false then -5 else if 3 ≤ w then (if w = 3 then (kdy I n).1 40 11 else if w = 4 then (kdy I n).1 40 12 else (kdy I n).1 40 13) else (kdy I n).1 42 (12 + zx w)
def kf_ (gr : Nat → Int32) (mk : Int32) : Nat → Int32
  | 0 => 0
  | i + 1 => kf_ gr mk i ||| (if zwi (gr i) mk = true then 1 <<< (nI i &&& 31) else 0)
def kfiA (I : zI) (a : Int32) : Int32 := if thr I a = true then kf_ (I 43) (I 41 (6 + zx a)) 6 else -1
theorem thr_ex {I : zI} {a : Int32} (h : thr I a = true) : ∃ i, i < 6 ∧ a = nI i := by
  have h1 : zin a 0 5 = true := by
    unfold thr at h
    exact (Bool.and_eq_true _ _ ▸ h).1
  exact zin_ex (b := 5) (by decide) h1

theorem ct_X9_asNow {g : zG} {N : Nat} {I : zI} {L : zL} {q0 q1 : Option Nat} (hN : 58 ≤ N) : Ct g yX9_asNow mX9_asNow [.ref (g.2.1 + 40)] N I L (zRw q0 q1) (zD none N (anI I) L (zRw q0 q1)) := by
  refine Ct_of (lo0 := [some (.ref (g.2.1 + 40)), none]) rfl rfl rfl rfl (Nat.le_of_ble_eq_true rfl) (fun E => ?_)
  refine x_iconst (v := 0) dX9_asNow_0 (by decide) ?_
  refine x_istore_n (lo2 := [_, _]) dX9_asNow_1 (by decide) rfl rfl ?_
  refine x_loop (inv := fun i => True) (fun i => [some (.ref (g.2.1 + 40)), some (.int (nI i))]) (fun i => zrow I 42 (zpre i (I 41) (I 42))) (fun i => L) 0 15 (by omega) (by trivial) (by rfl) (by rw [zpre_0, zrow_same]) (by rfl) (fun i hloi hhii hinvi Ki => ?_) (fun hinvi => ?_)
  · skip
    refine x_iload_n dX9_asNow_2 rfl ?_
    refine x_bipush (v := 15) dX9_asNow_3 (by decide) ?_
    refine x_icmp_ge (tgt := 26) dX9_asNow_5 (by decide) (fun h5 => ?_) (fun h5 => ?_)
    · skip
      exact absurd h5 (nI_ge (b := 15) hhii (by decide))
    · skip
      refine x_aload_n dX9_asNow_8 rfl ?_
      refine x_getR dX9_asNow_9 fl_X9_13 (by omega) rfl rfl rfl ?_
      refine x_iload_n dX9_asNow_12 rfl ?_
      refine x_aload_n dX9_asNow_13 rfl ?_
      refine x_getR dX9_asNow_14 fl_X9_7 (by omega) rfl rfl rfl ?_
      refine x_pc (pc2 := 17) rfl ?_
      refine x_iload_n dX9_asNow_17 rfl ?_
      refine x_ialdN dX9_asNow_18 (by omega) rfl rfl (by omega) ?_
      refine x_iast dX9_asNow_19 (by omega) rfl rfl (by omega) ?_
      refine x_iincN (lo2 := [_, _]) dX9_asNow_20 rfl rfl rfl ?_
      refine x_goto (tgt := 2) dX9_asNow_23 (by decide) ?_
      exact x_eq (by rfl) (by rw [zu_zrow, zrow_ne _ _ (by decide), zpre_s]) (by rfl) (Ki (by trivial))
  · skip
    refine x_iload_n dX9_asNow_2 rfl ?_
    refine x_bipush (v := 15) dX9_asNow_3 (by decide) ?_
    refine x_icmp_ge (tgt := 26) dX9_asNow_5 (by decide) (fun h5 => ?_) (fun h5 => ?_)
    · skip
      refine x_aload_n dX9_asNow_26 rfl ?_
      refine x_iconst (v := 0) dX9_asNow_27 (by decide) ?_
      refine x_putI dX9_asNow_28 fp_X9_83 (by omega) rfl ?_
      refine x_aload_n dX9_asNow_31 rfl ?_
      refine x_bipush (v := (-6)) dX9_asNow_32 (by decide) ?_
      refine x_pc (pc2 := 34) rfl ?_
      refine x_putI dX9_asNow_34 fp_X9_86 (by omega) rfl ?_
      refine x_aload_n dX9_asNow_37 rfl ?_
      refine x_bipush (v := (-6)) dX9_asNow_38 (by decide) ?_
      refine x_putI dX9_asNow_40 fp_X9_89 (by omega) rfl ?_
      exact x_vret dX9_asNow_43 rfl (Nat.le_of_ble_eq_true rfl) (Nat.le_of_ble_eq_true rfl) ⟨rfl, rfl, by rfl, by rfl, rfl⟩
    · skip
      exact absurd (nI_le (b := 15) (Nat.le_refl 15) (by decide)) h5
theorem ct_X9_grip {g : zG} {N : Nat} {I : zI} {L : zL} {q0 q1 : Option Nat} {h : Nat} {a : Nat} (hN : 58 ≤ N) (ha : a < 6) (hh : h < 6) : Ct g yX9_grip mX9_grip [.ref (g.2.1 + 40), .int (nI a), .int (nI h)] N I L (zRw q0 q1) (zD (some (.int (gkR I a h))) N (gkI I a h) L (zRw q0 q1)) := by
  refine Ct_of (lo0 := [some (.ref (g.2.1 + 40)), some (.int (nI a)), some (.int (nI h))]) rfl rfl rfl rfl (Nat.le_of_ble_eq_true rfl) (fun E => ?_)
  refine x_aload_n dX9_grip_0 rfl ?_
  refine x_iload_n dX9_grip_1 rfl ?_
  refine x_callVi dX9_grip_2 ml_X9_92 mt_X9_stands mv_X9_stands (ct_X9_stands hN) (by omega) rfl rfl rfl rfl (Nat.le_of_ble_eq_true rfl) ⟨(Nat.le_of_ble_eq_true rfl), (Nat.le_of_ble_eq_true rfl)⟩ ⟨rfl, rfl⟩ ⟨(Nat.le_of_ble_eq_true rfl), (Nat.le_of_ble_eq_true rfl)⟩ ?_
  refine x_if_ne (tgt := 10) dX9_grip_5 (by decide) (fun h5 => ?_) (fun h5 => ?_)
  · skip
    replace h5 := zb1 h5
    rw [std_nI ha] at h5
    refine x_aload_n dX9_grip_10 rfl ?_
    refine x_getR dX9_grip_11 fl_X9_16 (by omega) rfl rfl rfl ?_
    refine x_iload_n dX9_grip_14 rfl ?_
    refine x_ialdN dX9_grip_15 (by omega) rfl rfl hh ?_
    refine x_aload_n dX9_grip_16 rfl ?_
    refine x_pc (pc2 := 17) rfl ?_
    refine x_getR dX9_grip_17 fl_X9_13 (by omega) rfl rfl rfl ?_
    refine x_bipush (v := 6) dX9_grip_20 (by decide) ?_
    refine x_iload_n dX9_grip_22 rfl ?_
    refine x_iadd dX9_grip_23 ?_
    refine x_ialdN dX9_grip_24 (by omega) rfl (show nI 6 + nI a = nI (6 + a) from nI_add 6 a) (by omega) ?_
    refine x_iconst (v := (-1)) dX9_grip_25 (by decide) ?_
    refine x_pc (pc2 := 26) rfl ?_
    refine x_ixor dX9_grip_26 ?_
    refine x_iand dX9_grip_27 ?_
    refine x_if_eq (tgt := 33) dX9_grip_28 (by decide) (fun h28 => ?_) (fun h28 => ?_)
    · skip
      replace h28 := zwi_t h28
      refine x_aload_n dX9_grip_33 rfl ?_
      refine x_getR dX9_grip_34 fl_X9_13 (by omega) rfl rfl rfl ?_
      refine x_bipush (v := 13) dX9_grip_37 (by decide) ?_
      refine x_ialdN (i := 13) dX9_grip_39 (by omega) rfl rfl (by decide) ?_
      refine x_aload_n dX9_grip_40 rfl ?_
      refine x_pc (pc2 := 41) rfl ?_
      refine x_getR dX9_grip_41 fl_X9_22 (by omega) rfl rfl rfl ?_
      refine x_iload_n dX9_grip_44 rfl ?_
      refine x_ialdN dX9_grip_45 (by omega) rfl rfl hh ?_
      refine x_icmp_ge (tgt := 51) dX9_grip_46 (by decide) (fun h46 => ?_) (fun h46 => ?_)
      · skip
        refine x_aload_n dX9_grip_51 rfl ?_
        refine x_getR dX9_grip_52 fl_X9_13 (by omega) rfl rfl rfl ?_
        refine x_bipush (v := 13) dX9_grip_55 (by decide) ?_
        refine x_dup2 dX9_grip_57 rfl rfl ?_
        refine x_ialdN (i := 13) dX9_grip_58 (by omega) rfl rfl (by decide) ?_
        refine x_pc (pc2 := 59) rfl ?_
        refine x_aload_n dX9_grip_59 rfl ?_
        refine x_getR dX9_grip_60 fl_X9_22 (by omega) rfl rfl rfl ?_
        refine x_iload_n dX9_grip_63 rfl ?_
        refine x_ialdN dX9_grip_64 (by omega) rfl rfl hh ?_
        refine x_isub dX9_grip_65 ?_
        refine x_iast (i := 13) dX9_grip_66 (by omega) rfl rfl (by decide) ?_
        refine x_pc (pc2 := 67) rfl ?_
        refine x_aload_n dX9_grip_67 rfl ?_
        refine x_getR dX9_grip_68 fl_X9_13 (by omega) rfl rfl rfl ?_
        refine x_iload_n dX9_grip_71 rfl ?_
        refine x_dup2 dX9_grip_72 rfl rfl ?_
        refine x_ialdN dX9_grip_73 (by omega) rfl rfl (by omega) ?_
        refine x_aload_n dX9_grip_74 rfl ?_
        refine x_pc (pc2 := 75) rfl ?_
        refine x_getR dX9_grip_75 fl_X9_19 (by omega) rfl rfl rfl ?_
        refine x_iload_n dX9_grip_78 rfl ?_
        refine x_ialdN dX9_grip_79 (by omega) rfl rfl hh ?_
        rw [zur (show a ≠ 13 by omega), zrn _ _ (show 44 ≠ 42 by decide)]
        refine x_isub dX9_grip_80 ?_
        refine x_iast dX9_grip_81 (by omega) rfl rfl (by omega) ?_
        refine x_aload_n dX9_grip_82 rfl ?_
        refine x_pc (pc2 := 83) rfl ?_
        refine x_getR dX9_grip_83 fl_X9_13 (by omega) rfl rfl rfl ?_
        refine x_iload_n dX9_grip_86 rfl ?_
        refine x_ialdN dX9_grip_87 (by omega) rfl rfl (by omega) ?_
        rw [zu_self]
        refine x_iconst (v := 1) dX9_grip_88 (by decide) ?_
        refine x_icmp_ge (tgt := 117) dX9_grip_89 (by decide) (fun h89 => ?_) (fun h89 => ?_)
        · skip
          refine x_iconst (v := 0) dX9_grip_117 (by decide) ?_
          exact x_iret dX9_grip_118 rfl (Nat.le_of_ble_eq_true rfl) (Nat.le_of_ble_eq_true rfl) ⟨congrArg (fun z => some (Value.int z)) (by simp [gkR, h5, h28, h46, h89]), rfl, by first | (simp [gkI, gkR, h5, h28, h46, h89]; done) | (simp [gkI, gkR, h5, h28, h46, h89, off1]), by rfl, rfl⟩
        · skip
          refine x_aload_n dX9_grip_92 rfl ?_
          refine x_getR dX9_grip_93 fl_X9_13 (by omega) rfl rfl rfl ?_
          refine x_bipush (v := 12) dX9_grip_96 (by decide) ?_
          refine x_dup2 dX9_grip_98 rfl rfl ?_
          refine x_ialdN (i := 12) dX9_grip_99 (by omega) rfl rfl (by decide) ?_
          rw [zur (show 12 ≠ a by omega), zur (show 12 ≠ 13 by decide)]
          refine x_pc (pc2 := 100) rfl ?_
          refine x_iconst (v := 1) dX9_grip_100 (by decide) ?_
          refine x_iload_n dX9_grip_101 rfl ?_
          refine x_ishl dX9_grip_102 ?_
          refine x_iconst (v := (-1)) dX9_grip_103 (by decide) ?_
          refine x_ixor dX9_grip_104 ?_
          refine x_iand dX9_grip_105 ?_
          refine x_pc (pc2 := 106) rfl ?_
          refine x_iast (i := 12) dX9_grip_106 (by omega) rfl rfl (by decide) ?_
          refine x_aload_n dX9_grip_107 rfl ?_
          refine x_dup dX9_grip_108 rfl ?_
          refine x_getI dX9_grip_109 fl_X9_83 (by omega) rfl rfl ?_
          rw [zrn _ _ (show 40 ≠ 42 by decide), zrn _ _ (show 40 ≠ 42 by decide), zrn _ _ (show 40 ≠ 42 by decide)]
          refine x_iconst (v := 1) dX9_grip_112 (by decide) ?_
          refine x_iadd dX9_grip_113 ?_
          refine x_pc (pc2 := 114) rfl ?_
          refine x_putI dX9_grip_114 fp_X9_83 (by omega) rfl ?_
          refine x_iconst (v := 0) dX9_grip_117 (by decide) ?_
          exact x_iret dX9_grip_118 rfl (Nat.le_of_ble_eq_true rfl) (Nat.le_of_ble_eq_true rfl) ⟨congrArg (fun z => some (Value.int z)) (by simp [gkR, h5, h28, h46, h89]), rfl, by first | (simp [gkI, gkR, h5, h28, h46, h89]; done) | (simp [gkI, gkR, h5, h28, h46, h89, off1]), by rfl, rfl⟩
      · skip
        refine x_iconst (v := 3) dX9_grip_49 (by decide) ?_
        exact x_iret dX9_grip_50 rfl (Nat.le_of_ble_eq_true rfl) (Nat.le_of_ble_eq_true rfl) ⟨congrArg (fun z => some (Value.int z)) (by simp [gkR, h5, h28, h46]), rfl, by first | (simp [gkI, gkR, h5, h28, h46]; done) | (simp [gkI, gkR, h5, h28, h46, off1]), by rfl, rfl⟩
    · skip
      replace h28 := zwi_f h28
      refine x_iconst (v := 2) dX9_grip_31 (by decide) ?_
      exact x_iret dX9_grip_32 rfl (Nat.le_of_ble_eq_true rfl) (Nat.le_of_ble_eq_true rfl) ⟨congrArg (fun z => some (Value.int z)) (by simp [gkR, h5, h28]), rfl, by first | (simp [gkI, gkR, h5, h28]; done) | (simp [gkI, gkR, h5, h28, off1]), by rfl, rfl⟩
  · skip
    replace h5 := zb0 h5
    rw [std_nI ha] at h5
    refine x_iconst (v := 1) dX9_grip_8 (by decide) ?_
    exact x_iret dX9_grip_9 rfl (Nat.le_of_ble_eq_true rfl) (Nat.le_of_ble_eq_true rfl) ⟨congrArg (fun z => some (Value.int z)) (by simp [gkR, h5]), rfl, by first | (simp [gkI, gkR, h5]; done) | (simp [gkI, gkR, h5, off1]), by rfl, rfl⟩
theorem ct_X9_join {g : zG} {N : Nat} {I : zI} {L : zL} {q0 q1 : Option Nat} {b : Nat} {a : Nat} (hN : 58 ≤ N) (ha : a < 6) (hb : b < 6) : Ct g yX9_join mX9_join [.ref (g.2.1 + 40), .int (nI a), .int (nI b)] N I L (zRw q0 q1) (zD (some (.int (kjR I a b))) N (kjI I a b) L (zRw q0 q1)) := by
  refine Ct_of (lo0 := [some (.ref (g.2.1 + 40)), some (.int (nI a)), some (.int (nI b))]) rfl rfl rfl rfl (Nat.le_of_ble_eq_true rfl) (fun E => ?_)
  refine x_aload_n dX9_join_0 rfl ?_
  refine x_iload_n dX9_join_1 rfl ?_
  refine x_callVi dX9_join_2 ml_X9_92 mt_X9_stands mv_X9_stands (ct_X9_stands hN) (by omega) rfl rfl rfl rfl (Nat.le_of_ble_eq_true rfl) ⟨(Nat.le_of_ble_eq_true rfl), (Nat.le_of_ble_eq_true rfl)⟩ ⟨rfl, rfl⟩ ⟨(Nat.le_of_ble_eq_true rfl), (Nat.le_of_ble_eq_true rfl)⟩ ?_
  refine x_if_eq (tgt := 16) dX9_join_5 (by decide) (fun h5 => ?_) (fun h5 => ?_)
  · skip
    replace h5 := zb0 h5
    rw [std_nI ha] at h5
    refine x_iconst (v := 1) dX9_join_16 (by decide) ?_
    exact x_iret dX9_join_17 rfl (Nat.le_of_ble_eq_true rfl) (Nat.le_of_ble_eq_true rfl) ⟨congrArg (fun z => some (Value.int z)) (by simp [kjR, h5]), rfl, by first | (simp [kjI, kjR, h5]; done) | (simp [kjI, kjR, h5, off1]), by rfl, rfl⟩
  · skip
    replace h5 := zb1 h5
    rw [std_nI ha] at h5
    refine x_aload_n dX9_join_8 rfl ?_
    refine x_iload_n dX9_join_9 rfl ?_
    refine x_callVi dX9_join_10 ml_X9_92 mt_X9_stands mv_X9_stands (ct_X9_stands hN) (by omega) rfl rfl rfl rfl (Nat.le_of_ble_eq_true rfl) ⟨(Nat.le_of_ble_eq_true rfl), (Nat.le_of_ble_eq_true rfl)⟩ ⟨rfl, rfl⟩ ⟨(Nat.le_of_ble_eq_true rfl), (Nat.le_of_ble_eq_true rfl)⟩ ?_
    refine x_if_ne (tgt := 18) dX9_join_13 (by decide) (fun h13 => ?_) (fun h13 => ?_)
    · skip
      replace h13 := zb1 h13
      rw [std_nI hb] at h13
      refine x_iload_n dX9_join_18 rfl ?_
      refine x_iload_n dX9_join_19 rfl ?_
      refine x_icmp_ne (tgt := 25) dX9_join_20 (by decide) (fun h20 => ?_) (fun h20 => ?_)
      · skip
        rw [nI_eq (by omega) (by omega)] at h20
        refine x_aload_n dX9_join_25 rfl ?_
        refine x_getR dX9_join_26 fl_X9_13 (by omega) rfl rfl rfl ?_
        refine x_iload_n dX9_join_29 rfl ?_
        refine x_aload_n dX9_join_30 rfl ?_
        refine x_getR dX9_join_31 fl_X9_13 (by omega) rfl rfl rfl ?_
        refine x_pc (pc2 := 34) rfl ?_
        refine x_iload_n dX9_join_34 rfl ?_
        refine x_ialdN dX9_join_35 (by omega) rfl rfl (by omega) ?_
        refine x_aload_n dX9_join_36 rfl ?_
        refine x_getR dX9_join_37 fl_X9_13 (by omega) rfl rfl rfl ?_
        refine x_iload_n dX9_join_40 rfl ?_
        refine x_ialdN dX9_join_41 (by omega) rfl rfl (by omega) ?_
        refine x_pc (pc2 := 42) rfl ?_
        refine x_iadd dX9_join_42 ?_
        refine x_bipush (v := 99) dX9_join_43 (by decide) ?_
        refine x_icmp_le (tgt := 53) dX9_join_45 (by decide) (fun h45 => ?_) (fun h45 => ?_)
        · skip
          refine x_aload_n dX9_join_53 rfl ?_
          refine x_getR dX9_join_54 fl_X9_13 (by omega) rfl rfl rfl ?_
          refine x_iload_n dX9_join_57 rfl ?_
          refine x_ialdN dX9_join_58 (by omega) rfl rfl (by omega) ?_
          refine x_aload_n dX9_join_59 rfl ?_
          refine x_pc (pc2 := 60) rfl ?_
          refine x_getR dX9_join_60 fl_X9_13 (by omega) rfl rfl rfl ?_
          refine x_iload_n dX9_join_63 rfl ?_
          refine x_ialdN dX9_join_64 (by omega) rfl rfl (by omega) ?_
          refine x_iadd dX9_join_65 ?_
          refine x_iast dX9_join_66 (by omega) rfl rfl (by omega) ?_
          refine x_aload_n dX9_join_67 rfl ?_
          refine x_pc (pc2 := 68) rfl ?_
          refine x_getR dX9_join_68 fl_X9_13 (by omega) rfl rfl rfl ?_
          refine x_bipush (v := 6) dX9_join_71 (by decide) ?_
          refine x_iload_n dX9_join_73 rfl ?_
          refine x_iadd dX9_join_74 ?_
          refine x_dup2 dX9_join_75 rfl rfl ?_
          refine x_ialdN dX9_join_76 (by omega) rfl (show nI 6 + nI a = nI (6 + a) from nI_add 6 a) (by omega) ?_
          rw [zur (show 6 + a ≠ a by omega)]
          refine x_pc (pc2 := 77) rfl ?_
          refine x_aload_n dX9_join_77 rfl ?_
          refine x_getR dX9_join_78 fl_X9_13 (by omega) rfl rfl rfl ?_
          refine x_bipush (v := 6) dX9_join_81 (by decide) ?_
          refine x_iload_n dX9_join_83 rfl ?_
          refine x_iadd dX9_join_84 ?_
          refine x_ialdN dX9_join_85 (by omega) rfl (show nI 6 + nI b = nI (6 + b) from nI_add 6 b) (by omega) ?_
          rw [zur (show 6 + b ≠ a by omega)]
          refine x_pc (pc2 := 86) rfl ?_
          refine x_ior dX9_join_86 ?_
          refine x_iast dX9_join_87 (by omega) rfl (show nI 6 + nI a = nI (6 + a) from nI_add 6 a) (by omega) ?_
          refine x_aload_n dX9_join_88 rfl ?_
          refine x_getR dX9_join_89 fl_X9_13 (by omega) rfl rfl rfl ?_
          refine x_bipush (v := 12) dX9_join_92 (by decide) ?_
          refine x_dup2 dX9_join_94 rfl rfl ?_
          refine x_pc (pc2 := 95) rfl ?_
          refine x_ialdN (i := 12) dX9_join_95 (by omega) rfl rfl (by decide) ?_
          rw [zur (show 12 ≠ 6 + a by omega), zur (show 12 ≠ a by omega)]
          refine x_iconst (v := 1) dX9_join_96 (by decide) ?_
          refine x_iload_n dX9_join_97 rfl ?_
          refine x_ishl dX9_join_98 ?_
          refine x_iconst (v := (-1)) dX9_join_99 (by decide) ?_
          refine x_ixor dX9_join_100 ?_
          refine x_pc (pc2 := 101) rfl ?_
          refine x_iand dX9_join_101 ?_
          refine x_iast (i := 12) dX9_join_102 (by omega) rfl rfl (by decide) ?_
          refine x_iconst (v := 0) dX9_join_103 (by decide) ?_
          exact x_iret dX9_join_104 rfl (Nat.le_of_ble_eq_true rfl) (Nat.le_of_ble_eq_true rfl) ⟨congrArg (fun z => some (Value.int z)) (by simp [kjR, h5, h13, h20, h45]), rfl, by first | (simp [kjI, kjR, h5, h13, h20, h45]; done) | (simp [kjI, kjR, h5, h13, h20, h45, off1]), by rfl, rfl⟩
        · skip
          refine x_bipush (v := 99) dX9_join_48 (by decide) ?_
          refine x_goto (tgt := 66) dX9_join_50 (by decide) ?_
          refine x_iast dX9_join_66 (by omega) rfl rfl (by omega) ?_
          refine x_aload_n dX9_join_67 rfl ?_
          refine x_getR dX9_join_68 fl_X9_13 (by omega) rfl rfl rfl ?_
          refine x_bipush (v := 6) dX9_join_71 (by decide) ?_
          refine x_iload_n dX9_join_73 rfl ?_
          refine x_pc (pc2 := 74) rfl ?_
          refine x_iadd dX9_join_74 ?_
          refine x_dup2 dX9_join_75 rfl rfl ?_
          refine x_ialdN dX9_join_76 (by omega) rfl (show nI 6 + nI a = nI (6 + a) from nI_add 6 a) (by omega) ?_
          rw [zur (show 6 + a ≠ a by omega)]
          refine x_aload_n dX9_join_77 rfl ?_
          refine x_getR dX9_join_78 fl_X9_13 (by omega) rfl rfl rfl ?_
          refine x_bipush (v := 6) dX9_join_81 (by decide) ?_
          refine x_pc (pc2 := 83) rfl ?_
          refine x_iload_n dX9_join_83 rfl ?_
          refine x_iadd dX9_join_84 ?_
          refine x_ialdN dX9_join_85 (by omega) rfl (show nI 6 + nI b = nI (6 + b) from nI_add 6 b) (by omega) ?_
          rw [zur (show 6 + b ≠ a by omega)]
          refine x_ior dX9_join_86 ?_
          refine x_iast dX9_join_87 (by omega) rfl (show nI 6 + nI a = nI (6 + a) from nI_add 6 a) (by omega) ?_
          refine x_aload_n dX9_join_88 rfl ?_
          refine x_pc (pc2 := 89) rfl ?_
          refine x_getR dX9_join_89 fl_X9_13 (by omega) rfl rfl rfl ?_
          refine x_bipush (v := 12) dX9_join_92 (by decide) ?_
          refine x_dup2 dX9_join_94 rfl rfl ?_
          refine x_ialdN (i := 12) dX9_join_95 (by omega) rfl rfl (by decide) ?_
          rw [zur (show 12 ≠ 6 + a by omega), zur (show 12 ≠ a by omega)]
          refine x_iconst (v := 1) dX9_join_96 (by decide) ?_
          refine x_iload_n dX9_join_97 rfl ?_
          refine x_pc (pc2 := 98) rfl ?_
          refine x_ishl dX9_join_98 ?_
          refine x_iconst (v := (-1)) dX9_join_99 (by decide) ?_
          refine x_ixor dX9_join_100 ?_
          refine x_iand dX9_join_101 ?_
          refine x_iast (i := 12) dX9_join_102 (by omega) rfl rfl (by decide) ?_
          refine x_iconst (v := 0) dX9_join_103 (by decide) ?_
          refine x_pc (pc2 := 104) rfl ?_
          exact x_iret dX9_join_104 rfl (Nat.le_of_ble_eq_true rfl) (Nat.le_of_ble_eq_true rfl) ⟨congrArg (fun z => some (Value.int z)) (by simp [kjR, h5, h13, h20, h45]), rfl, by first | (simp [kjI, kjR, h5, h13, h20, h45]; done) | (simp [kjI, kjR, h5, h13, h20, h45, off1]), by rfl, rfl⟩
      · skip
        rw [nI_eq (by omega) (by omega)] at h20
        refine x_iconst (v := 4) dX9_join_23 (by decide) ?_
        exact x_iret dX9_join_24 rfl (Nat.le_of_ble_eq_true rfl) (Nat.le_of_ble_eq_true rfl) ⟨congrArg (fun z => some (Value.int z)) (by simp [kjR, h5, h13, h20]), rfl, by first | (simp [kjI, kjR, h5, h13, h20]; done) | (simp [kjI, kjR, h5, h13, h20, off1]), by rfl, rfl⟩
    · skip
      replace h13 := zb0 h13
      rw [std_nI hb] at h13
      refine x_iconst (v := 1) dX9_join_16 (by decide) ?_
      exact x_iret dX9_join_17 rfl (Nat.le_of_ble_eq_true rfl) (Nat.le_of_ble_eq_true rfl) ⟨congrArg (fun z => some (Value.int z)) (by simp [kjR, h5, h13]), rfl, by first | (simp [kjI, kjR, h5, h13]; done) | (simp [kjI, kjR, h5, h13, off1]), by rfl, rfl⟩
theorem ct_X9_sitBy {g : zG} {N : Nat} {I : zI} {L : zL} {q0 q1 : Option Nat} {a : Nat} (hN : 58 ≤ N) (ha : a < 6) : Ct g yX9_sitBy mX9_sitBy [.ref (g.2.1 + 40), .int (nI a)] N I L (zRw q0 q1) (zD (some (.int (ksR I a))) N (ksI I a) L (zRw q0 q1)) := by
  refine Ct_of (lo0 := [some (.ref (g.2.1 + 40)), some (.int (nI a))]) rfl rfl rfl rfl (Nat.le_of_ble_eq_true rfl) (fun E => ?_)
  refine x_aload_n dX9_sitBy_0 rfl ?_
  refine x_iload_n dX9_sitBy_1 rfl ?_
  refine x_callVi dX9_sitBy_2 ml_X9_92 mt_X9_stands mv_X9_stands (ct_X9_stands hN) (by omega) rfl rfl rfl rfl (Nat.le_of_ble_eq_true rfl) ⟨(Nat.le_of_ble_eq_true rfl), (Nat.le_of_ble_eq_true rfl)⟩ ⟨rfl, rfl⟩ ⟨(Nat.le_of_ble_eq_true rfl), (Nat.le_of_ble_eq_true rfl)⟩ ?_
  refine x_if_ne (tgt := 10) dX9_sitBy_5 (by decide) (fun h5 => ?_) (fun h5 => ?_)
  · skip
    replace h5 := zb1 h5
    rw [std_nI ha] at h5
    refine x_aload_n dX9_sitBy_10 rfl ?_
    refine x_getR dX9_sitBy_11 fl_X9_13 (by omega) rfl rfl rfl ?_
    refine x_bipush (v := 13) dX9_sitBy_14 (by decide) ?_
    refine x_ialdN (i := 13) dX9_sitBy_16 (by omega) rfl rfl (by decide) ?_
    refine x_bipush (v := 10) dX9_sitBy_17 (by decide) ?_
    refine x_pc (pc2 := 19) rfl ?_
    refine x_icmp_ge (tgt := 24) dX9_sitBy_19 (by decide) (fun h19 => ?_) (fun h19 => ?_)
    · skip
      refine x_aload_n dX9_sitBy_24 rfl ?_
      refine x_getR dX9_sitBy_25 fl_X9_13 (by omega) rfl rfl rfl ?_
      refine x_bipush (v := 13) dX9_sitBy_28 (by decide) ?_
      refine x_dup2 dX9_sitBy_30 rfl rfl ?_
      refine x_ialdN (i := 13) dX9_sitBy_31 (by omega) rfl rfl (by decide) ?_
      refine x_pc (pc2 := 32) rfl ?_
      refine x_bipush (v := 10) dX9_sitBy_32 (by decide) ?_
      refine x_isub dX9_sitBy_34 ?_
      refine x_iast (i := 13) dX9_sitBy_35 (by omega) rfl rfl (by decide) ?_
      refine x_aload_n dX9_sitBy_36 rfl ?_
      refine x_getR dX9_sitBy_37 fl_X9_13 (by omega) rfl rfl rfl ?_
      refine x_iload_n dX9_sitBy_40 rfl ?_
      refine x_pc (pc2 := 41) rfl ?_
      refine x_aload_n dX9_sitBy_41 rfl ?_
      refine x_getR dX9_sitBy_42 fl_X9_13 (by omega) rfl rfl rfl ?_
      refine x_iload_n dX9_sitBy_45 rfl ?_
      refine x_ialdN dX9_sitBy_46 (by omega) rfl rfl (by omega) ?_
      rw [zur (show a ≠ 13 by omega)]
      refine x_iconst (v := 2) dX9_sitBy_47 (by decide) ?_
      refine x_icmp_ge (tgt := 55) dX9_sitBy_48 (by decide) (fun h48 => ?_) (fun h48 => ?_)
      · skip
        refine x_aload_n dX9_sitBy_55 rfl ?_
        refine x_getR dX9_sitBy_56 fl_X9_13 (by omega) rfl rfl rfl ?_
        refine x_iload_n dX9_sitBy_59 rfl ?_
        refine x_ialdN dX9_sitBy_60 (by omega) rfl rfl (by omega) ?_
        rw [zur (show a ≠ 13 by omega)]
        refine x_iconst (v := 2) dX9_sitBy_61 (by decide) ?_
        refine x_pc (pc2 := 62) rfl ?_
        refine x_idiv dX9_sitBy_62 (by decide) ?_
        refine x_iast dX9_sitBy_63 (by omega) rfl rfl (by omega) ?_
        refine x_iconst (v := 0) dX9_sitBy_64 (by decide) ?_
        exact x_iret dX9_sitBy_65 rfl (Nat.le_of_ble_eq_true rfl) (Nat.le_of_ble_eq_true rfl) ⟨congrArg (fun z => some (Value.int z)) (by simp [ksR, h5, h19, h48]), rfl, by simp [ksI, ksR, h5, h19, h48], by rfl, rfl⟩
      · skip
        refine x_iconst (v := 1) dX9_sitBy_51 (by decide) ?_
        refine x_goto (tgt := 63) dX9_sitBy_52 (by decide) ?_
        refine x_iast dX9_sitBy_63 (by omega) rfl rfl (by omega) ?_
        refine x_iconst (v := 0) dX9_sitBy_64 (by decide) ?_
        exact x_iret dX9_sitBy_65 rfl (Nat.le_of_ble_eq_true rfl) (Nat.le_of_ble_eq_true rfl) ⟨congrArg (fun z => some (Value.int z)) (by simp [ksR, h5, h19, h48]), rfl, by simp [ksI, ksR, h5, h19, h48], by rfl, rfl⟩
    · skip
      refine x_iconst (v := 3) dX9_sitBy_22 (by decide) ?_
      exact x_iret dX9_sitBy_23 rfl (Nat.le_of_ble_eq_true rfl) (Nat.le_of_ble_eq_true rfl) ⟨congrArg (fun z => some (Value.int z)) (by simp [ksR, h5, h19]), rfl, by simp [ksI, ksR, h5, h19], by rfl, rfl⟩
  · skip
    replace h5 := zb0 h5
    rw [std_nI ha] at h5
    refine x_iconst (v := 1) dX9_sitBy_8 (by decide) ?_
    exact x_iret dX9_sitBy_9 rfl (Nat.le_of_ble_eq_true rfl) (Nat.le_of_ble_eq_true rfl) ⟨congrArg (fun z => some (Value.int z)) (by simp [ksR, h5]), rfl, by simp [ksI, ksR, h5], by rfl, rfl⟩
theorem ct_X9_rest {g : zG} {N : Nat} {I : zI} {L : zL} {q0 q1 : Option Nat} (hN : 58 ≤ N) : Ct g yX9_rest mX9_rest [.ref (g.2.1 + 40)] N I L (zRw q0 q1) (zD (some (.int (krR I))) N (krI I) L (zRw q0 q1)) := by
  refine Ct_of (lo0 := [some (.ref (g.2.1 + 40))]) rfl rfl rfl rfl (Nat.le_of_ble_eq_true rfl) (fun E => ?_)
  refine x_aload_n dX9_rest_0 rfl ?_
  refine x_getR dX9_rest_1 fl_X9_13 (by omega) rfl rfl rfl ?_
  refine x_bipush (v := 13) dX9_rest_4 (by decide) ?_
  refine x_ialdN (i := 13) dX9_rest_6 (by omega) rfl rfl (by decide) ?_
  refine x_bipush (v := 99) dX9_rest_7 (by decide) ?_
  refine x_pc (pc2 := 9) rfl ?_
  refine x_icmp_ne (tgt := 14) dX9_rest_9 (by decide) (fun h9 => ?_) (fun h9 => ?_)
  · skip
    refine x_aload_n dX9_rest_14 rfl ?_
    refine x_getR dX9_rest_15 fl_X9_13 (by omega) rfl rfl rfl ?_
    refine x_bipush (v := 13) dX9_rest_18 (by decide) ?_
    refine x_aload_n dX9_rest_20 rfl ?_
    refine x_getR dX9_rest_21 fl_X9_13 (by omega) rfl rfl rfl ?_
    refine x_pc (pc2 := 24) rfl ?_
    refine x_bipush (v := 13) dX9_rest_24 (by decide) ?_
    refine x_ialdN (i := 13) dX9_rest_26 (by omega) rfl rfl (by decide) ?_
    refine x_bipush (v := 79) dX9_rest_27 (by decide) ?_
    refine x_icmp_le (tgt := 37) dX9_rest_29 (by decide) (fun h29 => ?_) (fun h29 => ?_)
    · skip
      refine x_aload_n dX9_rest_37 rfl ?_
      refine x_getR dX9_rest_38 fl_X9_13 (by omega) rfl rfl rfl ?_
      refine x_bipush (v := 13) dX9_rest_41 (by decide) ?_
      refine x_ialdN (i := 13) dX9_rest_43 (by omega) rfl rfl (by decide) ?_
      refine x_bipush (v := 20) dX9_rest_44 (by decide) ?_
      refine x_pc (pc2 := 46) rfl ?_
      refine x_iadd dX9_rest_46 ?_
      refine x_iast (i := 13) dX9_rest_47 (by omega) rfl rfl (by decide) ?_
      refine x_iconst (v := 0) dX9_rest_48 (by decide) ?_
      exact x_iret dX9_rest_49 rfl (Nat.le_of_ble_eq_true rfl) (Nat.le_of_ble_eq_true rfl) ⟨congrArg (fun z => some (Value.int z)) (by simp [krR, h9, h29]), rfl, by simp [krI, krR, h9, h29], by rfl, rfl⟩
    · skip
      refine x_bipush (v := 99) dX9_rest_32 (by decide) ?_
      refine x_goto (tgt := 47) dX9_rest_34 (by decide) ?_
      refine x_iast (i := 13) dX9_rest_47 (by omega) rfl rfl (by decide) ?_
      refine x_iconst (v := 0) dX9_rest_48 (by decide) ?_
      exact x_iret dX9_rest_49 rfl (Nat.le_of_ble_eq_true rfl) (Nat.le_of_ble_eq_true rfl) ⟨congrArg (fun z => some (Value.int z)) (by simp [krR, h9, h29]), rfl, by simp [krI, krR, h9, h29], by rfl, rfl⟩
  · skip
    refine x_iconst (v := 5) dX9_rest_12 (by decide) ?_
    exact x_iret dX9_rest_13 rfl (Nat.le_of_ble_eq_true rfl) (Nat.le_of_ble_eq_true rfl) ⟨congrArg (fun z => some (Value.int z)) (by simp [krR, h9]), rfl, by simp [krI, krR, h9], by rfl, rfl⟩
theorem ct_X9_endHour {g : zG} {N : Nat} {I : zI} {L : zL} {q0 q1 : Option Nat} (hN : 58 ≤ N) : Ct g yX9_endHour mX9_endHour [.ref (g.2.1 + 40)] N I L (zRw q0 q1) (zD (some (.int (khR I))) N (khI I) L (zRw q0 q1)) := by
  refine Ct_of (lo0 := [some (.ref (g.2.1 + 40)), none]) rfl rfl rfl rfl (Nat.le_of_ble_eq_true rfl) (fun E => ?_)
  refine x_aload_n dX9_endHour_0 rfl ?_
  refine x_getR dX9_endHour_1 fl_X9_13 (by omega) rfl rfl rfl ?_
  refine x_bipush (v := 14) dX9_endHour_4 (by decide) ?_
  refine x_ialdN (i := 14) dX9_endHour_6 (by omega) rfl rfl (by decide) ?_
  refine x_bipush (v := 99) dX9_endHour_7 (by decide) ?_
  refine x_pc (pc2 := 9) rfl ?_
  refine x_icmp_ne (tgt := 15) dX9_endHour_9 (by decide) (fun h9 => ?_) (fun h9 => ?_)
  · skip
    refine x_aload_n dX9_endHour_15 rfl ?_
    refine x_getR dX9_endHour_16 fl_X9_13 (by omega) rfl rfl rfl ?_
    refine x_bipush (v := 14) dX9_endHour_19 (by decide) ?_
    refine x_dup2 dX9_endHour_21 rfl rfl ?_
    refine x_ialdN (i := 14) dX9_endHour_22 (by omega) rfl rfl (by decide) ?_
    refine x_pc (pc2 := 23) rfl ?_
    refine x_iconst (v := 1) dX9_endHour_23 (by decide) ?_
    refine x_iadd dX9_endHour_24 ?_
    refine x_iast (i := 14) dX9_endHour_25 (by omega) rfl rfl (by decide) ?_
    refine x_iconst (v := 0) dX9_endHour_26 (by decide) ?_
    refine x_istore_n (lo2 := [_, _]) dX9_endHour_27 (by decide) rfl rfl ?_
    refine x_loop (inv := fun i => True) (fun i => [some (.ref (g.2.1 + 40)), some (.int (nI i))]) (fun i => zrow I 42 (zpre i (kh3 (I 42 12) (I 42)) (upd (I 42) 14 (I 42 14 + 1)))) (fun i => L) 0 6 (by omega) (by trivial) (by rfl) (by rw [zpre_0, zu_is]) (by rfl) (fun i hloi hhii hinvi Ki => ?_) (fun hinvi => ?_)
    · skip
      have e12 : zrow I 42 (zpre i (kh3 (I 42 12) (I 42)) (upd (I 42) 14 (I 42 14 + 1))) 42 12 = I 42 12 := by rw [zrow_k]; simp [zpre, upd, show ¬ 12 < i by omega]
      have ei : zrow I 42 (zpre i (kh3 (I 42 12) (I 42)) (upd (I 42) 14 (I 42 14 + 1))) 42 i = I 42 i := by rw [zrow_k]; simp [zpre, upd, show i ≠ 14 by omega]
      refine x_iload_n dX9_endHour_28 rfl ?_
      refine x_bipush (v := 6) dX9_endHour_29 (by decide) ?_
      refine x_icmp_ge (tgt := 87) dX9_endHour_31 (by decide) (fun h31 => ?_) (fun h31 => ?_)
      · skip
        exact absurd h31 (nI_ge (b := 6) hhii (by decide))
      · skip
        refine x_aload_n dX9_endHour_34 rfl ?_
        refine x_getR dX9_endHour_35 fl_X9_13 (by omega) rfl rfl rfl ?_
        refine x_iload_n dX9_endHour_38 rfl ?_
        refine x_aload_n dX9_endHour_39 rfl ?_
        refine x_iload_n dX9_endHour_40 rfl ?_
        refine x_pc (pc2 := 41) rfl ?_
        refine x_callVi dX9_endHour_41 ml_X9_92 mt_X9_stands mv_X9_stands (ct_X9_stands hN) (by omega) rfl rfl rfl rfl (Nat.le_of_ble_eq_true rfl) ⟨(Nat.le_of_ble_eq_true rfl), (Nat.le_of_ble_eq_true rfl)⟩ ⟨rfl, rfl⟩ ⟨(Nat.le_of_ble_eq_true rfl), (Nat.le_of_ble_eq_true rfl)⟩ ?_
        refine x_if_ne (tgt := 56) dX9_endHour_44 (by decide) (fun h44 => ?_) (fun h44 => ?_)
        · skip
          replace h44 := zb1 h44
          rw [std_nI hhii, e12] at h44
          refine x_aload_n dX9_endHour_56 rfl ?_
          refine x_getR dX9_endHour_57 fl_X9_13 (by omega) rfl rfl rfl ?_
          refine x_iload_n dX9_endHour_60 rfl ?_
          refine x_ialdN dX9_endHour_61 (by omega) rfl rfl (by omega) ?_
          rw [ei]
          refine x_bipush (v := 96) dX9_endHour_62 (by decide) ?_
          refine x_pc (pc2 := 64) rfl ?_
          refine x_icmp_le (tgt := 72) dX9_endHour_64 (by decide) (fun h64 => ?_) (fun h64 => ?_)
          · skip
            refine x_aload_n dX9_endHour_72 rfl ?_
            refine x_getR dX9_endHour_73 fl_X9_13 (by omega) rfl rfl rfl ?_
            refine x_iload_n dX9_endHour_76 rfl ?_
            refine x_ialdN dX9_endHour_77 (by omega) rfl rfl (by omega) ?_
            rw [ei]
            refine x_iconst (v := 3) dX9_endHour_78 (by decide) ?_
            refine x_pc (pc2 := 79) rfl ?_
            refine x_iadd dX9_endHour_79 ?_
            refine x_iast dX9_endHour_80 (by omega) rfl rfl (by omega) ?_
            refine x_iincN (lo2 := [_, _]) dX9_endHour_81 rfl rfl rfl ?_
            refine x_goto (tgt := 28) dX9_endHour_84 (by decide) ?_
            exact x_eq (by rfl) (by rw [zu_zrow, ← zpre_s]; congr 2; simp [kh3, h9, h31, h44, h64]) (by rfl) (Ki (by trivial))
          · skip
            refine x_bipush (v := 99) dX9_endHour_67 (by decide) ?_
            refine x_goto (tgt := 80) dX9_endHour_69 (by decide) ?_
            refine x_iast dX9_endHour_80 (by omega) rfl rfl (by omega) ?_
            refine x_iincN (lo2 := [_, _]) dX9_endHour_81 rfl rfl rfl ?_
            refine x_goto (tgt := 28) dX9_endHour_84 (by decide) ?_
            exact x_eq (by rfl) (by rw [zu_zrow, ← zpre_s]; congr 2; simp [kh3, h9, h31, h44, h64]) (by rfl) (Ki (by trivial))
        · skip
          replace h44 := zb0 h44
          rw [std_nI hhii, e12] at h44
          refine x_aload_n dX9_endHour_47 rfl ?_
          refine x_getR dX9_endHour_48 fl_X9_13 (by omega) rfl rfl rfl ?_
          refine x_iload_n dX9_endHour_51 rfl ?_
          refine x_ialdN dX9_endHour_52 (by omega) rfl rfl (by omega) ?_
          rw [ei]
          refine x_goto (tgt := 80) dX9_endHour_53 (by decide) ?_
          refine x_iast dX9_endHour_80 (by omega) rfl rfl (by omega) ?_
          refine x_iincN (lo2 := [_, _]) dX9_endHour_81 rfl rfl rfl ?_
          refine x_goto (tgt := 28) dX9_endHour_84 (by decide) ?_
          exact x_eq (by rfl) (by rw [zu_zrow, ← zpre_s]; congr 2; simp [kh3, h9, h31, h44]) (by rfl) (Ki (by trivial))
    · skip
      have e13 : zrow I 42 (zpre 6 (kh3 (I 42 12) (I 42)) (upd (I 42) 14 (I 42 14 + 1))) 42 13 = I 42 13 := by rw [zrow_k]; simp [zpre, upd]
      refine x_iload_n dX9_endHour_28 rfl ?_
      refine x_bipush (v := 6) dX9_endHour_29 (by decide) ?_
      refine x_icmp_ge (tgt := 87) dX9_endHour_31 (by decide) (fun h31 => ?_) (fun h31 => ?_)
      · skip
        refine x_aload_n dX9_endHour_87 rfl ?_
        refine x_getR dX9_endHour_88 fl_X9_13 (by omega) rfl rfl rfl ?_
        refine x_bipush (v := 13) dX9_endHour_91 (by decide) ?_
        refine x_aload_n dX9_endHour_93 rfl ?_
        refine x_getR dX9_endHour_94 fl_X9_13 (by omega) rfl rfl rfl ?_
        refine x_pc (pc2 := 97) rfl ?_
        refine x_bipush (v := 13) dX9_endHour_97 (by decide) ?_
        refine x_ialdN (i := 13) dX9_endHour_99 (by omega) rfl rfl (by decide) ?_
        rw [e13]
        refine x_bipush (v := 94) dX9_endHour_100 (by decide) ?_
        refine x_icmp_le (tgt := 110) dX9_endHour_102 (by decide) (fun h102 => ?_) (fun h102 => ?_)
        · skip
          refine x_aload_n dX9_endHour_110 rfl ?_
          refine x_getR dX9_endHour_111 fl_X9_13 (by omega) rfl rfl rfl ?_
          refine x_bipush (v := 13) dX9_endHour_114 (by decide) ?_
          refine x_ialdN (i := 13) dX9_endHour_116 (by omega) rfl rfl (by decide) ?_
          rw [e13]
          refine x_iconst (v := 5) dX9_endHour_117 (by decide) ?_
          refine x_pc (pc2 := 118) rfl ?_
          refine x_iadd dX9_endHour_118 ?_
          refine x_iast (i := 13) dX9_endHour_119 (by omega) rfl rfl (by decide) ?_
          refine x_iconst (v := 0) dX9_endHour_120 (by decide) ?_
          exact x_iret dX9_endHour_121 rfl (Nat.le_of_ble_eq_true rfl) (Nat.le_of_ble_eq_true rfl) ⟨congrArg (fun z => some (Value.int z)) (by simp [khR, h9]), rfl, by first | (simp [khI, khR, h9]; done) | (simp [khI, khR, h9, h102]), by rfl, rfl⟩
        · skip
          refine x_bipush (v := 99) dX9_endHour_105 (by decide) ?_
          refine x_goto (tgt := 119) dX9_endHour_107 (by decide) ?_
          refine x_iast (i := 13) dX9_endHour_119 (by omega) rfl rfl (by decide) ?_
          refine x_iconst (v := 0) dX9_endHour_120 (by decide) ?_
          exact x_iret dX9_endHour_121 rfl (Nat.le_of_ble_eq_true rfl) (Nat.le_of_ble_eq_true rfl) ⟨congrArg (fun z => some (Value.int z)) (by simp [khR, h9]), rfl, by first | (simp [khI, khR, h9]; done) | (simp [khI, khR, h9, h102]), by rfl, rfl⟩
      · skip
        exact absurd (nI_le (b := 6) (Nat.le_refl 6) (by decide)) h31
  · skip
    refine x_bipush (v := 6) dX9_endHour_12 (by decide) ?_
    exact x_iret dX9_endHour_14 rfl (Nat.le_of_ble_eq_true rfl) (Nat.le_of_ble_eq_true rfl) ⟨congrArg (fun z => some (Value.int z)) (by simp [khR, h9]), rfl, by first | (simp [khI, khR, h9]; done) | (simp [khI, khR, h9, h102]), by rfl, rfl⟩
theorem ct_X9_griefAct {g : zG} {N : Nat} {I : zI} {L : zL} {q0 q1 : Option Nat} {x how last : Int32} {b : Nat} {a : Nat} (hN : 58 ≤ N) (ha : a < 6) (hx : x = nI a) (h43 : how = 43 → last = nI b ∧ b < 6) (h0 : ¬ how = 43 → ¬ how = 95 → how - 48 = nI b ∧ b < 6) : Ct g yX9_griefAct mX9_griefAct [.ref (g.2.1 + 40), .int x, .int how, .int last] N I L (zRw q0 q1) (zD (some (.int (kaR I (if how = 43 then 1 else if how = 95 then 2 else 0) a b))) N (kaI I (if how = 43 then 1 else if how = 95 then 2 else 0) a b) L (zRw q0 q1)) := by
  refine Ct_of (lo0 := [some (.ref (g.2.1 + 40)), some (.int x), some (.int how), some (.int last)]) rfl rfl rfl rfl (Nat.le_of_ble_eq_true rfl) (fun E => ?_)
  refine x_iload_n dX9_griefAct_0 rfl ?_
  refine x_bipush (v := 43) dX9_griefAct_1 (by decide) ?_
  refine x_icmp_ne (tgt := 15) dX9_griefAct_3 (by decide) (fun h3 => ?_) (fun h3 => ?_)
  · skip
    refine x_iload_n dX9_griefAct_15 rfl ?_
    refine x_bipush (v := 95) dX9_griefAct_16 (by decide) ?_
    refine x_icmp_ne (tgt := 29) dX9_griefAct_18 (by decide) (fun h18 => ?_) (fun h18 => ?_)
    · skip
      refine x_aload_n dX9_griefAct_29 rfl ?_
      refine x_iload_n dX9_griefAct_30 rfl ?_
      refine x_iload_n dX9_griefAct_31 rfl ?_
      refine x_bipush (v := 48) dX9_griefAct_32 (by decide) ?_
      refine x_isub dX9_griefAct_34 ?_
      rw [hx, (h0 h3 h18).1]
      refine x_pc (pc2 := 35) rfl ?_
      refine x_callVi dX9_griefAct_35 ml_X9_103 mt_X9_grip mv_X9_grip (ct_X9_grip hN ha (h0 h3 h18).2) (by omega) rfl rfl rfl rfl (Nat.le_of_ble_eq_true rfl) ⟨(Nat.le_of_ble_eq_true rfl), (Nat.le_of_ble_eq_true rfl)⟩ ⟨rfl, rfl⟩ ⟨(Nat.le_of_ble_eq_true rfl), (Nat.le_of_ble_eq_true rfl)⟩ ?_
      exact x_iret dX9_griefAct_38 rfl (Nat.le_of_ble_eq_true rfl) (Nat.le_of_ble_eq_true rfl) ⟨congrArg (fun z => some (Value.int z)) (by first | (simp [kaR, h3, h18]; done)), rfl, by simp [kaI, h3, h18], by rfl, rfl⟩
    · skip
      refine x_aload_n dX9_griefAct_21 rfl ?_
      refine x_iload_n dX9_griefAct_22 rfl ?_
      rw [hx]
      refine x_callVi dX9_griefAct_23 ml_X9_100 mt_X9_sitBy mv_X9_sitBy (ct_X9_sitBy hN ha) (by omega) rfl rfl rfl rfl (Nat.le_of_ble_eq_true rfl) ⟨(Nat.le_of_ble_eq_true rfl), (Nat.le_of_ble_eq_true rfl)⟩ ⟨rfl, rfl⟩ ⟨(Nat.le_of_ble_eq_true rfl), (Nat.le_of_ble_eq_true rfl)⟩ ?_
      refine x_goto (tgt := 38) dX9_griefAct_26 (by decide) ?_
      exact x_iret dX9_griefAct_38 rfl (Nat.le_of_ble_eq_true rfl) (Nat.le_of_ble_eq_true rfl) ⟨congrArg (fun z => some (Value.int z)) (by first | (simp [kaR, h3, h18]; done)), rfl, by simp [kaI, h3, h18], by rfl, rfl⟩
  · skip
    refine x_aload_n dX9_griefAct_6 rfl ?_
    refine x_iload_n dX9_griefAct_7 rfl ?_
    refine x_iload_n dX9_griefAct_8 rfl ?_
    rw [hx, (h43 h3).1]
    refine x_callVi dX9_griefAct_9 ml_X9_96 mt_X9_join mv_X9_join (ct_X9_join hN ha (h43 h3).2) (by omega) rfl rfl rfl rfl (Nat.le_of_ble_eq_true rfl) ⟨(Nat.le_of_ble_eq_true rfl), (Nat.le_of_ble_eq_true rfl)⟩ ⟨rfl, rfl⟩ ⟨(Nat.le_of_ble_eq_true rfl), (Nat.le_of_ble_eq_true rfl)⟩ ?_
    refine x_goto (tgt := 38) dX9_griefAct_12 (by decide) ?_
    exact x_iret dX9_griefAct_38 rfl (Nat.le_of_ble_eq_true rfl) (Nat.le_of_ble_eq_true rfl) ⟨congrArg (fun z => some (Value.int z)) (by first | (simp [kaR, h3]; done)), rfl, by simp [kaI, h3], by rfl, rfl⟩
theorem ct_X9_goDays {g : zG} {N : Nat} {I : zI} {L : zL} {q0 q1 : Option Nat} {f : Nat → Int32} {n : Nat} (hN : 58 ≤ N) (hc : I 40 9 = nI n) (hn : n ≤ 60) (hf : I 49 = f) (hff : fp_ f n = none) (hdd : ds_ f n = 0) : Ct g yX9_goDays mX9_goDays [.ref (g.2.1 + 40)] N I L (zRw q0 q1) (zD (some (.int (kgo f n 60 0 (zu (anI I) 40 15 0)).2)) N (kgo f n 60 0 (zu (anI I) 40 15 0)).1 L (zRw q0 q1)) := by
  refine Ct_of (lo0 := [some (.ref (g.2.1 + 40)), none, none, none, none]) rfl rfl rfl rfl (Nat.le_of_ble_eq_true rfl) (fun E => ?_)
  refine x_aload_n dX9_goDays_0 rfl ?_
  refine x_callVv dX9_goDays_1 ml_X9_106 mt_X9_asNow mv_X9_asNow (ct_X9_asNow hN) (by omega) rfl rfl rfl rfl (Nat.le_of_ble_eq_true rfl) ⟨(Nat.le_of_ble_eq_true rfl), (Nat.le_of_ble_eq_true rfl)⟩ ⟨rfl, rfl⟩ ⟨(Nat.le_of_ble_eq_true rfl), (Nat.le_of_ble_eq_true rfl)⟩ ?_
  refine x_aload_n dX9_goDays_4 rfl ?_
  refine x_iconst (v := 0) dX9_goDays_5 (by decide) ?_
  refine x_putI dX9_goDays_6 fp_X9_109 (by omega) rfl ?_
  refine x_pc (pc2 := 9) rfl ?_
  refine x_iconst (v := 0) dX9_goDays_9 (by decide) ?_
  refine x_istore_n (lo2 := [_, _, _, _, _]) dX9_goDays_10 (by decide) rfl rfl ?_
  refine x_while (σ := Nat × Nat × zI) (fun t => t.2.1 ≤ n ∧ n ≤ t.2.1 + t.1 ∧ ds_ f t.2.1 = 0 ∧ t.2.2 40 9 = nI n ∧ t.2.2 49 = f ∧ kgo f n t.1 t.2.1 t.2.2 = kgo f n 60 0 (zu (anI I) 40 15 0)) (fun t => t.1) (fun t => [some (.ref (g.2.1 + 40)), some (.int (nI t.2.1)), none, none, none]) (fun t => t.2.2) (fun _ => L) (60, 0, zu (anI I) 40 15 0) ⟨Nat.zero_le _, by show n ≤ 0 + 60; omega, rfl, by show zu (anI I) 40 15 0 40 9 = nI n; rw [zur (by decide), an_40 (by decide), hc], by show zu (anI I) 40 15 0 49 = f; rw [zrn _ _ (by decide), an_far (by decide) (by decide), hf], rfl⟩ rfl rfl rfl (fun t ht K => ?_)
  obtain ⟨d, p, J⟩ := t
  obtain ⟨t2, t1, t3, t4, t5, t6⟩ := ht
  dsimp only at t1 t2 t3 t4 t5 t6 K ⊢
  refine x_iload_n dX9_goDays_11 rfl ?_
  refine x_aload_n dX9_goDays_12 rfl ?_
  refine x_getI dX9_goDays_13 fl_X9_75 (by omega) rfl rfl ?_
  refine x_icmp_ge (tgt := 186) dX9_goDays_16 (by decide) (fun h16 => ?_) (fun h16 => ?_)
  · skip
    have hpn : n ≤ p := by rw [t4, nI_leI (by omega) (by omega)] at h16; exact h16
    refine x_bipush (v := (-6)) dX9_goDays_186 (by decide) ?_
    exact x_iret dX9_goDays_188 rfl (Nat.le_of_ble_eq_true rfl) (Nat.le_of_ble_eq_true rfl) ⟨congrArg (fun z => some (Value.int z)) (by rw [← t6, kgo_end hpn]), rfl, by first | (rw [← t6, kgo_end hpn]; done) | (rw [← t6]; simp only [kgo]; rw [if_neg (show ¬ n ≤ p by omega), if_neg h134]), by rfl, rfl⟩
  · skip
    have hpn : p < n := by rw [t4, nI_leI (by omega) (by omega)] at h16; omega
    obtain ⟨e, rfl⟩ : ∃ e, d = e + 1 := ⟨d - 1, by omega⟩
    have ok := rd_ok hff hdd hpn t3
    have hsg := sg_in (f := f) hpn
    refine x_aload_n dX9_goDays_19 rfl ?_
    refine x_getI dX9_goDays_20 fl_X9_83 (by omega) rfl rfl ?_
    refine x_istore_n (lo2 := [_, _, _, _, _]) dX9_goDays_23 (by decide) rfl rfl ?_
    refine x_aload_n dX9_goDays_24 rfl ?_
    refine x_getR dX9_goDays_25 fl_X9_34 (by omega) rfl rfl rfl ?_
    refine x_pc (pc2 := 28) rfl ?_
    refine x_iload_n dX9_goDays_28 rfl ?_
    refine x_ialdN dX9_goDays_29 (by omega) rfl rfl (by omega) ?_
    rw [t5]
    refine x_istore_n (lo2 := [_, _, _, _, _]) dX9_goDays_30 (by decide) rfl rfl ?_
    refine x_iload_n dX9_goDays_31 rfl ?_
    refine x_bipush (v := 65) dX9_goDays_32 (by decide) ?_
    refine x_bipush (v := 70) dX9_goDays_34 (by decide) ?_
    refine x_pc (pc2 := 36) rfl ?_
    refine x_callSi dX9_goDays_36 ml_X9_63 mt_X9_in st_X9_in (ct_X9_in) rfl rfl (Nat.le_of_ble_eq_true rfl) ⟨(Nat.le_of_ble_eq_true rfl), (Nat.le_of_ble_eq_true rfl)⟩ ⟨rfl, rfl⟩ ⟨(Nat.le_of_ble_eq_true rfl), (Nat.le_of_ble_eq_true rfl)⟩ ?_
    refine x_if_eq (tgt := 106) dX9_goDays_39 (by decide) (fun h39 => ?_) (fun h39 => ?_)
    · skip
      replace h39 := zb0 h39
      have hl : lt_ (f p) = false := h39
      refine x_aload_n dX9_goDays_106 rfl ?_
      refine x_iload_n dX9_goDays_107 rfl ?_
      refine x_bipush (v := 126) dX9_goDays_108 (by decide) ?_
      refine x_icmp_ne (tgt := 120) dX9_goDays_110 (by decide) (fun h110 => ?_) (fun h110 => ?_)
      · skip
        refine x_aload_n dX9_goDays_120 rfl ?_
        refine x_callVi dX9_goDays_121 ml_X9_122 mt_X9_endHour mv_X9_endHour (ct_X9_endHour hN) (by omega) rfl rfl rfl rfl (Nat.le_of_ble_eq_true rfl) ⟨(Nat.le_of_ble_eq_true rfl), (Nat.le_of_ble_eq_true rfl)⟩ ⟨rfl, rfl⟩ ⟨(Nat.le_of_ble_eq_true rfl), (Nat.le_of_ble_eq_true rfl)⟩ ?_
        have kaE : khI J = (kaI J (rdK f n p) (zx (rdA f n p)) (zx (rdB f n p))) := by rw [show rdK f n p = 4 by unfold rdK; rw [hsg, if_neg (by rw [hl]; decide), if_neg h110]]; simp [kaI]
        have kaF : khR J = (kaR J (rdK f n p) (zx (rdA f n p)) (zx (rdB f n p))) := by rw [show rdK f n p = 4 by unfold rdK; rw [hsg, if_neg (by rw [hl]; decide), if_neg h110]]; simp [kaR]
        have kaN : (kaI J (rdK f n p) (zx (rdA f n p)) (zx (rdB f n p))) 40 11 = J 40 11 := by rw [← kaE]; simp only [khI]; split <;> simp [zrn, zrow_ne]
        rw [kaE, kaF]
        refine x_putI dX9_goDays_124 fp_X9_116 (by omega) rfl ?_
        refine x_iincN (lo2 := [_, _, _, _, _]) dX9_goDays_127 rfl rfl rfl ?_
        refine x_aload_n dX9_goDays_130 rfl ?_
        refine x_pc (pc2 := 131) rfl ?_
        refine x_getI dX9_goDays_131 fl_X9_116 (by omega) rfl rfl ?_
        refine x_if_le (tgt := 142) dX9_goDays_134 (by decide) (fun h134 => ?_) (fun h134 => ?_)
        · skip
          rw [zu_self] at h134
          refine x_aload_n dX9_goDays_142 rfl ?_
          refine x_getI dX9_goDays_143 fl_X9_83 (by omega) rfl rfl ?_
          refine x_iload_n dX9_goDays_146 rfl ?_
          refine x_icmp_le (tgt := 173) dX9_goDays_147 (by decide) (fun h147 => ?_) (fun h147 => ?_)
          · skip
            refine x_aload_n dX9_goDays_173 rfl ?_
            refine x_dup dX9_goDays_174 rfl ?_
            refine x_getI dX9_goDays_175 fl_X9_109 (by omega) rfl rfl ?_
            refine x_iconst (v := 1) dX9_goDays_178 (by decide) ?_
            refine x_iadd dX9_goDays_179 ?_
            refine x_pc (pc2 := 180) rfl ?_
            refine x_putI dX9_goDays_180 fp_X9_109 (by omega) rfl ?_
            refine x_goto (tgt := 11) dX9_goDays_183 (by decide) ?_
            refine x_drop (i := 2) (lo2 := [_, _, _, _, _]) rfl ?_
            refine x_drop (i := 3) (lo2 := [_, _, _, _, _]) rfl ?_
            have er : rdL f n p = 1 := by simp [rdL, hsg, hl]
            refine x_eq (by rfl) (by rfl) (by rfl) (K (e, p + 1, zu (zu (kaI J (rdK f n p) (zx (rdA f n p)) (zx (rdB f n p))) 40 14 (kaR J (rdK f n p) (zx (rdA f n p)) (zx (rdB f n p)))) 40 15 ((zu (kaI J (rdK f n p) (zx (rdA f n p)) (zx (rdB f n p))) 40 14 (kaR J (rdK f n p) (zx (rdA f n p)) (zx (rdB f n p)))) 40 15 + 1)) ⟨by rw [← er]; exact ok.2.2.2.2.1, by dsimp only; omega, by rw [← er]; exact ok.2.2.2.1, ?_, ?_, ?_⟩ (by dsimp only; omega))
            · dsimp only
              simp only [zur (show (9 : Nat) ≠ 15 by decide), zur (show (9 : Nat) ≠ 14 by decide), zur (show (9 : Nat) ≠ 12 by decide), zur (show (9 : Nat) ≠ 13 by decide), kaI_40 (show (9 : Nat) ≠ 11 by decide), t4]
            · dsimp only
              simp only [zrn _ _ (show (49 : Nat) ≠ 40 by decide), kaI_far (show (49 : Nat) ≠ 40 by decide) (show (49 : Nat) ≠ 42 by decide), t5]
            · dsimp only
              rw [← t6]
              simp only [kgo]
              rw [if_neg (show ¬ n ≤ p by omega), if_pos h134]
              rw [if_pos h147]
              rw [er]
          · skip
            exact absurd (by rw [zur (by decide), kaN]; exact Int32.le_refl _) h147
        · skip
          rw [zu_self] at h134
          refine x_aload_n dX9_goDays_137 rfl ?_
          refine x_getI dX9_goDays_138 fl_X9_109 (by omega) rfl rfl ?_
          exact x_iret dX9_goDays_141 rfl (Nat.le_of_ble_eq_true rfl) (Nat.le_of_ble_eq_true rfl) ⟨congrArg (fun z => some (Value.int z)) (by rw [← t6]; simp only [kgo]; rw [if_neg (show ¬ n ≤ p by omega), if_neg h134]), rfl, by first | (rw [← t6, kgo_end hpn]; done) | (rw [← t6]; simp only [kgo]; rw [if_neg (show ¬ n ≤ p by omega), if_neg h134]), by rfl, rfl⟩
      · skip
        refine x_aload_n dX9_goDays_113 rfl ?_
        refine x_callVi dX9_goDays_114 ml_X9_119 mt_X9_rest mv_X9_rest (ct_X9_rest hN) (by omega) rfl rfl rfl rfl (Nat.le_of_ble_eq_true rfl) ⟨(Nat.le_of_ble_eq_true rfl), (Nat.le_of_ble_eq_true rfl)⟩ ⟨rfl, rfl⟩ ⟨(Nat.le_of_ble_eq_true rfl), (Nat.le_of_ble_eq_true rfl)⟩ ?_
        refine x_goto (tgt := 124) dX9_goDays_117 (by decide) ?_
        have kaE : krI J = (kaI J (rdK f n p) (zx (rdA f n p)) (zx (rdB f n p))) := by rw [show rdK f n p = 3 by unfold rdK; rw [hsg, if_neg (by rw [hl]; decide), if_pos h110]]; simp [kaI]
        have kaF : krR J = (kaR J (rdK f n p) (zx (rdA f n p)) (zx (rdB f n p))) := by rw [show rdK f n p = 3 by unfold rdK; rw [hsg, if_neg (by rw [hl]; decide), if_pos h110]]; simp [kaR]
        have kaN : (kaI J (rdK f n p) (zx (rdA f n p)) (zx (rdB f n p))) 40 11 = J 40 11 := by rw [← kaE]; simp only [krI]; split <;> simp [zrn]
        rw [kaE, kaF]
        refine x_putI dX9_goDays_124 fp_X9_116 (by omega) rfl ?_
        refine x_iincN (lo2 := [_, _, _, _, _]) dX9_goDays_127 rfl rfl rfl ?_
        refine x_aload_n dX9_goDays_130 rfl ?_
        refine x_getI dX9_goDays_131 fl_X9_116 (by omega) rfl rfl ?_
        refine x_if_le (tgt := 142) dX9_goDays_134 (by decide) (fun h134 => ?_) (fun h134 => ?_)
        · skip
          rw [zu_self] at h134
          refine x_aload_n dX9_goDays_142 rfl ?_
          refine x_getI dX9_goDays_143 fl_X9_83 (by omega) rfl rfl ?_
          refine x_iload_n dX9_goDays_146 rfl ?_
          refine x_icmp_le (tgt := 173) dX9_goDays_147 (by decide) (fun h147 => ?_) (fun h147 => ?_)
          · skip
            refine x_aload_n dX9_goDays_173 rfl ?_
            refine x_dup dX9_goDays_174 rfl ?_
            refine x_getI dX9_goDays_175 fl_X9_109 (by omega) rfl rfl ?_
            refine x_iconst (v := 1) dX9_goDays_178 (by decide) ?_
            refine x_iadd dX9_goDays_179 ?_
            refine x_pc (pc2 := 180) rfl ?_
            refine x_putI dX9_goDays_180 fp_X9_109 (by omega) rfl ?_
            refine x_goto (tgt := 11) dX9_goDays_183 (by decide) ?_
            refine x_drop (i := 2) (lo2 := [_, _, _, _, _]) rfl ?_
            refine x_drop (i := 3) (lo2 := [_, _, _, _, _]) rfl ?_
            have er : rdL f n p = 1 := by simp [rdL, hsg, hl]
            refine x_eq (by rfl) (by rfl) (by rfl) (K (e, p + 1, zu (zu (kaI J (rdK f n p) (zx (rdA f n p)) (zx (rdB f n p))) 40 14 (kaR J (rdK f n p) (zx (rdA f n p)) (zx (rdB f n p)))) 40 15 ((zu (kaI J (rdK f n p) (zx (rdA f n p)) (zx (rdB f n p))) 40 14 (kaR J (rdK f n p) (zx (rdA f n p)) (zx (rdB f n p)))) 40 15 + 1)) ⟨by rw [← er]; exact ok.2.2.2.2.1, by dsimp only; omega, by rw [← er]; exact ok.2.2.2.1, ?_, ?_, ?_⟩ (by dsimp only; omega))
            · dsimp only
              simp only [zur (show (9 : Nat) ≠ 15 by decide), zur (show (9 : Nat) ≠ 14 by decide), zur (show (9 : Nat) ≠ 12 by decide), zur (show (9 : Nat) ≠ 13 by decide), kaI_40 (show (9 : Nat) ≠ 11 by decide), t4]
            · dsimp only
              simp only [zrn _ _ (show (49 : Nat) ≠ 40 by decide), kaI_far (show (49 : Nat) ≠ 40 by decide) (show (49 : Nat) ≠ 42 by decide), t5]
            · dsimp only
              rw [← t6]
              simp only [kgo]
              rw [if_neg (show ¬ n ≤ p by omega), if_pos h134]
              rw [if_pos h147]
              rw [er]
          · skip
            exact absurd (by rw [zur (by decide), kaN]; exact Int32.le_refl _) h147
        · skip
          rw [zu_self] at h134
          refine x_aload_n dX9_goDays_137 rfl ?_
          refine x_getI dX9_goDays_138 fl_X9_109 (by omega) rfl rfl ?_
          exact x_iret dX9_goDays_141 rfl (Nat.le_of_ble_eq_true rfl) (Nat.le_of_ble_eq_true rfl) ⟨congrArg (fun z => some (Value.int z)) (by rw [← t6]; simp only [kgo]; rw [if_neg (show ¬ n ≤ p by omega), if_neg h134]), rfl, by first | (rw [← t6, kgo_end hpn]; done) | (rw [← t6]; simp only [kgo]; rw [if_neg (show ¬ n ≤ p by omega), if_neg h134]), by rfl, rfl⟩
    · skip
      replace h39 := zb1 h39
      have hl : lt_ (f p) = true := h39
      have hL2 : 2 ≤ rdL f n p := by simp only [rdL, hsg, hl, if_true]; split <;> omega
      have hp1 : p + 1 < n := by have := ok.2.2.2.2.1; omega
      have hsg1 := sg_in (f := f) hp1
      have hA : f p - 65 = rdA f n p := by simp [rdA, hsg, hl]
      refine x_aload_n dX9_goDays_42 rfl ?_
      refine x_getR dX9_goDays_43 fl_X9_34 (by omega) rfl rfl rfl ?_
      refine x_iload_n dX9_goDays_46 rfl ?_
      refine x_iconst (v := 1) dX9_goDays_47 (by decide) ?_
      refine x_iadd dX9_goDays_48 ?_
      refine x_pc (pc2 := 49) rfl ?_
      refine x_ialdN dX9_goDays_49 (by omega) rfl (show nI p + 1 = nI (p + 1) from nI_1 p) (by omega) ?_
      rw [t5]
      refine x_istore (lo2 := [_, _, _, _, _]) dX9_goDays_50 (by decide) rfl rfl ?_
      refine x_aload_n dX9_goDays_52 rfl ?_
      refine x_aload_n dX9_goDays_53 rfl ?_
      refine x_iload_n dX9_goDays_54 rfl ?_
      refine x_bipush (v := 65) dX9_goDays_55 (by decide) ?_
      refine x_pc (pc2 := 57) rfl ?_
      refine x_isub dX9_goDays_57 ?_
      refine x_iload dX9_goDays_58 rfl ?_
      refine x_iload dX9_goDays_60 rfl ?_
      refine x_bipush (v := 43) dX9_goDays_62 (by decide) ?_
      refine x_icmp_ne (tgt := 81) dX9_goDays_64 (by decide) (fun h64 => ?_) (fun h64 => ?_)
      · skip
        have hL3 : rdL f n p = 2 := by simp [rdL, hsg, hl, hsg1, h64]
        have eK : (if f (p + 1) = 43 then 1 else if f (p + 1) = 95 then 2 else 0) = rdK f n p := by simp [rdK, hsg, hl, hsg1]
        refine x_iconst (v := 0) dX9_goDays_81 (by decide) ?_
        rw [hA]
        refine x_callVi dX9_goDays_82 ml_X9_112 mt_X9_griefAct mv_X9_griefAct (ct_X9_griefAct (a := zx (rdA f n p)) (b := zx (rdB f n p)) hN ok.2.1.2 ok.2.1.1 (fun q => absurd q h64) (fun q1 q2 => ⟨by rw [show f (p + 1) - 48 = rdB f n p by simp [rdB, hsg, hl, hsg1, h64]]; exact (ok.2.2.1 (by rw [← eK, if_neg h64, if_neg q2]; decide)).1, (ok.2.2.1 (by rw [← eK, if_neg h64, if_neg q2]; decide)).2⟩)) (by omega) rfl rfl rfl rfl (Nat.le_of_ble_eq_true rfl) ⟨(Nat.le_of_ble_eq_true rfl), (Nat.le_of_ble_eq_true rfl)⟩ ⟨rfl, rfl⟩ ⟨(Nat.le_of_ble_eq_true rfl), (Nat.le_of_ble_eq_true rfl)⟩ ?_
        rw [eK]
        refine x_putI dX9_goDays_85 fp_X9_116 (by omega) rfl ?_
        refine x_iload_n dX9_goDays_88 rfl ?_
        refine x_iload dX9_goDays_89 rfl ?_
        refine x_pc (pc2 := 91) rfl ?_
        refine x_bipush (v := 43) dX9_goDays_91 (by decide) ?_
        refine x_icmp_ne (tgt := 100) dX9_goDays_93 (by decide) (fun h93 => ?_) (fun h93 => ?_)
        · skip
          refine x_iconst (v := 2) dX9_goDays_100 (by decide) ?_
          refine x_iadd dX9_goDays_101 ?_
          refine x_istore_n (lo2 := [_, _, _, _, _]) dX9_goDays_102 (by decide) rfl rfl ?_
          refine x_goto (tgt := 130) dX9_goDays_103 (by decide) ?_
          refine x_aload_n dX9_goDays_130 rfl ?_
          refine x_getI dX9_goDays_131 fl_X9_116 (by omega) rfl rfl ?_
          refine x_if_le (tgt := 142) dX9_goDays_134 (by decide) (fun h134 => ?_) (fun h134 => ?_)
          · skip
            rw [zu_self] at h134
            refine x_aload_n dX9_goDays_142 rfl ?_
            refine x_getI dX9_goDays_143 fl_X9_83 (by omega) rfl rfl ?_
            refine x_iload_n dX9_goDays_146 rfl ?_
            refine x_icmp_le (tgt := 173) dX9_goDays_147 (by decide) (fun h147 => ?_) (fun h147 => ?_)
            · skip
              refine x_aload_n dX9_goDays_173 rfl ?_
              refine x_dup dX9_goDays_174 rfl ?_
              refine x_getI dX9_goDays_175 fl_X9_109 (by omega) rfl rfl ?_
              refine x_iconst (v := 1) dX9_goDays_178 (by decide) ?_
              refine x_iadd dX9_goDays_179 ?_
              refine x_pc (pc2 := 180) rfl ?_
              refine x_putI dX9_goDays_180 fp_X9_109 (by omega) rfl ?_
              refine x_goto (tgt := 11) dX9_goDays_183 (by decide) ?_
              refine x_drop (i := 2) (lo2 := [_, _, _, _, _]) rfl ?_
              refine x_drop (i := 3) (lo2 := [_, _, _, _, _]) rfl ?_
              refine x_drop (i := 4) (lo2 := [_, _, _, _, _]) rfl ?_
              have er : rdL f n p = 2 := hL3
              refine x_eq (by rw [show nI p + 2 = nI (p + 2) from nI_add p 2]) (by rfl) (by rfl) (K (e, p + 2, zu (zu (kaI J (rdK f n p) (zx (rdA f n p)) (zx (rdB f n p))) 40 14 (kaR J (rdK f n p) (zx (rdA f n p)) (zx (rdB f n p)))) 40 15 ((zu (kaI J (rdK f n p) (zx (rdA f n p)) (zx (rdB f n p))) 40 14 (kaR J (rdK f n p) (zx (rdA f n p)) (zx (rdB f n p)))) 40 15 + 1)) ⟨by rw [← er]; exact ok.2.2.2.2.1, by dsimp only; omega, by rw [← er]; exact ok.2.2.2.1, ?_, ?_, ?_⟩ (by dsimp only; omega))
              · dsimp only
                simp only [zur (show (9 : Nat) ≠ 15 by decide), zur (show (9 : Nat) ≠ 14 by decide), zur (show (9 : Nat) ≠ 12 by decide), zur (show (9 : Nat) ≠ 13 by decide), kaI_40 (show (9 : Nat) ≠ 11 by decide), t4]
              · dsimp only
                simp only [zrn _ _ (show (49 : Nat) ≠ 40 by decide), kaI_far (show (49 : Nat) ≠ 40 by decide) (show (49 : Nat) ≠ 42 by decide), t5]
              · dsimp only
                rw [← t6]
                simp only [kgo]
                rw [if_neg (show ¬ n ≤ p by omega), if_pos h134]
                rw [if_pos h147]
                rw [er]
            · skip
              refine x_aload_n dX9_goDays_150 rfl ?_
              refine x_getI dX9_goDays_151 fl_X9_86 (by omega) rfl rfl ?_
              refine x_if_ge (tgt := 173) dX9_goDays_154 (by decide) (fun h154 => ?_) (fun h154 => ?_)
              · skip
                refine x_aload_n dX9_goDays_173 rfl ?_
                refine x_dup dX9_goDays_174 rfl ?_
                refine x_getI dX9_goDays_175 fl_X9_109 (by omega) rfl rfl ?_
                refine x_iconst (v := 1) dX9_goDays_178 (by decide) ?_
                refine x_iadd dX9_goDays_179 ?_
                refine x_pc (pc2 := 180) rfl ?_
                refine x_putI dX9_goDays_180 fp_X9_109 (by omega) rfl ?_
                refine x_goto (tgt := 11) dX9_goDays_183 (by decide) ?_
                refine x_drop (i := 2) (lo2 := [_, _, _, _, _]) rfl ?_
                refine x_drop (i := 3) (lo2 := [_, _, _, _, _]) rfl ?_
                refine x_drop (i := 4) (lo2 := [_, _, _, _, _]) rfl ?_
                have er : rdL f n p = 2 := hL3
                refine x_eq (by rw [show nI p + 2 = nI (p + 2) from nI_add p 2]) (by rfl) (by rfl) (K (e, p + 2, zu (zu (kaI J (rdK f n p) (zx (rdA f n p)) (zx (rdB f n p))) 40 14 (kaR J (rdK f n p) (zx (rdA f n p)) (zx (rdB f n p)))) 40 15 ((zu (kaI J (rdK f n p) (zx (rdA f n p)) (zx (rdB f n p))) 40 14 (kaR J (rdK f n p) (zx (rdA f n p)) (zx (rdB f n p)))) 40 15 + 1)) ⟨by rw [← er]; exact ok.2.2.2.2.1, by dsimp only; omega, by rw [← er]; exact ok.2.2.2.1, ?_, ?_, ?_⟩ (by dsimp only; omega))
                · dsimp only
                  simp only [zur (show (9 : Nat) ≠ 15 by decide), zur (show (9 : Nat) ≠ 14 by decide), zur (show (9 : Nat) ≠ 12 by decide), zur (show (9 : Nat) ≠ 13 by decide), kaI_40 (show (9 : Nat) ≠ 11 by decide), t4]
                · dsimp only
                  simp only [zrn _ _ (show (49 : Nat) ≠ 40 by decide), kaI_far (show (49 : Nat) ≠ 40 by decide) (show (49 : Nat) ≠ 42 by decide), t5]
                · dsimp only
                  rw [← t6]
                  simp only [kgo]
                  rw [if_neg (show ¬ n ≤ p by omega), if_pos h134]
                  rw [if_neg h147, if_pos h154]
                  rw [er]
              · skip
                refine x_aload_n dX9_goDays_157 rfl ?_
                refine x_aload_n dX9_goDays_158 rfl ?_
                refine x_getI dX9_goDays_159 fl_X9_109 (by omega) rfl rfl ?_
                refine x_putI dX9_goDays_162 fp_X9_86 (by omega) rfl ?_
                refine x_aload_n dX9_goDays_165 rfl ?_
                refine x_pc (pc2 := 166) rfl ?_
                refine x_iload_n dX9_goDays_166 rfl ?_
                refine x_bipush (v := 65) dX9_goDays_167 (by decide) ?_
                refine x_isub dX9_goDays_169 ?_
                rw [hA]
                refine x_putI dX9_goDays_170 fp_X9_89 (by omega) rfl ?_
                refine x_aload_n dX9_goDays_173 rfl ?_
                refine x_dup dX9_goDays_174 rfl ?_
                refine x_pc (pc2 := 175) rfl ?_
                refine x_getI dX9_goDays_175 fl_X9_109 (by omega) rfl rfl ?_
                refine x_iconst (v := 1) dX9_goDays_178 (by decide) ?_
                refine x_iadd dX9_goDays_179 ?_
                refine x_putI dX9_goDays_180 fp_X9_109 (by omega) rfl ?_
                refine x_goto (tgt := 11) dX9_goDays_183 (by decide) ?_
                refine x_drop (i := 2) (lo2 := [_, _, _, _, _]) rfl ?_
                refine x_drop (i := 3) (lo2 := [_, _, _, _, _]) rfl ?_
                refine x_drop (i := 4) (lo2 := [_, _, _, _, _]) rfl ?_
                have er : rdL f n p = 2 := hL3
                refine x_eq (by rw [show nI p + 2 = nI (p + 2) from nI_add p 2]) (by rfl) (by rfl) (K (e, p + 2, zu (zu (zu (zu (kaI J (rdK f n p) (zx (rdA f n p)) (zx (rdB f n p))) 40 14 (kaR J (rdK f n p) (zx (rdA f n p)) (zx (rdB f n p)))) 40 12 ((zu (kaI J (rdK f n p) (zx (rdA f n p)) (zx (rdB f n p))) 40 14 (kaR J (rdK f n p) (zx (rdA f n p)) (zx (rdB f n p)))) 40 15)) 40 13 (rdA f n p)) 40 15 ((zu (zu (zu (kaI J (rdK f n p) (zx (rdA f n p)) (zx (rdB f n p))) 40 14 (kaR J (rdK f n p) (zx (rdA f n p)) (zx (rdB f n p)))) 40 12 ((zu (kaI J (rdK f n p) (zx (rdA f n p)) (zx (rdB f n p))) 40 14 (kaR J (rdK f n p) (zx (rdA f n p)) (zx (rdB f n p)))) 40 15)) 40 13 (rdA f n p)) 40 15 + 1)) ⟨by rw [← er]; exact ok.2.2.2.2.1, by dsimp only; omega, by rw [← er]; exact ok.2.2.2.1, ?_, ?_, ?_⟩ (by dsimp only; omega))
                · dsimp only
                  simp only [zur (show (9 : Nat) ≠ 15 by decide), zur (show (9 : Nat) ≠ 14 by decide), zur (show (9 : Nat) ≠ 12 by decide), zur (show (9 : Nat) ≠ 13 by decide), kaI_40 (show (9 : Nat) ≠ 11 by decide), t4]
                · dsimp only
                  simp only [zrn _ _ (show (49 : Nat) ≠ 40 by decide), kaI_far (show (49 : Nat) ≠ 40 by decide) (show (49 : Nat) ≠ 42 by decide), t5]
                · dsimp only
                  rw [← t6]
                  simp only [kgo]
                  rw [if_neg (show ¬ n ≤ p by omega), if_pos h134]
                  rw [if_neg h147, if_neg h154]
                  rw [er]
          · skip
            rw [zu_self] at h134
            refine x_aload_n dX9_goDays_137 rfl ?_
            refine x_getI dX9_goDays_138 fl_X9_109 (by omega) rfl rfl ?_
            exact x_iret dX9_goDays_141 rfl (Nat.le_of_ble_eq_true rfl) (Nat.le_of_ble_eq_true rfl) ⟨congrArg (fun z => some (Value.int z)) (by rw [← t6]; simp only [kgo]; rw [if_neg (show ¬ n ≤ p by omega), if_neg h134]), rfl, by first | (rw [← t6, kgo_end hpn]; done) | (rw [← t6]; simp only [kgo]; rw [if_neg (show ¬ n ≤ p by omega), if_neg h134]), by rfl, rfl⟩
        · skip
          exact absurd h93 h64
      · skip
        have hL3 : rdL f n p = 3 := by simp [rdL, hsg, hl, hsg1, h64]
        have hp2 : p + 2 < n := by have := ok.2.2.2.2.1; omega
        have hsg2 := sg_in (f := f) hp2
        have eK : (if f (p + 1) = 43 then 1 else if f (p + 1) = 95 then 2 else 0) = rdK f n p := by simp [rdK, hsg, hl, hsg1]
        refine x_aload_n dX9_goDays_67 rfl ?_
        refine x_getR dX9_goDays_68 fl_X9_34 (by omega) rfl rfl rfl ?_
        refine x_iload_n dX9_goDays_71 rfl ?_
        refine x_iconst (v := 2) dX9_goDays_72 (by decide) ?_
        refine x_iadd dX9_goDays_73 ?_
        refine x_pc (pc2 := 74) rfl ?_
        refine x_ialdN dX9_goDays_74 (by omega) rfl (show nI p + 2 = nI (p + 2) from nI_add p 2) (by omega) ?_
        rw [t5]
        refine x_bipush (v := 65) dX9_goDays_75 (by decide) ?_
        refine x_isub dX9_goDays_77 ?_
        refine x_goto (tgt := 82) dX9_goDays_78 (by decide) ?_
        rw [hA]
        refine x_callVi dX9_goDays_82 ml_X9_112 mt_X9_griefAct mv_X9_griefAct (ct_X9_griefAct (a := zx (rdA f n p)) (b := zx (rdB f n p)) hN ok.2.1.2 ok.2.1.1 (fun _ => ⟨by rw [show f (p + 2) - 65 = rdB f n p by simp [rdB, hsg, hl, hsg1, h64, hsg2]]; exact (ok.2.2.1 (by rw [← eK, if_pos h64]; decide)).1, (ok.2.2.1 (by rw [← eK, if_pos h64]; decide)).2⟩) (fun q => absurd h64 q)) (by omega) rfl rfl rfl rfl (Nat.le_of_ble_eq_true rfl) ⟨(Nat.le_of_ble_eq_true rfl), (Nat.le_of_ble_eq_true rfl)⟩ ⟨rfl, rfl⟩ ⟨(Nat.le_of_ble_eq_true rfl), (Nat.le_of_ble_eq_true rfl)⟩ ?_
        rw [eK]
        refine x_putI dX9_goDays_85 fp_X9_116 (by omega) rfl ?_
        refine x_iload_n dX9_goDays_88 rfl ?_
        refine x_iload dX9_goDays_89 rfl ?_
        refine x_bipush (v := 43) dX9_goDays_91 (by decide) ?_
        refine x_pc (pc2 := 93) rfl ?_
        refine x_icmp_ne (tgt := 100) dX9_goDays_93 (by decide) (fun h93 => ?_) (fun h93 => ?_)
        · skip
          exact absurd h64 h93
        · skip
          refine x_iconst (v := 3) dX9_goDays_96 (by decide) ?_
          refine x_goto (tgt := 101) dX9_goDays_97 (by decide) ?_
          refine x_iadd dX9_goDays_101 ?_
          refine x_istore_n (lo2 := [_, _, _, _, _]) dX9_goDays_102 (by decide) rfl rfl ?_
          refine x_goto (tgt := 130) dX9_goDays_103 (by decide) ?_
          refine x_aload_n dX9_goDays_130 rfl ?_
          refine x_getI dX9_goDays_131 fl_X9_116 (by omega) rfl rfl ?_
          refine x_if_le (tgt := 142) dX9_goDays_134 (by decide) (fun h134 => ?_) (fun h134 => ?_)
          · skip
            rw [zu_self] at h134
            refine x_aload_n dX9_goDays_142 rfl ?_
            refine x_getI dX9_goDays_143 fl_X9_83 (by omega) rfl rfl ?_
            refine x_iload_n dX9_goDays_146 rfl ?_
            refine x_icmp_le (tgt := 173) dX9_goDays_147 (by decide) (fun h147 => ?_) (fun h147 => ?_)
            · skip
              refine x_aload_n dX9_goDays_173 rfl ?_
              refine x_dup dX9_goDays_174 rfl ?_
              refine x_getI dX9_goDays_175 fl_X9_109 (by omega) rfl rfl ?_
              refine x_iconst (v := 1) dX9_goDays_178 (by decide) ?_
              refine x_iadd dX9_goDays_179 ?_
              refine x_pc (pc2 := 180) rfl ?_
              refine x_putI dX9_goDays_180 fp_X9_109 (by omega) rfl ?_
              refine x_goto (tgt := 11) dX9_goDays_183 (by decide) ?_
              refine x_drop (i := 2) (lo2 := [_, _, _, _, _]) rfl ?_
              refine x_drop (i := 3) (lo2 := [_, _, _, _, _]) rfl ?_
              refine x_drop (i := 4) (lo2 := [_, _, _, _, _]) rfl ?_
              have er : rdL f n p = 3 := hL3
              refine x_eq (by rw [show nI p + 3 = nI (p + 3) from nI_add p 3]) (by rfl) (by rfl) (K (e, p + 3, zu (zu (kaI J (rdK f n p) (zx (rdA f n p)) (zx (rdB f n p))) 40 14 (kaR J (rdK f n p) (zx (rdA f n p)) (zx (rdB f n p)))) 40 15 ((zu (kaI J (rdK f n p) (zx (rdA f n p)) (zx (rdB f n p))) 40 14 (kaR J (rdK f n p) (zx (rdA f n p)) (zx (rdB f n p)))) 40 15 + 1)) ⟨by rw [← er]; exact ok.2.2.2.2.1, by dsimp only; omega, by rw [← er]; exact ok.2.2.2.1, ?_, ?_, ?_⟩ (by dsimp only; omega))
              · dsimp only
                simp only [zur (show (9 : Nat) ≠ 15 by decide), zur (show (9 : Nat) ≠ 14 by decide), zur (show (9 : Nat) ≠ 12 by decide), zur (show (9 : Nat) ≠ 13 by decide), kaI_40 (show (9 : Nat) ≠ 11 by decide), t4]
              · dsimp only
                simp only [zrn _ _ (show (49 : Nat) ≠ 40 by decide), kaI_far (show (49 : Nat) ≠ 40 by decide) (show (49 : Nat) ≠ 42 by decide), t5]
              · dsimp only
                rw [← t6]
                simp only [kgo]
                rw [if_neg (show ¬ n ≤ p by omega), if_pos h134]
                rw [if_pos h147]
                rw [er]
            · skip
              refine x_aload_n dX9_goDays_150 rfl ?_
              refine x_getI dX9_goDays_151 fl_X9_86 (by omega) rfl rfl ?_
              refine x_if_ge (tgt := 173) dX9_goDays_154 (by decide) (fun h154 => ?_) (fun h154 => ?_)
              · skip
                refine x_aload_n dX9_goDays_173 rfl ?_
                refine x_dup dX9_goDays_174 rfl ?_
                refine x_getI dX9_goDays_175 fl_X9_109 (by omega) rfl rfl ?_
                refine x_iconst (v := 1) dX9_goDays_178 (by decide) ?_
                refine x_iadd dX9_goDays_179 ?_
                refine x_pc (pc2 := 180) rfl ?_
                refine x_putI dX9_goDays_180 fp_X9_109 (by omega) rfl ?_
                refine x_goto (tgt := 11) dX9_goDays_183 (by decide) ?_
                refine x_drop (i := 2) (lo2 := [_, _, _, _, _]) rfl ?_
                refine x_drop (i := 3) (lo2 := [_, _, _, _, _]) rfl ?_
                refine x_drop (i := 4) (lo2 := [_, _, _, _, _]) rfl ?_
                have er : rdL f n p = 3 := hL3
                refine x_eq (by rw [show nI p + 3 = nI (p + 3) from nI_add p 3]) (by rfl) (by rfl) (K (e, p + 3, zu (zu (kaI J (rdK f n p) (zx (rdA f n p)) (zx (rdB f n p))) 40 14 (kaR J (rdK f n p) (zx (rdA f n p)) (zx (rdB f n p)))) 40 15 ((zu (kaI J (rdK f n p) (zx (rdA f n p)) (zx (rdB f n p))) 40 14 (kaR J (rdK f n p) (zx (rdA f n p)) (zx (rdB f n p)))) 40 15 + 1)) ⟨by rw [← er]; exact ok.2.2.2.2.1, by dsimp only; omega, by rw [← er]; exact ok.2.2.2.1, ?_, ?_, ?_⟩ (by dsimp only; omega))
                · dsimp only
                  simp only [zur (show (9 : Nat) ≠ 15 by decide), zur (show (9 : Nat) ≠ 14 by decide), zur (show (9 : Nat) ≠ 12 by decide), zur (show (9 : Nat) ≠ 13 by decide), kaI_40 (show (9 : Nat) ≠ 11 by decide), t4]
                · dsimp only
                  simp only [zrn _ _ (show (49 : Nat) ≠ 40 by decide), kaI_far (show (49 : Nat) ≠ 40 by decide) (show (49 : Nat) ≠ 42 by decide), t5]
                · dsimp only
                  rw [← t6]
                  simp only [kgo]
                  rw [if_neg (show ¬ n ≤ p by omega), if_pos h134]
                  rw [if_neg h147, if_pos h154]
                  rw [er]
              · skip
                refine x_aload_n dX9_goDays_157 rfl ?_
                refine x_aload_n dX9_goDays_158 rfl ?_
                refine x_getI dX9_goDays_159 fl_X9_109 (by omega) rfl rfl ?_
                refine x_putI dX9_goDays_162 fp_X9_86 (by omega) rfl ?_
                refine x_aload_n dX9_goDays_165 rfl ?_
                refine x_pc (pc2 := 166) rfl ?_
                refine x_iload_n dX9_goDays_166 rfl ?_
                refine x_bipush (v := 65) dX9_goDays_167 (by decide) ?_
                refine x_isub dX9_goDays_169 ?_
                rw [hA]
                refine x_putI dX9_goDays_170 fp_X9_89 (by omega) rfl ?_
                refine x_aload_n dX9_goDays_173 rfl ?_
                refine x_dup dX9_goDays_174 rfl ?_
                refine x_pc (pc2 := 175) rfl ?_
                refine x_getI dX9_goDays_175 fl_X9_109 (by omega) rfl rfl ?_
                refine x_iconst (v := 1) dX9_goDays_178 (by decide) ?_
                refine x_iadd dX9_goDays_179 ?_
                refine x_putI dX9_goDays_180 fp_X9_109 (by omega) rfl ?_
                refine x_goto (tgt := 11) dX9_goDays_183 (by decide) ?_
                refine x_drop (i := 2) (lo2 := [_, _, _, _, _]) rfl ?_
                refine x_drop (i := 3) (lo2 := [_, _, _, _, _]) rfl ?_
                refine x_drop (i := 4) (lo2 := [_, _, _, _, _]) rfl ?_
                have er : rdL f n p = 3 := hL3
                refine x_eq (by rw [show nI p + 3 = nI (p + 3) from nI_add p 3]) (by rfl) (by rfl) (K (e, p + 3, zu (zu (zu (zu (kaI J (rdK f n p) (zx (rdA f n p)) (zx (rdB f n p))) 40 14 (kaR J (rdK f n p) (zx (rdA f n p)) (zx (rdB f n p)))) 40 12 ((zu (kaI J (rdK f n p) (zx (rdA f n p)) (zx (rdB f n p))) 40 14 (kaR J (rdK f n p) (zx (rdA f n p)) (zx (rdB f n p)))) 40 15)) 40 13 (rdA f n p)) 40 15 ((zu (zu (zu (kaI J (rdK f n p) (zx (rdA f n p)) (zx (rdB f n p))) 40 14 (kaR J (rdK f n p) (zx (rdA f n p)) (zx (rdB f n p)))) 40 12 ((zu (kaI J (rdK f n p) (zx (rdA f n p)) (zx (rdB f n p))) 40 14 (kaR J (rdK f n p) (zx (rdA f n p)) (zx (rdB f n p)))) 40 15)) 40 13 (rdA f n p)) 40 15 + 1)) ⟨by rw [← er]; exact ok.2.2.2.2.1, by dsimp only; omega, by rw [← er]; exact ok.2.2.2.1, ?_, ?_, ?_⟩ (by dsimp only; omega))
                · dsimp only
                  simp only [zur (show (9 : Nat) ≠ 15 by decide), zur (show (9 : Nat) ≠ 14 by decide), zur (show (9 : Nat) ≠ 12 by decide), zur (show (9 : Nat) ≠ 13 by decide), kaI_40 (show (9 : Nat) ≠ 11 by decide), t4]
                · dsimp only
                  simp only [zrn _ _ (show (49 : Nat) ≠ 40 by decide), kaI_far (show (49 : Nat) ≠ 40 by decide) (show (49 : Nat) ≠ 42 by decide), t5]
                · dsimp only
                  rw [← t6]
                  simp only [kgo]
                  rw [if_neg (show ¬ n ≤ p by omega), if_pos h134]
                  rw [if_neg h147, if_neg h154]
                  rw [er]
          · skip
            rw [zu_self] at h134
            refine x_aload_n dX9_goDays_137 rfl ?_
            refine x_getI dX9_goDays_138 fl_X9_109 (by omega) rfl rfl ?_
            exact x_iret dX9_goDays_141 rfl (Nat.le_of_ble_eq_true rfl) (Nat.le_of_ble_eq_true rfl) ⟨congrArg (fun z => some (Value.int z)) (by rw [← t6]; simp only [kgo]; rw [if_neg (show ¬ n ≤ p by omega), if_neg h134]), rfl, by first | (rw [← t6, kgo_end hpn]; done) | (rw [← t6]; simp only [kgo]; rw [if_neg (show ¬ n ≤ p by omega), if_neg h134]), by rfl, rfl⟩
theorem ct_X9_judge {g : zG} {N : Nat} {I : zI} {L : zL} {q0 q1 : Option Nat} {w : Int32} {n : Nat} (hN : 58 ≤ N) (hc : I 40 9 = nI n) (hn : n ≤ 60) : Ct g yX9_judge mX9_judge [.ref (g.2.1 + 40), .int w] N I L (zRw q0 q1) (zV (.int (kjuA I n w)) N I (zRw q0 q1)) := by
  refine Ct_of (lo0 := [some (.ref (g.2.1 + 40)), some (.int w), none]) rfl rfl rfl rfl (Nat.le_of_ble_eq_true rfl) (fun E => ?_)
  refine x_iload_n dX9_judge_0 rfl ?_
  refine x_iconst (v := 0) dX9_judge_1 (by decide) ?_
  refine x_iconst (v := 1) dX9_judge_2 (by decide) ?_
  refine x_callSi dX9_judge_3 ml_X9_63 mt_X9_in st_X9_in (ct_X9_in) rfl rfl (Nat.le_of_ble_eq_true rfl) ⟨(Nat.le_of_ble_eq_true rfl), (Nat.le_of_ble_eq_true rfl)⟩ ⟨rfl, rfl⟩ ⟨(Nat.le_of_ble_eq_true rfl), (Nat.le_of_ble_eq_true rfl)⟩ ?_
  refine x_if_ne (tgt := 12) dX9_judge_6 (by decide) (fun h6 => ?_) (fun h6 => ?_)
  · skip
    replace h6 := zb1 h6
    refine x_aload_n dX9_judge_12 rfl ?_
    refine x_callVi dX9_judge_13 ml_X9_79 mt_X9_faultOf mv_X9_faultOf (ct_X9_faultOf hN hc hn rfl) (by omega) rfl rfl rfl rfl (Nat.le_of_ble_eq_true rfl) ⟨(Nat.le_of_ble_eq_true rfl), (Nat.le_of_ble_eq_true rfl)⟩ ⟨rfl, rfl⟩ ⟨(Nat.le_of_ble_eq_true rfl), (Nat.le_of_ble_eq_true rfl)⟩ ?_
    refine x_if_lt (tgt := 22) dX9_judge_16 (by decide) (fun h16 => ?_) (fun h16 => ?_)
    · skip
      have hfk : ff_ (I 49) n = -6 := (ff_lt hn).mp h16
      refine x_aload_n dX9_judge_22 rfl ?_
      refine x_callVi dX9_judge_23 ml_X9_125 mt_X9_goDays mv_X9_goDays (ct_X9_goDays hN hc hn rfl (ff_ok (by omega) hfk).1 (ff_ok (by omega) hfk).2) (by omega) rfl rfl rfl rfl (Nat.le_of_ble_eq_true rfl) ⟨(Nat.le_of_ble_eq_true rfl), (Nat.le_of_ble_eq_true rfl)⟩ ⟨rfl, rfl⟩ ⟨(Nat.le_of_ble_eq_true rfl), (Nat.le_of_ble_eq_true rfl)⟩ ?_
      refine x_istore_n (lo2 := [_, _, _]) dX9_judge_26 (by decide) rfl rfl ?_
      refine x_iload_n dX9_judge_27 rfl ?_
      refine x_if_lt (tgt := 35) dX9_judge_28 (by decide) (fun h28 => ?_) (fun h28 => ?_)
      · skip
        refine x_iload_n dX9_judge_35 rfl ?_
        refine x_goto (tgt := 43) dX9_judge_36 (by decide) ?_
        refine x_iret dX9_judge_43 rfl (Nat.le_of_ble_eq_true rfl) (Nat.le_of_ble_eq_true rfl) ?_
        refine zV_of (congrArg Value.int ?_) ?_ ?_ ?_
        · first | (rw [kjuA, if_pos h6]; done) | (rw [kjuA, if_neg (by rw [h6]; decide), if_neg hfk]; done) | (rw [kjuA, if_neg (by rw [h6]; decide), if_pos hfk, if_pos (show (kdy I n).2 < 0 from h28)]; rfl) | (rw [kjuA, if_neg (by rw [h6]; decide), if_pos hfk, if_neg (show ¬ (kdy I n).2 < 0 from h28), if_pos h32]; rfl) | (rw [kjuA, if_neg (by rw [h6]; decide), if_pos hfk, if_neg (show ¬ (kdy I n).2 < 0 from h28), if_neg h32]; rfl)
        · first | (intro _ _; rfl) | (intro c hq; exact kdy_far hq)
        · first | rfl | (exact kdy_40 (by decide))
        · first | rfl | (exact kdy_40 (by decide))
      · skip
        refine x_iload_n dX9_judge_31 rfl ?_
        refine x_if_ne (tgt := 39) dX9_judge_32 (by decide) (fun h32 => ?_) (fun h32 => ?_)
        · skip
          refine x_aload_n dX9_judge_39 rfl ?_
          refine x_getI dX9_judge_40 fl_X9_116 (by omega) rfl rfl ?_
          refine x_iret dX9_judge_43 rfl (Nat.le_of_ble_eq_true rfl) (Nat.le_of_ble_eq_true rfl) ?_
          refine zV_of (congrArg Value.int ?_) ?_ ?_ ?_
          · first | (rw [kjuA, if_pos h6]; done) | (rw [kjuA, if_neg (by rw [h6]; decide), if_neg hfk]; done) | (rw [kjuA, if_neg (by rw [h6]; decide), if_pos hfk, if_pos (show (kdy I n).2 < 0 from h28)]; rfl) | (rw [kjuA, if_neg (by rw [h6]; decide), if_pos hfk, if_neg (show ¬ (kdy I n).2 < 0 from h28), if_pos h32]; rfl) | (rw [kjuA, if_neg (by rw [h6]; decide), if_pos hfk, if_neg (show ¬ (kdy I n).2 < 0 from h28), if_neg h32]; rfl)
          · first | (intro _ _; rfl) | (intro c hq; exact kdy_far hq)
          · first | rfl | (exact kdy_40 (by decide))
          · first | rfl | (exact kdy_40 (by decide))
        · skip
          refine x_iload_n dX9_judge_35 rfl ?_
          refine x_goto (tgt := 43) dX9_judge_36 (by decide) ?_
          refine x_iret dX9_judge_43 rfl (Nat.le_of_ble_eq_true rfl) (Nat.le_of_ble_eq_true rfl) ?_
          refine zV_of (congrArg Value.int ?_) ?_ ?_ ?_
          · first | (rw [kjuA, if_pos h6]; done) | (rw [kjuA, if_neg (by rw [h6]; decide), if_neg hfk]; done) | (rw [kjuA, if_neg (by rw [h6]; decide), if_pos hfk, if_pos (show (kdy I n).2 < 0 from h28)]; rfl) | (rw [kjuA, if_neg (by rw [h6]; decide), if_pos hfk, if_neg (show ¬ (kdy I n).2 < 0 from h28), if_pos h32]; rfl) | (rw [kjuA, if_neg (by rw [h6]; decide), if_pos hfk, if_neg (show ¬ (kdy I n).2 < 0 from h28), if_neg h32]; rfl)
          · first | (intro _ _; rfl) | (intro c hq; exact kdy_far hq)
          · first | rfl | (exact kdy_40 (by decide))
          · first | rfl | (exact kdy_40 (by decide))
    · skip
      have hfk : ¬ ff_ (I 49) n = -6 := fun q => h16 ((ff_lt hn).mpr q)
      refine x_bipush (v := (-5)) dX9_judge_19 (by decide) ?_
      refine x_iret dX9_judge_21 rfl (Nat.le_of_ble_eq_true rfl) (Nat.le_of_ble_eq_true rfl) ?_
      refine zV_of (congrArg Value.int ?_) ?_ ?_ ?_
      · first | (rw [kjuA, if_pos h6]; done) | (rw [kjuA, if_neg (by rw [h6]; decide), if_neg hfk]; done) | (rw [kjuA, if_neg (by rw [h6]; decide), if_pos hfk, if_pos (show (kdy I n).2 < 0 from h28)]; rfl) | (rw [kjuA, if_neg (by rw [h6]; decide), if_pos hfk, if_neg (show ¬ (kdy I n).2 < 0 from h28), if_pos h32]; rfl) | (rw [kjuA, if_neg (by rw [h6]; decide), if_pos hfk, if_neg (show ¬ (kdy I n).2 < 0 from h28), if_neg h32]; rfl)
      · first | (intro _ _; rfl) | (intro c hq; exact kdy_far hq)
      · first | rfl | (exact kdy_40 (by decide))
      · first | rfl | (exact kdy_40 (by decide))
  · skip
    replace h6 := zb0 h6
    refine x_bipush (v := (-2)) dX9_judge_9 (by decide) ?_
    refine x_iret dX9_judge_11 rfl (Nat.le_of_ble_eq_true rfl) (Nat.le_of_ble_eq_true rfl) ?_
    refine zV_of (congrArg Value.int ?_) ?_ ?_ ?_
    · first | (rw [kjuA, if_pos h6]; done) | (rw [kjuA, if_neg (by rw [h6]; decide), if_neg hfk]; done) | (rw [kjuA, if_neg (by rw [h6]; decide), if_pos hfk, if_pos (show (kdy I n).2 < 0 from h28)]; rfl) | (rw [kjuA, if_neg (by rw [h6]; decide), if_pos hfk, if_neg (show ¬ (kdy I n).2 < 0 from h28), if_pos h32]; rfl) | (rw [kjuA, if_neg (by rw [h6]; decide), if_pos hfk, if_neg (show ¬ (kdy I n).2 < 0 from h28), if_neg h32]; rfl)
    · first | (intro _ _; rfl) | (intro c hq; exact kdy_far hq)
    · first | rfl | (exact kdy_40 (by decide))
    · first | rfl | (exact kdy_40 (by decide))
theorem ct_X9_barOfDays {g : zG} {N : Nat} {I : zI} {L : zL} {q0 q1 : Option Nat} {n : Nat} (hN : 58 ≤ N) (hc : I 40 9 = nI n) (hn : n ≤ 60) : Ct g yX9_barOfDays mX9_barOfDays [.ref (g.2.1 + 40)] N I L (zRw q0 q1) (zD (some (.int (if kok I n = true then 0 else -5))) N (if ff_ (I 49) n = -6 then (kdy I n).1 else I) L (zRw q0 q1)) := by
  refine Ct_of (lo0 := [some (.ref (g.2.1 + 40))]) rfl rfl rfl rfl (Nat.le_of_ble_eq_true rfl) (fun E => ?_)
  refine x_aload_n dX9_barOfDays_0 rfl ?_
  refine x_callVi dX9_barOfDays_1 ml_X9_79 mt_X9_faultOf mv_X9_faultOf (ct_X9_faultOf hN hc hn rfl) (by omega) rfl rfl rfl rfl (Nat.le_of_ble_eq_true rfl) ⟨(Nat.le_of_ble_eq_true rfl), (Nat.le_of_ble_eq_true rfl)⟩ ⟨rfl, rfl⟩ ⟨(Nat.le_of_ble_eq_true rfl), (Nat.le_of_ble_eq_true rfl)⟩ ?_
  refine x_if_ge (tgt := 14) dX9_barOfDays_4 (by decide) (fun h4 => ?_) (fun h4 => ?_)
  · skip
    have hfk : ¬ ff_ (I 49) n = -6 := fun q => by rw [q] at h4; exact absurd h4 (by decide)
    refine x_bipush (v := (-5)) dX9_barOfDays_14 (by decide) ?_
    refine x_goto (tgt := 20) dX9_barOfDays_16 (by decide) ?_
    exact x_iret dX9_barOfDays_20 rfl (Nat.le_of_ble_eq_true rfl) (Nat.le_of_ble_eq_true rfl) ⟨congrArg (fun z => some (Value.int z)) (by first | (rw [if_neg (show ¬ kok I n = true from fun q => hfk (of_decide_eq_true q).1)]; done) | (rw [if_pos (show kok I n = true from decide_eq_true (show ff_ (I 49) n = -6 ∧ (kdy I n).2 < 0 from ⟨hfk, h11⟩))]; done) | (rw [if_neg (show ¬ kok I n = true from fun q => absurd (of_decide_eq_true q).2 h11)])), rfl, by first | (rw [if_neg hfk]; done) | (rw [if_pos hfk]; rfl), by rfl, rfl⟩
  · skip
    have hfk : ff_ (I 49) n = -6 := (ff_lt hn).mp (Int32.not_le.mp h4)
    refine x_aload_n dX9_barOfDays_7 rfl ?_
    refine x_callVi dX9_barOfDays_8 ml_X9_125 mt_X9_goDays mv_X9_goDays (ct_X9_goDays hN hc hn rfl (ff_ok (by omega) hfk).1 (ff_ok (by omega) hfk).2) (by omega) rfl rfl rfl rfl (Nat.le_of_ble_eq_true rfl) ⟨(Nat.le_of_ble_eq_true rfl), (Nat.le_of_ble_eq_true rfl)⟩ ⟨rfl, rfl⟩ ⟨(Nat.le_of_ble_eq_true rfl), (Nat.le_of_ble_eq_true rfl)⟩ ?_
    refine x_if_lt (tgt := 19) dX9_barOfDays_11 (by decide) (fun h11 => ?_) (fun h11 => ?_)
    · skip
      refine x_iconst (v := 0) dX9_barOfDays_19 (by decide) ?_
      exact x_iret dX9_barOfDays_20 rfl (Nat.le_of_ble_eq_true rfl) (Nat.le_of_ble_eq_true rfl) ⟨congrArg (fun z => some (Value.int z)) (by first | (rw [if_neg (show ¬ kok I n = true from fun q => hfk (of_decide_eq_true q).1)]; done) | (rw [if_pos (show kok I n = true from decide_eq_true (show ff_ (I 49) n = -6 ∧ (kdy I n).2 < 0 from ⟨hfk, h11⟩))]; done) | (rw [if_neg (show ¬ kok I n = true from fun q => absurd (of_decide_eq_true q).2 h11)])), rfl, by first | (rw [if_neg hfk]; done) | (rw [if_pos hfk]; rfl), by rfl, rfl⟩
    · skip
      refine x_bipush (v := (-5)) dX9_barOfDays_14 (by decide) ?_
      refine x_goto (tgt := 20) dX9_barOfDays_16 (by decide) ?_
      exact x_iret dX9_barOfDays_20 rfl (Nat.le_of_ble_eq_true rfl) (Nat.le_of_ble_eq_true rfl) ⟨congrArg (fun z => some (Value.int z)) (by first | (rw [if_neg (show ¬ kok I n = true from fun q => hfk (of_decide_eq_true q).1)]; done) | (rw [if_pos (show kok I n = true from decide_eq_true (show ff_ (I 49) n = -6 ∧ (kdy I n).2 < 0 from ⟨hfk, h11⟩))]; done) | (rw [if_neg (show ¬ kok I n = true from fun q => absurd (of_decide_eq_true q).2 h11)])), rfl, by first | (rw [if_neg hfk]; done) | (rw [if_pos hfk]; rfl), by rfl, rfl⟩
theorem ct_X9_done {g : zG} {N : Nat} {I : zI} {L : zL} {q0 q1 : Option Nat} {n : Nat} (hN : 58 ≤ N) (hc : I 40 9 = nI n) (hn : n ≤ 60) : Ct g yX9_done mX9_done [.ref (g.2.1 + 40)] N I L (zRw q0 q1) (zV (.int (kdoA I n)) N (kdoI I n) (zRw q0 q1)) := by
  refine Ct_of (lo0 := [some (.ref (g.2.1 + 40)), none]) rfl rfl rfl rfl (Nat.le_of_ble_eq_true rfl) (fun E => ?_)
  refine x_aload_n dX9_done_0 rfl ?_
  refine x_callVi dX9_done_1 ml_X9_128 mt_X9_barOfDays mv_X9_barOfDays (ct_X9_barOfDays hN hc hn) (by omega) rfl rfl rfl rfl (Nat.le_of_ble_eq_true rfl) ⟨(Nat.le_of_ble_eq_true rfl), (Nat.le_of_ble_eq_true rfl)⟩ ⟨rfl, rfl⟩ ⟨(Nat.le_of_ble_eq_true rfl), (Nat.le_of_ble_eq_true rfl)⟩ ?_
  refine x_if_ge (tgt := 10) dX9_done_4 (by decide) (fun h4 => ?_) (fun h4 => ?_)
  · skip
    have hok : kok I n = true := by
      by_cases q : kok I n = true
      · exact q
      · rw [if_neg q] at h4; exact absurd h4 (by decide)
    have h9k : ff_ (I 49) n = -6 := (of_decide_eq_true hok).1
    rw [if_pos h9k]
    refine x_iconst (v := 0) dX9_done_10 (by decide) ?_
    refine x_istore_n (lo2 := [_, _]) dX9_done_11 (by decide) rfl rfl ?_
    refine x_loop (inv := fun i => True) (fun i => [some (.ref (g.2.1 + 40)), some (.int (nI i))]) (fun i => zrow (kdy I n).1 41 (zpre i ((kdy I n).1 42) (I 41))) (fun i => L) 0 15 (by omega) (by trivial) (by rfl) (by rw [zpre_0, ← kdy_far (I := I) (n := n) (c := 41) (by unfold zscr; omega), zrow_same]) (by rfl) (fun i hloi hhii hinvi Ki => ?_) (fun hinvi => ?_)
    · skip
      refine x_iload_n dX9_done_12 rfl ?_
      refine x_bipush (v := 15) dX9_done_13 (by decide) ?_
      refine x_icmp_ge (tgt := 36) dX9_done_15 (by decide) (fun h15 => ?_) (fun h15 => ?_)
      · skip
        exact absurd h15 (nI_ge (b := 15) hhii (by decide))
      · skip
        refine x_aload_n dX9_done_18 rfl ?_
        refine x_getR dX9_done_19 fl_X9_7 (by omega) rfl rfl rfl ?_
        refine x_iload_n dX9_done_22 rfl ?_
        refine x_aload_n dX9_done_23 rfl ?_
        refine x_getR dX9_done_24 fl_X9_13 (by omega) rfl rfl rfl ?_
        refine x_pc (pc2 := 27) rfl ?_
        refine x_iload_n dX9_done_27 rfl ?_
        refine x_ialdN dX9_done_28 (by omega) rfl rfl (by omega) ?_
        refine x_iast dX9_done_29 (by omega) rfl rfl (by omega) ?_
        refine x_iincN (lo2 := [_, _]) dX9_done_30 rfl rfl rfl ?_
        refine x_goto (tgt := 12) dX9_done_33 (by decide) ?_
        exact x_eq (by rfl) (by rw [zu_zrow, zrow_ne _ _ (by decide), zpre_s]) (by rfl) (Ki (by trivial))
    · skip
      refine x_iload_n dX9_done_12 rfl ?_
      refine x_bipush (v := 15) dX9_done_13 (by decide) ?_
      refine x_icmp_ge (tgt := 36) dX9_done_15 (by decide) (fun h15 => ?_) (fun h15 => ?_)
      · skip
        refine x_aload_n dX9_done_36 rfl ?_
        refine x_iconst (v := 0) dX9_done_37 (by decide) ?_
        refine x_putI dX9_done_38 fp_X9_75 (by omega) rfl ?_
        refine x_aload_n dX9_done_41 rfl ?_
        refine x_getI dX9_done_42 fl_X9_109 (by omega) rfl rfl ?_
        refine x_pc (pc2 := 45) rfl ?_
        refine x_iret dX9_done_45 rfl (Nat.le_of_ble_eq_true rfl) (Nat.le_of_ble_eq_true rfl) ?_
        refine zV_of (congrArg Value.int ?_) ?_ ?_ ?_
        · first | (rw [kdoA, if_neg (by rw [hok]; decide)]; done) | (rw [kdoA, if_pos hok, zur (by decide), zrow_ne _ _ (by decide)])
        · first | (intro c hq; rw [kdoI, if_neg (show ¬ kok I n = true by rw [hok]; decide)]; exact iteK (kdy_far hq)) | (intro c hq; rw [kdoI, if_pos hok])
        · first | (rw [kdoI, if_neg (show ¬ kok I n = true by rw [hok]; decide)]; exact iteK2 (kdy_40 (by decide))) | (rw [kdoI, if_pos hok])
        · first | (rw [kdoI, if_neg (show ¬ kok I n = true by rw [hok]; decide)]; exact iteK2 (kdy_40 (by decide))) | (rw [kdoI, if_pos hok])
      · skip
        exact absurd (nI_le (b := 15) (Nat.le_refl 15) (by decide)) h15
  · skip
    have hok : kok I n = false := by
      cases q : kok I n with
      | false => rfl
      | true => rw [if_pos q] at h4; exact absurd (by decide) h4
    refine x_bipush (v := (-5)) dX9_done_7 (by decide) ?_
    refine x_iret dX9_done_9 rfl (Nat.le_of_ble_eq_true rfl) (Nat.le_of_ble_eq_true rfl) ?_
    refine zV_of (congrArg Value.int ?_) ?_ ?_ ?_
    · first | (rw [kdoA, if_neg (by rw [hok]; decide)]; done) | (rw [kdoA, if_pos hok, zur (by decide), zrow_ne _ _ (by decide)])
    · first | (intro c hq; rw [kdoI, if_neg (show ¬ kok I n = true by rw [hok]; decide)]; exact iteK (kdy_far hq)) | (intro c hq; rw [kdoI, if_pos hok])
    · first | (rw [kdoI, if_neg (show ¬ kok I n = true by rw [hok]; decide)]; exact iteK2 (kdy_40 (by decide))) | (rw [kdoI, if_pos hok])
    · first | (rw [kdoI, if_neg (show ¬ kok I n = true by rw [hok]; decide)]; exact iteK2 (kdy_40 (by decide))) | (rw [kdoI, if_pos hok])
theorem ct_X9_behind {g : zG} {N : Nat} {I : zI} {L : zL} {q0 q1 : Option Nat} {a w : Int32} {n : Nat} (hN : 58 ≤ N) (hc : I 40 9 = nI n) (hn : n ≤ 60) : Ct g yX9_behind mX9_behind [.ref (g.2.1 + 40), .int a, .int w] N I L (zRw q0 q1) (zV (.int (kbeA I n a w)) N I (zRw q0 q1)) := by
  refine Ct_of (lo0 := [some (.ref (g.2.1 + 40)), some (.int a), some (.int w)]) rfl rfl rfl rfl (Nat.le_of_ble_eq_true rfl) (fun E => ?_)
  refine x_aload_n dX9_behind_0 rfl ?_
  refine x_iload_n dX9_behind_1 rfl ?_
  refine x_callVi dX9_behind_2 ml_X9_131 mt_X9_isThere mv_X9_isThere (ct_X9_isThere hN) (by omega) rfl rfl rfl rfl (Nat.le_of_ble_eq_true rfl) ⟨(Nat.le_of_ble_eq_true rfl), (Nat.le_of_ble_eq_true rfl)⟩ ⟨rfl, rfl⟩ ⟨(Nat.le_of_ble_eq_true rfl), (Nat.le_of_ble_eq_true rfl)⟩ ?_
  refine x_if_ne (tgt := 10) dX9_behind_5 (by decide) (fun h5 => ?_) (fun h5 => ?_)
  · skip
    replace h5 := zb1 h5
    obtain ⟨i, hi, rfl⟩ := thr_ex h5
    have zxi : zx (nI i) = i := zx_nI (by omega)
    refine x_iload_n dX9_behind_10 rfl ?_
    refine x_iconst (v := 0) dX9_behind_11 (by decide) ?_
    refine x_iconst (v := 1) dX9_behind_12 (by decide) ?_
    refine x_callSi dX9_behind_13 ml_X9_63 mt_X9_in st_X9_in (ct_X9_in) rfl rfl (Nat.le_of_ble_eq_true rfl) ⟨(Nat.le_of_ble_eq_true rfl), (Nat.le_of_ble_eq_true rfl)⟩ ⟨rfl, rfl⟩ ⟨(Nat.le_of_ble_eq_true rfl), (Nat.le_of_ble_eq_true rfl)⟩ ?_
    refine x_if_ne (tgt := 22) dX9_behind_16 (by decide) (fun h16 => ?_) (fun h16 => ?_)
    · skip
      replace h16 := zb1 h16
      obtain ⟨k, hk, rfl⟩ := zin_ex (b := 1) (by decide) h16
      have zxw : zx (nI k) = k := zx_nI (by omega)
      refine x_aload_n dX9_behind_22 rfl ?_
      refine x_callVi dX9_behind_23 ml_X9_128 mt_X9_barOfDays mv_X9_barOfDays (ct_X9_barOfDays hN hc hn) (by omega) rfl rfl rfl rfl (Nat.le_of_ble_eq_true rfl) ⟨(Nat.le_of_ble_eq_true rfl), (Nat.le_of_ble_eq_true rfl)⟩ ⟨rfl, rfl⟩ ⟨(Nat.le_of_ble_eq_true rfl), (Nat.le_of_ble_eq_true rfl)⟩ ?_
      refine x_if_ge (tgt := 32) dX9_behind_26 (by decide) (fun h26 => ?_) (fun h26 => ?_)
      · skip
        have hok : kok I n = true := by
          by_cases q : kok I n = true
          · exact q
          · rw [if_neg q] at h26; exact absurd h26 (by decide)
        have h9k : ff_ (I 49) n = -6 := (of_decide_eq_true hok).1
        rw [if_pos h9k]
        refine x_aload_n dX9_behind_32 rfl ?_
        refine x_iload_n dX9_behind_33 rfl ?_
        refine x_callVi dX9_behind_34 ml_X9_92 mt_X9_stands mv_X9_stands (ct_X9_stands hN) (by omega) rfl rfl rfl rfl (Nat.le_of_ble_eq_true rfl) ⟨(Nat.le_of_ble_eq_true rfl), (Nat.le_of_ble_eq_true rfl)⟩ ⟨rfl, rfl⟩ ⟨(Nat.le_of_ble_eq_true rfl), (Nat.le_of_ble_eq_true rfl)⟩ ?_
        refine x_if_eq (tgt := 54) dX9_behind_37 (by decide) (fun h37 => ?_) (fun h37 => ?_)
        · skip
          replace h37 := zb0 h37
          refine x_bipush (v := (-6)) dX9_behind_54 (by decide) ?_
          refine x_iret dX9_behind_56 rfl (Nat.le_of_ble_eq_true rfl) (Nat.le_of_ble_eq_true rfl) ?_
          refine zV_of (congrArg Value.int ?_) ?_ ?_ ?_
          · first | (rw [kbeA, if_pos h5]; done) | (rw [kbeA, if_neg (by rw [h5]; decide), if_pos h16]; done) | (rw [kbeA, if_neg (by rw [h5]; decide), if_neg (by rw [h16]; decide), if_pos hok]; done) | (rw [kbeA, if_neg (by rw [h5]; decide), if_neg (by rw [h16]; decide), if_neg (by rw [hok]; decide), if_neg (by rw [h37]; decide)]; done) | (rw [kbeA, if_neg (by rw [h5]; decide), if_neg (by rw [h16]; decide), if_neg (by rw [hok]; decide), if_pos h37, zxi, zxw])
          · first | (intro _ _; rfl) | (intro c hq; exact kdy_far hq) | (intro c hq; exact iteK (kdy_far hq))
          · first | rfl | (exact kdy_40 (by decide)) | (exact iteK2 (kdy_40 (by decide)))
          · first | rfl | (exact kdy_40 (by decide)) | (exact iteK2 (kdy_40 (by decide)))
        · skip
          replace h37 := zb1 h37
          refine x_aload_n dX9_behind_40 rfl ?_
          refine x_getR dX9_behind_41 fl_X9_13 (by omega) rfl rfl rfl ?_
          refine x_bipush (v := 6) dX9_behind_44 (by decide) ?_
          refine x_iload_n dX9_behind_46 rfl ?_
          refine x_imul dX9_behind_47 ?_
          refine x_pc (pc2 := 48) rfl ?_
          refine x_iload_n dX9_behind_48 rfl ?_
          refine x_iadd dX9_behind_49 ?_
          refine x_ialdN dX9_behind_50 (by omega) rfl (by rw [show (6 : Int32) = nI 6 from rfl, pk_mul, nI_add]) (by omega) ?_
          refine x_goto (tgt := 56) dX9_behind_51 (by decide) ?_
          refine x_iret dX9_behind_56 rfl (Nat.le_of_ble_eq_true rfl) (Nat.le_of_ble_eq_true rfl) ?_
          refine zV_of (congrArg Value.int ?_) ?_ ?_ ?_
          · first | (rw [kbeA, if_pos h5]; done) | (rw [kbeA, if_neg (by rw [h5]; decide), if_pos h16]; done) | (rw [kbeA, if_neg (by rw [h5]; decide), if_neg (by rw [h16]; decide), if_pos hok]; done) | (rw [kbeA, if_neg (by rw [h5]; decide), if_neg (by rw [h16]; decide), if_neg (by rw [hok]; decide), if_neg (by rw [h37]; decide)]; done) | (rw [kbeA, if_neg (by rw [h5]; decide), if_neg (by rw [h16]; decide), if_neg (by rw [hok]; decide), if_pos h37, zxi, zxw])
          · first | (intro _ _; rfl) | (intro c hq; exact kdy_far hq) | (intro c hq; exact iteK (kdy_far hq))
          · first | rfl | (exact kdy_40 (by decide)) | (exact iteK2 (kdy_40 (by decide)))
          · first | rfl | (exact kdy_40 (by decide)) | (exact iteK2 (kdy_40 (by decide)))
      · skip
        have hok : kok I n = false := by
          cases q : kok I n with
          | false => rfl
          | true => rw [if_pos q] at h26; exact absurd (by decide) h26
        refine x_bipush (v := (-5)) dX9_behind_29 (by decide) ?_
        refine x_iret dX9_behind_31 rfl (Nat.le_of_ble_eq_true rfl) (Nat.le_of_ble_eq_true rfl) ?_
        refine zV_of (congrArg Value.int ?_) ?_ ?_ ?_
        · first | (rw [kbeA, if_pos h5]; done) | (rw [kbeA, if_neg (by rw [h5]; decide), if_pos h16]; done) | (rw [kbeA, if_neg (by rw [h5]; decide), if_neg (by rw [h16]; decide), if_pos hok]; done) | (rw [kbeA, if_neg (by rw [h5]; decide), if_neg (by rw [h16]; decide), if_neg (by rw [hok]; decide), if_neg (by rw [h37]; decide)]; done) | (rw [kbeA, if_neg (by rw [h5]; decide), if_neg (by rw [h16]; decide), if_neg (by rw [hok]; decide), if_pos h37, zxi, zxw])
        · first | (intro _ _; rfl) | (intro c hq; exact kdy_far hq) | (intro c hq; exact iteK (kdy_far hq))
        · first | rfl | (exact kdy_40 (by decide)) | (exact iteK2 (kdy_40 (by decide)))
        · first | rfl | (exact kdy_40 (by decide)) | (exact iteK2 (kdy_40 (by decide)))
    · skip
      replace h16 := zb0 h16
      refine x_bipush (v := (-2)) dX9_behind_19 (by decide) ?_
      refine x_iret dX9_behind_21 rfl (Nat.le_of_ble_eq_true rfl) (Nat.le_of_ble_eq_true rfl) ?_
      refine zV_of (congrArg Value.int ?_) ?_ ?_ ?_
      · first | (rw [kbeA, if_pos h5]; done) | (rw [kbeA, if_neg (by rw [h5]; decide), if_pos h16]; done) | (rw [kbeA, if_neg (by rw [h5]; decide), if_neg (by rw [h16]; decide), if_pos hok]; done) | (rw [kbeA, if_neg (by rw [h5]; decide), if_neg (by rw [h16]; decide), if_neg (by rw [hok]; decide), if_neg (by rw [h37]; decide)]; done) | (rw [kbeA, if_neg (by rw [h5]; decide), if_neg (by rw [h16]; decide), if_neg (by rw [hok]; decide), if_pos h37, zxi, zxw])
      · first | (intro _ _; rfl) | (intro c hq; exact kdy_far hq) | (intro c hq; exact iteK (kdy_far hq))
      · first | rfl | (exact kdy_40 (by decide)) | (exact iteK2 (kdy_40 (by decide)))
      · first | rfl | (exact kdy_40 (by decide)) | (exact iteK2 (kdy_40 (by decide)))
  · skip
    replace h5 := zb0 h5
    refine x_iconst (v := (-1)) dX9_behind_8 (by decide) ?_
    refine x_iret dX9_behind_9 rfl (Nat.le_of_ble_eq_true rfl) (Nat.le_of_ble_eq_true rfl) ?_
    refine zV_of (congrArg Value.int ?_) ?_ ?_ ?_
    · first | (rw [kbeA, if_pos h5]; done) | (rw [kbeA, if_neg (by rw [h5]; decide), if_pos h16]; done) | (rw [kbeA, if_neg (by rw [h5]; decide), if_neg (by rw [h16]; decide), if_pos hok]; done) | (rw [kbeA, if_neg (by rw [h5]; decide), if_neg (by rw [h16]; decide), if_neg (by rw [hok]; decide), if_neg (by rw [h37]; decide)]; done) | (rw [kbeA, if_neg (by rw [h5]; decide), if_neg (by rw [h16]; decide), if_neg (by rw [hok]; decide), if_pos h37, zxi, zxw])
    · first | (intro _ _; rfl) | (intro c hq; exact kdy_far hq) | (intro c hq; exact iteK (kdy_far hq))
    · first | rfl | (exact kdy_40 (by decide)) | (exact iteK2 (kdy_40 (by decide)))
    · first | rfl | (exact kdy_40 (by decide)) | (exact iteK2 (kdy_40 (by decide)))
theorem ct_X9_then {g : zG} {N : Nat} {I : zI} {L : zL} {q0 q1 : Option Nat} {w : Int32} {n : Nat} (hN : 58 ≤ N) (hc : I 40 9 = nI n) (hn : n ≤ 60) : Ct g yX9_then mX9_then [.ref (g.2.1 + 40), .int w] N I L (zRw q0 q1) (zV (.int (kthA I n w)) N I (zRw q0 q1)) := by
  refine Ct_of (lo0 := [some (.ref (g.2.1 + 40)), some (.int w)]) rfl rfl rfl rfl (Nat.le_of_ble_eq_true rfl) (fun E => ?_)
  refine x_iload_n dX9_then_0 rfl ?_
  refine x_iconst (v := 0) dX9_then_1 (by decide) ?_
  refine x_iconst (v := 5) dX9_then_2 (by decide) ?_
  refine x_callSi dX9_then_3 ml_X9_63 mt_X9_in st_X9_in (ct_X9_in) rfl rfl (Nat.le_of_ble_eq_true rfl) ⟨(Nat.le_of_ble_eq_true rfl), (Nat.le_of_ble_eq_true rfl)⟩ ⟨rfl, rfl⟩ ⟨(Nat.le_of_ble_eq_true rfl), (Nat.le_of_ble_eq_true rfl)⟩ ?_
  refine x_if_ne (tgt := 12) dX9_then_6 (by decide) (fun h6 => ?_) (fun h6 => ?_)
  · skip
    replace h6 := zb1 h6
    obtain ⟨k, hk, ek⟩ := zin_ex (b := 5) (by decide) h6
    have zxw : zx w = k := by rw [ek]; exact zx_nI (by omega)
    refine x_aload_n dX9_then_12 rfl ?_
    refine x_callVi dX9_then_13 ml_X9_128 mt_X9_barOfDays mv_X9_barOfDays (ct_X9_barOfDays hN hc hn) (by omega) rfl rfl rfl rfl (Nat.le_of_ble_eq_true rfl) ⟨(Nat.le_of_ble_eq_true rfl), (Nat.le_of_ble_eq_true rfl)⟩ ⟨rfl, rfl⟩ ⟨(Nat.le_of_ble_eq_true rfl), (Nat.le_of_ble_eq_true rfl)⟩ ?_
    refine x_if_ge (tgt := 22) dX9_then_16 (by decide) (fun h16 => ?_) (fun h16 => ?_)
    · skip
      have hok : kok I n = true := by
        by_cases q : kok I n = true
        · exact q
        · rw [if_neg q] at h16; exact absurd h16 (by decide)
      have h9k : ff_ (I 49) n = -6 := (of_decide_eq_true hok).1
      rw [if_pos h9k]
      refine x_iload_n dX9_then_22 rfl ?_
      refine x_iconst (v := 3) dX9_then_23 (by decide) ?_
      refine x_icmp_ge (tgt := 39) dX9_then_24 (by decide) (fun h24 => ?_) (fun h24 => ?_)
      · skip
        refine x_iload_n dX9_then_39 rfl ?_
        refine x_iconst (v := 3) dX9_then_40 (by decide) ?_
        refine x_icmp_ne (tgt := 51) dX9_then_41 (by decide) (fun h41 => ?_) (fun h41 => ?_)
        · skip
          refine x_iload_n dX9_then_51 rfl ?_
          refine x_iconst (v := 4) dX9_then_52 (by decide) ?_
          refine x_icmp_ne (tgt := 63) dX9_then_53 (by decide) (fun h53 => ?_) (fun h53 => ?_)
          · skip
            refine x_aload_n dX9_then_63 rfl ?_
            refine x_getI dX9_then_64 fl_X9_89 (by omega) rfl rfl ?_
            refine x_iret dX9_then_67 rfl (Nat.le_of_ble_eq_true rfl) (Nat.le_of_ble_eq_true rfl) ?_
            refine zV_of (congrArg Value.int ?_) ?_ ?_ ?_
            · first | (rw [kthA, if_pos h6]; done) | (rw [kthA, if_neg (by rw [h6]; decide), if_pos hok]; done) | (rw [kthA, if_neg (by rw [h6]; decide), if_neg (by rw [hok]; decide), if_neg h24, zxw]; done) | (rw [kthA, if_neg (by rw [h6]; decide), if_neg (by rw [hok]; decide), if_pos h24, if_pos h41]; done) | (rw [kthA, if_neg (by rw [h6]; decide), if_neg (by rw [hok]; decide), if_pos h24, if_neg h41, if_pos h53]; done) | (rw [kthA, if_neg (by rw [h6]; decide), if_neg (by rw [hok]; decide), if_pos h24, if_neg h41, if_neg h53])
            · first | (intro _ _; rfl) | (intro c hq; exact kdy_far hq) | (intro c hq; exact iteK (kdy_far hq))
            · first | rfl | (exact kdy_40 (by decide)) | (exact iteK2 (kdy_40 (by decide)))
            · first | rfl | (exact kdy_40 (by decide)) | (exact iteK2 (kdy_40 (by decide)))
          · skip
            refine x_aload_n dX9_then_56 rfl ?_
            refine x_getI dX9_then_57 fl_X9_86 (by omega) rfl rfl ?_
            refine x_goto (tgt := 67) dX9_then_60 (by decide) ?_
            refine x_iret dX9_then_67 rfl (Nat.le_of_ble_eq_true rfl) (Nat.le_of_ble_eq_true rfl) ?_
            refine zV_of (congrArg Value.int ?_) ?_ ?_ ?_
            · first | (rw [kthA, if_pos h6]; done) | (rw [kthA, if_neg (by rw [h6]; decide), if_pos hok]; done) | (rw [kthA, if_neg (by rw [h6]; decide), if_neg (by rw [hok]; decide), if_neg h24, zxw]; done) | (rw [kthA, if_neg (by rw [h6]; decide), if_neg (by rw [hok]; decide), if_pos h24, if_pos h41]; done) | (rw [kthA, if_neg (by rw [h6]; decide), if_neg (by rw [hok]; decide), if_pos h24, if_neg h41, if_pos h53]; done) | (rw [kthA, if_neg (by rw [h6]; decide), if_neg (by rw [hok]; decide), if_pos h24, if_neg h41, if_neg h53])
            · first | (intro _ _; rfl) | (intro c hq; exact kdy_far hq) | (intro c hq; exact iteK (kdy_far hq))
            · first | rfl | (exact kdy_40 (by decide)) | (exact iteK2 (kdy_40 (by decide)))
            · first | rfl | (exact kdy_40 (by decide)) | (exact iteK2 (kdy_40 (by decide)))
        · skip
          refine x_aload_n dX9_then_44 rfl ?_
          refine x_getI dX9_then_45 fl_X9_83 (by omega) rfl rfl ?_
          refine x_goto (tgt := 67) dX9_then_48 (by decide) ?_
          refine x_iret dX9_then_67 rfl (Nat.le_of_ble_eq_true rfl) (Nat.le_of_ble_eq_true rfl) ?_
          refine zV_of (congrArg Value.int ?_) ?_ ?_ ?_
          · first | (rw [kthA, if_pos h6]; done) | (rw [kthA, if_neg (by rw [h6]; decide), if_pos hok]; done) | (rw [kthA, if_neg (by rw [h6]; decide), if_neg (by rw [hok]; decide), if_neg h24, zxw]; done) | (rw [kthA, if_neg (by rw [h6]; decide), if_neg (by rw [hok]; decide), if_pos h24, if_pos h41]; done) | (rw [kthA, if_neg (by rw [h6]; decide), if_neg (by rw [hok]; decide), if_pos h24, if_neg h41, if_pos h53]; done) | (rw [kthA, if_neg (by rw [h6]; decide), if_neg (by rw [hok]; decide), if_pos h24, if_neg h41, if_neg h53])
          · first | (intro _ _; rfl) | (intro c hq; exact kdy_far hq) | (intro c hq; exact iteK (kdy_far hq))
          · first | rfl | (exact kdy_40 (by decide)) | (exact iteK2 (kdy_40 (by decide)))
          · first | rfl | (exact kdy_40 (by decide)) | (exact iteK2 (kdy_40 (by decide)))
      · skip
        have hk3 : k < 3 := by rw [ek, show (3 : Int32) = nI 3 from rfl, nI_leI (by decide) (by omega)] at h24; omega
        refine x_aload_n dX9_then_27 rfl ?_
        refine x_getR dX9_then_28 fl_X9_13 (by omega) rfl rfl rfl ?_
        refine x_bipush (v := 12) dX9_then_31 (by decide) ?_
        refine x_iload_n dX9_then_33 rfl ?_
        refine x_iadd dX9_then_34 ?_
        refine x_pc (pc2 := 35) rfl ?_
        refine x_ialdN dX9_then_35 (by omega) rfl (by rw [ek]; exact nI_add 12 k) (by omega) ?_
        refine x_goto (tgt := 67) dX9_then_36 (by decide) ?_
        refine x_iret dX9_then_67 rfl (Nat.le_of_ble_eq_true rfl) (Nat.le_of_ble_eq_true rfl) ?_
        refine zV_of (congrArg Value.int ?_) ?_ ?_ ?_
        · first | (rw [kthA, if_pos h6]; done) | (rw [kthA, if_neg (by rw [h6]; decide), if_pos hok]; done) | (rw [kthA, if_neg (by rw [h6]; decide), if_neg (by rw [hok]; decide), if_neg h24, zxw]; done) | (rw [kthA, if_neg (by rw [h6]; decide), if_neg (by rw [hok]; decide), if_pos h24, if_pos h41]; done) | (rw [kthA, if_neg (by rw [h6]; decide), if_neg (by rw [hok]; decide), if_pos h24, if_neg h41, if_pos h53]; done) | (rw [kthA, if_neg (by rw [h6]; decide), if_neg (by rw [hok]; decide), if_pos h24, if_neg h41, if_neg h53])
        · first | (intro _ _; rfl) | (intro c hq; exact kdy_far hq) | (intro c hq; exact iteK (kdy_far hq))
        · first | rfl | (exact kdy_40 (by decide)) | (exact iteK2 (kdy_40 (by decide)))
        · first | rfl | (exact kdy_40 (by decide)) | (exact iteK2 (kdy_40 (by decide)))
    · skip
      have hok : kok I n = false := by
        cases q : kok I n with
        | false => rfl
        | true => rw [if_pos q] at h16; exact absurd (by decide) h16
      refine x_bipush (v := (-5)) dX9_then_19 (by decide) ?_
      refine x_iret dX9_then_21 rfl (Nat.le_of_ble_eq_true rfl) (Nat.le_of_ble_eq_true rfl) ?_
      refine zV_of (congrArg Value.int ?_) ?_ ?_ ?_
      · first | (rw [kthA, if_pos h6]; done) | (rw [kthA, if_neg (by rw [h6]; decide), if_pos hok]; done) | (rw [kthA, if_neg (by rw [h6]; decide), if_neg (by rw [hok]; decide), if_neg h24, zxw]; done) | (rw [kthA, if_neg (by rw [h6]; decide), if_neg (by rw [hok]; decide), if_pos h24, if_pos h41]; done) | (rw [kthA, if_neg (by rw [h6]; decide), if_neg (by rw [hok]; decide), if_pos h24, if_neg h41, if_pos h53]; done) | (rw [kthA, if_neg (by rw [h6]; decide), if_neg (by rw [hok]; decide), if_pos h24, if_neg h41, if_neg h53])
      · first | (intro _ _; rfl) | (intro c hq; exact kdy_far hq) | (intro c hq; exact iteK (kdy_far hq))
      · first | rfl | (exact kdy_40 (by decide)) | (exact iteK2 (kdy_40 (by decide)))
      · first | rfl | (exact kdy_40 (by decide)) | (exact iteK2 (kdy_40 (by decide)))
  · skip
    replace h6 := zb0 h6
    refine x_bipush (v := (-2)) dX9_then_9 (by decide) ?_
    refine x_iret dX9_then_11 rfl (Nat.le_of_ble_eq_true rfl) (Nat.le_of_ble_eq_true rfl) ?_
    refine zV_of (congrArg Value.int ?_) ?_ ?_ ?_
    · first | (rw [kthA, if_pos h6]; done) | (rw [kthA, if_neg (by rw [h6]; decide), if_pos hok]; done) | (rw [kthA, if_neg (by rw [h6]; decide), if_neg (by rw [hok]; decide), if_neg h24, zxw]; done) | (rw [kthA, if_neg (by rw [h6]; decide), if_neg (by rw [hok]; decide), if_pos h24, if_pos h41]; done) | (rw [kthA, if_neg (by rw [h6]; decide), if_neg (by rw [hok]; decide), if_pos h24, if_neg h41, if_pos h53]; done) | (rw [kthA, if_neg (by rw [h6]; decide), if_neg (by rw [hok]; decide), if_pos h24, if_neg h41, if_neg h53])
    · first | (intro _ _; rfl) | (intro c hq; exact kdy_far hq) | (intro c hq; exact iteK (kdy_far hq))
    · first | rfl | (exact kdy_40 (by decide)) | (exact iteK2 (kdy_40 (by decide)))
    · first | rfl | (exact kdy_40 (by decide)) | (exact iteK2 (kdy_40 (by decide)))
theorem ct_X9_fitsOf {g : zG} {N : Nat} {I : zI} {L : zL} {q0 q1 : Option Nat} {a : Nat} (hN : 58 ≤ N) (ha : a < 6) : Ct g yX9_fitsOf mX9_fitsOf [.ref (g.2.1 + 40), .int (nI a)] N I L (zRw q0 q1) (zD (some (.int (kf_ (I 43) (I 41 (6 + a)) 6))) N I L (zRw q0 q1)) := by
  refine Ct_of (lo0 := [some (.ref (g.2.1 + 40)), some (.int (nI a)), none, none]) rfl rfl rfl rfl (Nat.le_of_ble_eq_true rfl) (fun E => ?_)
  refine x_iconst (v := 0) dX9_fitsOf_0 (by decide) ?_
  refine x_istore_n (lo2 := [_, _, _, _]) dX9_fitsOf_1 (by decide) rfl rfl ?_
  refine x_iconst (v := 0) dX9_fitsOf_2 (by decide) ?_
  refine x_istore_n (lo2 := [_, _, _, _]) dX9_fitsOf_3 (by decide) rfl rfl ?_
  refine x_loop (inv := fun i => True) (fun i => [some (.ref (g.2.1 + 40)), some (.int (nI a)), some (.int (kf_ (I 43) (I 41 (6 + a)) i)), some (.int (nI i))]) (fun i => I) (fun i => L) 0 6 (by omega) (by trivial) (by rfl) (by rfl) (by rfl) (fun i hloi hhii hinvi Ki => ?_) (fun hinvi => ?_)
  · skip
    refine x_iload_n dX9_fitsOf_4 rfl ?_
    refine x_bipush (v := 6) dX9_fitsOf_5 (by decide) ?_
    refine x_icmp_ge (tgt := 47) dX9_fitsOf_7 (by decide) (fun h7 => ?_) (fun h7 => ?_)
    · skip
      exact absurd h7 (nI_ge (b := 6) hhii (by decide))
    · skip
      refine x_iload_n dX9_fitsOf_10 rfl ?_
      refine x_aload_n dX9_fitsOf_11 rfl ?_
      refine x_getR dX9_fitsOf_12 fl_X9_16 (by omega) rfl rfl rfl ?_
      refine x_iload_n dX9_fitsOf_15 rfl ?_
      refine x_ialdN dX9_fitsOf_16 (by omega) rfl rfl (by omega) ?_
      refine x_pc (pc2 := 17) rfl ?_
      refine x_aload_n dX9_fitsOf_17 rfl ?_
      refine x_getR dX9_fitsOf_18 fl_X9_7 (by omega) rfl rfl rfl ?_
      refine x_bipush (v := 6) dX9_fitsOf_21 (by decide) ?_
      refine x_iload_n dX9_fitsOf_23 rfl ?_
      refine x_iadd dX9_fitsOf_24 ?_
      refine x_ialdN dX9_fitsOf_25 (by omega) rfl (show nI 6 + nI a = nI (6 + a) from nI_add 6 a) (by omega) ?_
      refine x_pc (pc2 := 26) rfl ?_
      refine x_iconst (v := (-1)) dX9_fitsOf_26 (by decide) ?_
      refine x_ixor dX9_fitsOf_27 ?_
      refine x_iand dX9_fitsOf_28 ?_
      refine x_if_ne (tgt := 38) dX9_fitsOf_29 (by decide) (fun h29 => ?_) (fun h29 => ?_)
      · skip
        replace h29 := zwi_f h29
        refine x_iconst (v := 0) dX9_fitsOf_38 (by decide) ?_
        refine x_ior dX9_fitsOf_39 ?_
        refine x_istore_n (lo2 := [_, _, _, _]) dX9_fitsOf_40 (by decide) rfl rfl ?_
        refine x_iincN (lo2 := [_, _, _, _]) dX9_fitsOf_41 rfl rfl rfl ?_
        refine x_goto (tgt := 4) dX9_fitsOf_44 (by decide) ?_
        exact x_eq (by simp [kf_, h7, h29]) (by rfl) (by rfl) (Ki (by trivial))
      · skip
        replace h29 := zwi_t h29
        refine x_iconst (v := 1) dX9_fitsOf_32 (by decide) ?_
        refine x_iload_n dX9_fitsOf_33 rfl ?_
        refine x_ishl dX9_fitsOf_34 ?_
        refine x_goto (tgt := 39) dX9_fitsOf_35 (by decide) ?_
        refine x_ior dX9_fitsOf_39 ?_
        refine x_istore_n (lo2 := [_, _, _, _]) dX9_fitsOf_40 (by decide) rfl rfl ?_
        refine x_iincN (lo2 := [_, _, _, _]) dX9_fitsOf_41 rfl rfl rfl ?_
        refine x_goto (tgt := 4) dX9_fitsOf_44 (by decide) ?_
        exact x_eq (by simp [kf_, h7, h29]) (by rfl) (by rfl) (Ki (by trivial))
  · skip
    refine x_iload_n dX9_fitsOf_4 rfl ?_
    refine x_bipush (v := 6) dX9_fitsOf_5 (by decide) ?_
    refine x_icmp_ge (tgt := 47) dX9_fitsOf_7 (by decide) (fun h7 => ?_) (fun h7 => ?_)
    · skip
      refine x_iload_n dX9_fitsOf_47 rfl ?_
      exact x_iret dX9_fitsOf_48 rfl (Nat.le_of_ble_eq_true rfl) (Nat.le_of_ble_eq_true rfl) ⟨congrArg (fun z => some (Value.int z)) (by rfl), rfl, by rfl, by rfl, rfl⟩
    · skip
      exact absurd (nI_le (b := 6) (Nat.le_refl 6) (by decide)) h7
theorem ct_X9_fitting {g : zG} {N : Nat} {I : zI} {L : zL} {q0 q1 : Option Nat} {a : Int32} (hN : 58 ≤ N) : Ct g yX9_fitting mX9_fitting [.ref (g.2.1 + 40), .int a] N I L (zRw q0 q1) (zV (.int (kfiA I a)) N I (zRw q0 q1)) := by
  refine Ct_of (lo0 := [some (.ref (g.2.1 + 40)), some (.int a)]) rfl rfl rfl rfl (Nat.le_of_ble_eq_true rfl) (fun E => ?_)
  refine x_aload_n dX9_fitting_0 rfl ?_
  refine x_iload_n dX9_fitting_1 rfl ?_
  refine x_callVi dX9_fitting_2 ml_X9_131 mt_X9_isThere mv_X9_isThere (ct_X9_isThere hN) (by omega) rfl rfl rfl rfl (Nat.le_of_ble_eq_true rfl) ⟨(Nat.le_of_ble_eq_true rfl), (Nat.le_of_ble_eq_true rfl)⟩ ⟨rfl, rfl⟩ ⟨(Nat.le_of_ble_eq_true rfl), (Nat.le_of_ble_eq_true rfl)⟩ ?_
  refine x_if_eq (tgt := 16) dX9_fitting_5 (by decide) (fun h5 => ?_) (fun h5 => ?_)
  · skip
    replace h5 := zb0 h5
    refine x_iconst (v := (-1)) dX9_fitting_16 (by decide) ?_
    refine x_iret dX9_fitting_17 rfl (Nat.le_of_ble_eq_true rfl) (Nat.le_of_ble_eq_true rfl) ?_
    refine zV_of (congrArg Value.int ?_) ?_ ?_ ?_
    · first | (rw [kfiA, if_neg (by rw [h5]; decide)]; done) | (rw [kfiA, if_pos h5, zx_nI (by omega)])
    · intro _ _; rfl
    · rfl
    · rfl
  · skip
    replace h5 := zb1 h5
    obtain ⟨i, hi, rfl⟩ := thr_ex h5
    refine x_aload_n dX9_fitting_8 rfl ?_
    refine x_iload_n dX9_fitting_9 rfl ?_
    refine x_callVi dX9_fitting_10 ml_X9_134 mt_X9_fitsOf mv_X9_fitsOf (ct_X9_fitsOf hN hi) (by omega) rfl rfl rfl rfl (Nat.le_of_ble_eq_true rfl) ⟨(Nat.le_of_ble_eq_true rfl), (Nat.le_of_ble_eq_true rfl)⟩ ⟨rfl, rfl⟩ ⟨(Nat.le_of_ble_eq_true rfl), (Nat.le_of_ble_eq_true rfl)⟩ ?_
    refine x_goto (tgt := 17) dX9_fitting_13 (by decide) ?_
    refine x_iret dX9_fitting_17 rfl (Nat.le_of_ble_eq_true rfl) (Nat.le_of_ble_eq_true rfl) ?_
    refine zV_of (congrArg Value.int ?_) ?_ ?_ ?_
    · first | (rw [kfiA, if_neg (by rw [h5]; decide)]; done) | (rw [kfiA, if_pos h5, zx_nI (by omega)])
    · intro _ _; rfl
    · rfl
    · rfl
