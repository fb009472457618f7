/-! ACTS, the PAD, DAYS: what the class's methods do -/
theorem zth_T {s : Nat → Int32} {i : Nat} (hi : i < 6) (h : zth s (nI i) = true) : ¬ s i ≤ 0 := by rw [zth_le hi] at h; simpa using h
theorem zth_F {s : Nat → Int32} {i : Nat} (hi : i < 6) (h : zth s (nI i) = false) : s i ≤ 0 := by rw [zth_le hi] at h; simpa using h
/-- a whole Mire becomes another -/
def zbec (I : zI) (m o : Nat) : zI := fun a => if m ≤ a ∧ a ≤ m + 10 then I (a - m + o) else I a
def b3I (I : zI) (k a b : Int32) : zI := zu (zu (zu I 26 0 k) 26 1 a) 26 2 b
def sg_ (f : Nat → Int32) (n p : Nat) : Int32 := if p < n then f p else 0
def lt_ (s : Int32) : Bool := zin s 65 70
def awN (w : Nat) (s : Int32) : Nat :=
  if w = 0 then (if lt_ s = true then 1 else if s = 126 then 0 else if s = 46 then 0 else 3)
  else if w = 1 then (if s = 43 then 2 else if s = 95 then 0 else if zin s 48 53 = true then 0 else 3)
  else if w = 2 then (if lt_ s = true then 0 else 3) else 3
def zaw (w : Nat) : Int32 := if w = 3 then -1 else nI w
def ds_ (f : Nat → Int32) : Nat → Nat
  | 0 => 0
  | i + 1 => awN (ds_ f i) (f i)
def fp_ (f : Nat → Int32) : Nat → Option Nat
  | 0 => none
  | i + 1 => match fp_ f i with
    | some p => some p
    | none => if ds_ f (i + 1) = 3 then some i else none
def ff_ (f : Nat → Int32) (n : Nat) : Int32 := match fp_ f n with
  | some p => nI p
  | none => if ds_ f n = 0 then -6 else nI n
theorem awN_lt (w : Nat) (s : Int32) : awN w s < 4 := by
  unfold awN
  repeat' split
  all_goals omega
theorem ds_lt (f : Nat → Int32) : ∀ i, ds_ f i < 4
  | 0 => by simp [ds_]
  | i + 1 => awN_lt _ _
theorem fp_some {f : Nat → Int32} {i n p : Nat} (h : fp_ f i = some p) (hn : i ≤ n) : fp_ f n = some p := by
  induction n with
  | zero => rw [show i = 0 by omega] at h; exact h
  | succ n ih =>
    by_cases e : i = n + 1
    · rw [← e]; exact h
    · simp [fp_, ih (by omega)]
theorem fp_first {f : Nat → Int32} {i : Nat} (h0 : fp_ f i = none) (h : ds_ f (i + 1) = 3) : fp_ f (i + 1) = some i := by simp [fp_, h0, h]
/-- reading the ACT that begins at p: its length, kind, GRIEF, other -/
def rdL (f : Nat → Int32) (n p : Nat) : Nat := if lt_ (sg_ f n p) = true then (if sg_ f n (p + 1) = 43 then 3 else 2) else 1
def rdK (f : Nat → Int32) (n p : Nat) : Nat := if lt_ (sg_ f n p) = true then (if sg_ f n (p + 1) = 43 then 1 else if sg_ f n (p + 1) = 95 then 2 else 0) else if sg_ f n p = 126 then 3 else 4
def rdA (f : Nat → Int32) (n p : Nat) : Int32 := if lt_ (sg_ f n p) = true then sg_ f n p - 65 else 0
def rdB (f : Nat → Int32) (n p : Nat) : Int32 := if lt_ (sg_ f n p) = true then (if sg_ f n (p + 1) = 43 then sg_ f n (p + 2) - 65 else sg_ f n (p + 1) - 48) else 0
def rdI (I : zI) (f : Nat → Int32) (n p : Nat) : zI := b3I I (nI (rdK f n p)) (rdA f n p) (rdB f n p)
def bgI (I : zI) : zI := zu (zu (zu (zu (zu (zbec I 15 1) 14 2 0) 14 3 0) 14 4 0) 14 5 (-6)) 14 6 (-6)
def ndI (I : zI) : zI := if I 26 0 = 0 then (if zth (I 16) (I 26 1) = true then I else if I 14 4 = 0 then zu (zu (zu I 14 5 (I 14 2)) 14 6 (I 26 1)) 14 4 (I 14 4 + 1) else zu I 14 4 (I 14 4 + 1)) else I
/-- the Nat of a small int -/
def zx (x : Int32) : Nat := x.toNatClampNeg
theorem zx_nI {i : Nat} (h : i < 2 ^ 31) : zx (nI i) = i := nI_clamp h
def acR (I : zI) : Int32 := atR I (zx (I 26 0)) (zx (I 26 1)) (zx (I 26 2))
def acI (I : zI) : zI := atI I (zx (I 26 0)) (zx (I 26 1)) (zx (I 26 2))
def rn_ (f : Nat → Int32) (n : Nat) : Nat → Nat → zI → zI
  | 0, _, I => I
  | d + 1, p, I => if n ≤ p then I else if acR (rdI I f n p) = 0 then rn_ f n d (p + rdL f n p) (zu (ndI (zu (acI (rdI I f n p)) 14 3 (acR (rdI I f n p)))) 14 2 (ndI (zu (acI (rdI I f n p)) 14 3 (acR (rdI I f n p))) 14 2 + 1)) else zu (acI (rdI I f n p)) 14 3 (acR (rdI I f n p))
/-- a YEAR -/
def yx_ (s : Nat) : Nat → Nat
  | 0 => s
  | i + 1 => (75 * yx_ s i + 74) % 65537
def dwI (I : zI) (lot y : Nat) : zI := if lot < 4 then b3I I 0 (nI (y / 6 % 6)) (nI (y % 6)) else if lot = 4 then b3I I 2 (nI (y % 6)) 0 else if lot = 5 then b3I I 3 0 0 else b3I I 4 0 0
def yI_ (s : Nat) (I : zI) : Nat → zI
  | 0 => I
  | i + 1 => acI (dwI (yI_ s I i) (yx_ s (i + 1) % 8) (yx_ s (i + 1) / 8))
theorem yx_lt {s : Nat} (h : s < 65537) : ∀ i, yx_ s i < 65537
  | 0 => h
  | i + 1 => Nat.mod_lt _ (by omega)

theorem ct_X3_takeHold {g : zG} {N : Nat} {I : zI} {L : zL} {q0 q1 : Option Nat} {a h : Nat} (hN : 58 ≤ N) (ha : a < 6) (hh : h < 6) : Ct g yX3_takeHold mX3_takeHold [.ref (g.2.1 + 15), .int (nI a), .int (nI h)] N I L (zRw q0 q1) (zD (some (.int (tkR I a h))) N (tkI I a h) L (zRw q0 q1)) := by
  refine Ct_of (lo0 := [some (.ref (g.2.1 + 15)), some (.int (nI a)), some (.int (nI h))]) rfl rfl rfl rfl (Nat.le_of_ble_eq_true rfl) (fun E => ?_)
  refine x_aload_n dX3_takeHold_0 rfl ?_
  refine x_iload_n dX3_takeHold_1 rfl ?_
  refine x_callVi dX3_takeHold_2 ml_X3_99 mt_X3_isThere mv_X3_isThere (ct_X3_isThere (Or.inr (Or.inl rfl)) (by omega)) (by omega) rfl rfl rfl rfl (Nat.le_of_ble_eq_true rfl) ⟨(Nat.le_of_ble_eq_true rfl), (Nat.le_of_ble_eq_true rfl)⟩ ⟨rfl, rfl⟩ ⟨(Nat.le_of_ble_eq_true rfl), (Nat.le_of_ble_eq_true rfl)⟩ ?_
  refine x_if_ne (tgt := 10) dX3_takeHold_5 (by decide) (fun h5 => ?_) (fun h5 => ?_)
  · skip
    replace h5 := zb1 h5
    replace h5 := zth_T ha h5
    refine x_iload_n dX3_takeHold_10 rfl ?_
    refine x_callNi dX3_takeHold_11 nn_X3_103 mt_X8_isHold st_X8_isHold (ct_X8_isHold) rfl rfl (Nat.le_of_ble_eq_true rfl) ⟨(Nat.le_of_ble_eq_true rfl), (Nat.le_of_ble_eq_true rfl)⟩ ⟨rfl, rfl⟩ ⟨(Nat.le_of_ble_eq_true rfl), (Nat.le_of_ble_eq_true rfl)⟩ ?_
    refine x_if_eq (tgt := 35) dX3_takeHold_14 (by decide) (fun h14 => ?_) (fun h14 => ?_)
    · skip
      replace h14 := zb0 h14
      exact absurd h14 (by rw [show zin (nI h) 0 5 = true from by rw [show (0 : Int32) = nI 0 from rfl, show (5 : Int32) = nI 5 from rfl, zin_nI (by omega) (by omega) (by omega)]; simp; omega]; decide)
    · skip
      replace h14 := zb1 h14
      refine x_aload_n dX3_takeHold_17 rfl ?_
      refine x_getR dX3_takeHold_18 fl_X3_18 (by omega) rfl rfl rfl ?_
      refine x_iload_n dX3_takeHold_21 rfl ?_
      refine x_ialdN dX3_takeHold_22 (by omega) rfl rfl hh ?_
      refine x_aload_n dX3_takeHold_23 rfl ?_
      refine x_pc (pc2 := 24) rfl ?_
      refine x_getR dX3_takeHold_24 fl_X3_15 (by omega) rfl rfl rfl ?_
      refine x_iload_n dX3_takeHold_27 rfl ?_
      refine x_ialdN dX3_takeHold_28 (by omega) rfl rfl ha ?_
      refine x_callNi dX3_takeHold_29 nn_X3_67 mt_X8_isWithin st_X8_isWithin (ct_X8_isWithin) rfl rfl (Nat.le_of_ble_eq_true rfl) ⟨(Nat.le_of_ble_eq_true rfl), (Nat.le_of_ble_eq_true rfl)⟩ ⟨rfl, rfl⟩ ⟨(Nat.le_of_ble_eq_true rfl), (Nat.le_of_ble_eq_true rfl)⟩ ?_
      refine x_if_ne (tgt := 37) dX3_takeHold_32 (by decide) (fun h32 => ?_) (fun h32 => ?_)
      · skip
        replace h32 := zb1 h32
        refine x_aload_n dX3_takeHold_37 rfl ?_
        refine x_getI dX3_takeHold_38 fl_X3_47 (by omega) rfl rfl ?_
        refine x_aload_n dX3_takeHold_41 rfl ?_
        refine x_getR dX3_takeHold_42 fl_X3_24 (by omega) rfl rfl rfl ?_
        refine x_iload_n dX3_takeHold_45 rfl ?_
        refine x_pc (pc2 := 46) rfl ?_
        refine x_ialdN dX3_takeHold_46 (by omega) rfl rfl hh ?_
        refine x_icmp_ge (tgt := 52) dX3_takeHold_47 (by decide) (fun h47 => ?_) (fun h47 => ?_)
        · skip
          refine x_aload_n dX3_takeHold_52 rfl ?_
          refine x_dup dX3_takeHold_53 rfl ?_
          refine x_getI dX3_takeHold_54 fl_X3_47 (by omega) rfl rfl ?_
          refine x_aload_n dX3_takeHold_57 rfl ?_
          refine x_getR dX3_takeHold_58 fl_X3_24 (by omega) rfl rfl rfl ?_
          refine x_pc (pc2 := 61) rfl ?_
          refine x_iload_n dX3_takeHold_61 rfl ?_
          refine x_ialdN dX3_takeHold_62 (by omega) rfl rfl hh ?_
          refine x_isub dX3_takeHold_63 ?_
          refine x_putI dX3_takeHold_64 fp_X3_47 (by omega) rfl ?_
          refine x_aload_n dX3_takeHold_67 rfl ?_
          refine x_getR dX3_takeHold_68 fl_X3_9 (by omega) rfl rfl rfl ?_
          refine x_pc (pc2 := 71) rfl ?_
          refine x_iload_n dX3_takeHold_71 rfl ?_
          refine x_aload_n dX3_takeHold_72 rfl ?_
          refine x_getR dX3_takeHold_73 fl_X3_9 (by omega) rfl rfl rfl ?_
          refine x_iload_n dX3_takeHold_76 rfl ?_
          refine x_ialdN dX3_takeHold_77 (by omega) rfl rfl ha ?_
          refine x_aload_n dX3_takeHold_78 rfl ?_
          refine x_pc (pc2 := 79) rfl ?_
          refine x_getR dX3_takeHold_79 fl_X3_21 (by omega) rfl rfl rfl ?_
          refine x_iload_n dX3_takeHold_82 rfl ?_
          refine x_ialdN dX3_takeHold_83 (by omega) rfl rfl hh ?_
          refine x_isub dX3_takeHold_84 ?_
          refine x_iconst (v := 0) dX3_takeHold_85 (by decide) ?_
          refine x_mmax dX3_takeHold_86 ml_X3_106 j_max_st j_math j_max_cd (Nat.le_of_ble_eq_true rfl) ⟨(Nat.le_of_ble_eq_true rfl), (Nat.le_of_ble_eq_true rfl)⟩ ⟨(Nat.le_of_ble_eq_true rfl), (Nat.le_of_ble_eq_true rfl)⟩ ?_
          refine x_pc (pc2 := 89) rfl ?_
          refine x_iast dX3_takeHold_89 (by omega) rfl rfl ha ?_
          refine x_iconst (v := 0) dX3_takeHold_90 (by decide) ?_
          exact x_iret dX3_takeHold_91 rfl (Nat.le_of_ble_eq_true rfl) (Nat.le_of_ble_eq_true rfl) ⟨congrArg (fun z => some (Value.int z)) (by simp [tkR, h5, h14, h32, h47]), rfl, by simp [tkI, tkR, zrn, zmax, h5, h14, h32, h47], by rfl, rfl⟩
        · skip
          refine x_iconst (v := 3) dX3_takeHold_50 (by decide) ?_
          exact x_iret dX3_takeHold_51 rfl (Nat.le_of_ble_eq_true rfl) (Nat.le_of_ble_eq_true rfl) ⟨congrArg (fun z => some (Value.int z)) (by simp [tkR, h5, h14, h32, h47]), rfl, by simp [tkI, tkR, zrn, zmax, h5, h14, h32, h47], by rfl, rfl⟩
      · skip
        replace h32 := zb0 h32
        refine x_iconst (v := 2) dX3_takeHold_35 (by decide) ?_
        exact x_iret dX3_takeHold_36 rfl (Nat.le_of_ble_eq_true rfl) (Nat.le_of_ble_eq_true rfl) ⟨congrArg (fun z => some (Value.int z)) (by simp [tkR, h5, h14, h32]), rfl, by simp [tkI, tkR, zrn, zmax, h5, h14, h32], by rfl, rfl⟩
  · skip
    replace h5 := zb0 h5
    replace h5 := zth_F ha h5
    refine x_iconst (v := 1) dX3_takeHold_8 (by decide) ?_
    exact x_iret dX3_takeHold_9 rfl (Nat.le_of_ble_eq_true rfl) (Nat.le_of_ble_eq_true rfl) ⟨congrArg (fun z => some (Value.int z)) (by simp [tkR, h5]), rfl, by simp [tkI, tkR, zrn, zmax, h5], by rfl, rfl⟩
theorem ct_X3_join {g : zG} {N : Nat} {I : zI} {L : zL} {q0 q1 : Option Nat} {a b : Nat} (hN : 58 ≤ N) (ha : a < 6) (hb : b < 6) : Ct g yX3_join mX3_join [.ref (g.2.1 + 15), .int (nI a), .int (nI b)] N I L (zRw q0 q1) (zD (some (.int (jnR I a b))) N (jnI I a b) L (zRw q0 q1)) := by
  refine Ct_of (lo0 := [some (.ref (g.2.1 + 15)), some (.int (nI a)), some (.int (nI b))]) rfl rfl rfl rfl (Nat.le_of_ble_eq_true rfl) (fun E => ?_)
  refine x_aload_n dX3_join_0 rfl ?_
  refine x_iload_n dX3_join_1 rfl ?_
  refine x_callVi dX3_join_2 ml_X3_99 mt_X3_isThere mv_X3_isThere (ct_X3_isThere (Or.inr (Or.inl rfl)) (by omega)) (by omega) rfl rfl rfl rfl (Nat.le_of_ble_eq_true rfl) ⟨(Nat.le_of_ble_eq_true rfl), (Nat.le_of_ble_eq_true rfl)⟩ ⟨rfl, rfl⟩ ⟨(Nat.le_of_ble_eq_true rfl), (Nat.le_of_ble_eq_true rfl)⟩ ?_
  refine x_if_eq (tgt := 16) dX3_join_5 (by decide) (fun h5 => ?_) (fun h5 => ?_)
  · skip
    replace h5 := zb0 h5
    replace h5 := zth_F ha h5
    refine x_iconst (v := 1) dX3_join_16 (by decide) ?_
    exact x_iret dX3_join_17 rfl (Nat.le_of_ble_eq_true rfl) (Nat.le_of_ble_eq_true rfl) ⟨congrArg (fun z => some (Value.int z)) (by simp [jnR, h5]), rfl, by simp [jnI, jnR, zrn, zmin, h5], by rfl, rfl⟩
  · skip
    replace h5 := zb1 h5
    replace h5 := zth_T ha h5
    refine x_aload_n dX3_join_8 rfl ?_
    refine x_iload_n dX3_join_9 rfl ?_
    refine x_callVi dX3_join_10 ml_X3_99 mt_X3_isThere mv_X3_isThere (ct_X3_isThere (Or.inr (Or.inl rfl)) (by omega)) (by omega) rfl rfl rfl rfl (Nat.le_of_ble_eq_true rfl) ⟨(Nat.le_of_ble_eq_true rfl), (Nat.le_of_ble_eq_true rfl)⟩ ⟨rfl, rfl⟩ ⟨(Nat.le_of_ble_eq_true rfl), (Nat.le_of_ble_eq_true rfl)⟩ ?_
    refine x_if_ne (tgt := 18) dX3_join_13 (by decide) (fun h13 => ?_) (fun h13 => ?_)
    · skip
      replace h13 := zb1 h13
      replace h13 := zth_T hb h13
      refine x_iload_n dX3_join_18 rfl ?_
      refine x_iload_n dX3_join_19 rfl ?_
      refine x_icmp_ne (tgt := 25) dX3_join_20 (by decide) (fun h20 => ?_) (fun h20 => ?_)
      · skip
        rw [nI_eq (by omega) (by omega)] at h20
        refine x_aload_n dX3_join_25 rfl ?_
        refine x_getR dX3_join_26 fl_X3_9 (by omega) rfl rfl rfl ?_
        refine x_iload_n dX3_join_29 rfl ?_
        refine x_aload_n dX3_join_30 rfl ?_
        refine x_getR dX3_join_31 fl_X3_9 (by omega) rfl rfl rfl ?_
        refine x_pc (pc2 := 34) rfl ?_
        refine x_iload_n dX3_join_34 rfl ?_
        refine x_ialdN dX3_join_35 (by omega) rfl rfl ha ?_
        refine x_aload_n dX3_join_36 rfl ?_
        refine x_getR dX3_join_37 fl_X3_9 (by omega) rfl rfl rfl ?_
        refine x_iload_n dX3_join_40 rfl ?_
        refine x_ialdN dX3_join_41 (by omega) rfl rfl hb ?_
        refine x_pc (pc2 := 42) rfl ?_
        refine x_iadd dX3_join_42 ?_
        refine x_bipush (v := 99) dX3_join_43 (by decide) ?_
        refine x_mmin dX3_join_45 ml_X3_111 j_min_st j_math j_min_cd (Nat.le_of_ble_eq_true rfl) ⟨(Nat.le_of_ble_eq_true rfl), (Nat.le_of_ble_eq_true rfl)⟩ ⟨(Nat.le_of_ble_eq_true rfl), (Nat.le_of_ble_eq_true rfl)⟩ ?_
        refine x_iast dX3_join_48 (by omega) rfl rfl ha ?_
        refine x_aload_n dX3_join_49 rfl ?_
        refine x_getR dX3_join_50 fl_X3_15 (by omega) rfl rfl rfl ?_
        refine x_pc (pc2 := 53) rfl ?_
        refine x_iload_n dX3_join_53 rfl ?_
        refine x_dup2 dX3_join_54 rfl rfl ?_
        refine x_ialdN dX3_join_55 (by omega) rfl rfl ha ?_
        refine x_aload_n dX3_join_56 rfl ?_
        refine x_getR dX3_join_57 fl_X3_15 (by omega) rfl rfl rfl ?_
        refine x_iload_n dX3_join_60 rfl ?_
        refine x_pc (pc2 := 61) rfl ?_
        refine x_ialdN dX3_join_61 (by omega) rfl rfl hb ?_
        refine x_ior dX3_join_62 ?_
        refine x_iast dX3_join_63 (by omega) rfl rfl ha ?_
        refine x_aload_n dX3_join_64 rfl ?_
        refine x_getR dX3_join_65 fl_X3_9 (by omega) rfl rfl rfl ?_
        refine x_iload_n dX3_join_68 rfl ?_
        refine x_pc (pc2 := 69) rfl ?_
        refine x_iconst (v := 0) dX3_join_69 (by decide) ?_
        refine x_iast dX3_join_70 (by omega) rfl rfl hb ?_
        refine x_iconst (v := 0) dX3_join_71 (by decide) ?_
        exact x_iret dX3_join_72 rfl (Nat.le_of_ble_eq_true rfl) (Nat.le_of_ble_eq_true rfl) ⟨congrArg (fun z => some (Value.int z)) (by simp [jnR, h5, h13, h20]), rfl, by simp [jnI, jnR, zrn, zmin, h5, h13, h20], by rfl, rfl⟩
      · skip
        rw [nI_eq (by omega) (by omega)] at h20
        refine x_iconst (v := 4) dX3_join_23 (by decide) ?_
        exact x_iret dX3_join_24 rfl (Nat.le_of_ble_eq_true rfl) (Nat.le_of_ble_eq_true rfl) ⟨congrArg (fun z => some (Value.int z)) (by simp [jnR, h5, h13, h20]), rfl, by simp [jnI, jnR, zrn, zmin, h5, h13, h20], by rfl, rfl⟩
    · skip
      replace h13 := zb0 h13
      replace h13 := zth_F hb h13
      refine x_iconst (v := 1) dX3_join_16 (by decide) ?_
      exact x_iret dX3_join_17 rfl (Nat.le_of_ble_eq_true rfl) (Nat.le_of_ble_eq_true rfl) ⟨congrArg (fun z => some (Value.int z)) (by simp [jnR, h5, h13]), rfl, by simp [jnI, jnR, zrn, zmin, h5, h13], by rfl, rfl⟩
theorem ct_X3_sitBy {g : zG} {N : Nat} {I : zI} {L : zL} {q0 q1 : Option Nat} {a : Nat} (hN : 58 ≤ N) (ha : a < 6) : Ct g yX3_sitBy mX3_sitBy [.ref (g.2.1 + 15), .int (nI a)] N I L (zRw q0 q1) (zD (some (.int (siR I a))) N (siI I a) L (zRw q0 q1)) := by
  refine Ct_of (lo0 := [some (.ref (g.2.1 + 15)), some (.int (nI a))]) rfl rfl rfl rfl (Nat.le_of_ble_eq_true rfl) (fun E => ?_)
  refine x_aload_n dX3_sitBy_0 rfl ?_
  refine x_iload_n dX3_sitBy_1 rfl ?_
  refine x_callVi dX3_sitBy_2 ml_X3_99 mt_X3_isThere mv_X3_isThere (ct_X3_isThere (Or.inr (Or.inl rfl)) (by omega)) (by omega) rfl rfl rfl rfl (Nat.le_of_ble_eq_true rfl) ⟨(Nat.le_of_ble_eq_true rfl), (Nat.le_of_ble_eq_true rfl)⟩ ⟨rfl, rfl⟩ ⟨(Nat.le_of_ble_eq_true rfl), (Nat.le_of_ble_eq_true rfl)⟩ ?_
  refine x_if_ne (tgt := 10) dX3_sitBy_5 (by decide) (fun h5 => ?_) (fun h5 => ?_)
  · skip
    replace h5 := zb1 h5
    replace h5 := zth_T ha h5
    refine x_aload_n dX3_sitBy_10 rfl ?_
    refine x_getI dX3_sitBy_11 fl_X3_47 (by omega) rfl rfl ?_
    refine x_bipush (v := 10) dX3_sitBy_14 (by decide) ?_
    refine x_icmp_ge (tgt := 21) dX3_sitBy_16 (by decide) (fun h16 => ?_) (fun h16 => ?_)
    · skip
      refine x_aload_n dX3_sitBy_21 rfl ?_
      refine x_dup dX3_sitBy_22 rfl ?_
      refine x_getI dX3_sitBy_23 fl_X3_47 (by omega) rfl rfl ?_
      refine x_bipush (v := 10) dX3_sitBy_26 (by decide) ?_
      refine x_isub dX3_sitBy_28 ?_
      refine x_pc (pc2 := 29) rfl ?_
      refine x_putI dX3_sitBy_29 fp_X3_47 (by omega) rfl ?_
      refine x_aload_n dX3_sitBy_32 rfl ?_
      refine x_getR dX3_sitBy_33 fl_X3_9 (by omega) rfl rfl rfl ?_
      refine x_iload_n dX3_sitBy_36 rfl ?_
      refine x_aload_n dX3_sitBy_37 rfl ?_
      refine x_getR dX3_sitBy_38 fl_X3_9 (by omega) rfl rfl rfl ?_
      refine x_pc (pc2 := 41) rfl ?_
      refine x_iload_n dX3_sitBy_41 rfl ?_
      refine x_ialdN dX3_sitBy_42 (by omega) rfl rfl ha ?_
      refine x_iconst (v := 2) dX3_sitBy_43 (by decide) ?_
      refine x_idiv dX3_sitBy_44 (by decide) ?_
      refine x_iconst (v := 1) dX3_sitBy_45 (by decide) ?_
      refine x_mmax dX3_sitBy_46 ml_X3_106 j_max_st j_math j_max_cd (Nat.le_of_ble_eq_true rfl) ⟨(Nat.le_of_ble_eq_true rfl), (Nat.le_of_ble_eq_true rfl)⟩ ⟨(Nat.le_of_ble_eq_true rfl), (Nat.le_of_ble_eq_true rfl)⟩ ?_
      refine x_pc (pc2 := 49) rfl ?_
      refine x_iast dX3_sitBy_49 (by omega) rfl rfl ha ?_
      refine x_iconst (v := 0) dX3_sitBy_50 (by decide) ?_
      exact x_iret dX3_sitBy_51 rfl (Nat.le_of_ble_eq_true rfl) (Nat.le_of_ble_eq_true rfl) ⟨congrArg (fun z => some (Value.int z)) (by simp [siR, h5, h16]), rfl, by simp [siI, siR, zrn, zmax, h5, h16], by rfl, rfl⟩
    · skip
      refine x_iconst (v := 3) dX3_sitBy_19 (by decide) ?_
      exact x_iret dX3_sitBy_20 rfl (Nat.le_of_ble_eq_true rfl) (Nat.le_of_ble_eq_true rfl) ⟨congrArg (fun z => some (Value.int z)) (by simp [siR, h5, h16]), rfl, by simp [siI, siR, zrn, zmax, h5, h16], by rfl, rfl⟩
  · skip
    replace h5 := zb0 h5
    replace h5 := zth_F ha h5
    refine x_iconst (v := 1) dX3_sitBy_8 (by decide) ?_
    exact x_iret dX3_sitBy_9 rfl (Nat.le_of_ble_eq_true rfl) (Nat.le_of_ble_eq_true rfl) ⟨congrArg (fun z => some (Value.int z)) (by simp [siR, h5]), rfl, by simp [siI, siR, zrn, zmax, h5], by rfl, rfl⟩
theorem ct_X3_rest {g : zG} {N : Nat} {I : zI} {L : zL} {q0 q1 : Option Nat} (hN : 58 ≤ N) : Ct g yX3_rest mX3_rest [.ref (g.2.1 + 15)] N I L (zRw q0 q1) (zD (some (.int (reR I))) N (reI I) L (zRw q0 q1)) := by
  refine Ct_of (lo0 := [some (.ref (g.2.1 + 15))]) rfl rfl rfl rfl (Nat.le_of_ble_eq_true rfl) (fun E => ?_)
  refine x_aload_n dX3_rest_0 rfl ?_
  refine x_getI dX3_rest_1 fl_X3_47 (by omega) rfl rfl ?_
  refine x_bipush (v := 99) dX3_rest_4 (by decide) ?_
  refine x_icmp_ne (tgt := 11) dX3_rest_6 (by decide) (fun h6 => ?_) (fun h6 => ?_)
  · skip
    refine x_aload_n dX3_rest_11 rfl ?_
    refine x_aload_n dX3_rest_12 rfl ?_
    refine x_getI dX3_rest_13 fl_X3_47 (by omega) rfl rfl ?_
    refine x_bipush (v := 20) dX3_rest_16 (by decide) ?_
    refine x_iadd dX3_rest_18 ?_
    refine x_pc (pc2 := 19) rfl ?_
    refine x_bipush (v := 99) dX3_rest_19 (by decide) ?_
    refine x_mmin dX3_rest_21 ml_X3_111 j_min_st j_math j_min_cd (Nat.le_of_ble_eq_true rfl) ⟨(Nat.le_of_ble_eq_true rfl), (Nat.le_of_ble_eq_true rfl)⟩ ⟨(Nat.le_of_ble_eq_true rfl), (Nat.le_of_ble_eq_true rfl)⟩ ?_
    refine x_putI dX3_rest_24 fp_X3_47 (by omega) rfl ?_
    refine x_iconst (v := 0) dX3_rest_27 (by decide) ?_
    exact x_iret dX3_rest_28 rfl (Nat.le_of_ble_eq_true rfl) (Nat.le_of_ble_eq_true rfl) ⟨congrArg (fun z => some (Value.int z)) (by simp [reR, h6]), rfl, by simp [reI, reR, zmin, h6], by rfl, rfl⟩
  · skip
    refine x_iconst (v := 5) dX3_rest_9 (by decide) ?_
    exact x_iret dX3_rest_10 rfl (Nat.le_of_ble_eq_true rfl) (Nat.le_of_ble_eq_true rfl) ⟨congrArg (fun z => some (Value.int z)) (by simp [reR, h6]), rfl, by simp [reI, reR, zmin, h6], by rfl, rfl⟩
theorem ct_X3_passHour {g : zG} {N : Nat} {I : zI} {L : zL} {q0 q1 : Option Nat} (hN : 58 ≤ N) : Ct g yX3_passHour mX3_passHour [.ref (g.2.1 + 15)] N I L (zRw q0 q1) (zD (some (.int (phR I))) N (phI I) L (zRw q0 q1)) := by
  refine Ct_of (lo0 := [some (.ref (g.2.1 + 15)), none]) rfl rfl rfl rfl (Nat.le_of_ble_eq_true rfl) (fun E => ?_)
  refine x_aload_n dX3_passHour_0 rfl ?_
  refine x_getI dX3_passHour_1 fl_X3_50 (by omega) rfl rfl ?_
  refine x_bipush (v := 99) dX3_passHour_4 (by decide) ?_
  refine x_icmp_ne (tgt := 12) dX3_passHour_6 (by decide) (fun h6 => ?_) (fun h6 => ?_)
  · skip
    refine x_aload_n dX3_passHour_12 rfl ?_
    refine x_dup dX3_passHour_13 rfl ?_
    refine x_getI dX3_passHour_14 fl_X3_50 (by omega) rfl rfl ?_
    refine x_iconst (v := 1) dX3_passHour_17 (by decide) ?_
    refine x_iadd dX3_passHour_18 ?_
    refine x_pc (pc2 := 19) rfl ?_
    refine x_putI dX3_passHour_19 fp_X3_50 (by omega) rfl ?_
    refine x_aload_n dX3_passHour_22 rfl ?_
    refine x_aload_n dX3_passHour_23 rfl ?_
    refine x_getI dX3_passHour_24 fl_X3_47 (by omega) rfl rfl ?_
    refine x_iconst (v := 5) dX3_passHour_27 (by decide) ?_
    refine x_iadd dX3_passHour_28 ?_
    refine x_pc (pc2 := 29) rfl ?_
    refine x_bipush (v := 99) dX3_passHour_29 (by decide) ?_
    refine x_mmin dX3_passHour_31 ml_X3_111 j_min_st j_math j_min_cd (Nat.le_of_ble_eq_true rfl) ⟨(Nat.le_of_ble_eq_true rfl), (Nat.le_of_ble_eq_true rfl)⟩ ⟨(Nat.le_of_ble_eq_true rfl), (Nat.le_of_ble_eq_true rfl)⟩ ?_
    refine x_putI dX3_passHour_34 fp_X3_47 (by omega) rfl ?_
    refine x_iconst (v := 0) dX3_passHour_37 (by decide) ?_
    refine x_istore_n (lo2 := [_, _]) dX3_passHour_38 (by decide) rfl rfl ?_
    refine x_loop (inv := fun i => True) (fun i => [some (.ref (g.2.1 + 15)), some (.int (nI i))]) (fun i => zrow (zu (zu I 15 12 (I 15 12 + 1)) 15 11 (zmin (I 15 11 + 5) 99)) 16 (zpre i (fun j => ph3 (I 16 j)) (I 16))) (fun i => L) 0 6 (by omega) (by trivial) (by rfl) (by rw [zpre_0, show I 16 = (zu (zu I 15 12 (I 15 12 + 1)) 15 11 (zmin (I 15 11 + 5) 99)) 16 from by rw [zrn _ _ (by decide), zrn _ _ (by decide)], zrow_same]; simp [zmin, zu]) (by rfl) (fun i hloi hhii hinvi Ki => ?_) (fun hinvi => ?_)
    · skip
      refine x_iload_n dX3_passHour_39 rfl ?_
      refine x_bipush (v := 6) dX3_passHour_40 (by decide) ?_
      refine x_icmp_ge (tgt := 79) dX3_passHour_42 (by decide) (fun h42 => ?_) (fun h42 => ?_)
      · skip
        exact absurd h42 (nI_ge (b := 6) hhii (by decide))
      · skip
        refine x_aload_n dX3_passHour_45 rfl ?_
        refine x_getR dX3_passHour_46 fl_X3_9 (by omega) rfl rfl rfl ?_
        refine x_iload_n dX3_passHour_49 rfl ?_
        refine x_ialdN dX3_passHour_50 (by omega) rfl rfl (by omega) ?_
        refine x_if_le (tgt := 73) dX3_passHour_51 (by decide) (fun h51 => ?_) (fun h51 => ?_)
        · skip
          refine x_iincN (lo2 := [_, _]) dX3_passHour_73 rfl rfl rfl ?_
          refine x_goto (tgt := 39) dX3_passHour_76 (by decide) ?_
          exact x_eq (by rfl) (by first | (rw [zrow_k, zpre_at] at h51; rw [zpre_skip]; simp [ph3, h51]; done) | (rw [zrow_k, zpre_at] at h51; rw [zu_zrow, zrow_k, zpre_at, ← zpre_s]; congr 2; simp [ph3, h51, zmin])) (by rfl) (Ki (by trivial))
        · skip
          refine x_aload_n dX3_passHour_54 rfl ?_
          refine x_getR dX3_passHour_55 fl_X3_9 (by omega) rfl rfl rfl ?_
          refine x_iload_n dX3_passHour_58 rfl ?_
          refine x_aload_n dX3_passHour_59 rfl ?_
          refine x_getR dX3_passHour_60 fl_X3_9 (by omega) rfl rfl rfl ?_
          refine x_pc (pc2 := 63) rfl ?_
          refine x_iload_n dX3_passHour_63 rfl ?_
          refine x_ialdN dX3_passHour_64 (by omega) rfl rfl (by omega) ?_
          refine x_iconst (v := 3) dX3_passHour_65 (by decide) ?_
          refine x_iadd dX3_passHour_66 ?_
          refine x_bipush (v := 99) dX3_passHour_67 (by decide) ?_
          refine x_mmin dX3_passHour_69 ml_X3_111 j_min_st j_math j_min_cd (Nat.le_of_ble_eq_true rfl) ⟨(Nat.le_of_ble_eq_true rfl), (Nat.le_of_ble_eq_true rfl)⟩ ⟨(Nat.le_of_ble_eq_true rfl), (Nat.le_of_ble_eq_true rfl)⟩ ?_
          refine x_pc (pc2 := 72) rfl ?_
          refine x_iast dX3_passHour_72 (by omega) rfl rfl hhii ?_
          refine x_iincN (lo2 := [_, _]) dX3_passHour_73 rfl rfl rfl ?_
          refine x_goto (tgt := 39) dX3_passHour_76 (by decide) ?_
          exact x_eq (by rfl) (by first | (rw [zrow_k, zpre_at] at h51; rw [zpre_skip]; simp [ph3, h51]; done) | (rw [zrow_k, zpre_at] at h51; rw [zu_zrow, zrow_k, zpre_at, ← zpre_s]; congr 2; simp [ph3, h51, zmin])) (by rfl) (Ki (by trivial))
    · skip
      refine x_iload_n dX3_passHour_39 rfl ?_
      refine x_bipush (v := 6) dX3_passHour_40 (by decide) ?_
      refine x_icmp_ge (tgt := 79) dX3_passHour_42 (by decide) (fun h42 => ?_) (fun h42 => ?_)
      · skip
        refine x_iconst (v := 0) dX3_passHour_79 (by decide) ?_
        exact x_iret dX3_passHour_80 rfl (Nat.le_of_ble_eq_true rfl) (Nat.le_of_ble_eq_true rfl) ⟨congrArg (fun z => some (Value.int z)) (by simp [phR, h6]), rfl, by simp [phI, phR, h6], by rfl, rfl⟩
      · skip
        exact absurd (nI_le (b := 6) (Nat.le_refl 6) (by decide)) h42
  · skip
    refine x_bipush (v := 6) dX3_passHour_9 (by decide) ?_
    exact x_iret dX3_passHour_11 rfl (Nat.le_of_ble_eq_true rfl) (Nat.le_of_ble_eq_true rfl) ⟨congrArg (fun z => some (Value.int z)) (by simp [phR, h6]), rfl, by simp [phI, phR, h6], by rfl, rfl⟩
theorem ct_X3_attempt_0 {g : zG} {N : Nat} {I : zI} {L : zL} {q0 q1 : Option Nat} {a b : Nat} (hN : 58 ≤ N) (h0 : I 26 0 = nI 0) (h1 : I 26 1 = nI a) (h2 : I 26 2 = nI b) (ha : a < 6) (hb : b < 6) : Ct g yX3_attempt mX3_attempt [.ref (g.2.1 + 15), .ref (g.2.1 + 26)] N I L (zRw q0 q1) (zD (some (.int (tkR I a b))) N (tkI I a b) L (zRw q0 q1)) := by
  refine Ct_of (lo0 := [some (.ref (g.2.1 + 15)), some (.ref (g.2.1 + 26))]) rfl rfl rfl rfl (Nat.le_of_ble_eq_true rfl) (fun E => ?_)
  refine x_aload_n dX3_attempt_0 rfl ?_
  refine x_getI dX3_attempt_1 fl_X3_71 (by omega) rfl rfl ?_
  rw [h0]
  refine x_tableIn (off := 32) (tgt := 36) dX3_attempt_4 (by decide) (by decide) rfl (by decide) ?_
  refine x_aload_n dX3_attempt_36 rfl ?_
  refine x_aload_n dX3_attempt_37 rfl ?_
  refine x_pc (pc2 := 38) rfl ?_
  refine x_getI dX3_attempt_38 fl_X3_76 (by omega) rfl rfl ?_
  refine x_aload_n dX3_attempt_41 rfl ?_
  refine x_getI dX3_attempt_42 fl_X3_79 (by omega) rfl rfl ?_
  rw [h1, h2]
  refine x_callVi dX3_attempt_45 ml_X3_82 mt_X3_takeHold mv_X3_takeHold (ct_X3_takeHold hN ha hb) (by omega) rfl rfl rfl rfl (Nat.le_of_ble_eq_true rfl) ⟨(Nat.le_of_ble_eq_true rfl), (Nat.le_of_ble_eq_true rfl)⟩ ⟨rfl, rfl⟩ ⟨(Nat.le_of_ble_eq_true rfl), (Nat.le_of_ble_eq_true rfl)⟩ ?_
  exact x_iret dX3_attempt_48 rfl (Nat.le_of_ble_eq_true rfl) (Nat.le_of_ble_eq_true rfl) ⟨congrArg (fun z => some (Value.int z)) (by rfl), rfl, by rfl, by rfl, rfl⟩
theorem ct_X3_attempt_1 {g : zG} {N : Nat} {I : zI} {L : zL} {q0 q1 : Option Nat} {a b : Nat} (hN : 58 ≤ N) (h0 : I 26 0 = nI 1) (h1 : I 26 1 = nI a) (h2 : I 26 2 = nI b) (ha : a < 6) (hb : b < 6) : Ct g yX3_attempt mX3_attempt [.ref (g.2.1 + 15), .ref (g.2.1 + 26)] N I L (zRw q0 q1) (zD (some (.int (jnR I a b))) N (jnI I a b) L (zRw q0 q1)) := by
  refine Ct_of (lo0 := [some (.ref (g.2.1 + 15)), some (.ref (g.2.1 + 26))]) rfl rfl rfl rfl (Nat.le_of_ble_eq_true rfl) (fun E => ?_)
  refine x_aload_n dX3_attempt_0 rfl ?_
  refine x_getI dX3_attempt_1 fl_X3_71 (by omega) rfl rfl ?_
  rw [h0]
  refine x_tableIn (off := 45) (tgt := 49) dX3_attempt_4 (by decide) (by decide) rfl (by decide) ?_
  refine x_aload_n dX3_attempt_49 rfl ?_
  refine x_aload_n dX3_attempt_50 rfl ?_
  refine x_pc (pc2 := 51) rfl ?_
  refine x_getI dX3_attempt_51 fl_X3_76 (by omega) rfl rfl ?_
  refine x_aload_n dX3_attempt_54 rfl ?_
  refine x_getI dX3_attempt_55 fl_X3_79 (by omega) rfl rfl ?_
  rw [h1, h2]
  refine x_callVi dX3_attempt_58 ml_X3_86 mt_X3_join mv_X3_join (ct_X3_join hN ha hb) (by omega) rfl rfl rfl rfl (Nat.le_of_ble_eq_true rfl) ⟨(Nat.le_of_ble_eq_true rfl), (Nat.le_of_ble_eq_true rfl)⟩ ⟨rfl, rfl⟩ ⟨(Nat.le_of_ble_eq_true rfl), (Nat.le_of_ble_eq_true rfl)⟩ ?_
  exact x_iret dX3_attempt_61 rfl (Nat.le_of_ble_eq_true rfl) (Nat.le_of_ble_eq_true rfl) ⟨congrArg (fun z => some (Value.int z)) (by rfl), rfl, by rfl, by rfl, rfl⟩
theorem ct_X3_attempt_2 {g : zG} {N : Nat} {I : zI} {L : zL} {q0 q1 : Option Nat} {a : Nat} (hN : 58 ≤ N) (h0 : I 26 0 = nI 2) (h1 : I 26 1 = nI a) (ha : a < 6) : Ct g yX3_attempt mX3_attempt [.ref (g.2.1 + 15), .ref (g.2.1 + 26)] N I L (zRw q0 q1) (zD (some (.int (siR I a))) N (siI I a) L (zRw q0 q1)) := by
  refine Ct_of (lo0 := [some (.ref (g.2.1 + 15)), some (.ref (g.2.1 + 26))]) rfl rfl rfl rfl (Nat.le_of_ble_eq_true rfl) (fun E => ?_)
  refine x_aload_n dX3_attempt_0 rfl ?_
  refine x_getI dX3_attempt_1 fl_X3_71 (by omega) rfl rfl ?_
  rw [h0]
  refine x_tableIn (off := 58) (tgt := 62) dX3_attempt_4 (by decide) (by decide) rfl (by decide) ?_
  refine x_aload_n dX3_attempt_62 rfl ?_
  refine x_aload_n dX3_attempt_63 rfl ?_
  refine x_pc (pc2 := 64) rfl ?_
  refine x_getI dX3_attempt_64 fl_X3_76 (by omega) rfl rfl ?_
  rw [h1]
  refine x_callVi dX3_attempt_67 ml_X3_89 mt_X3_sitBy mv_X3_sitBy (ct_X3_sitBy hN ha) (by omega) rfl rfl rfl rfl (Nat.le_of_ble_eq_true rfl) ⟨(Nat.le_of_ble_eq_true rfl), (Nat.le_of_ble_eq_true rfl)⟩ ⟨rfl, rfl⟩ ⟨(Nat.le_of_ble_eq_true rfl), (Nat.le_of_ble_eq_true rfl)⟩ ?_
  exact x_iret dX3_attempt_70 rfl (Nat.le_of_ble_eq_true rfl) (Nat.le_of_ble_eq_true rfl) ⟨congrArg (fun z => some (Value.int z)) (by rfl), rfl, by rfl, by rfl, rfl⟩
theorem ct_X3_attempt_3 {g : zG} {N : Nat} {I : zI} {L : zL} {q0 q1 : Option Nat} (hN : 58 ≤ N) (h0 : I 26 0 = nI 3) : Ct g yX3_attempt mX3_attempt [.ref (g.2.1 + 15), .ref (g.2.1 + 26)] N I L (zRw q0 q1) (zD (some (.int (reR I))) N (reI I) L (zRw q0 q1)) := by
  refine Ct_of (lo0 := [some (.ref (g.2.1 + 15)), some (.ref (g.2.1 + 26))]) rfl rfl rfl rfl (Nat.le_of_ble_eq_true rfl) (fun E => ?_)
  refine x_aload_n dX3_attempt_0 rfl ?_
  refine x_getI dX3_attempt_1 fl_X3_71 (by omega) rfl rfl ?_
  rw [h0]
  refine x_tableIn (off := 67) (tgt := 71) dX3_attempt_4 (by decide) (by decide) rfl (by decide) ?_
  refine x_aload_n dX3_attempt_71 rfl ?_
  refine x_callVi dX3_attempt_72 ml_X3_92 mt_X3_rest mv_X3_rest (ct_X3_rest hN) (by omega) rfl rfl rfl rfl (Nat.le_of_ble_eq_true rfl) ⟨(Nat.le_of_ble_eq_true rfl), (Nat.le_of_ble_eq_true rfl)⟩ ⟨rfl, rfl⟩ ⟨(Nat.le_of_ble_eq_true rfl), (Nat.le_of_ble_eq_true rfl)⟩ ?_
  refine x_pc (pc2 := 75) rfl ?_
  exact x_iret dX3_attempt_75 rfl (Nat.le_of_ble_eq_true rfl) (Nat.le_of_ble_eq_true rfl) ⟨congrArg (fun z => some (Value.int z)) (by rfl), rfl, by rfl, by rfl, rfl⟩
theorem ct_X3_attempt_4 {g : zG} {N : Nat} {I : zI} {L : zL} {q0 q1 : Option Nat} (hN : 58 ≤ N) (h0 : I 26 0 = nI 4) : Ct g yX3_attempt mX3_attempt [.ref (g.2.1 + 15), .ref (g.2.1 + 26)] N I L (zRw q0 q1) (zD (some (.int (phR I))) N (phI I) L (zRw q0 q1)) := by
  refine Ct_of (lo0 := [some (.ref (g.2.1 + 15)), some (.ref (g.2.1 + 26))]) rfl rfl rfl rfl (Nat.le_of_ble_eq_true rfl) (fun E => ?_)
  refine x_aload_n dX3_attempt_0 rfl ?_
  refine x_getI dX3_attempt_1 fl_X3_71 (by omega) rfl rfl ?_
  rw [h0]
  refine x_tableOut (tgt := 76) dX3_attempt_4 (by decide) (by decide) ?_
  refine x_aload_n dX3_attempt_76 rfl ?_
  refine x_callVi dX3_attempt_77 ml_X3_96 mt_X3_passHour mv_X3_passHour (ct_X3_passHour hN) (by omega) rfl rfl rfl rfl (Nat.le_of_ble_eq_true rfl) ⟨(Nat.le_of_ble_eq_true rfl), (Nat.le_of_ble_eq_true rfl)⟩ ⟨rfl, rfl⟩ ⟨(Nat.le_of_ble_eq_true rfl), (Nat.le_of_ble_eq_true rfl)⟩ ?_
  refine x_pc (pc2 := 80) rfl ?_
  exact x_iret dX3_attempt_80 rfl (Nat.le_of_ble_eq_true rfl) (Nat.le_of_ble_eq_true rfl) ⟨congrArg (fun z => some (Value.int z)) (by rfl), rfl, by rfl, by rfl, rfl⟩
theorem ct_X3_attempt {g : zG} {N : Nat} {I : zI} {L : zL} {q0 q1 : Option Nat} {k a b : Nat} (hN : 58 ≤ N) (hk : k < 5) (h0 : I 26 0 = nI k) (h1 : I 26 1 = nI a) (h2 : k ≤ 1 → I 26 2 = nI b) (ha : a < 6) (hb : k ≤ 1 → b < 6) : Ct g yX3_attempt mX3_attempt [.ref (g.2.1 + 15), .ref (g.2.1 + 26)] N I L (zRw q0 q1) (zD (some (.int (atR I k a b))) N (atI I k a b) L (zRw q0 q1)) := by
  rcases (show k = 0 ∨ k = 1 ∨ k = 2 ∨ k = 3 ∨ k = 4 by omega) with rfl | rfl | rfl | rfl | rfl
  · rw [show atR I 0 a b = tkR I a b by simp [atR], show atI I 0 a b = tkI I a b by simp [atI]]
    exact ct_X3_attempt_0 hN h0 h1 (h2 (by omega)) ha (hb (by omega))
  · rw [show atR I 1 a b = jnR I a b by simp [atR], show atI I 1 a b = jnI I a b by simp [atI]]
    exact ct_X3_attempt_1 hN h0 h1 (h2 (by omega)) ha (hb (by omega))
  · rw [show atR I 2 a b = siR I a by simp [atR], show atI I 2 a b = siI I a by simp [atI]]
    exact ct_X3_attempt_2 hN h0 h1 ha
  · rw [show atR I 3 a b = reR I by simp [atR], show atI I 3 a b = reI I by simp [atI]]
    exact ct_X3_attempt_3 hN h0
  · rw [show atR I 4 a b = phR I by simp [atR], show atI I 4 a b = phI I by simp [atI]]
    exact ct_X3_attempt_4 hN h0
theorem ct_X8_copyRow {g : zG} {N : Nat} {I : zI} {L : zL} {R : zR} {k0 k1 n0 : Nat} (h0 : k0 < N) (h1 : k1 < N) (t0 : zt k0 = (0, n0)) (t1 : zt k1 = (0, n0)) : Ct g yX8_copyRow mX8_copyRow [.ref (g.2.1 + k0), .ref (g.2.1 + k1)] N I L R (zD none N (zrow I k1 (I k0)) L R) := by
  refine Ct_of (lo0 := [some (.ref (g.2.1 + k0)), some (.ref (g.2.1 + k1))]) rfl rfl rfl rfl (Nat.le_of_ble_eq_true rfl) (fun E => ?_)
  refine x_aload_n dX8_copyRow_0 rfl ?_
  refine x_iconst (v := 0) dX8_copyRow_1 (by decide) ?_
  refine x_aload_n dX8_copyRow_2 rfl ?_
  refine x_iconst (v := 0) dX8_copyRow_3 (by decide) ?_
  refine x_aload_n dX8_copyRow_4 rfl ?_
  refine x_pc (pc2 := 5) rfl ?_
  refine x_alen (v := nI n0) dX8_copyRow_5 h0 t0 rfl ?_
  refine x_aload_n dX8_copyRow_6 rfl ?_
  refine x_alen (v := nI n0) dX8_copyRow_7 h1 t1 rfl ?_
  refine x_mmin dX8_copyRow_8 ml_X8_263 j_min_st j_math j_min_cd (Nat.le_of_ble_eq_true rfl) ⟨(Nat.le_of_ble_eq_true rfl), (Nat.le_of_ble_eq_true rfl)⟩ ⟨(Nat.le_of_ble_eq_true rfl), (Nat.le_of_ble_eq_true rfl)⟩ ?_
  refine x_copyR dX8_copyRow_11 ml_X8_268 j_cp_na j_cp_st j_cp_in h0 h1 t0 t1 (by simp) (Nat.le_of_ble_eq_true rfl) ⟨(Nat.le_of_ble_eq_true rfl), (Nat.le_of_ble_eq_true rfl)⟩ ?_
  exact x_vret dX8_copyRow_14 rfl (Nat.le_of_ble_eq_true rfl) (Nat.le_of_ble_eq_true rfl) ⟨rfl, rfl, by rfl, by rfl, rfl⟩
theorem ct_X3_become_15_1 {g : zG} {N : Nat} {I : zI} {L : zL} {q0 q1 : Option Nat} (hN : 58 ≤ N) (hz : ∀ i, i < 8 → narrow .boolean (.int (I 11 i)) = .int (I 11 i)) : Ct g yX3_become mX3_become [.ref (g.2.1 + 15), .ref (g.2.1 + 1)] N I L (zRw q0 q1) (zD none N (zbec I 15 1) L (zRw q0 q1)) := by
  refine Ct_of (lo0 := [some (.ref (g.2.1 + 15)), some (.ref (g.2.1 + 1)), none]) rfl rfl rfl rfl (Nat.le_of_ble_eq_true rfl) (fun E => ?_)
  refine x_aload_n dX3_become_0 rfl ?_
  refine x_getR dX3_become_1 fl_X3_9 (by omega) rfl rfl rfl ?_
  refine x_aload_n dX3_become_4 rfl ?_
  refine x_getR dX3_become_5 fl_X3_9 (by omega) rfl rfl rfl ?_
  refine x_callNv dX3_become_8 nn_X3_53 mt_X8_copyRow st_X8_copyRow (ct_X8_copyRow (by omega) (by omega) rfl rfl) rfl rfl (Nat.le_of_ble_eq_true rfl) ⟨(Nat.le_of_ble_eq_true rfl), (Nat.le_of_ble_eq_true rfl)⟩ ⟨rfl, rfl⟩ ⟨(Nat.le_of_ble_eq_true rfl), (Nat.le_of_ble_eq_true rfl)⟩ ?_
  refine x_pc (pc2 := 11) rfl ?_
  refine x_aload_n dX3_become_11 rfl ?_
  refine x_getR dX3_become_12 fl_X3_15 (by omega) rfl rfl rfl ?_
  refine x_aload_n dX3_become_15 rfl ?_
  refine x_getR dX3_become_16 fl_X3_15 (by omega) rfl rfl rfl ?_
  refine x_callNv dX3_become_19 nn_X3_53 mt_X8_copyRow st_X8_copyRow (ct_X8_copyRow (by omega) (by omega) rfl rfl) rfl rfl (Nat.le_of_ble_eq_true rfl) ⟨(Nat.le_of_ble_eq_true rfl), (Nat.le_of_ble_eq_true rfl)⟩ ⟨rfl, rfl⟩ ⟨(Nat.le_of_ble_eq_true rfl), (Nat.le_of_ble_eq_true rfl)⟩ ?_
  refine x_aload_n dX3_become_22 rfl ?_
  refine x_pc (pc2 := 23) rfl ?_
  refine x_getR dX3_become_23 fl_X3_18 (by omega) rfl rfl rfl ?_
  refine x_aload_n dX3_become_26 rfl ?_
  refine x_getR dX3_become_27 fl_X3_18 (by omega) rfl rfl rfl ?_
  refine x_callNv dX3_become_30 nn_X3_53 mt_X8_copyRow st_X8_copyRow (ct_X8_copyRow (by omega) (by omega) rfl rfl) rfl rfl (Nat.le_of_ble_eq_true rfl) ⟨(Nat.le_of_ble_eq_true rfl), (Nat.le_of_ble_eq_true rfl)⟩ ⟨rfl, rfl⟩ ⟨(Nat.le_of_ble_eq_true rfl), (Nat.le_of_ble_eq_true rfl)⟩ ?_
  refine x_aload_n dX3_become_33 rfl ?_
  refine x_getR dX3_become_34 fl_X3_21 (by omega) rfl rfl rfl ?_
  refine x_pc (pc2 := 37) rfl ?_
  refine x_aload_n dX3_become_37 rfl ?_
  refine x_getR dX3_become_38 fl_X3_21 (by omega) rfl rfl rfl ?_
  refine x_callNv dX3_become_41 nn_X3_53 mt_X8_copyRow st_X8_copyRow (ct_X8_copyRow (by omega) (by omega) rfl rfl) rfl rfl (Nat.le_of_ble_eq_true rfl) ⟨(Nat.le_of_ble_eq_true rfl), (Nat.le_of_ble_eq_true rfl)⟩ ⟨rfl, rfl⟩ ⟨(Nat.le_of_ble_eq_true rfl), (Nat.le_of_ble_eq_true rfl)⟩ ?_
  refine x_aload_n dX3_become_44 rfl ?_
  refine x_getR dX3_become_45 fl_X3_24 (by omega) rfl rfl rfl ?_
  refine x_aload_n dX3_become_48 rfl ?_
  refine x_pc (pc2 := 49) rfl ?_
  refine x_getR dX3_become_49 fl_X3_24 (by omega) rfl rfl rfl ?_
  refine x_callNv dX3_become_52 nn_X3_53 mt_X8_copyRow st_X8_copyRow (ct_X8_copyRow (by omega) (by omega) rfl rfl) rfl rfl (Nat.le_of_ble_eq_true rfl) ⟨(Nat.le_of_ble_eq_true rfl), (Nat.le_of_ble_eq_true rfl)⟩ ⟨rfl, rfl⟩ ⟨(Nat.le_of_ble_eq_true rfl), (Nat.le_of_ble_eq_true rfl)⟩ ?_
  refine x_aload_n dX3_become_55 rfl ?_
  refine x_getR dX3_become_56 fl_X3_27 (by omega) rfl rfl rfl ?_
  refine x_aload_n dX3_become_59 rfl ?_
  refine x_getR dX3_become_60 fl_X3_27 (by omega) rfl rfl rfl ?_
  refine x_pc (pc2 := 63) rfl ?_
  refine x_callNv dX3_become_63 nn_X3_53 mt_X8_copyRow st_X8_copyRow (ct_X8_copyRow (by omega) (by omega) rfl rfl) rfl rfl (Nat.le_of_ble_eq_true rfl) ⟨(Nat.le_of_ble_eq_true rfl), (Nat.le_of_ble_eq_true rfl)⟩ ⟨rfl, rfl⟩ ⟨(Nat.le_of_ble_eq_true rfl), (Nat.le_of_ble_eq_true rfl)⟩ ?_
  refine x_aload_n dX3_become_66 rfl ?_
  refine x_getR dX3_become_67 fl_X3_30 (by omega) rfl rfl rfl ?_
  refine x_aload_n dX3_become_70 rfl ?_
  refine x_getR dX3_become_71 fl_X3_30 (by omega) rfl rfl rfl ?_
  refine x_callNv dX3_become_74 nn_X3_53 mt_X8_copyRow st_X8_copyRow (ct_X8_copyRow (by omega) (by omega) rfl rfl) rfl rfl (Nat.le_of_ble_eq_true rfl) ⟨(Nat.le_of_ble_eq_true rfl), (Nat.le_of_ble_eq_true rfl)⟩ ⟨rfl, rfl⟩ ⟨(Nat.le_of_ble_eq_true rfl), (Nat.le_of_ble_eq_true rfl)⟩ ?_
  refine x_pc (pc2 := 77) rfl ?_
  refine x_aload_n dX3_become_77 rfl ?_
  refine x_getR dX3_become_78 fl_X3_33 (by omega) rfl rfl rfl ?_
  refine x_aload_n dX3_become_81 rfl ?_
  refine x_getR dX3_become_82 fl_X3_33 (by omega) rfl rfl rfl ?_
  refine x_callNv dX3_become_85 nn_X3_53 mt_X8_copyRow st_X8_copyRow (ct_X8_copyRow (by omega) (by omega) rfl rfl) rfl rfl (Nat.le_of_ble_eq_true rfl) ⟨(Nat.le_of_ble_eq_true rfl), (Nat.le_of_ble_eq_true rfl)⟩ ⟨rfl, rfl⟩ ⟨(Nat.le_of_ble_eq_true rfl), (Nat.le_of_ble_eq_true rfl)⟩ ?_
  refine x_aload_n dX3_become_88 rfl ?_
  refine x_pc (pc2 := 89) rfl ?_
  refine x_getR dX3_become_89 fl_X3_36 (by omega) rfl rfl rfl ?_
  refine x_aload_n dX3_become_92 rfl ?_
  refine x_getR dX3_become_93 fl_X3_36 (by omega) rfl rfl rfl ?_
  refine x_callNv dX3_become_96 nn_X3_53 mt_X8_copyRow st_X8_copyRow (ct_X8_copyRow (by omega) (by omega) rfl rfl) rfl rfl (Nat.le_of_ble_eq_true rfl) ⟨(Nat.le_of_ble_eq_true rfl), (Nat.le_of_ble_eq_true rfl)⟩ ⟨rfl, rfl⟩ ⟨(Nat.le_of_ble_eq_true rfl), (Nat.le_of_ble_eq_true rfl)⟩ ?_
  refine x_iconst (v := 0) dX3_become_99 (by decide) ?_
  refine x_istore_n (lo2 := [_, _, _]) dX3_become_100 (by decide) rfl rfl ?_
  refine x_loop (inv := fun i => True) (fun i => [some (.ref (g.2.1 + 15)), some (.ref (g.2.1 + 1)), some (.int (nI i))]) (fun i => zrow (zrow (zrow (zrow (zrow (zrow (zrow (zrow (zrow (zrow I 16 (I 2)) 17 (I 3)) 18 (I 4)) 19 (I 5)) 20 (I 6)) 21 (I 7)) 22 (I 8)) 23 (I 9)) 24 (I 10)) 25 (zpre i (I 11) (I 25))) (fun i => L) 0 8 (by omega) (by trivial) (by rfl) (by rw [zpre_0]; funext a; by_cases e : a = 25 <;> simp [zrow, e]) (by rfl) (fun i hloi hhii hinvi Ki => ?_) (fun hinvi => ?_)
  · skip
    refine x_iload_n dX3_become_101 rfl ?_
    refine x_bipush (v := 8) dX3_become_102 (by decide) ?_
    refine x_icmp_ge (tgt := 125) dX3_become_104 (by decide) (fun h104 => ?_) (fun h104 => ?_)
    · skip
      exact absurd h104 (nI_ge (b := 8) hhii (by decide))
    · skip
      refine x_aload_n dX3_become_107 rfl ?_
      refine x_getR dX3_become_108 fl_X3_39 (by omega) rfl rfl rfl ?_
      refine x_iload_n dX3_become_111 rfl ?_
      refine x_aload_n dX3_become_112 rfl ?_
      refine x_getR dX3_become_113 fl_X3_39 (by omega) rfl rfl rfl ?_
      refine x_pc (pc2 := 116) rfl ?_
      refine x_iload_n dX3_become_116 rfl ?_
      refine x_zald dX3_become_117 (by omega) rfl rfl (by omega) ?_
      rw [show zrow (zrow (zrow (zrow (zrow (zrow (zrow (zrow (zrow (zrow I 16 (I 2)) 17 (I 3)) 18 (I 4)) 19 (I 5)) 20 (I 6)) 21 (I 7)) 22 (I 8)) 23 (I 9)) 24 (I 10)) 25 (zpre i (I 11) (I 25)) 11 i = I 11 i from by simp [zrow]]
      refine x_zast dX3_become_118 (by omega) rfl rfl (by omega) (hz _ hhii) ?_
      refine x_iincN (lo2 := [_, _, _]) dX3_become_119 rfl rfl rfl ?_
      refine x_goto (tgt := 101) dX3_become_122 (by decide) ?_
      exact x_eq (by rfl) (by rw [zu_zrow, ← zpre_s]) (by rfl) (Ki (by trivial))
  · skip
    refine x_iload_n dX3_become_101 rfl ?_
    refine x_bipush (v := 8) dX3_become_102 (by decide) ?_
    refine x_icmp_ge (tgt := 125) dX3_become_104 (by decide) (fun h104 => ?_) (fun h104 => ?_)
    · skip
      refine x_aload_n dX3_become_125 rfl ?_
      refine x_aload_n dX3_become_126 rfl ?_
      refine x_getI dX3_become_127 fl_X3_43 (by omega) rfl rfl ?_
      refine x_putI dX3_become_130 fp_X3_43 (by omega) rfl ?_
      refine x_aload_n dX3_become_133 rfl ?_
      refine x_pc (pc2 := 134) rfl ?_
      refine x_aload_n dX3_become_134 rfl ?_
      refine x_getI dX3_become_135 fl_X3_47 (by omega) rfl rfl ?_
      refine x_putI dX3_become_138 fp_X3_47 (by omega) rfl ?_
      refine x_aload_n dX3_become_141 rfl ?_
      refine x_aload_n dX3_become_142 rfl ?_
      refine x_getI dX3_become_143 fl_X3_50 (by omega) rfl rfl ?_
      refine x_pc (pc2 := 146) rfl ?_
      refine x_putI dX3_become_146 fp_X3_50 (by omega) rfl ?_
      refine x_sameV (I' := zbec I 15 1) (fun k _ j hv => ?_) ?_
      · by_cases h : 15 ≤ k ∧ k ≤ 25
        · obtain ⟨d, hd, rfl⟩ : ∃ d, d < 11 ∧ k = 15 + d := ⟨k - 15, by omega, by omega⟩
          rcases (show d = 0 ∨ d = 1 ∨ d = 2 ∨ d = 3 ∨ d = 4 ∨ d = 5 ∨ d = 6 ∨ d = 7 ∨ d = 8 ∨ d = 9 ∨ d = 10 by omega) with rfl | rfl | rfl | rfl | rfl | rfl | rfl | rfl | rfl | rfl | rfl
          · have hv : j < 13 ∧ zrf 3 j = false := hv
            have hj : j = 10 ∨ j = 11 ∨ j = 12 := by
              obtain ⟨h1, h2⟩ := hv
              rcases (show j = 0 ∨ j = 1 ∨ j = 2 ∨ j = 3 ∨ j = 4 ∨ j = 5 ∨ j = 6 ∨ j = 7 ∨ j = 8 ∨ j = 9 ∨ 10 ≤ j by omega) with rfl | rfl | rfl | rfl | rfl | rfl | rfl | rfl | rfl | rfl | h3
              all_goals first | (exact absurd h2 (by decide)) | omega
            rcases hj with rfl | rfl | rfl <;> simp [zbec, zu, zrow]
          all_goals first | (simp [zbec, zu, zrow]; done) | (have hv : j < 8 := hv; simp [zbec, zu, zrow, zpre, hv])
        · have e0 : k ≠ 15 := by omega
          have e1 : k ≠ 16 := by omega
          have e2 : k ≠ 17 := by omega
          have e3 : k ≠ 18 := by omega
          have e4 : k ≠ 19 := by omega
          have e5 : k ≠ 20 := by omega
          have e6 : k ≠ 21 := by omega
          have e7 : k ≠ 22 := by omega
          have e8 : k ≠ 23 := by omega
          have e9 : k ≠ 24 := by omega
          have e10 : k ≠ 25 := by omega
          simp [zbec, zu, zrow, h, e0, e1, e2, e3, e4, e5, e6, e7, e8, e9, e10]
      exact x_vret dX3_become_149 rfl (Nat.le_of_ble_eq_true rfl) (Nat.le_of_ble_eq_true rfl) ⟨rfl, rfl, by rfl, by rfl, rfl⟩
    · skip
      exact absurd (nI_le (b := 8) (Nat.le_refl 8) (by decide)) h104
theorem ct_X3_become_1_15 {g : zG} {N : Nat} {I : zI} {L : zL} {q0 q1 : Option Nat} (hN : 58 ≤ N) (hz : ∀ i, i < 8 → narrow .boolean (.int (I 25 i)) = .int (I 25 i)) : Ct g yX3_become mX3_become [.ref (g.2.1 + 1), .ref (g.2.1 + 15)] N I L (zRw q0 q1) (zD none N (zbec I 1 15) L (zRw q0 q1)) := by
  refine Ct_of (lo0 := [some (.ref (g.2.1 + 1)), some (.ref (g.2.1 + 15)), none]) rfl rfl rfl rfl (Nat.le_of_ble_eq_true rfl) (fun E => ?_)
  refine x_aload_n dX3_become_0 rfl ?_
  refine x_getR dX3_become_1 fl_X3_9 (by omega) rfl rfl rfl ?_
  refine x_aload_n dX3_become_4 rfl ?_
  refine x_getR dX3_become_5 fl_X3_9 (by omega) rfl rfl rfl ?_
  refine x_callNv dX3_become_8 nn_X3_53 mt_X8_copyRow st_X8_copyRow (ct_X8_copyRow (by omega) (by omega) rfl rfl) rfl rfl (Nat.le_of_ble_eq_true rfl) ⟨(Nat.le_of_ble_eq_true rfl), (Nat.le_of_ble_eq_true rfl)⟩ ⟨rfl, rfl⟩ ⟨(Nat.le_of_ble_eq_true rfl), (Nat.le_of_ble_eq_true rfl)⟩ ?_
  refine x_pc (pc2 := 11) rfl ?_
  refine x_aload_n dX3_become_11 rfl ?_
  refine x_getR dX3_become_12 fl_X3_15 (by omega) rfl rfl rfl ?_
  refine x_aload_n dX3_become_15 rfl ?_
  refine x_getR dX3_become_16 fl_X3_15 (by omega) rfl rfl rfl ?_
  refine x_callNv dX3_become_19 nn_X3_53 mt_X8_copyRow st_X8_copyRow (ct_X8_copyRow (by omega) (by omega) rfl rfl) rfl rfl (Nat.le_of_ble_eq_true rfl) ⟨(Nat.le_of_ble_eq_true rfl), (Nat.le_of_ble_eq_true rfl)⟩ ⟨rfl, rfl⟩ ⟨(Nat.le_of_ble_eq_true rfl), (Nat.le_of_ble_eq_true rfl)⟩ ?_
  refine x_aload_n dX3_become_22 rfl ?_
  refine x_pc (pc2 := 23) rfl ?_
  refine x_getR dX3_become_23 fl_X3_18 (by omega) rfl rfl rfl ?_
  refine x_aload_n dX3_become_26 rfl ?_
  refine x_getR dX3_become_27 fl_X3_18 (by omega) rfl rfl rfl ?_
  refine x_callNv dX3_become_30 nn_X3_53 mt_X8_copyRow st_X8_copyRow (ct_X8_copyRow (by omega) (by omega) rfl rfl) rfl rfl (Nat.le_of_ble_eq_true rfl) ⟨(Nat.le_of_ble_eq_true rfl), (Nat.le_of_ble_eq_true rfl)⟩ ⟨rfl, rfl⟩ ⟨(Nat.le_of_ble_eq_true rfl), (Nat.le_of_ble_eq_true rfl)⟩ ?_
  refine x_aload_n dX3_become_33 rfl ?_
  refine x_getR dX3_become_34 fl_X3_21 (by omega) rfl rfl rfl ?_
  refine x_pc (pc2 := 37) rfl ?_
  refine x_aload_n dX3_become_37 rfl ?_
  refine x_getR dX3_become_38 fl_X3_21 (by omega) rfl rfl rfl ?_
  refine x_callNv dX3_become_41 nn_X3_53 mt_X8_copyRow st_X8_copyRow (ct_X8_copyRow (by omega) (by omega) rfl rfl) rfl rfl (Nat.le_of_ble_eq_true rfl) ⟨(Nat.le_of_ble_eq_true rfl), (Nat.le_of_ble_eq_true rfl)⟩ ⟨rfl, rfl⟩ ⟨(Nat.le_of_ble_eq_true rfl), (Nat.le_of_ble_eq_true rfl)⟩ ?_
  refine x_aload_n dX3_become_44 rfl ?_
  refine x_getR dX3_become_45 fl_X3_24 (by omega) rfl rfl rfl ?_
  refine x_aload_n dX3_become_48 rfl ?_
  refine x_pc (pc2 := 49) rfl ?_
  refine x_getR dX3_become_49 fl_X3_24 (by omega) rfl rfl rfl ?_
  refine x_callNv dX3_become_52 nn_X3_53 mt_X8_copyRow st_X8_copyRow (ct_X8_copyRow (by omega) (by omega) rfl rfl) rfl rfl (Nat.le_of_ble_eq_true rfl) ⟨(Nat.le_of_ble_eq_true rfl), (Nat.le_of_ble_eq_true rfl)⟩ ⟨rfl, rfl⟩ ⟨(Nat.le_of_ble_eq_true rfl), (Nat.le_of_ble_eq_true rfl)⟩ ?_
  refine x_aload_n dX3_become_55 rfl ?_
  refine x_getR dX3_become_56 fl_X3_27 (by omega) rfl rfl rfl ?_
  refine x_aload_n dX3_become_59 rfl ?_
  refine x_getR dX3_become_60 fl_X3_27 (by omega) rfl rfl rfl ?_
  refine x_pc (pc2 := 63) rfl ?_
  refine x_callNv dX3_become_63 nn_X3_53 mt_X8_copyRow st_X8_copyRow (ct_X8_copyRow (by omega) (by omega) rfl rfl) rfl rfl (Nat.le_of_ble_eq_true rfl) ⟨(Nat.le_of_ble_eq_true rfl), (Nat.le_of_ble_eq_true rfl)⟩ ⟨rfl, rfl⟩ ⟨(Nat.le_of_ble_eq_true rfl), (Nat.le_of_ble_eq_true rfl)⟩ ?_
  refine x_aload_n dX3_become_66 rfl ?_
  refine x_getR dX3_become_67 fl_X3_30 (by omega) rfl rfl rfl ?_
  refine x_aload_n dX3_become_70 rfl ?_
  refine x_getR dX3_become_71 fl_X3_30 (by omega) rfl rfl rfl ?_
  refine x_callNv dX3_become_74 nn_X3_53 mt_X8_copyRow st_X8_copyRow (ct_X8_copyRow (by omega) (by omega) rfl rfl) rfl rfl (Nat.le_of_ble_eq_true rfl) ⟨(Nat.le_of_ble_eq_true rfl), (Nat.le_of_ble_eq_true rfl)⟩ ⟨rfl, rfl⟩ ⟨(Nat.le_of_ble_eq_true rfl), (Nat.le_of_ble_eq_true rfl)⟩ ?_
  refine x_pc (pc2 := 77) rfl ?_
  refine x_aload_n dX3_become_77 rfl ?_
  refine x_getR dX3_become_78 fl_X3_33 (by omega) rfl rfl rfl ?_
  refine x_aload_n dX3_become_81 rfl ?_
  refine x_getR dX3_become_82 fl_X3_33 (by omega) rfl rfl rfl ?_
  refine x_callNv dX3_become_85 nn_X3_53 mt_X8_copyRow st_X8_copyRow (ct_X8_copyRow (by omega) (by omega) rfl rfl) rfl rfl (Nat.le_of_ble_eq_true rfl) ⟨(Nat.le_of_ble_eq_true rfl), (Nat.le_of_ble_eq_true rfl)⟩ ⟨rfl, rfl⟩ ⟨(Nat.le_of_ble_eq_true rfl), (Nat.le_of_ble_eq_true rfl)⟩ ?_
  refine x_aload_n dX3_become_88 rfl ?_
  refine x_pc (pc2 := 89) rfl ?_
  refine x_getR dX3_become_89 fl_X3_36 (by omega) rfl rfl rfl ?_
  refine x_aload_n dX3_become_92 rfl ?_
  refine x_getR dX3_become_93 fl_X3_36 (by omega) rfl rfl rfl ?_
  refine x_callNv dX3_become_96 nn_X3_53 mt_X8_copyRow st_X8_copyRow (ct_X8_copyRow (by omega) (by omega) rfl rfl) rfl rfl (Nat.le_of_ble_eq_true rfl) ⟨(Nat.le_of_ble_eq_true rfl), (Nat.le_of_ble_eq_true rfl)⟩ ⟨rfl, rfl⟩ ⟨(Nat.le_of_ble_eq_true rfl), (Nat.le_of_ble_eq_true rfl)⟩ ?_
  refine x_iconst (v := 0) dX3_become_99 (by decide) ?_
  refine x_istore_n (lo2 := [_, _, _]) dX3_become_100 (by decide) rfl rfl ?_
  refine x_loop (inv := fun i => True) (fun i => [some (.ref (g.2.1 + 1)), some (.ref (g.2.1 + 15)), some (.int (nI i))]) (fun i => zrow (zrow (zrow (zrow (zrow (zrow (zrow (zrow (zrow (zrow I 2 (I 16)) 3 (I 17)) 4 (I 18)) 5 (I 19)) 6 (I 20)) 7 (I 21)) 8 (I 22)) 9 (I 23)) 10 (I 24)) 11 (zpre i (I 25) (I 11))) (fun i => L) 0 8 (by omega) (by trivial) (by rfl) (by rw [zpre_0]; funext a; by_cases e : a = 11 <;> simp [zrow, e]) (by rfl) (fun i hloi hhii hinvi Ki => ?_) (fun hinvi => ?_)
  · skip
    refine x_iload_n dX3_become_101 rfl ?_
    refine x_bipush (v := 8) dX3_become_102 (by decide) ?_
    refine x_icmp_ge (tgt := 125) dX3_become_104 (by decide) (fun h104 => ?_) (fun h104 => ?_)
    · skip
      exact absurd h104 (nI_ge (b := 8) hhii (by decide))
    · skip
      refine x_aload_n dX3_become_107 rfl ?_
      refine x_getR dX3_become_108 fl_X3_39 (by omega) rfl rfl rfl ?_
      refine x_iload_n dX3_become_111 rfl ?_
      refine x_aload_n dX3_become_112 rfl ?_
      refine x_getR dX3_become_113 fl_X3_39 (by omega) rfl rfl rfl ?_
      refine x_pc (pc2 := 116) rfl ?_
      refine x_iload_n dX3_become_116 rfl ?_
      refine x_zald dX3_become_117 (by omega) rfl rfl (by omega) ?_
      rw [show zrow (zrow (zrow (zrow (zrow (zrow (zrow (zrow (zrow (zrow I 2 (I 16)) 3 (I 17)) 4 (I 18)) 5 (I 19)) 6 (I 20)) 7 (I 21)) 8 (I 22)) 9 (I 23)) 10 (I 24)) 11 (zpre i (I 25) (I 11)) 25 i = I 25 i from by simp [zrow]]
      refine x_zast dX3_become_118 (by omega) rfl rfl (by omega) (hz _ hhii) ?_
      refine x_iincN (lo2 := [_, _, _]) dX3_become_119 rfl rfl rfl ?_
      refine x_goto (tgt := 101) dX3_become_122 (by decide) ?_
      exact x_eq (by rfl) (by rw [zu_zrow, ← zpre_s]) (by rfl) (Ki (by trivial))
  · skip
    refine x_iload_n dX3_become_101 rfl ?_
    refine x_bipush (v := 8) dX3_become_102 (by decide) ?_
    refine x_icmp_ge (tgt := 125) dX3_become_104 (by decide) (fun h104 => ?_) (fun h104 => ?_)
    · skip
      refine x_aload_n dX3_become_125 rfl ?_
      refine x_aload_n dX3_become_126 rfl ?_
      refine x_getI dX3_become_127 fl_X3_43 (by omega) rfl rfl ?_
      refine x_putI dX3_become_130 fp_X3_43 (by omega) rfl ?_
      refine x_aload_n dX3_become_133 rfl ?_
      refine x_pc (pc2 := 134) rfl ?_
      refine x_aload_n dX3_become_134 rfl ?_
      refine x_getI dX3_become_135 fl_X3_47 (by omega) rfl rfl ?_
      refine x_putI dX3_become_138 fp_X3_47 (by omega) rfl ?_
      refine x_aload_n dX3_become_141 rfl ?_
      refine x_aload_n dX3_become_142 rfl ?_
      refine x_getI dX3_become_143 fl_X3_50 (by omega) rfl rfl ?_
      refine x_pc (pc2 := 146) rfl ?_
      refine x_putI dX3_become_146 fp_X3_50 (by omega) rfl ?_
      refine x_sameV (I' := zbec I 1 15) (fun k _ j hv => ?_) ?_
      · by_cases h : 1 ≤ k ∧ k ≤ 11
        · obtain ⟨d, hd, rfl⟩ : ∃ d, d < 11 ∧ k = 1 + d := ⟨k - 1, by omega, by omega⟩
          rcases (show d = 0 ∨ d = 1 ∨ d = 2 ∨ d = 3 ∨ d = 4 ∨ d = 5 ∨ d = 6 ∨ d = 7 ∨ d = 8 ∨ d = 9 ∨ d = 10 by omega) with rfl | rfl | rfl | rfl | rfl | rfl | rfl | rfl | rfl | rfl | rfl
          · have hv : j < 13 ∧ zrf 3 j = false := hv
            have hj : j = 10 ∨ j = 11 ∨ j = 12 := by
              obtain ⟨h1, h2⟩ := hv
              rcases (show j = 0 ∨ j = 1 ∨ j = 2 ∨ j = 3 ∨ j = 4 ∨ j = 5 ∨ j = 6 ∨ j = 7 ∨ j = 8 ∨ j = 9 ∨ 10 ≤ j by omega) with rfl | rfl | rfl | rfl | rfl | rfl | rfl | rfl | rfl | rfl | h3
              all_goals first | (exact absurd h2 (by decide)) | omega
            rcases hj with rfl | rfl | rfl <;> simp [zbec, zu, zrow]
          all_goals first | (simp [zbec, zu, zrow]; done) | (have hv : j < 8 := hv; simp [zbec, zu, zrow, zpre, hv])
        · have e0 : k ≠ 1 := by omega
          have e1 : k ≠ 2 := by omega
          have e2 : k ≠ 3 := by omega
          have e3 : k ≠ 4 := by omega
          have e4 : k ≠ 5 := by omega
          have e5 : k ≠ 6 := by omega
          have e6 : k ≠ 7 := by omega
          have e7 : k ≠ 8 := by omega
          have e8 : k ≠ 9 := by omega
          have e9 : k ≠ 10 := by omega
          have e10 : k ≠ 11 := by omega
          simp [zbec, zu, zrow, h, e0, e1, e2, e3, e4, e5, e6, e7, e8, e9, e10]
      exact x_vret dX3_become_149 rfl (Nat.le_of_ble_eq_true rfl) (Nat.le_of_ble_eq_true rfl) ⟨rfl, rfl, by rfl, by rfl, rfl⟩
    · skip
      exact absurd (nI_le (b := 8) (Nat.le_refl 8) (by decide)) h104
theorem ct_X3_become_58_1 {g : zG} {N : Nat} {I : zI} {L : zL} {q0 q1 : Option Nat} (hN : 69 ≤ N) (hz : ∀ i, i < 8 → narrow .boolean (.int (I 11 i)) = .int (I 11 i)) : Ct g yX3_become mX3_become [.ref (g.2.1 + 58), .ref (g.2.1 + 1)] N I L (zRw q0 q1) (zD none N (zbec I 58 1) L (zRw q0 q1)) := by
  refine Ct_of (lo0 := [some (.ref (g.2.1 + 58)), some (.ref (g.2.1 + 1)), none]) rfl rfl rfl rfl (Nat.le_of_ble_eq_true rfl) (fun E => ?_)
  refine x_aload_n dX3_become_0 rfl ?_
  refine x_getR dX3_become_1 fl_X3_9 (by omega) rfl rfl rfl ?_
  refine x_aload_n dX3_become_4 rfl ?_
  refine x_getR dX3_become_5 fl_X3_9 (by omega) rfl rfl rfl ?_
  refine x_callNv dX3_become_8 nn_X3_53 mt_X8_copyRow st_X8_copyRow (ct_X8_copyRow (by omega) (by omega) rfl rfl) rfl rfl (Nat.le_of_ble_eq_true rfl) ⟨(Nat.le_of_ble_eq_true rfl), (Nat.le_of_ble_eq_true rfl)⟩ ⟨rfl, rfl⟩ ⟨(Nat.le_of_ble_eq_true rfl), (Nat.le_of_ble_eq_true rfl)⟩ ?_
  refine x_pc (pc2 := 11) rfl ?_
  refine x_aload_n dX3_become_11 rfl ?_
  refine x_getR dX3_become_12 fl_X3_15 (by omega) rfl rfl rfl ?_
  refine x_aload_n dX3_become_15 rfl ?_
  refine x_getR dX3_become_16 fl_X3_15 (by omega) rfl rfl rfl ?_
  refine x_callNv dX3_become_19 nn_X3_53 mt_X8_copyRow st_X8_copyRow (ct_X8_copyRow (by omega) (by omega) rfl rfl) rfl rfl (Nat.le_of_ble_eq_true rfl) ⟨(Nat.le_of_ble_eq_true rfl), (Nat.le_of_ble_eq_true rfl)⟩ ⟨rfl, rfl⟩ ⟨(Nat.le_of_ble_eq_true rfl), (Nat.le_of_ble_eq_true rfl)⟩ ?_
  refine x_aload_n dX3_become_22 rfl ?_
  refine x_pc (pc2 := 23) rfl ?_
  refine x_getR dX3_become_23 fl_X3_18 (by omega) rfl rfl rfl ?_
  refine x_aload_n dX3_become_26 rfl ?_
  refine x_getR dX3_become_27 fl_X3_18 (by omega) rfl rfl rfl ?_
  refine x_callNv dX3_become_30 nn_X3_53 mt_X8_copyRow st_X8_copyRow (ct_X8_copyRow (by omega) (by omega) rfl rfl) rfl rfl (Nat.le_of_ble_eq_true rfl) ⟨(Nat.le_of_ble_eq_true rfl), (Nat.le_of_ble_eq_true rfl)⟩ ⟨rfl, rfl⟩ ⟨(Nat.le_of_ble_eq_true rfl), (Nat.le_of_ble_eq_true rfl)⟩ ?_
  refine x_aload_n dX3_become_33 rfl ?_
  refine x_getR dX3_become_34 fl_X3_21 (by omega) rfl rfl rfl ?_
  refine x_pc (pc2 := 37) rfl ?_
  refine x_aload_n dX3_become_37 rfl ?_
  refine x_getR dX3_become_38 fl_X3_21 (by omega) rfl rfl rfl ?_
  refine x_callNv dX3_become_41 nn_X3_53 mt_X8_copyRow st_X8_copyRow (ct_X8_copyRow (by omega) (by omega) rfl rfl) rfl rfl (Nat.le_of_ble_eq_true rfl) ⟨(Nat.le_of_ble_eq_true rfl), (Nat.le_of_ble_eq_true rfl)⟩ ⟨rfl, rfl⟩ ⟨(Nat.le_of_ble_eq_true rfl), (Nat.le_of_ble_eq_true rfl)⟩ ?_
  refine x_aload_n dX3_become_44 rfl ?_
  refine x_getR dX3_become_45 fl_X3_24 (by omega) rfl rfl rfl ?_
  refine x_aload_n dX3_become_48 rfl ?_
  refine x_pc (pc2 := 49) rfl ?_
  refine x_getR dX3_become_49 fl_X3_24 (by omega) rfl rfl rfl ?_
  refine x_callNv dX3_become_52 nn_X3_53 mt_X8_copyRow st_X8_copyRow (ct_X8_copyRow (by omega) (by omega) rfl rfl) rfl rfl (Nat.le_of_ble_eq_true rfl) ⟨(Nat.le_of_ble_eq_true rfl), (Nat.le_of_ble_eq_true rfl)⟩ ⟨rfl, rfl⟩ ⟨(Nat.le_of_ble_eq_true rfl), (Nat.le_of_ble_eq_true rfl)⟩ ?_
  refine x_aload_n dX3_become_55 rfl ?_
  refine x_getR dX3_become_56 fl_X3_27 (by omega) rfl rfl rfl ?_
  refine x_aload_n dX3_become_59 rfl ?_
  refine x_getR dX3_become_60 fl_X3_27 (by omega) rfl rfl rfl ?_
  refine x_pc (pc2 := 63) rfl ?_
  refine x_callNv dX3_become_63 nn_X3_53 mt_X8_copyRow st_X8_copyRow (ct_X8_copyRow (by omega) (by omega) rfl rfl) rfl rfl (Nat.le_of_ble_eq_true rfl) ⟨(Nat.le_of_ble_eq_true rfl), (Nat.le_of_ble_eq_true rfl)⟩ ⟨rfl, rfl⟩ ⟨(Nat.le_of_ble_eq_true rfl), (Nat.le_of_ble_eq_true rfl)⟩ ?_
  refine x_aload_n dX3_become_66 rfl ?_
  refine x_getR dX3_become_67 fl_X3_30 (by omega) rfl rfl rfl ?_
  refine x_aload_n dX3_become_70 rfl ?_
  refine x_getR dX3_become_71 fl_X3_30 (by omega) rfl rfl rfl ?_
  refine x_callNv dX3_become_74 nn_X3_53 mt_X8_copyRow st_X8_copyRow (ct_X8_copyRow (by omega) (by omega) rfl rfl) rfl rfl (Nat.le_of_ble_eq_true rfl) ⟨(Nat.le_of_ble_eq_true rfl), (Nat.le_of_ble_eq_true rfl)⟩ ⟨rfl, rfl⟩ ⟨(Nat.le_of_ble_eq_true rfl), (Nat.le_of_ble_eq_true rfl)⟩ ?_
  refine x_pc (pc2 := 77) rfl ?_
  refine x_aload_n dX3_become_77 rfl ?_
  refine x_getR dX3_become_78 fl_X3_33 (by omega) rfl rfl rfl ?_
  refine x_aload_n dX3_become_81 rfl ?_
  refine x_getR dX3_become_82 fl_X3_33 (by omega) rfl rfl rfl ?_
  refine x_callNv dX3_become_85 nn_X3_53 mt_X8_copyRow st_X8_copyRow (ct_X8_copyRow (by omega) (by omega) rfl rfl) rfl rfl (Nat.le_of_ble_eq_true rfl) ⟨(Nat.le_of_ble_eq_true rfl), (Nat.le_of_ble_eq_true rfl)⟩ ⟨rfl, rfl⟩ ⟨(Nat.le_of_ble_eq_true rfl), (Nat.le_of_ble_eq_true rfl)⟩ ?_
  refine x_aload_n dX3_become_88 rfl ?_
  refine x_pc (pc2 := 89) rfl ?_
  refine x_getR dX3_become_89 fl_X3_36 (by omega) rfl rfl rfl ?_
  refine x_aload_n dX3_become_92 rfl ?_
  refine x_getR dX3_become_93 fl_X3_36 (by omega) rfl rfl rfl ?_
  refine x_callNv dX3_become_96 nn_X3_53 mt_X8_copyRow st_X8_copyRow (ct_X8_copyRow (by omega) (by omega) rfl rfl) rfl rfl (Nat.le_of_ble_eq_true rfl) ⟨(Nat.le_of_ble_eq_true rfl), (Nat.le_of_ble_eq_true rfl)⟩ ⟨rfl, rfl⟩ ⟨(Nat.le_of_ble_eq_true rfl), (Nat.le_of_ble_eq_true rfl)⟩ ?_
  refine x_iconst (v := 0) dX3_become_99 (by decide) ?_
  refine x_istore_n (lo2 := [_, _, _]) dX3_become_100 (by decide) rfl rfl ?_
  refine x_loop (inv := fun i => True) (fun i => [some (.ref (g.2.1 + 58)), some (.ref (g.2.1 + 1)), some (.int (nI i))]) (fun i => zrow (zrow (zrow (zrow (zrow (zrow (zrow (zrow (zrow (zrow I 59 (I 2)) 60 (I 3)) 61 (I 4)) 62 (I 5)) 63 (I 6)) 64 (I 7)) 65 (I 8)) 66 (I 9)) 67 (I 10)) 68 (zpre i (I 11) (I 68))) (fun i => L) 0 8 (by omega) (by trivial) (by rfl) (by rw [zpre_0]; funext a; by_cases e : a = 68 <;> simp [zrow, e]) (by rfl) (fun i hloi hhii hinvi Ki => ?_) (fun hinvi => ?_)
  · skip
    refine x_iload_n dX3_become_101 rfl ?_
    refine x_bipush (v := 8) dX3_become_102 (by decide) ?_
    refine x_icmp_ge (tgt := 125) dX3_become_104 (by decide) (fun h104 => ?_) (fun h104 => ?_)
    · skip
      exact absurd h104 (nI_ge (b := 8) hhii (by decide))
    · skip
      refine x_aload_n dX3_become_107 rfl ?_
      refine x_getR dX3_become_108 fl_X3_39 (by omega) rfl rfl rfl ?_
      refine x_iload_n dX3_become_111 rfl ?_
      refine x_aload_n dX3_become_112 rfl ?_
      refine x_getR dX3_become_113 fl_X3_39 (by omega) rfl rfl rfl ?_
      refine x_pc (pc2 := 116) rfl ?_
      refine x_iload_n dX3_become_116 rfl ?_
      refine x_zald dX3_become_117 (by omega) rfl rfl (by omega) ?_
      rw [show zrow (zrow (zrow (zrow (zrow (zrow (zrow (zrow (zrow (zrow I 59 (I 2)) 60 (I 3)) 61 (I 4)) 62 (I 5)) 63 (I 6)) 64 (I 7)) 65 (I 8)) 66 (I 9)) 67 (I 10)) 68 (zpre i (I 11) (I 68)) 11 i = I 11 i from by simp [zrow]]
      refine x_zast dX3_become_118 (by omega) rfl rfl (by omega) (hz _ hhii) ?_
      refine x_iincN (lo2 := [_, _, _]) dX3_become_119 rfl rfl rfl ?_
      refine x_goto (tgt := 101) dX3_become_122 (by decide) ?_
      exact x_eq (by rfl) (by rw [zu_zrow, ← zpre_s]) (by rfl) (Ki (by trivial))
  · skip
    refine x_iload_n dX3_become_101 rfl ?_
    refine x_bipush (v := 8) dX3_become_102 (by decide) ?_
    refine x_icmp_ge (tgt := 125) dX3_become_104 (by decide) (fun h104 => ?_) (fun h104 => ?_)
    · skip
      refine x_aload_n dX3_become_125 rfl ?_
      refine x_aload_n dX3_become_126 rfl ?_
      refine x_getI dX3_become_127 fl_X3_43 (by omega) rfl rfl ?_
      refine x_putI dX3_become_130 fp_X3_43 (by omega) rfl ?_
      refine x_aload_n dX3_become_133 rfl ?_
      refine x_pc (pc2 := 134) rfl ?_
      refine x_aload_n dX3_become_134 rfl ?_
      refine x_getI dX3_become_135 fl_X3_47 (by omega) rfl rfl ?_
      refine x_putI dX3_become_138 fp_X3_47 (by omega) rfl ?_
      refine x_aload_n dX3_become_141 rfl ?_
      refine x_aload_n dX3_become_142 rfl ?_
      refine x_getI dX3_become_143 fl_X3_50 (by omega) rfl rfl ?_
      refine x_pc (pc2 := 146) rfl ?_
      refine x_putI dX3_become_146 fp_X3_50 (by omega) rfl ?_
      refine x_sameV (I' := zbec I 58 1) (fun k _ j hv => ?_) ?_
      · by_cases h : 58 ≤ k ∧ k ≤ 68
        · obtain ⟨d, hd, rfl⟩ : ∃ d, d < 11 ∧ k = 58 + d := ⟨k - 58, by omega, by omega⟩
          rcases (show d = 0 ∨ d = 1 ∨ d = 2 ∨ d = 3 ∨ d = 4 ∨ d = 5 ∨ d = 6 ∨ d = 7 ∨ d = 8 ∨ d = 9 ∨ d = 10 by omega) with rfl | rfl | rfl | rfl | rfl | rfl | rfl | rfl | rfl | rfl | rfl
          · have hv : j < 13 ∧ zrf 3 j = false := hv
            have hj : j = 10 ∨ j = 11 ∨ j = 12 := by
              obtain ⟨h1, h2⟩ := hv
              rcases (show j = 0 ∨ j = 1 ∨ j = 2 ∨ j = 3 ∨ j = 4 ∨ j = 5 ∨ j = 6 ∨ j = 7 ∨ j = 8 ∨ j = 9 ∨ 10 ≤ j by omega) with rfl | rfl | rfl | rfl | rfl | rfl | rfl | rfl | rfl | rfl | h3
              all_goals first | (exact absurd h2 (by decide)) | omega
            rcases hj with rfl | rfl | rfl <;> simp [zbec, zu, zrow]
          all_goals first | (simp [zbec, zu, zrow]; done) | (have hv : j < 8 := hv; simp [zbec, zu, zrow, zpre, hv])
        · have e0 : k ≠ 58 := by omega
          have e1 : k ≠ 59 := by omega
          have e2 : k ≠ 60 := by omega
          have e3 : k ≠ 61 := by omega
          have e4 : k ≠ 62 := by omega
          have e5 : k ≠ 63 := by omega
          have e6 : k ≠ 64 := by omega
          have e7 : k ≠ 65 := by omega
          have e8 : k ≠ 66 := by omega
          have e9 : k ≠ 67 := by omega
          have e10 : k ≠ 68 := by omega
          simp [zbec, zu, zrow, h, e0, e1, e2, e3, e4, e5, e6, e7, e8, e9, e10]
      exact x_vret dX3_become_149 rfl (Nat.le_of_ble_eq_true rfl) (Nat.le_of_ble_eq_true rfl) ⟨rfl, rfl, by rfl, by rfl, rfl⟩
    · skip
      exact absurd (nI_le (b := 8) (Nat.le_refl 8) (by decide)) h104
theorem ct_X3_become_69_1 {g : zG} {N : Nat} {I : zI} {L : zL} {q0 q1 : Option Nat} (hN : 80 ≤ N) (hz : ∀ i, i < 8 → narrow .boolean (.int (I 11 i)) = .int (I 11 i)) : Ct g yX3_become mX3_become [.ref (g.2.1 + 69), .ref (g.2.1 + 1)] N I L (zRw q0 q1) (zD none N (zbec I 69 1) L (zRw q0 q1)) := by
  refine Ct_of (lo0 := [some (.ref (g.2.1 + 69)), some (.ref (g.2.1 + 1)), none]) rfl rfl rfl rfl (Nat.le_of_ble_eq_true rfl) (fun E => ?_)
  refine x_aload_n dX3_become_0 rfl ?_
  refine x_getR dX3_become_1 fl_X3_9 (by omega) rfl rfl rfl ?_
  refine x_aload_n dX3_become_4 rfl ?_
  refine x_getR dX3_become_5 fl_X3_9 (by omega) rfl rfl rfl ?_
  refine x_callNv dX3_become_8 nn_X3_53 mt_X8_copyRow st_X8_copyRow (ct_X8_copyRow (by omega) (by omega) rfl rfl) rfl rfl (Nat.le_of_ble_eq_true rfl) ⟨(Nat.le_of_ble_eq_true rfl), (Nat.le_of_ble_eq_true rfl)⟩ ⟨rfl, rfl⟩ ⟨(Nat.le_of_ble_eq_true rfl), (Nat.le_of_ble_eq_true rfl)⟩ ?_
  refine x_pc (pc2 := 11) rfl ?_
  refine x_aload_n dX3_become_11 rfl ?_
  refine x_getR dX3_become_12 fl_X3_15 (by omega) rfl rfl rfl ?_
  refine x_aload_n dX3_become_15 rfl ?_
  refine x_getR dX3_become_16 fl_X3_15 (by omega) rfl rfl rfl ?_
  refine x_callNv dX3_become_19 nn_X3_53 mt_X8_copyRow st_X8_copyRow (ct_X8_copyRow (by omega) (by omega) rfl rfl) rfl rfl (Nat.le_of_ble_eq_true rfl) ⟨(Nat.le_of_ble_eq_true rfl), (Nat.le_of_ble_eq_true rfl)⟩ ⟨rfl, rfl⟩ ⟨(Nat.le_of_ble_eq_true rfl), (Nat.le_of_ble_eq_true rfl)⟩ ?_
  refine x_aload_n dX3_become_22 rfl ?_
  refine x_pc (pc2 := 23) rfl ?_
  refine x_getR dX3_become_23 fl_X3_18 (by omega) rfl rfl rfl ?_
  refine x_aload_n dX3_become_26 rfl ?_
  refine x_getR dX3_become_27 fl_X3_18 (by omega) rfl rfl rfl ?_
  refine x_callNv dX3_become_30 nn_X3_53 mt_X8_copyRow st_X8_copyRow (ct_X8_copyRow (by omega) (by omega) rfl rfl) rfl rfl (Nat.le_of_ble_eq_true rfl) ⟨(Nat.le_of_ble_eq_true rfl), (Nat.le_of_ble_eq_true rfl)⟩ ⟨rfl, rfl⟩ ⟨(Nat.le_of_ble_eq_true rfl), (Nat.le_of_ble_eq_true rfl)⟩ ?_
  refine x_aload_n dX3_become_33 rfl ?_
  refine x_getR dX3_become_34 fl_X3_21 (by omega) rfl rfl rfl ?_
  refine x_pc (pc2 := 37) rfl ?_
  refine x_aload_n dX3_become_37 rfl ?_
  refine x_getR dX3_become_38 fl_X3_21 (by omega) rfl rfl rfl ?_
  refine x_callNv dX3_become_41 nn_X3_53 mt_X8_copyRow st_X8_copyRow (ct_X8_copyRow (by omega) (by omega) rfl rfl) rfl rfl (Nat.le_of_ble_eq_true rfl) ⟨(Nat.le_of_ble_eq_true rfl), (Nat.le_of_ble_eq_true rfl)⟩ ⟨rfl, rfl⟩ ⟨(Nat.le_of_ble_eq_true rfl), (Nat.le_of_ble_eq_true rfl)⟩ ?_
  refine x_aload_n dX3_become_44 rfl ?_
  refine x_getR dX3_become_45 fl_X3_24 (by omega) rfl rfl rfl ?_
  refine x_aload_n dX3_become_48 rfl ?_
  refine x_pc (pc2 := 49) rfl ?_
  refine x_getR dX3_become_49 fl_X3_24 (by omega) rfl rfl rfl ?_
  refine x_callNv dX3_become_52 nn_X3_53 mt_X8_copyRow st_X8_copyRow (ct_X8_copyRow (by omega) (by omega) rfl rfl) rfl rfl (Nat.le_of_ble_eq_true rfl) ⟨(Nat.le_of_ble_eq_true rfl), (Nat.le_of_ble_eq_true rfl)⟩ ⟨rfl, rfl⟩ ⟨(Nat.le_of_ble_eq_true rfl), (Nat.le_of_ble_eq_true rfl)⟩ ?_
  refine x_aload_n dX3_become_55 rfl ?_
  refine x_getR dX3_become_56 fl_X3_27 (by omega) rfl rfl rfl ?_
  refine x_aload_n dX3_become_59 rfl ?_
  refine x_getR dX3_become_60 fl_X3_27 (by omega) rfl rfl rfl ?_
  refine x_pc (pc2 := 63) rfl ?_
  refine x_callNv dX3_become_63 nn_X3_53 mt_X8_copyRow st_X8_copyRow (ct_X8_copyRow (by omega) (by omega) rfl rfl) rfl rfl (Nat.le_of_ble_eq_true rfl) ⟨(Nat.le_of_ble_eq_true rfl), (Nat.le_of_ble_eq_true rfl)⟩ ⟨rfl, rfl⟩ ⟨(Nat.le_of_ble_eq_true rfl), (Nat.le_of_ble_eq_true rfl)⟩ ?_
  refine x_aload_n dX3_become_66 rfl ?_
  refine x_getR dX3_become_67 fl_X3_30 (by omega) rfl rfl rfl ?_
  refine x_aload_n dX3_become_70 rfl ?_
  refine x_getR dX3_become_71 fl_X3_30 (by omega) rfl rfl rfl ?_
  refine x_callNv dX3_become_74 nn_X3_53 mt_X8_copyRow st_X8_copyRow (ct_X8_copyRow (by omega) (by omega) rfl rfl) rfl rfl (Nat.le_of_ble_eq_true rfl) ⟨(Nat.le_of_ble_eq_true rfl), (Nat.le_of_ble_eq_true rfl)⟩ ⟨rfl, rfl⟩ ⟨(Nat.le_of_ble_eq_true rfl), (Nat.le_of_ble_eq_true rfl)⟩ ?_
  refine x_pc (pc2 := 77) rfl ?_
  refine x_aload_n dX3_become_77 rfl ?_
  refine x_getR dX3_become_78 fl_X3_33 (by omega) rfl rfl rfl ?_
  refine x_aload_n dX3_become_81 rfl ?_
  refine x_getR dX3_become_82 fl_X3_33 (by omega) rfl rfl rfl ?_
  refine x_callNv dX3_become_85 nn_X3_53 mt_X8_copyRow st_X8_copyRow (ct_X8_copyRow (by omega) (by omega) rfl rfl) rfl rfl (Nat.le_of_ble_eq_true rfl) ⟨(Nat.le_of_ble_eq_true rfl), (Nat.le_of_ble_eq_true rfl)⟩ ⟨rfl, rfl⟩ ⟨(Nat.le_of_ble_eq_true rfl), (Nat.le_of_ble_eq_true rfl)⟩ ?_
  refine x_aload_n dX3_become_88 rfl ?_
  refine x_pc (pc2 := 89) rfl ?_
  refine x_getR dX3_become_89 fl_X3_36 (by omega) rfl rfl rfl ?_
  refine x_aload_n dX3_become_92 rfl ?_
  refine x_getR dX3_become_93 fl_X3_36 (by omega) rfl rfl rfl ?_
  refine x_callNv dX3_become_96 nn_X3_53 mt_X8_copyRow st_X8_copyRow (ct_X8_copyRow (by omega) (by omega) rfl rfl) rfl rfl (Nat.le_of_ble_eq_true rfl) ⟨(Nat.le_of_ble_eq_true rfl), (Nat.le_of_ble_eq_true rfl)⟩ ⟨rfl, rfl⟩ ⟨(Nat.le_of_ble_eq_true rfl), (Nat.le_of_ble_eq_true rfl)⟩ ?_
  refine x_iconst (v := 0) dX3_become_99 (by decide) ?_
  refine x_istore_n (lo2 := [_, _, _]) dX3_become_100 (by decide) rfl rfl ?_
  refine x_loop (inv := fun i => True) (fun i => [some (.ref (g.2.1 + 69)), some (.ref (g.2.1 + 1)), some (.int (nI i))]) (fun i => zrow (zrow (zrow (zrow (zrow (zrow (zrow (zrow (zrow (zrow I 70 (I 2)) 71 (I 3)) 72 (I 4)) 73 (I 5)) 74 (I 6)) 75 (I 7)) 76 (I 8)) 77 (I 9)) 78 (I 10)) 79 (zpre i (I 11) (I 79))) (fun i => L) 0 8 (by omega) (by trivial) (by rfl) (by rw [zpre_0]; funext a; by_cases e : a = 79 <;> simp [zrow, e]) (by rfl) (fun i hloi hhii hinvi Ki => ?_) (fun hinvi => ?_)
  · skip
    refine x_iload_n dX3_become_101 rfl ?_
    refine x_bipush (v := 8) dX3_become_102 (by decide) ?_
    refine x_icmp_ge (tgt := 125) dX3_become_104 (by decide) (fun h104 => ?_) (fun h104 => ?_)
    · skip
      exact absurd h104 (nI_ge (b := 8) hhii (by decide))
    · skip
      refine x_aload_n dX3_become_107 rfl ?_
      refine x_getR dX3_become_108 fl_X3_39 (by omega) rfl rfl rfl ?_
      refine x_iload_n dX3_become_111 rfl ?_
      refine x_aload_n dX3_become_112 rfl ?_
      refine x_getR dX3_become_113 fl_X3_39 (by omega) rfl rfl rfl ?_
      refine x_pc (pc2 := 116) rfl ?_
      refine x_iload_n dX3_become_116 rfl ?_
      refine x_zald dX3_become_117 (by omega) rfl rfl (by omega) ?_
      rw [show zrow (zrow (zrow (zrow (zrow (zrow (zrow (zrow (zrow (zrow I 70 (I 2)) 71 (I 3)) 72 (I 4)) 73 (I 5)) 74 (I 6)) 75 (I 7)) 76 (I 8)) 77 (I 9)) 78 (I 10)) 79 (zpre i (I 11) (I 79)) 11 i = I 11 i from by simp [zrow]]
      refine x_zast dX3_become_118 (by omega) rfl rfl (by omega) (hz _ hhii) ?_
      refine x_iincN (lo2 := [_, _, _]) dX3_become_119 rfl rfl rfl ?_
      refine x_goto (tgt := 101) dX3_become_122 (by decide) ?_
      exact x_eq (by rfl) (by rw [zu_zrow, ← zpre_s]) (by rfl) (Ki (by trivial))
  · skip
    refine x_iload_n dX3_become_101 rfl ?_
    refine x_bipush (v := 8) dX3_become_102 (by decide) ?_
    refine x_icmp_ge (tgt := 125) dX3_become_104 (by decide) (fun h104 => ?_) (fun h104 => ?_)
    · skip
      refine x_aload_n dX3_become_125 rfl ?_
      refine x_aload_n dX3_become_126 rfl ?_
      refine x_getI dX3_become_127 fl_X3_43 (by omega) rfl rfl ?_
      refine x_putI dX3_become_130 fp_X3_43 (by omega) rfl ?_
      refine x_aload_n dX3_become_133 rfl ?_
      refine x_pc (pc2 := 134) rfl ?_
      refine x_aload_n dX3_become_134 rfl ?_
      refine x_getI dX3_become_135 fl_X3_47 (by omega) rfl rfl ?_
      refine x_putI dX3_become_138 fp_X3_47 (by omega) rfl ?_
      refine x_aload_n dX3_become_141 rfl ?_
      refine x_aload_n dX3_become_142 rfl ?_
      refine x_getI dX3_become_143 fl_X3_50 (by omega) rfl rfl ?_
      refine x_pc (pc2 := 146) rfl ?_
      refine x_putI dX3_become_146 fp_X3_50 (by omega) rfl ?_
      refine x_sameV (I' := zbec I 69 1) (fun k _ j hv => ?_) ?_
      · by_cases h : 69 ≤ k ∧ k ≤ 79
        · obtain ⟨d, hd, rfl⟩ : ∃ d, d < 11 ∧ k = 69 + d := ⟨k - 69, by omega, by omega⟩
          rcases (show d = 0 ∨ d = 1 ∨ d = 2 ∨ d = 3 ∨ d = 4 ∨ d = 5 ∨ d = 6 ∨ d = 7 ∨ d = 8 ∨ d = 9 ∨ d = 10 by omega) with rfl | rfl | rfl | rfl | rfl | rfl | rfl | rfl | rfl | rfl | rfl
          · have hv : j < 13 ∧ zrf 3 j = false := hv
            have hj : j = 10 ∨ j = 11 ∨ j = 12 := by
              obtain ⟨h1, h2⟩ := hv
              rcases (show j = 0 ∨ j = 1 ∨ j = 2 ∨ j = 3 ∨ j = 4 ∨ j = 5 ∨ j = 6 ∨ j = 7 ∨ j = 8 ∨ j = 9 ∨ 10 ≤ j by omega) with rfl | rfl | rfl | rfl | rfl | rfl | rfl | rfl | rfl | rfl | h3
              all_goals first | (exact absurd h2 (by decide)) | omega
            rcases hj with rfl | rfl | rfl <;> simp [zbec, zu, zrow]
          all_goals first | (simp [zbec, zu, zrow]; done) | (have hv : j < 8 := hv; simp [zbec, zu, zrow, zpre, hv])
        · have e0 : k ≠ 69 := by omega
          have e1 : k ≠ 70 := by omega
          have e2 : k ≠ 71 := by omega
          have e3 : k ≠ 72 := by omega
          have e4 : k ≠ 73 := by omega
          have e5 : k ≠ 74 := by omega
          have e6 : k ≠ 75 := by omega
          have e7 : k ≠ 76 := by omega
          have e8 : k ≠ 77 := by omega
          have e9 : k ≠ 78 := by omega
          have e10 : k ≠ 79 := by omega
          simp [zbec, zu, zrow, h, e0, e1, e2, e3, e4, e5, e6, e7, e8, e9, e10]
      exact x_vret dX3_become_149 rfl (Nat.le_of_ble_eq_true rfl) (Nat.le_of_ble_eq_true rfl) ⟨rfl, rfl, by rfl, by rfl, rfl⟩
    · skip
      exact absurd (nI_le (b := 8) (Nat.le_refl 8) (by decide)) h104
theorem ct_X3_become_1_58 {g : zG} {N : Nat} {I : zI} {L : zL} {q0 q1 : Option Nat} (hN : 69 ≤ N) (hz : ∀ i, i < 8 → narrow .boolean (.int (I 68 i)) = .int (I 68 i)) : Ct g yX3_become mX3_become [.ref (g.2.1 + 1), .ref (g.2.1 + 58)] N I L (zRw q0 q1) (zD none N (zbec I 1 58) L (zRw q0 q1)) := by
  refine Ct_of (lo0 := [some (.ref (g.2.1 + 1)), some (.ref (g.2.1 + 58)), none]) rfl rfl rfl rfl (Nat.le_of_ble_eq_true rfl) (fun E => ?_)
  refine x_aload_n dX3_become_0 rfl ?_
  refine x_getR dX3_become_1 fl_X3_9 (by omega) rfl rfl rfl ?_
  refine x_aload_n dX3_become_4 rfl ?_
  refine x_getR dX3_become_5 fl_X3_9 (by omega) rfl rfl rfl ?_
  refine x_callNv dX3_become_8 nn_X3_53 mt_X8_copyRow st_X8_copyRow (ct_X8_copyRow (by omega) (by omega) rfl rfl) rfl rfl (Nat.le_of_ble_eq_true rfl) ⟨(Nat.le_of_ble_eq_true rfl), (Nat.le_of_ble_eq_true rfl)⟩ ⟨rfl, rfl⟩ ⟨(Nat.le_of_ble_eq_true rfl), (Nat.le_of_ble_eq_true rfl)⟩ ?_
  refine x_pc (pc2 := 11) rfl ?_
  refine x_aload_n dX3_become_11 rfl ?_
  refine x_getR dX3_become_12 fl_X3_15 (by omega) rfl rfl rfl ?_
  refine x_aload_n dX3_become_15 rfl ?_
  refine x_getR dX3_become_16 fl_X3_15 (by omega) rfl rfl rfl ?_
  refine x_callNv dX3_become_19 nn_X3_53 mt_X8_copyRow st_X8_copyRow (ct_X8_copyRow (by omega) (by omega) rfl rfl) rfl rfl (Nat.le_of_ble_eq_true rfl) ⟨(Nat.le_of_ble_eq_true rfl), (Nat.le_of_ble_eq_true rfl)⟩ ⟨rfl, rfl⟩ ⟨(Nat.le_of_ble_eq_true rfl), (Nat.le_of_ble_eq_true rfl)⟩ ?_
  refine x_aload_n dX3_become_22 rfl ?_
  refine x_pc (pc2 := 23) rfl ?_
  refine x_getR dX3_become_23 fl_X3_18 (by omega) rfl rfl rfl ?_
  refine x_aload_n dX3_become_26 rfl ?_
  refine x_getR dX3_become_27 fl_X3_18 (by omega) rfl rfl rfl ?_
  refine x_callNv dX3_become_30 nn_X3_53 mt_X8_copyRow st_X8_copyRow (ct_X8_copyRow (by omega) (by omega) rfl rfl) rfl rfl (Nat.le_of_ble_eq_true rfl) ⟨(Nat.le_of_ble_eq_true rfl), (Nat.le_of_ble_eq_true rfl)⟩ ⟨rfl, rfl⟩ ⟨(Nat.le_of_ble_eq_true rfl), (Nat.le_of_ble_eq_true rfl)⟩ ?_
  refine x_aload_n dX3_become_33 rfl ?_
  refine x_getR dX3_become_34 fl_X3_21 (by omega) rfl rfl rfl ?_
  refine x_pc (pc2 := 37) rfl ?_
  refine x_aload_n dX3_become_37 rfl ?_
  refine x_getR dX3_become_38 fl_X3_21 (by omega) rfl rfl rfl ?_
  refine x_callNv dX3_become_41 nn_X3_53 mt_X8_copyRow st_X8_copyRow (ct_X8_copyRow (by omega) (by omega) rfl rfl) rfl rfl (Nat.le_of_ble_eq_true rfl) ⟨(Nat.le_of_ble_eq_true rfl), (Nat.le_of_ble_eq_true rfl)⟩ ⟨rfl, rfl⟩ ⟨(Nat.le_of_ble_eq_true rfl), (Nat.le_of_ble_eq_true rfl)⟩ ?_
  refine x_aload_n dX3_become_44 rfl ?_
  refine x_getR dX3_become_45 fl_X3_24 (by omega) rfl rfl rfl ?_
  refine x_aload_n dX3_become_48 rfl ?_
  refine x_pc (pc2 := 49) rfl ?_
  refine x_getR dX3_become_49 fl_X3_24 (by omega) rfl rfl rfl ?_
  refine x_callNv dX3_become_52 nn_X3_53 mt_X8_copyRow st_X8_copyRow (ct_X8_copyRow (by omega) (by omega) rfl rfl) rfl rfl (Nat.le_of_ble_eq_true rfl) ⟨(Nat.le_of_ble_eq_true rfl), (Nat.le_of_ble_eq_true rfl)⟩ ⟨rfl, rfl⟩ ⟨(Nat.le_of_ble_eq_true rfl), (Nat.le_of_ble_eq_true rfl)⟩ ?_
  refine x_aload_n dX3_become_55 rfl ?_
  refine x_getR dX3_become_56 fl_X3_27 (by omega) rfl rfl rfl ?_
  refine x_aload_n dX3_become_59 rfl ?_
  refine x_getR dX3_become_60 fl_X3_27 (by omega) rfl rfl rfl ?_
  refine x_pc (pc2 := 63) rfl ?_
  refine x_callNv dX3_become_63 nn_X3_53 mt_X8_copyRow st_X8_copyRow (ct_X8_copyRow (by omega) (by omega) rfl rfl) rfl rfl (Nat.le_of_ble_eq_true rfl) ⟨(Nat.le_of_ble_eq_true rfl), (Nat.le_of_ble_eq_true rfl)⟩ ⟨rfl, rfl⟩ ⟨(Nat.le_of_ble_eq_true rfl), (Nat.le_of_ble_eq_true rfl)⟩ ?_
  refine x_aload_n dX3_become_66 rfl ?_
  refine x_getR dX3_become_67 fl_X3_30 (by omega) rfl rfl rfl ?_
  refine x_aload_n dX3_become_70 rfl ?_
  refine x_getR dX3_become_71 fl_X3_30 (by omega) rfl rfl rfl ?_
  refine x_callNv dX3_become_74 nn_X3_53 mt_X8_copyRow st_X8_copyRow (ct_X8_copyRow (by omega) (by omega) rfl rfl) rfl rfl (Nat.le_of_ble_eq_true rfl) ⟨(Nat.le_of_ble_eq_true rfl), (Nat.le_of_ble_eq_true rfl)⟩ ⟨rfl, rfl⟩ ⟨(Nat.le_of_ble_eq_true rfl), (Nat.le_of_ble_eq_true rfl)⟩ ?_
  refine x_pc (pc2 := 77) rfl ?_
  refine x_aload_n dX3_become_77 rfl ?_
  refine x_getR dX3_become_78 fl_X3_33 (by omega) rfl rfl rfl ?_
  refine x_aload_n dX3_become_81 rfl ?_
  refine x_getR dX3_become_82 fl_X3_33 (by omega) rfl rfl rfl ?_
  refine x_callNv dX3_become_85 nn_X3_53 mt_X8_copyRow st_X8_copyRow (ct_X8_copyRow (by omega) (by omega) rfl rfl) rfl rfl (Nat.le_of_ble_eq_true rfl) ⟨(Nat.le_of_ble_eq_true rfl), (Nat.le_of_ble_eq_true rfl)⟩ ⟨rfl, rfl⟩ ⟨(Nat.le_of_ble_eq_true rfl), (Nat.le_of_ble_eq_true rfl)⟩ ?_
  refine x_aload_n dX3_become_88 rfl ?_
  refine x_pc (pc2 := 89) rfl ?_
  refine x_getR dX3_become_89 fl_X3_36 (by omega) rfl rfl rfl ?_
  refine x_aload_n dX3_become_92 rfl ?_
  refine x_getR dX3_become_93 fl_X3_36 (by omega) rfl rfl rfl ?_
  refine x_callNv dX3_become_96 nn_X3_53 mt_X8_copyRow st_X8_copyRow (ct_X8_copyRow (by omega) (by omega) rfl rfl) rfl rfl (Nat.le_of_ble_eq_true rfl) ⟨(Nat.le_of_ble_eq_true rfl), (Nat.le_of_ble_eq_true rfl)⟩ ⟨rfl, rfl⟩ ⟨(Nat.le_of_ble_eq_true rfl), (Nat.le_of_ble_eq_true rfl)⟩ ?_
  refine x_iconst (v := 0) dX3_become_99 (by decide) ?_
  refine x_istore_n (lo2 := [_, _, _]) dX3_become_100 (by decide) rfl rfl ?_
  refine x_loop (inv := fun i => True) (fun i => [some (.ref (g.2.1 + 1)), some (.ref (g.2.1 + 58)), some (.int (nI i))]) (fun i => zrow (zrow (zrow (zrow (zrow (zrow (zrow (zrow (zrow (zrow I 2 (I 59)) 3 (I 60)) 4 (I 61)) 5 (I 62)) 6 (I 63)) 7 (I 64)) 8 (I 65)) 9 (I 66)) 10 (I 67)) 11 (zpre i (I 68) (I 11))) (fun i => L) 0 8 (by omega) (by trivial) (by rfl) (by rw [zpre_0]; funext a; by_cases e : a = 11 <;> simp [zrow, e]) (by rfl) (fun i hloi hhii hinvi Ki => ?_) (fun hinvi => ?_)
  · skip
    refine x_iload_n dX3_become_101 rfl ?_
    refine x_bipush (v := 8) dX3_become_102 (by decide) ?_
    refine x_icmp_ge (tgt := 125) dX3_become_104 (by decide) (fun h104 => ?_) (fun h104 => ?_)
    · skip
      exact absurd h104 (nI_ge (b := 8) hhii (by decide))
    · skip
      refine x_aload_n dX3_become_107 rfl ?_
      refine x_getR dX3_become_108 fl_X3_39 (by omega) rfl rfl rfl ?_
      refine x_iload_n dX3_become_111 rfl ?_
      refine x_aload_n dX3_become_112 rfl ?_
      refine x_getR dX3_become_113 fl_X3_39 (by omega) rfl rfl rfl ?_
      refine x_pc (pc2 := 116) rfl ?_
      refine x_iload_n dX3_become_116 rfl ?_
      refine x_zald dX3_become_117 (by omega) rfl rfl (by omega) ?_
      rw [show zrow (zrow (zrow (zrow (zrow (zrow (zrow (zrow (zrow (zrow I 2 (I 59)) 3 (I 60)) 4 (I 61)) 5 (I 62)) 6 (I 63)) 7 (I 64)) 8 (I 65)) 9 (I 66)) 10 (I 67)) 11 (zpre i (I 68) (I 11)) 68 i = I 68 i from by simp [zrow]]
      refine x_zast dX3_become_118 (by omega) rfl rfl (by omega) (hz _ hhii) ?_
      refine x_iincN (lo2 := [_, _, _]) dX3_become_119 rfl rfl rfl ?_
      refine x_goto (tgt := 101) dX3_become_122 (by decide) ?_
      exact x_eq (by rfl) (by rw [zu_zrow, ← zpre_s]) (by rfl) (Ki (by trivial))
  · skip
    refine x_iload_n dX3_become_101 rfl ?_
    refine x_bipush (v := 8) dX3_become_102 (by decide) ?_
    refine x_icmp_ge (tgt := 125) dX3_become_104 (by decide) (fun h104 => ?_) (fun h104 => ?_)
    · skip
      refine x_aload_n dX3_become_125 rfl ?_
      refine x_aload_n dX3_become_126 rfl ?_
      refine x_getI dX3_become_127 fl_X3_43 (by omega) rfl rfl ?_
      refine x_putI dX3_become_130 fp_X3_43 (by omega) rfl ?_
      refine x_aload_n dX3_become_133 rfl ?_
      refine x_pc (pc2 := 134) rfl ?_
      refine x_aload_n dX3_become_134 rfl ?_
      refine x_getI dX3_become_135 fl_X3_47 (by omega) rfl rfl ?_
      refine x_putI dX3_become_138 fp_X3_47 (by omega) rfl ?_
      refine x_aload_n dX3_become_141 rfl ?_
      refine x_aload_n dX3_become_142 rfl ?_
      refine x_getI dX3_become_143 fl_X3_50 (by omega) rfl rfl ?_
      refine x_pc (pc2 := 146) rfl ?_
      refine x_putI dX3_become_146 fp_X3_50 (by omega) rfl ?_
      refine x_sameV (I' := zbec I 1 58) (fun k _ j hv => ?_) ?_
      · by_cases h : 1 ≤ k ∧ k ≤ 11
        · obtain ⟨d, hd, rfl⟩ : ∃ d, d < 11 ∧ k = 1 + d := ⟨k - 1, by omega, by omega⟩
          rcases (show d = 0 ∨ d = 1 ∨ d = 2 ∨ d = 3 ∨ d = 4 ∨ d = 5 ∨ d = 6 ∨ d = 7 ∨ d = 8 ∨ d = 9 ∨ d = 10 by omega) with rfl | rfl | rfl | rfl | rfl | rfl | rfl | rfl | rfl | rfl | rfl
          · have hv : j < 13 ∧ zrf 3 j = false := hv
            have hj : j = 10 ∨ j = 11 ∨ j = 12 := by
              obtain ⟨h1, h2⟩ := hv
              rcases (show j = 0 ∨ j = 1 ∨ j = 2 ∨ j = 3 ∨ j = 4 ∨ j = 5 ∨ j = 6 ∨ j = 7 ∨ j = 8 ∨ j = 9 ∨ 10 ≤ j by omega) with rfl | rfl | rfl | rfl | rfl | rfl | rfl | rfl | rfl | rfl | h3
              all_goals first | (exact absurd h2 (by decide)) | omega
            rcases hj with rfl | rfl | rfl <;> simp [zbec, zu, zrow]
          all_goals first | (simp [zbec, zu, zrow]; done) | (have hv : j < 8 := hv; simp [zbec, zu, zrow, zpre, hv])
        · have e0 : k ≠ 1 := by omega
          have e1 : k ≠ 2 := by omega
          have e2 : k ≠ 3 := by omega
          have e3 : k ≠ 4 := by omega
          have e4 : k ≠ 5 := by omega
          have e5 : k ≠ 6 := by omega
          have e6 : k ≠ 7 := by omega
          have e7 : k ≠ 8 := by omega
          have e8 : k ≠ 9 := by omega
          have e9 : k ≠ 10 := by omega
          have e10 : k ≠ 11 := by omega
          simp [zbec, zu, zrow, h, e0, e1, e2, e3, e4, e5, e6, e7, e8, e9, e10]
      exact x_vret dX3_become_149 rfl (Nat.le_of_ble_eq_true rfl) (Nat.le_of_ble_eq_true rfl) ⟨rfl, rfl, by rfl, by rfl, rfl⟩
    · skip
      exact absurd (nI_le (b := 8) (Nat.le_refl 8) (by decide)) h104
theorem ct_X3_become_1_69 {g : zG} {N : Nat} {I : zI} {L : zL} {q0 q1 : Option Nat} (hN : 80 ≤ N) (hz : ∀ i, i < 8 → narrow .boolean (.int (I 79 i)) = .int (I 79 i)) : Ct g yX3_become mX3_become [.ref (g.2.1 + 1), .ref (g.2.1 + 69)] N I L (zRw q0 q1) (zD none N (zbec I 1 69) L (zRw q0 q1)) := by
  refine Ct_of (lo0 := [some (.ref (g.2.1 + 1)), some (.ref (g.2.1 + 69)), none]) rfl rfl rfl rfl (Nat.le_of_ble_eq_true rfl) (fun E => ?_)
  refine x_aload_n dX3_become_0 rfl ?_
  refine x_getR dX3_become_1 fl_X3_9 (by omega) rfl rfl rfl ?_
  refine x_aload_n dX3_become_4 rfl ?_
  refine x_getR dX3_become_5 fl_X3_9 (by omega) rfl rfl rfl ?_
  refine x_callNv dX3_become_8 nn_X3_53 mt_X8_copyRow st_X8_copyRow (ct_X8_copyRow (by omega) (by omega) rfl rfl) rfl rfl (Nat.le_of_ble_eq_true rfl) ⟨(Nat.le_of_ble_eq_true rfl), (Nat.le_of_ble_eq_true rfl)⟩ ⟨rfl, rfl⟩ ⟨(Nat.le_of_ble_eq_true rfl), (Nat.le_of_ble_eq_true rfl)⟩ ?_
  refine x_pc (pc2 := 11) rfl ?_
  refine x_aload_n dX3_become_11 rfl ?_
  refine x_getR dX3_become_12 fl_X3_15 (by omega) rfl rfl rfl ?_
  refine x_aload_n dX3_become_15 rfl ?_
  refine x_getR dX3_become_16 fl_X3_15 (by omega) rfl rfl rfl ?_
  refine x_callNv dX3_become_19 nn_X3_53 mt_X8_copyRow st_X8_copyRow (ct_X8_copyRow (by omega) (by omega) rfl rfl) rfl rfl (Nat.le_of_ble_eq_true rfl) ⟨(Nat.le_of_ble_eq_true rfl), (Nat.le_of_ble_eq_true rfl)⟩ ⟨rfl, rfl⟩ ⟨(Nat.le_of_ble_eq_true rfl), (Nat.le_of_ble_eq_true rfl)⟩ ?_
  refine x_aload_n dX3_become_22 rfl ?_
  refine x_pc (pc2 := 23) rfl ?_
  refine x_getR dX3_become_23 fl_X3_18 (by omega) rfl rfl rfl ?_
  refine x_aload_n dX3_become_26 rfl ?_
  refine x_getR dX3_become_27 fl_X3_18 (by omega) rfl rfl rfl ?_
  refine x_callNv dX3_become_30 nn_X3_53 mt_X8_copyRow st_X8_copyRow (ct_X8_copyRow (by omega) (by omega) rfl rfl) rfl rfl (Nat.le_of_ble_eq_true rfl) ⟨(Nat.le_of_ble_eq_true rfl), (Nat.le_of_ble_eq_true rfl)⟩ ⟨rfl, rfl⟩ ⟨(Nat.le_of_ble_eq_true rfl), (Nat.le_of_ble_eq_true rfl)⟩ ?_
  refine x_aload_n dX3_become_33 rfl ?_
  refine x_getR dX3_become_34 fl_X3_21 (by omega) rfl rfl rfl ?_
  refine x_pc (pc2 := 37) rfl ?_
  refine x_aload_n dX3_become_37 rfl ?_
  refine x_getR dX3_become_38 fl_X3_21 (by omega) rfl rfl rfl ?_
  refine x_callNv dX3_become_41 nn_X3_53 mt_X8_copyRow st_X8_copyRow (ct_X8_copyRow (by omega) (by omega) rfl rfl) rfl rfl (Nat.le_of_ble_eq_true rfl) ⟨(Nat.le_of_ble_eq_true rfl), (Nat.le_of_ble_eq_true rfl)⟩ ⟨rfl, rfl⟩ ⟨(Nat.le_of_ble_eq_true rfl), (Nat.le_of_ble_eq_true rfl)⟩ ?_
  refine x_aload_n dX3_become_44 rfl ?_
  refine x_getR dX3_become_45 fl_X3_24 (by omega) rfl rfl rfl ?_
  refine x_aload_n dX3_become_48 rfl ?_
  refine x_pc (pc2 := 49) rfl ?_
  refine x_getR dX3_become_49 fl_X3_24 (by omega) rfl rfl rfl ?_
  refine x_callNv dX3_become_52 nn_X3_53 mt_X8_copyRow st_X8_copyRow (ct_X8_copyRow (by omega) (by omega) rfl rfl) rfl rfl (Nat.le_of_ble_eq_true rfl) ⟨(Nat.le_of_ble_eq_true rfl), (Nat.le_of_ble_eq_true rfl)⟩ ⟨rfl, rfl⟩ ⟨(Nat.le_of_ble_eq_true rfl), (Nat.le_of_ble_eq_true rfl)⟩ ?_
  refine x_aload_n dX3_become_55 rfl ?_
  refine x_getR dX3_become_56 fl_X3_27 (by omega) rfl rfl rfl ?_
  refine x_aload_n dX3_become_59 rfl ?_
  refine x_getR dX3_become_60 fl_X3_27 (by omega) rfl rfl rfl ?_
  refine x_pc (pc2 := 63) rfl ?_
  refine x_callNv dX3_become_63 nn_X3_53 mt_X8_copyRow st_X8_copyRow (ct_X8_copyRow (by omega) (by omega) rfl rfl) rfl rfl (Nat.le_of_ble_eq_true rfl) ⟨(Nat.le_of_ble_eq_true rfl), (Nat.le_of_ble_eq_true rfl)⟩ ⟨rfl, rfl⟩ ⟨(Nat.le_of_ble_eq_true rfl), (Nat.le_of_ble_eq_true rfl)⟩ ?_
  refine x_aload_n dX3_become_66 rfl ?_
  refine x_getR dX3_become_67 fl_X3_30 (by omega) rfl rfl rfl ?_
  refine x_aload_n dX3_become_70 rfl ?_
  refine x_getR dX3_become_71 fl_X3_30 (by omega) rfl rfl rfl ?_
  refine x_callNv dX3_become_74 nn_X3_53 mt_X8_copyRow st_X8_copyRow (ct_X8_copyRow (by omega) (by omega) rfl rfl) rfl rfl (Nat.le_of_ble_eq_true rfl) ⟨(Nat.le_of_ble_eq_true rfl), (Nat.le_of_ble_eq_true rfl)⟩ ⟨rfl, rfl⟩ ⟨(Nat.le_of_ble_eq_true rfl), (Nat.le_of_ble_eq_true rfl)⟩ ?_
  refine x_pc (pc2 := 77) rfl ?_
  refine x_aload_n dX3_become_77 rfl ?_
  refine x_getR dX3_become_78 fl_X3_33 (by omega) rfl rfl rfl ?_
  refine x_aload_n dX3_become_81 rfl ?_
  refine x_getR dX3_become_82 fl_X3_33 (by omega) rfl rfl rfl ?_
  refine x_callNv dX3_become_85 nn_X3_53 mt_X8_copyRow st_X8_copyRow (ct_X8_copyRow (by omega) (by omega) rfl rfl) rfl rfl (Nat.le_of_ble_eq_true rfl) ⟨(Nat.le_of_ble_eq_true rfl), (Nat.le_of_ble_eq_true rfl)⟩ ⟨rfl, rfl⟩ ⟨(Nat.le_of_ble_eq_true rfl), (Nat.le_of_ble_eq_true rfl)⟩ ?_
  refine x_aload_n dX3_become_88 rfl ?_
  refine x_pc (pc2 := 89) rfl ?_
  refine x_getR dX3_become_89 fl_X3_36 (by omega) rfl rfl rfl ?_
  refine x_aload_n dX3_become_92 rfl ?_
  refine x_getR dX3_become_93 fl_X3_36 (by omega) rfl rfl rfl ?_
  refine x_callNv dX3_become_96 nn_X3_53 mt_X8_copyRow st_X8_copyRow (ct_X8_copyRow (by omega) (by omega) rfl rfl) rfl rfl (Nat.le_of_ble_eq_true rfl) ⟨(Nat.le_of_ble_eq_true rfl), (Nat.le_of_ble_eq_true rfl)⟩ ⟨rfl, rfl⟩ ⟨(Nat.le_of_ble_eq_true rfl), (Nat.le_of_ble_eq_true rfl)⟩ ?_
  refine x_iconst (v := 0) dX3_become_99 (by decide) ?_
  refine x_istore_n (lo2 := [_, _, _]) dX3_become_100 (by decide) rfl rfl ?_
  refine x_loop (inv := fun i => True) (fun i => [some (.ref (g.2.1 + 1)), some (.ref (g.2.1 + 69)), some (.int (nI i))]) (fun i => zrow (zrow (zrow (zrow (zrow (zrow (zrow (zrow (zrow (zrow I 2 (I 70)) 3 (I 71)) 4 (I 72)) 5 (I 73)) 6 (I 74)) 7 (I 75)) 8 (I 76)) 9 (I 77)) 10 (I 78)) 11 (zpre i (I 79) (I 11))) (fun i => L) 0 8 (by omega) (by trivial) (by rfl) (by rw [zpre_0]; funext a; by_cases e : a = 11 <;> simp [zrow, e]) (by rfl) (fun i hloi hhii hinvi Ki => ?_) (fun hinvi => ?_)
  · skip
    refine x_iload_n dX3_become_101 rfl ?_
    refine x_bipush (v := 8) dX3_become_102 (by decide) ?_
    refine x_icmp_ge (tgt := 125) dX3_become_104 (by decide) (fun h104 => ?_) (fun h104 => ?_)
    · skip
      exact absurd h104 (nI_ge (b := 8) hhii (by decide))
    · skip
      refine x_aload_n dX3_become_107 rfl ?_
      refine x_getR dX3_become_108 fl_X3_39 (by omega) rfl rfl rfl ?_
      refine x_iload_n dX3_become_111 rfl ?_
      refine x_aload_n dX3_become_112 rfl ?_
      refine x_getR dX3_become_113 fl_X3_39 (by omega) rfl rfl rfl ?_
      refine x_pc (pc2 := 116) rfl ?_
      refine x_iload_n dX3_become_116 rfl ?_
      refine x_zald dX3_become_117 (by omega) rfl rfl (by omega) ?_
      rw [show zrow (zrow (zrow (zrow (zrow (zrow (zrow (zrow (zrow (zrow I 2 (I 70)) 3 (I 71)) 4 (I 72)) 5 (I 73)) 6 (I 74)) 7 (I 75)) 8 (I 76)) 9 (I 77)) 10 (I 78)) 11 (zpre i (I 79) (I 11)) 79 i = I 79 i from by simp [zrow]]
      refine x_zast dX3_become_118 (by omega) rfl rfl (by omega) (hz _ hhii) ?_
      refine x_iincN (lo2 := [_, _, _]) dX3_become_119 rfl rfl rfl ?_
      refine x_goto (tgt := 101) dX3_become_122 (by decide) ?_
      exact x_eq (by rfl) (by rw [zu_zrow, ← zpre_s]) (by rfl) (Ki (by trivial))
  · skip
    refine x_iload_n dX3_become_101 rfl ?_
    refine x_bipush (v := 8) dX3_become_102 (by decide) ?_
    refine x_icmp_ge (tgt := 125) dX3_become_104 (by decide) (fun h104 => ?_) (fun h104 => ?_)
    · skip
      refine x_aload_n dX3_become_125 rfl ?_
      refine x_aload_n dX3_become_126 rfl ?_
      refine x_getI dX3_become_127 fl_X3_43 (by omega) rfl rfl ?_
      refine x_putI dX3_become_130 fp_X3_43 (by omega) rfl ?_
      refine x_aload_n dX3_become_133 rfl ?_
      refine x_pc (pc2 := 134) rfl ?_
      refine x_aload_n dX3_become_134 rfl ?_
      refine x_getI dX3_become_135 fl_X3_47 (by omega) rfl rfl ?_
      refine x_putI dX3_become_138 fp_X3_47 (by omega) rfl ?_
      refine x_aload_n dX3_become_141 rfl ?_
      refine x_aload_n dX3_become_142 rfl ?_
      refine x_getI dX3_become_143 fl_X3_50 (by omega) rfl rfl ?_
      refine x_pc (pc2 := 146) rfl ?_
      refine x_putI dX3_become_146 fp_X3_50 (by omega) rfl ?_
      refine x_sameV (I' := zbec I 1 69) (fun k _ j hv => ?_) ?_
      · by_cases h : 1 ≤ k ∧ k ≤ 11
        · obtain ⟨d, hd, rfl⟩ : ∃ d, d < 11 ∧ k = 1 + d := ⟨k - 1, by omega, by omega⟩
          rcases (show d = 0 ∨ d = 1 ∨ d = 2 ∨ d = 3 ∨ d = 4 ∨ d = 5 ∨ d = 6 ∨ d = 7 ∨ d = 8 ∨ d = 9 ∨ d = 10 by omega) with rfl | rfl | rfl | rfl | rfl | rfl | rfl | rfl | rfl | rfl | rfl
          · have hv : j < 13 ∧ zrf 3 j = false := hv
            have hj : j = 10 ∨ j = 11 ∨ j = 12 := by
              obtain ⟨h1, h2⟩ := hv
              rcases (show j = 0 ∨ j = 1 ∨ j = 2 ∨ j = 3 ∨ j = 4 ∨ j = 5 ∨ j = 6 ∨ j = 7 ∨ j = 8 ∨ j = 9 ∨ 10 ≤ j by omega) with rfl | rfl | rfl | rfl | rfl | rfl | rfl | rfl | rfl | rfl | h3
              all_goals first | (exact absurd h2 (by decide)) | omega
            rcases hj with rfl | rfl | rfl <;> simp [zbec, zu, zrow]
          all_goals first | (simp [zbec, zu, zrow]; done) | (have hv : j < 8 := hv; simp [zbec, zu, zrow, zpre, hv])
        · have e0 : k ≠ 1 := by omega
          have e1 : k ≠ 2 := by omega
          have e2 : k ≠ 3 := by omega
          have e3 : k ≠ 4 := by omega
          have e4 : k ≠ 5 := by omega
          have e5 : k ≠ 6 := by omega
          have e6 : k ≠ 7 := by omega
          have e7 : k ≠ 8 := by omega
          have e8 : k ≠ 9 := by omega
          have e9 : k ≠ 10 := by omega
          have e10 : k ≠ 11 := by omega
          simp [zbec, zu, zrow, h, e0, e1, e2, e3, e4, e5, e6, e7, e8, e9, e10]
      exact x_vret dX3_become_149 rfl (Nat.le_of_ble_eq_true rfl) (Nat.le_of_ble_eq_true rfl) ⟨rfl, rfl, by rfl, by rfl, rfl⟩
    · skip
      exact absurd (nI_le (b := 8) (Nat.le_refl 8) (by decide)) h104
