/-! the reference's MAKE, RING, SHAPES -/
def kma (I : zI) (mk : Int32) : Nat → Int32 × Int32
  | 0 => (-6, 1000000)
  | i + 1 => if zwi (nI i) (I 41 12) = true ∧ mo_ (fun h => I 41 (6 + h)) (nI i) 6 = mk ∧ so_ (I 41) (nI i) 6 < (kma I mk i).2 then (nI i, so_ (I 41) (nI i) 6) else kma I mk i
def kmaA (I : zI) (mk w : Int32) : Int32 := if zin mk 0 255 = false ∨ zin w 0 1 = false then -2 else if (kma I mk 64).1 < 0 ∨ w = 1 then (kma I mk 64).1 else (kma I mk 64).2
def kw_ (f : Nat → Int32) (s k : Int32) : Nat → Bool
  | 0 => false
  | c + 1 => kw_ f s k c || (zis s (nI c) && zin k (f c / 100) (f c - f c / 100 * 100))
/-- the hours from a on, n of them, each under a coat of s; and first the flag -/
def kv_ (f : Nat → Int32) (s : Int32) (a : Nat) (b : Bool) : Nat → Bool
  | 0 => b
  | n + 1 => kv_ f s a b n && kw_ f s (nI (a + n)) 8
theorem kv_no {f : Nat → Int32} {s : Int32} {a : Nat} {b : Bool} {i n : Nat} (h : kv_ f s a b i = false) (hn : i ≤ n) : kv_ f s a b n = false := by
  induction n with
  | zero => rw [show i = 0 by omega] at h; exact h
  | succ n ih =>
    by_cases e : i = n + 1
    · rw [← e]; exact h
    · simp [kv_, ih (by omega)]
def krn (f : Nat → Int32) (a n : Nat) : Nat → Int32
  | 0 => -6
  | s + 1 => if kv_ f (nI (s + 1)) a (decide (krn f a n s < 0 ∨ bt_ (nI (s + 1)) 10 < bt_ (krn f a n s) 10)) n = true then nI (s + 1) else krn f a n s
def krgA (I : zI) (a b w : Int32) : Int32 := if zin a 0 23 = false ∨ zin b a 23 = false ∨ zin w 0 1 = false then -2 else
  if krn (I 46) (zx a) (zx b + 1 - zx a) 255 < 0 ∨ w = 1 then krn (I 46) (zx a) (zx b + 1 - zx a) 255 else bt_ (krn (I 46) (zx a) (zx b + 1 - zx a) 255) 10
def kseI (I : zI) (n : Nat) (h : Int32) (b : Bool) : zI := if zin h 0 5 = true ∧ n < 8 then zu (zu (zu I 48 (2 * n) h) 48 (2 * n + 1) (zb b)) 40 7 (nI (n + 1)) else I
def khas (gr f : Nat → Int32) (s : Int32) : Nat → Bool
  | 0 => true
  | i + 1 => khas gr f s i && decide (zb (zwi (gr (f (2 * i)).toNatClampNeg) s) = zb (decide (f (2 * i + 1) = 1)))
theorem khas_no {gr f : Nat → Int32} {s : Int32} {i n : Nat} (h : khas gr f s i = false) (hn : i ≤ n) : khas gr f s n = false := by
  induction n with
  | zero => rw [show i = 0 by omega] at h; exact h
  | succ n ih =>
    by_cases e : i = n + 1
    · rw [← e]; exact h
    · simp [khas, ih (by omega)]
def ksp (I : zI) (n : Nat) (s : Nat) : Bool := khas (I 43) (I 48) (nI s) n
def kse (p : Nat → Bool) (k : Int32) : Nat → Option Nat
  | 0 => none
  | s + 1 => match kse p k s with
    | some x => some x
    | none => if p s = true ∧ nI (cn_ p s) = k then some s else none
theorem kse_some {p : Nat → Bool} {k : Int32} {i n x : Nat} (h : kse p k i = some x) (hn : i ≤ n) : kse p k n = some x := by
  induction n with
  | zero => rw [show i = 0 by omega] at h; exact h
  | succ n ih =>
    by_cases e : i = n + 1
    · rw [← e]; exact h
    · simp [kse, ih (by omega)]
def kshA (I : zI) (n : Nat) (i : Int32) : Int32 := match kse (ksp I n) i 256 with
  | some s => nI s
  | none => if i = -1 then nI (cn_ (ksp I n) 256) else -6
def kas (p : Nat → Bool) (gr : Nat → Int32) : Nat → Int32 × Nat
  | 0 => (-6, 1000000)
  | h + 1 => if 0 < cn_ p 256 ∧ mxN p (gr h) < (kas p gr h).2 then (nI h, mxN p (gr h)) else kas p gr h
theorem kas_le (p : Nat → Bool) (gr : Nat → Int32) : ∀ h, (kas p gr h).2 ≤ 1000000
  | 0 => Nat.le_refl _
  | h + 1 => by
    have := kas_le p gr h
    simp only [kas]
    split
    · dsimp only; omega
    · exact this
def kasA (I : zI) (n : Nat) (w : Int32) : Int32 := if zin w 0 1 = false then -2 else if (kas (ksp I n) (I 43) 6).1 < 0 ∨ w = 0 then (kas (ksp I n) (I 43) 6).1 else nI (kas (ksp I n) (I 43) 6).2
theorem zb_or0 {b : Bool} (x : Int32) : x + zb b = if b = true then x + 1 else x + 0 := by cases b <;> rfl
theorem cn_and {p q : Nat → Bool} : ∀ n, cn_ (fun s => p s && q s) n ≤ cn_ p n
  | 0 => Nat.le_refl _
  | n + 1 => by
    have := cn_and (p := p) (q := q) n
    by_cases e : p n = true
    · by_cases f : q n = true
      · simp [cn_, e, f]; exact this
      · simp [cn_, e, f]; omega
    · simp [cn_, e]; exact this
theorem ksh_some {I : zI} {n s : Nat} {j : Int32} (h : kse (ksp I n) j 256 = some s) : nI s = kshA I n j := by
  unfold kshA
  rw [h]
theorem ksh_m1 {I : zI} {n : Nat} {j : Int32} (h : kse (ksp I n) j 256 = none) (e : j = -1) : nI (cn_ (ksp I n) 256) = kshA I n j := by
  unfold kshA
  rw [h]
  exact (if_pos e).symm
theorem ksh_m6 {I : zI} {n : Nat} {j : Int32} (h : kse (ksp I n) j 256 = none) (e : ¬ j = -1) : (-6 : Int32) = kshA I n j := by
  unfold kshA
  rw [h]
  exact (if_neg e).symm

theorem ct_X9_make {g : zG} {N : Nat} {I : zI} {L : zL} {q0 q1 : Option Nat} {mk w : Int32} (hN : 58 ≤ N) : Ct g yX9_make mX9_make [.ref (g.2.1 + 40), .int mk, .int w] N I L (zRw q0 q1) (zV (.int (kmaA I mk w)) N I (zRw q0 q1)) := by
  refine Ct_of (lo0 := [some (.ref (g.2.1 + 40)), some (.int mk), some (.int w), none, none, none, none, none, none]) rfl rfl rfl rfl (Nat.le_of_ble_eq_true rfl) (fun E => ?_)
  refine x_iload_n dX9_make_0 rfl ?_
  refine x_iconst (v := 0) dX9_make_1 (by decide) ?_
  refine x_sipush (v := 255) dX9_make_2 (by decide) ?_
  refine x_callSi dX9_make_5 ml_X9_63 mt_X9_in st_X9_in (ct_X9_in) rfl rfl (Nat.le_of_ble_eq_true rfl) ⟨(Nat.le_of_ble_eq_true rfl), (Nat.le_of_ble_eq_true rfl)⟩ ⟨rfl, rfl⟩ ⟨(Nat.le_of_ble_eq_true rfl), (Nat.le_of_ble_eq_true rfl)⟩ ?_
  refine x_if_eq (tgt := 20) dX9_make_8 (by decide) (fun h8 => ?_) (fun h8 => ?_)
  · skip
    replace h8 := zb0 h8
    refine x_bipush (v := (-2)) dX9_make_20 (by decide) ?_
    refine x_iret dX9_make_22 rfl (Nat.le_of_ble_eq_true rfl) (Nat.le_of_ble_eq_true rfl) ?_
    refine zV_of (congrArg Value.int ?_) ?_ ?_ ?_
    · first | (rw [kmaA, if_pos (by simp [h8])]; done) | (rw [kmaA, if_neg (by simp [h8, h17]), if_pos (Or.inl h185)]; done) | (rw [kmaA, if_neg (by simp [h8, h17]), if_pos (Or.inr h190)]; done) | (rw [kmaA, if_neg (by simp [h8, h17]), if_neg (fun q => q.elim h185 h190)])
    · intro _ _; rfl
    · rfl
    · rfl
  · skip
    replace h8 := zb1 h8
    refine x_iload_n dX9_make_11 rfl ?_
    refine x_iconst (v := 0) dX9_make_12 (by decide) ?_
    refine x_iconst (v := 1) dX9_make_13 (by decide) ?_
    refine x_callSi dX9_make_14 ml_X9_63 mt_X9_in st_X9_in (ct_X9_in) rfl rfl (Nat.le_of_ble_eq_true rfl) ⟨(Nat.le_of_ble_eq_true rfl), (Nat.le_of_ble_eq_true rfl)⟩ ⟨rfl, rfl⟩ ⟨(Nat.le_of_ble_eq_true rfl), (Nat.le_of_ble_eq_true rfl)⟩ ?_
    refine x_if_ne (tgt := 23) dX9_make_17 (by decide) (fun h17 => ?_) (fun h17 => ?_)
    · skip
      replace h17 := zb1 h17
      refine x_ldc dX9_make_23 cn_X9_137 ?_
      refine x_istore_n (lo2 := [_, _, _, _, _, _, _, _, _]) dX9_make_25 (by decide) rfl rfl ?_
      refine x_bipush (v := (-6)) dX9_make_26 (by decide) ?_
      refine x_istore (lo2 := [_, _, _, _, _, _, _, _, _]) dX9_make_28 (by decide) rfl rfl ?_
      refine x_iconst (v := 0) dX9_make_30 (by decide) ?_
      refine x_pc (pc2 := 31) rfl ?_
      refine x_istore (lo2 := [_, _, _, _, _, _, _, _, _]) dX9_make_31 (by decide) rfl rfl ?_
      refine x_loop (inv := fun s => True) (fun s => [some (.ref (g.2.1 + 40)), some (.int mk), some (.int w), some (.int (kma I mk s).2), some (.int (kma I mk s).1), some (.int (nI s)), none, none, none]) (fun s => I) (fun s => L) 0 64 (by omega) (by trivial) (by rfl) (by rfl) (by rfl) (fun s hlos hhis hinvs Ks => ?_) (fun hinvs => ?_)
      · skip
        refine x_iload dX9_make_33 rfl ?_
        refine x_bipush (v := 64) dX9_make_35 (by decide) ?_
        refine x_icmp_ge (tgt := 183) dX9_make_37 (by decide) (fun h37 => ?_) (fun h37 => ?_)
        · skip
          exact absurd h37 (nI_ge (b := 64) hhis (by decide))
        · skip
          refine x_iconst (v := 0) dX9_make_40 (by decide) ?_
          refine x_istore (lo2 := [_, _, _, _, _, _, _, _, _]) dX9_make_41 (by decide) rfl rfl ?_
          refine x_iconst (v := 0) dX9_make_43 (by decide) ?_
          refine x_istore (lo2 := [_, _, _, _, _, _, _, _, _]) dX9_make_44 (by decide) rfl rfl ?_
          refine x_iconst (v := 0) dX9_make_46 (by decide) ?_
          refine x_pc (pc2 := 47) rfl ?_
          refine x_istore (lo2 := [_, _, _, _, _, _, _, _, _]) dX9_make_47 (by decide) rfl rfl ?_
          refine x_loop (inv := fun i => True) (fun i => [some (.ref (g.2.1 + 40)), some (.int mk), some (.int w), some (.int (kma I mk s).2), some (.int (kma I mk s).1), some (.int (nI s)), some (.int (mo_ (fun h => I 41 (6 + h)) (nI s) i)), some (.int (so_ (I 41) (nI s) i)), some (.int (nI i))]) (fun i => I) (fun i => L) 0 6 (by omega) (by trivial) (by rfl) (by rfl) (by rfl) (fun i hloi hhii hinvi Ki => ?_) (fun hinvi => ?_)
          · skip
            refine x_iload dX9_make_49 rfl ?_
            refine x_bipush (v := 6) dX9_make_51 (by decide) ?_
            refine x_icmp_ge (tgt := 117) dX9_make_53 (by decide) (fun h53 => ?_) (fun h53 => ?_)
            · skip
              exact absurd h53 (nI_ge (b := 6) hhii (by decide))
            · skip
              refine x_iload dX9_make_56 rfl ?_
              refine x_iload dX9_make_58 rfl ?_
              refine x_iload dX9_make_60 rfl ?_
              refine x_callSi dX9_make_62 ml_X9_67 mt_X9_has st_X9_has (ct_X9_has) rfl rfl (Nat.le_of_ble_eq_true rfl) ⟨(Nat.le_of_ble_eq_true rfl), (Nat.le_of_ble_eq_true rfl)⟩ ⟨rfl, rfl⟩ ⟨(Nat.le_of_ble_eq_true rfl), (Nat.le_of_ble_eq_true rfl)⟩ ?_
              refine x_if_eq (tgt := 81) dX9_make_65 (by decide) (fun h65 => ?_) (fun h65 => ?_)
              · skip
                replace h65 := zb0 h65
                refine x_iconst (v := 0) dX9_make_81 (by decide) ?_
                refine x_ior dX9_make_82 ?_
                refine x_istore (lo2 := [_, _, _, _, _, _, _, _, _]) dX9_make_83 (by decide) rfl rfl ?_
                refine x_iload dX9_make_85 rfl ?_
                refine x_iload dX9_make_87 rfl ?_
                refine x_pc (pc2 := 89) rfl ?_
                refine x_iload dX9_make_89 rfl ?_
                refine x_callSi dX9_make_91 ml_X9_67 mt_X9_has st_X9_has (ct_X9_has) rfl rfl (Nat.le_of_ble_eq_true rfl) ⟨(Nat.le_of_ble_eq_true rfl), (Nat.le_of_ble_eq_true rfl)⟩ ⟨rfl, rfl⟩ ⟨(Nat.le_of_ble_eq_true rfl), (Nat.le_of_ble_eq_true rfl)⟩ ?_
                refine x_if_eq (tgt := 107) dX9_make_94 (by decide) (fun h94 => ?_) (fun h94 => ?_)
                · skip
                  replace h94 := zb0 h94
                  refine x_iconst (v := 0) dX9_make_107 (by decide) ?_
                  refine x_iadd dX9_make_108 ?_
                  refine x_istore (lo2 := [_, _, _, _, _, _, _, _, _]) dX9_make_109 (by decide) rfl rfl ?_
                  refine x_iincN (lo2 := [_, _, _, _, _, _, _, _, _]) dX9_make_111 rfl rfl rfl ?_
                  refine x_goto (tgt := 49) dX9_make_114 (by decide) ?_
                  exact x_eq (by simp only [mo_, so_, h8, h17, h37, h53, h65, h94]; simp) (by rfl) (by rfl) (Ki (by trivial))
                · skip
                  replace h94 := zb1 h94
                  exact absurd (h65.symm.trans h94) (by decide)
              · skip
                replace h65 := zb1 h65
                refine x_aload_n dX9_make_68 rfl ?_
                refine x_getR dX9_make_69 fl_X9_7 (by omega) rfl rfl rfl ?_
                refine x_bipush (v := 6) dX9_make_72 (by decide) ?_
                refine x_iload dX9_make_74 rfl ?_
                refine x_iadd dX9_make_76 ?_
                refine x_pc (pc2 := 77) rfl ?_
                refine x_ialdN dX9_make_77 (by omega) rfl (show nI 6 + nI i = nI (6 + i) from nI_add 6 i) (by omega) ?_
                refine x_goto (tgt := 82) dX9_make_78 (by decide) ?_
                refine x_ior dX9_make_82 ?_
                refine x_istore (lo2 := [_, _, _, _, _, _, _, _, _]) dX9_make_83 (by decide) rfl rfl ?_
                refine x_iload dX9_make_85 rfl ?_
                refine x_iload dX9_make_87 rfl ?_
                refine x_iload dX9_make_89 rfl ?_
                refine x_pc (pc2 := 91) rfl ?_
                refine x_callSi dX9_make_91 ml_X9_67 mt_X9_has st_X9_has (ct_X9_has) rfl rfl (Nat.le_of_ble_eq_true rfl) ⟨(Nat.le_of_ble_eq_true rfl), (Nat.le_of_ble_eq_true rfl)⟩ ⟨rfl, rfl⟩ ⟨(Nat.le_of_ble_eq_true rfl), (Nat.le_of_ble_eq_true rfl)⟩ ?_
                refine x_if_eq (tgt := 107) dX9_make_94 (by decide) (fun h94 => ?_) (fun h94 => ?_)
                · skip
                  replace h94 := zb0 h94
                  exact absurd (h65.symm.trans h94) (by decide)
                · skip
                  replace h94 := zb1 h94
                  refine x_aload_n dX9_make_97 rfl ?_
                  refine x_getR dX9_make_98 fl_X9_7 (by omega) rfl rfl rfl ?_
                  refine x_iload dX9_make_101 rfl ?_
                  refine x_ialdN dX9_make_103 (by omega) rfl rfl (by omega) ?_
                  refine x_goto (tgt := 108) dX9_make_104 (by decide) ?_
                  refine x_iadd dX9_make_108 ?_
                  refine x_istore (lo2 := [_, _, _, _, _, _, _, _, _]) dX9_make_109 (by decide) rfl rfl ?_
                  refine x_iincN (lo2 := [_, _, _, _, _, _, _, _, _]) dX9_make_111 rfl rfl rfl ?_
                  refine x_goto (tgt := 49) dX9_make_114 (by decide) ?_
                  exact x_eq (by simp only [mo_, so_, h8, h17, h37, h53, h65, h94]; simp) (by rfl) (by rfl) (Ki (by trivial))
          · skip
            refine x_iload dX9_make_49 rfl ?_
            refine x_bipush (v := 6) dX9_make_51 (by decide) ?_
            refine x_icmp_ge (tgt := 117) dX9_make_53 (by decide) (fun h53 => ?_) (fun h53 => ?_)
            · skip
              refine x_iload dX9_make_117 rfl ?_
              refine x_aload_n dX9_make_119 rfl ?_
              refine x_getR dX9_make_120 fl_X9_7 (by omega) rfl rfl rfl ?_
              refine x_bipush (v := 12) dX9_make_123 (by decide) ?_
              refine x_ialdN (i := 12) dX9_make_125 (by omega) rfl rfl (by decide) ?_
              refine x_pc (pc2 := 126) rfl ?_
              refine x_iconst (v := (-1)) dX9_make_126 (by decide) ?_
              refine x_ixor dX9_make_127 ?_
              refine x_iand dX9_make_128 ?_
              refine x_if_ne (tgt := 148) dX9_make_129 (by decide) (fun h129 => ?_) (fun h129 => ?_)
              · skip
                refine x_iconst (v := 0) dX9_make_148 (by decide) ?_
                refine x_istore (lo2 := [_, _, _, _, _, _, _, _, _]) dX9_make_149 (by decide) rfl rfl ?_
                refine x_iload dX9_make_151 rfl ?_
                refine x_if_eq (tgt := 161) dX9_make_153 (by decide) (fun h153 => ?_) (fun h153 => ?_)
                · skip
                  refine x_iload dX9_make_161 rfl ?_
                  refine x_istore (lo2 := [_, _, _, _, _, _, _, _, _]) dX9_make_163 (by decide) rfl rfl ?_
                  refine x_iload dX9_make_165 rfl ?_
                  refine x_if_eq (tgt := 175) dX9_make_167 (by decide) (fun h167 => ?_) (fun h167 => ?_)
                  · skip
                    refine x_iload_n dX9_make_175 rfl ?_
                    refine x_istore_n (lo2 := [_, _, _, _, _, _, _, _, _]) dX9_make_176 (by decide) rfl rfl ?_
                    refine x_iincN (lo2 := [_, _, _, _, _, _, _, _, _]) dX9_make_177 rfl rfl rfl ?_
                    refine x_goto (tgt := 33) dX9_make_180 (by decide) ?_
                    refine x_drop (i := 6) (lo2 := [_, _, _, _, _, _, _, _, _]) rfl ?_
                    refine x_drop (i := 7) (lo2 := [_, _, _, _, _, _, _, _, _]) rfl ?_
                    refine x_drop (i := 8) (lo2 := [_, _, _, _, _, _, _, _, _]) rfl ?_
                    first
                    | (have ek : kma I mk (s + 1) = (nI s, so_ (I 41) (nI s) 6) := by rw [kma, if_pos ⟨zwi_t (by simpa using h129), by simpa using h135, Int32.not_le.mp h141⟩]
                       exact x_eq (by rw [ek]) (by rfl) (by rfl) (Ks trivial))
                    | (have ek : kma I mk (s + 1) = kma I mk s := by rw [kma, if_neg (fun q => absurd (of_decide_eq_true q.1) h129)]
                       exact x_eq (by rw [ek]) (by rfl) (by rfl) (Ks trivial))
                    | (have ek : kma I mk (s + 1) = kma I mk s := by rw [kma, if_neg (fun q => h135 q.2.1)]
                       exact x_eq (by rw [ek]) (by rfl) (by rfl) (Ks trivial))
                    | (have ek : kma I mk (s + 1) = kma I mk s := by rw [kma, if_neg (fun q => absurd q.2.2 (Int32.not_lt.mpr h141))]
                       exact x_eq (by rw [ek]) (by rfl) (by rfl) (Ks trivial))
                  · skip
                    exact absurd rfl h167
                · skip
                  exact absurd rfl h153
              · skip
                refine x_iload dX9_make_132 rfl ?_
                refine x_iload_n dX9_make_134 rfl ?_
                refine x_icmp_ne (tgt := 148) dX9_make_135 (by decide) (fun h135 => ?_) (fun h135 => ?_)
                · skip
                  refine x_iconst (v := 0) dX9_make_148 (by decide) ?_
                  refine x_istore (lo2 := [_, _, _, _, _, _, _, _, _]) dX9_make_149 (by decide) rfl rfl ?_
                  refine x_iload dX9_make_151 rfl ?_
                  refine x_if_eq (tgt := 161) dX9_make_153 (by decide) (fun h153 => ?_) (fun h153 => ?_)
                  · skip
                    refine x_iload dX9_make_161 rfl ?_
                    refine x_istore (lo2 := [_, _, _, _, _, _, _, _, _]) dX9_make_163 (by decide) rfl rfl ?_
                    refine x_iload dX9_make_165 rfl ?_
                    refine x_if_eq (tgt := 175) dX9_make_167 (by decide) (fun h167 => ?_) (fun h167 => ?_)
                    · skip
                      refine x_iload_n dX9_make_175 rfl ?_
                      refine x_istore_n (lo2 := [_, _, _, _, _, _, _, _, _]) dX9_make_176 (by decide) rfl rfl ?_
                      refine x_iincN (lo2 := [_, _, _, _, _, _, _, _, _]) dX9_make_177 rfl rfl rfl ?_
                      refine x_goto (tgt := 33) dX9_make_180 (by decide) ?_
                      refine x_drop (i := 6) (lo2 := [_, _, _, _, _, _, _, _, _]) rfl ?_
                      refine x_drop (i := 7) (lo2 := [_, _, _, _, _, _, _, _, _]) rfl ?_
                      refine x_drop (i := 8) (lo2 := [_, _, _, _, _, _, _, _, _]) rfl ?_
                      first
                      | (have ek : kma I mk (s + 1) = (nI s, so_ (I 41) (nI s) 6) := by rw [kma, if_pos ⟨zwi_t (by simpa using h129), by simpa using h135, Int32.not_le.mp h141⟩]
                         exact x_eq (by rw [ek]) (by rfl) (by rfl) (Ks trivial))
                      | (have ek : kma I mk (s + 1) = kma I mk s := by rw [kma, if_neg (fun q => absurd (of_decide_eq_true q.1) h129)]
                         exact x_eq (by rw [ek]) (by rfl) (by rfl) (Ks trivial))
                      | (have ek : kma I mk (s + 1) = kma I mk s := by rw [kma, if_neg (fun q => h135 q.2.1)]
                         exact x_eq (by rw [ek]) (by rfl) (by rfl) (Ks trivial))
                      | (have ek : kma I mk (s + 1) = kma I mk s := by rw [kma, if_neg (fun q => absurd q.2.2 (Int32.not_lt.mpr h141))]
                         exact x_eq (by rw [ek]) (by rfl) (by rfl) (Ks trivial))
                    · skip
                      exact absurd rfl h167
                  · skip
                    exact absurd rfl h153
                · skip
                  refine x_iload dX9_make_138 rfl ?_
                  refine x_iload_n dX9_make_140 rfl ?_
                  refine x_icmp_ge (tgt := 148) dX9_make_141 (by decide) (fun h141 => ?_) (fun h141 => ?_)
                  · skip
                    refine x_iconst (v := 0) dX9_make_148 (by decide) ?_
                    refine x_istore (lo2 := [_, _, _, _, _, _, _, _, _]) dX9_make_149 (by decide) rfl rfl ?_
                    refine x_iload dX9_make_151 rfl ?_
                    refine x_if_eq (tgt := 161) dX9_make_153 (by decide) (fun h153 => ?_) (fun h153 => ?_)
                    · skip
                      refine x_iload dX9_make_161 rfl ?_
                      refine x_istore (lo2 := [_, _, _, _, _, _, _, _, _]) dX9_make_163 (by decide) rfl rfl ?_
                      refine x_iload dX9_make_165 rfl ?_
                      refine x_if_eq (tgt := 175) dX9_make_167 (by decide) (fun h167 => ?_) (fun h167 => ?_)
                      · skip
                        refine x_iload_n dX9_make_175 rfl ?_
                        refine x_istore_n (lo2 := [_, _, _, _, _, _, _, _, _]) dX9_make_176 (by decide) rfl rfl ?_
                        refine x_iincN (lo2 := [_, _, _, _, _, _, _, _, _]) dX9_make_177 rfl rfl rfl ?_
                        refine x_goto (tgt := 33) dX9_make_180 (by decide) ?_
                        refine x_drop (i := 6) (lo2 := [_, _, _, _, _, _, _, _, _]) rfl ?_
                        refine x_drop (i := 7) (lo2 := [_, _, _, _, _, _, _, _, _]) rfl ?_
                        refine x_drop (i := 8) (lo2 := [_, _, _, _, _, _, _, _, _]) rfl ?_
                        first
                        | (have ek : kma I mk (s + 1) = (nI s, so_ (I 41) (nI s) 6) := by rw [kma, if_pos ⟨zwi_t (by simpa using h129), by simpa using h135, Int32.not_le.mp h141⟩]
                           exact x_eq (by rw [ek]) (by rfl) (by rfl) (Ks trivial))
                        | (have ek : kma I mk (s + 1) = kma I mk s := by rw [kma, if_neg (fun q => absurd (of_decide_eq_true q.1) h129)]
                           exact x_eq (by rw [ek]) (by rfl) (by rfl) (Ks trivial))
                        | (have ek : kma I mk (s + 1) = kma I mk s := by rw [kma, if_neg (fun q => h135 q.2.1)]
                           exact x_eq (by rw [ek]) (by rfl) (by rfl) (Ks trivial))
                        | (have ek : kma I mk (s + 1) = kma I mk s := by rw [kma, if_neg (fun q => absurd q.2.2 (Int32.not_lt.mpr h141))]
                           exact x_eq (by rw [ek]) (by rfl) (by rfl) (Ks trivial))
                      · skip
                        exact absurd rfl h167
                    · skip
                      exact absurd rfl h153
                  · skip
                    refine x_iconst (v := 1) dX9_make_144 (by decide) ?_
                    refine x_goto (tgt := 149) dX9_make_145 (by decide) ?_
                    refine x_istore (lo2 := [_, _, _, _, _, _, _, _, _]) dX9_make_149 (by decide) rfl rfl ?_
                    refine x_iload dX9_make_151 rfl ?_
                    refine x_if_eq (tgt := 161) dX9_make_153 (by decide) (fun h153 => ?_) (fun h153 => ?_)
                    · skip
                      exact absurd h153 (by decide)
                    · skip
                      refine x_iload dX9_make_156 rfl ?_
                      refine x_goto (tgt := 163) dX9_make_158 (by decide) ?_
                      refine x_istore (lo2 := [_, _, _, _, _, _, _, _, _]) dX9_make_163 (by decide) rfl rfl ?_
                      refine x_iload dX9_make_165 rfl ?_
                      refine x_if_eq (tgt := 175) dX9_make_167 (by decide) (fun h167 => ?_) (fun h167 => ?_)
                      · skip
                        exact absurd h167 (by decide)
                      · skip
                        refine x_iload dX9_make_170 rfl ?_
                        refine x_goto (tgt := 176) dX9_make_172 (by decide) ?_
                        refine x_istore_n (lo2 := [_, _, _, _, _, _, _, _, _]) dX9_make_176 (by decide) rfl rfl ?_
                        refine x_iincN (lo2 := [_, _, _, _, _, _, _, _, _]) dX9_make_177 rfl rfl rfl ?_
                        refine x_goto (tgt := 33) dX9_make_180 (by decide) ?_
                        refine x_drop (i := 6) (lo2 := [_, _, _, _, _, _, _, _, _]) rfl ?_
                        refine x_drop (i := 7) (lo2 := [_, _, _, _, _, _, _, _, _]) rfl ?_
                        refine x_drop (i := 8) (lo2 := [_, _, _, _, _, _, _, _, _]) rfl ?_
                        first
                        | (have ek : kma I mk (s + 1) = (nI s, so_ (I 41) (nI s) 6) := by rw [kma, if_pos ⟨zwi_t (by simpa using h129), by simpa using h135, Int32.not_le.mp h141⟩]
                           exact x_eq (by rw [ek]) (by rfl) (by rfl) (Ks trivial))
                        | (have ek : kma I mk (s + 1) = kma I mk s := by rw [kma, if_neg (fun q => absurd (of_decide_eq_true q.1) h129)]
                           exact x_eq (by rw [ek]) (by rfl) (by rfl) (Ks trivial))
                        | (have ek : kma I mk (s + 1) = kma I mk s := by rw [kma, if_neg (fun q => h135 q.2.1)]
                           exact x_eq (by rw [ek]) (by rfl) (by rfl) (Ks trivial))
                        | (have ek : kma I mk (s + 1) = kma I mk s := by rw [kma, if_neg (fun q => absurd q.2.2 (Int32.not_lt.mpr h141))]
                           exact x_eq (by rw [ek]) (by rfl) (by rfl) (Ks trivial))
            · skip
              exact absurd (nI_le (b := 6) (Nat.le_refl 6) (by decide)) h53
      · skip
        refine x_iload dX9_make_33 rfl ?_
        refine x_bipush (v := 64) dX9_make_35 (by decide) ?_
        refine x_icmp_ge (tgt := 183) dX9_make_37 (by decide) (fun h37 => ?_) (fun h37 => ?_)
        · skip
          refine x_iload dX9_make_183 rfl ?_
          refine x_if_lt (tgt := 193) dX9_make_185 (by decide) (fun h185 => ?_) (fun h185 => ?_)
          · skip
            refine x_iload dX9_make_193 rfl ?_
            refine x_goto (tgt := 199) dX9_make_195 (by decide) ?_
            refine x_iret dX9_make_199 rfl (Nat.le_of_ble_eq_true rfl) (Nat.le_of_ble_eq_true rfl) ?_
            refine zV_of (congrArg Value.int ?_) ?_ ?_ ?_
            · first | (rw [kmaA, if_pos (by simp [h8, h17, h37, h185])]; done) | (rw [kmaA, if_neg (by simp [h8, h17]), if_pos (Or.inl h185)]; done) | (rw [kmaA, if_neg (by simp [h8, h17]), if_pos (Or.inr h190)]; done) | (rw [kmaA, if_neg (by simp [h8, h17]), if_neg (fun q => q.elim h185 h190)])
            · intro _ _; rfl
            · rfl
            · rfl
          · skip
            refine x_iload_n dX9_make_188 rfl ?_
            refine x_iconst (v := 1) dX9_make_189 (by decide) ?_
            refine x_icmp_ne (tgt := 198) dX9_make_190 (by decide) (fun h190 => ?_) (fun h190 => ?_)
            · skip
              refine x_iload_n dX9_make_198 rfl ?_
              refine x_iret dX9_make_199 rfl (Nat.le_of_ble_eq_true rfl) (Nat.le_of_ble_eq_true rfl) ?_
              refine zV_of (congrArg Value.int ?_) ?_ ?_ ?_
              · first | (rw [kmaA, if_pos (by simp [h8, h17, h37, h185, h190])]; done) | (rw [kmaA, if_neg (by simp [h8, h17]), if_pos (Or.inl h185)]; done) | (rw [kmaA, if_neg (by simp [h8, h17]), if_pos (Or.inr h190)]; done) | (rw [kmaA, if_neg (by simp [h8, h17]), if_neg (fun q => q.elim h185 h190)])
              · intro _ _; rfl
              · rfl
              · rfl
            · skip
              refine x_iload dX9_make_193 rfl ?_
              refine x_goto (tgt := 199) dX9_make_195 (by decide) ?_
              refine x_iret dX9_make_199 rfl (Nat.le_of_ble_eq_true rfl) (Nat.le_of_ble_eq_true rfl) ?_
              refine zV_of (congrArg Value.int ?_) ?_ ?_ ?_
              · first | (rw [kmaA, if_pos (by simp [h8, h17, h37, h185, h190])]; done) | (rw [kmaA, if_neg (by simp [h8, h17]), if_pos (Or.inl h185)]; done) | (rw [kmaA, if_neg (by simp [h8, h17]), if_pos (Or.inr h190)]; done) | (rw [kmaA, if_neg (by simp [h8, h17]), if_neg (fun q => q.elim h185 h190)])
              · intro _ _; rfl
              · rfl
              · rfl
        · skip
          exact absurd (nI_le (b := 64) (Nat.le_refl 64) (by decide)) h37
    · skip
      replace h17 := zb0 h17
      refine x_bipush (v := (-2)) dX9_make_20 (by decide) ?_
      refine x_iret dX9_make_22 rfl (Nat.le_of_ble_eq_true rfl) (Nat.le_of_ble_eq_true rfl) ?_
      refine zV_of (congrArg Value.int ?_) ?_ ?_ ?_
      · first | (rw [kmaA, if_pos (by simp [h8, h17])]; done) | (rw [kmaA, if_neg (by simp [h8, h17]), if_pos (Or.inl h185)]; done) | (rw [kmaA, if_neg (by simp [h8, h17]), if_pos (Or.inr h190)]; done) | (rw [kmaA, if_neg (by simp [h8, h17]), if_neg (fun q => q.elim h185 h190)])
      · intro _ _; rfl
      · rfl
      · rfl
theorem ct_X9_ring {g : zG} {N : Nat} {I : zI} {L : zL} {q0 q1 : Option Nat} {a b w : Int32} (hN : 58 ≤ N) : Ct g yX9_ring mX9_ring [.ref (g.2.1 + 40), .int a, .int b, .int w] N I L (zRw q0 q1) (zV (.int (krgA I a b w)) N I (zRw q0 q1)) := by
  refine Ct_of (lo0 := [some (.ref (g.2.1 + 40)), some (.int a), some (.int b), some (.int w), none, none, none, none, none, none]) rfl rfl rfl rfl (Nat.le_of_ble_eq_true rfl) (fun E => ?_)
  refine x_iload_n dX9_ring_0 rfl ?_
  refine x_iconst (v := 0) dX9_ring_1 (by decide) ?_
  refine x_bipush (v := 23) dX9_ring_2 (by decide) ?_
  refine x_callSi dX9_ring_4 ml_X9_63 mt_X9_in st_X9_in (ct_X9_in) rfl rfl (Nat.le_of_ble_eq_true rfl) ⟨(Nat.le_of_ble_eq_true rfl), (Nat.le_of_ble_eq_true rfl)⟩ ⟨rfl, rfl⟩ ⟨(Nat.le_of_ble_eq_true rfl), (Nat.le_of_ble_eq_true rfl)⟩ ?_
  refine x_if_eq (tgt := 29) dX9_ring_7 (by decide) (fun h7 => ?_) (fun h7 => ?_)
  · skip
    replace h7 := zb0 h7
    refine x_bipush (v := (-2)) dX9_ring_29 (by decide) ?_
    refine x_iret dX9_ring_31 rfl (Nat.le_of_ble_eq_true rfl) (Nat.le_of_ble_eq_true rfl) ?_
    refine zV_of (congrArg Value.int ?_) ?_ ?_ ?_
    · first | (rw [krgA, if_pos (by simp [h7])]; done) | (rw [krgA, if_neg (by simp [h7, h17, h26]), zxa, zxb, if_pos (Or.inl h187)]; done) | (rw [krgA, if_neg (by simp [h7, h17, h26]), zxa, zxb, if_pos (Or.inr h192)]; done) | (rw [krgA, if_neg (by simp [h7, h17, h26]), zxa, zxb, if_neg (fun q => q.elim h187 h192)])
    · intro _ _; rfl
    · rfl
    · rfl
  · skip
    replace h7 := zb1 h7
    refine x_iload_n dX9_ring_10 rfl ?_
    refine x_iload_n dX9_ring_11 rfl ?_
    refine x_bipush (v := 23) dX9_ring_12 (by decide) ?_
    refine x_callSi dX9_ring_14 ml_X9_63 mt_X9_in st_X9_in (ct_X9_in) rfl rfl (Nat.le_of_ble_eq_true rfl) ⟨(Nat.le_of_ble_eq_true rfl), (Nat.le_of_ble_eq_true rfl)⟩ ⟨rfl, rfl⟩ ⟨(Nat.le_of_ble_eq_true rfl), (Nat.le_of_ble_eq_true rfl)⟩ ?_
    refine x_if_eq (tgt := 29) dX9_ring_17 (by decide) (fun h17 => ?_) (fun h17 => ?_)
    · skip
      replace h17 := zb0 h17
      refine x_bipush (v := (-2)) dX9_ring_29 (by decide) ?_
      refine x_iret dX9_ring_31 rfl (Nat.le_of_ble_eq_true rfl) (Nat.le_of_ble_eq_true rfl) ?_
      refine zV_of (congrArg Value.int ?_) ?_ ?_ ?_
      · first | (rw [krgA, if_pos (by simp [h7, h17])]; done) | (rw [krgA, if_neg (by simp [h7, h17, h26]), zxa, zxb, if_pos (Or.inl h187)]; done) | (rw [krgA, if_neg (by simp [h7, h17, h26]), zxa, zxb, if_pos (Or.inr h192)]; done) | (rw [krgA, if_neg (by simp [h7, h17, h26]), zxa, zxb, if_neg (fun q => q.elim h187 h192)])
      · intro _ _; rfl
      · rfl
      · rfl
    · skip
      replace h17 := zb1 h17
      refine x_iload_n dX9_ring_20 rfl ?_
      refine x_iconst (v := 0) dX9_ring_21 (by decide) ?_
      refine x_iconst (v := 1) dX9_ring_22 (by decide) ?_
      refine x_callSi dX9_ring_23 ml_X9_63 mt_X9_in st_X9_in (ct_X9_in) rfl rfl (Nat.le_of_ble_eq_true rfl) ⟨(Nat.le_of_ble_eq_true rfl), (Nat.le_of_ble_eq_true rfl)⟩ ⟨rfl, rfl⟩ ⟨(Nat.le_of_ble_eq_true rfl), (Nat.le_of_ble_eq_true rfl)⟩ ?_
      refine x_if_ne (tgt := 32) dX9_ring_26 (by decide) (fun h26 => ?_) (fun h26 => ?_)
      · skip
        replace h26 := zb1 h26
        obtain ⟨aa, haa, rfl⟩ := zin_ex (b := 23) (by decide) h7
        obtain ⟨bb, hb1, hb2, rfl⟩ := zin_ex1 (a := aa) (b := 23) (by omega) (by decide) h17
        have zxa : zx (nI aa) = aa := zx_nI (by omega)
        have zxb : zx (nI bb) = bb := zx_nI (by omega)
        refine x_bipush (v := (-6)) dX9_ring_32 (by decide) ?_
        refine x_istore (lo2 := [_, _, _, _, _, _, _, _, _, _]) dX9_ring_34 (by decide) rfl rfl ?_
        refine x_iconst (v := 1) dX9_ring_36 (by decide) ?_
        refine x_istore (lo2 := [_, _, _, _, _, _, _, _, _, _]) dX9_ring_37 (by decide) rfl rfl ?_
        refine x_loop (inv := fun s => True) (fun s => [some (.ref (g.2.1 + 40)), some (.int (nI aa)), some (.int (nI bb)), some (.int w), some (.int (krn (I 46) aa (bb + 1 - aa) (s - 1))), some (.int (nI s)), none, none, none, none]) (fun s => I) (fun s => L) 1 256 (by omega) (by trivial) (by rfl) (by rfl) (by rfl) (fun s hlos hhis hinvs Ks => ?_) (fun hinvs => ?_)
        · skip
          obtain ⟨z, rfl⟩ : ∃ z, s = z + 1 := ⟨s - 1, by omega⟩
          rw [show z + 1 - 1 = z from rfl]
          refine x_iload dX9_ring_39 rfl ?_
          refine x_sipush (v := 256) dX9_ring_41 (by decide) ?_
          refine x_icmp_ge (tgt := 185) dX9_ring_44 (by decide) (fun h44 => ?_) (fun h44 => ?_)
          · skip
            exact absurd h44 (nI_ge (b := 256) hhis (by decide))
          · skip
            refine x_iload dX9_ring_47 rfl ?_
            refine x_if_lt (tgt := 65) dX9_ring_49 (by decide) (fun h49 => ?_) (fun h49 => ?_)
            · skip
              refine x_iconst (v := 1) dX9_ring_65 (by decide) ?_
              refine x_goto (tgt := 70) dX9_ring_66 (by decide) ?_
              refine x_istore (lo2 := [_, _, _, _, _, _, _, _, _, _]) dX9_ring_70 (by decide) rfl rfl ?_
              refine x_iload_n dX9_ring_72 rfl ?_
              refine x_istore (lo2 := [_, _, _, _, _, _, _, _, _, _]) dX9_ring_73 (by decide) rfl rfl ?_
              refine x_while (σ := Nat) (fun k => k ≤ bb + 1 - aa) (fun k => bb + 1 - aa - k) (fun k => [some (.ref (g.2.1 + 40)), some (.int (nI aa)), some (.int (nI bb)), some (.int w), some (.int (krn (I 46) aa (bb + 1 - aa) z)), some (.int (nI (z + 1))), some (.int (zb (kv_ (I 46) (nI (z + 1)) aa (decide (krn (I 46) aa (bb + 1 - aa) z < 0 ∨ bt_ (nI (z + 1)) 10 < bt_ (krn (I 46) aa (bb + 1 - aa) z) 10)) k))), some (.int (nI (aa + k))), none, none]) (fun _ => I) (fun _ => L) 0 (Nat.zero_le _) (by simp only [kv_, Nat.add_zero]; rw [decide_eq_true (Or.inl h49)]; rfl) rfl rfl (fun k hk K3 => ?_)
              refine x_iload dX9_ring_75 rfl ?_
              refine x_iload_n dX9_ring_77 rfl ?_
              refine x_icmp_gt (tgt := 165) dX9_ring_78 (by decide) (fun h78 => ?_) (fun h78 => ?_)
              · skip
                have hkb : k = bb + 1 - aa := by have z1 := (nI_ltI (by omega) (by omega)).mp h78; omega
                subst hkb
                refine x_iload dX9_ring_165 rfl ?_
                refine x_if_eq (tgt := 175) dX9_ring_167 (by decide) (fun h167 => ?_) (fun h167 => ?_)
                · skip
                  replace h167 := zb0 h167
                  have hfin := h167
                  refine x_iload dX9_ring_175 rfl ?_
                  refine x_istore (lo2 := [_, _, _, _, _, _, _, _, _, _]) dX9_ring_177 (by decide) rfl rfl ?_
                  refine x_iincN (lo2 := [_, _, _, _, _, _, _, _, _, _]) dX9_ring_179 rfl rfl rfl ?_
                  refine x_goto (tgt := 39) dX9_ring_182 (by decide) ?_
                  refine x_drop (i := 6) (lo2 := [_, _, _, _, _, _, _, _, _, _]) rfl ?_
                  refine x_drop (i := 7) (lo2 := [_, _, _, _, _, _, _, _, _, _]) rfl ?_
                  have ek : krn (I 46) aa (bb + 1 - aa) (z + 1) = krn (I 46) aa (bb + 1 - aa) z := by simp only [krn]; rw [if_neg (by rw [hfin]; decide)]
                  exact x_eq (by rw [Nat.add_sub_cancel, ek]) (by rfl) (by rfl) (Ks trivial)
                · skip
                  replace h167 := zb1 h167
                  have hfin := h167
                  refine x_iload dX9_ring_170 rfl ?_
                  refine x_goto (tgt := 177) dX9_ring_172 (by decide) ?_
                  refine x_istore (lo2 := [_, _, _, _, _, _, _, _, _, _]) dX9_ring_177 (by decide) rfl rfl ?_
                  refine x_iincN (lo2 := [_, _, _, _, _, _, _, _, _, _]) dX9_ring_179 rfl rfl rfl ?_
                  refine x_goto (tgt := 39) dX9_ring_182 (by decide) ?_
                  refine x_drop (i := 6) (lo2 := [_, _, _, _, _, _, _, _, _, _]) rfl ?_
                  refine x_drop (i := 7) (lo2 := [_, _, _, _, _, _, _, _, _, _]) rfl ?_
                  have ek : krn (I 46) aa (bb + 1 - aa) (z + 1) = nI (z + 1) := by simp only [krn]; rw [if_pos hfin]
                  exact x_eq (by rw [Nat.add_sub_cancel, ek]) (by rfl) (by rfl) (Ks trivial)
              · skip
                have hkb : k < bb + 1 - aa := by have z1 := mt (nI_ltI (by omega) (by omega)).mpr h78; omega
                refine x_iload dX9_ring_81 rfl ?_
                refine x_if_eq (tgt := 165) dX9_ring_83 (by decide) (fun h83 => ?_) (fun h83 => ?_)
                · skip
                  replace h83 := zb0 h83
                  have hfin : (kv_ (I 46) (nI (z + 1)) aa (decide (krn (I 46) aa (bb + 1 - aa) z < 0 ∨ bt_ (nI (z + 1)) 10 < bt_ (krn (I 46) aa (bb + 1 - aa) z) 10)) (bb + 1 - aa)) = false := kv_no h83 (by omega)
                  refine x_iload dX9_ring_165 rfl ?_
                  refine x_if_eq (tgt := 175) dX9_ring_167 (by decide) (fun h167 => ?_) (fun h167 => ?_)
                  · skip
                    replace h167 := zb0 h167
                    refine x_iload dX9_ring_175 rfl ?_
                    refine x_istore (lo2 := [_, _, _, _, _, _, _, _, _, _]) dX9_ring_177 (by decide) rfl rfl ?_
                    refine x_iincN (lo2 := [_, _, _, _, _, _, _, _, _, _]) dX9_ring_179 rfl rfl rfl ?_
                    refine x_goto (tgt := 39) dX9_ring_182 (by decide) ?_
                    refine x_drop (i := 6) (lo2 := [_, _, _, _, _, _, _, _, _, _]) rfl ?_
                    refine x_drop (i := 7) (lo2 := [_, _, _, _, _, _, _, _, _, _]) rfl ?_
                    have ek : krn (I 46) aa (bb + 1 - aa) (z + 1) = krn (I 46) aa (bb + 1 - aa) z := by simp only [krn]; rw [if_neg (by rw [hfin]; decide)]
                    exact x_eq (by rw [Nat.add_sub_cancel, ek]) (by rfl) (by rfl) (Ks trivial)
                  · skip
                    replace h167 := zb1 h167
                    rw [kv_no (i := k) (n := k) (by assumption) (Nat.le_refl k)] at h167; exact absurd h167 (by decide)
                · skip
                  replace h83 := zb1 h83
                  refine x_iconst (v := 0) dX9_ring_86 (by decide) ?_
                  refine x_istore (lo2 := [_, _, _, _, _, _, _, _, _, _]) dX9_ring_87 (by decide) rfl rfl ?_
                  refine x_iconst (v := 0) dX9_ring_89 (by decide) ?_
                  refine x_istore (lo2 := [_, _, _, _, _, _, _, _, _, _]) dX9_ring_90 (by decide) rfl rfl ?_
                  refine x_loop (inv := fun c => True) (fun c => [some (.ref (g.2.1 + 40)), some (.int (nI aa)), some (.int (nI bb)), some (.int w), some (.int (krn (I 46) aa (bb + 1 - aa) z)), some (.int (nI (z + 1))), some (.int (zb (kv_ (I 46) (nI (z + 1)) aa (decide (krn (I 46) aa (bb + 1 - aa) z < 0 ∨ bt_ (nI (z + 1)) 10 < bt_ (krn (I 46) aa (bb + 1 - aa) z) 10)) k))), some (.int (nI (aa + k))), some (.int (zb (kw_ (I 46) (nI (z + 1)) (nI (aa + k)) c))), some (.int (nI c))]) (fun c => I) (fun c => L) 0 8 (by omega) (by trivial) (by rfl) (by rfl) (by rfl) (fun c hloc hhic hinvc Kc => ?_) (fun hinvc => ?_)
                  · skip
                    refine x_iload dX9_ring_92 rfl ?_
                    refine x_bipush (v := 8) dX9_ring_94 (by decide) ?_
                    refine x_icmp_ge (tgt := 155) dX9_ring_96 (by decide) (fun h96 => ?_) (fun h96 => ?_)
                    · skip
                      exact absurd h96 (nI_ge (b := 8) hhic (by decide))
                    · skip
                      refine x_iload dX9_ring_99 rfl ?_
                      refine x_if_ne (tgt := 142) dX9_ring_101 (by decide) (fun h101 => ?_) (fun h101 => ?_)
                      · skip
                        replace h101 := zb1 h101
                        refine x_iconst (v := 1) dX9_ring_142 (by decide) ?_
                        refine x_goto (tgt := 147) dX9_ring_143 (by decide) ?_
                        refine x_istore (lo2 := [_, _, _, _, _, _, _, _, _, _]) dX9_ring_147 (by decide) rfl rfl ?_
                        refine x_iincN (lo2 := [_, _, _, _, _, _, _, _, _, _]) dX9_ring_149 rfl rfl rfl ?_
                        refine x_goto (tgt := 92) dX9_ring_152 (by decide) ?_
                        exact x_eq (by simp only [kw_, h7, h17, h26, h44, h49, h78, h83, h96, h101]; simp [zb]) (by rfl) (by rfl) (Kc (by trivial))
                      · skip
                        replace h101 := zb0 h101
                        refine x_iload dX9_ring_104 rfl ?_
                        refine x_iload dX9_ring_106 rfl ?_
                        refine x_callSi dX9_ring_108 ml_X9_67 mt_X9_has st_X9_has (ct_X9_has) rfl rfl (Nat.le_of_ble_eq_true rfl) ⟨(Nat.le_of_ble_eq_true rfl), (Nat.le_of_ble_eq_true rfl)⟩ ⟨rfl, rfl⟩ ⟨(Nat.le_of_ble_eq_true rfl), (Nat.le_of_ble_eq_true rfl)⟩ ?_
                        refine x_if_eq (tgt := 146) dX9_ring_111 (by decide) (fun h111 => ?_) (fun h111 => ?_)
                        · skip
                          replace h111 := zb0 h111
                          refine x_iconst (v := 0) dX9_ring_146 (by decide) ?_
                          refine x_istore (lo2 := [_, _, _, _, _, _, _, _, _, _]) dX9_ring_147 (by decide) rfl rfl ?_
                          refine x_iincN (lo2 := [_, _, _, _, _, _, _, _, _, _]) dX9_ring_149 rfl rfl rfl ?_
                          refine x_goto (tgt := 92) dX9_ring_152 (by decide) ?_
                          exact x_eq (by simp only [kw_, h7, h17, h26, h44, h49, h78, h83, h96, h101, h111]; simp [zb]) (by rfl) (by rfl) (Kc (by trivial))
                        · skip
                          replace h111 := zb1 h111
                          refine x_iload dX9_ring_114 rfl ?_
                          refine x_aload_n dX9_ring_116 rfl ?_
                          refine x_getR dX9_ring_117 fl_X9_25 (by omega) rfl rfl rfl ?_
                          refine x_iload dX9_ring_120 rfl ?_
                          refine x_ialdN dX9_ring_122 (by omega) rfl rfl (by omega) ?_
                          refine x_pc (pc2 := 123) rfl ?_
                          refine x_bipush (v := 100) dX9_ring_123 (by decide) ?_
                          refine x_idiv dX9_ring_125 (by decide) ?_
                          refine x_aload_n dX9_ring_126 rfl ?_
                          refine x_getR dX9_ring_127 fl_X9_25 (by omega) rfl rfl rfl ?_
                          refine x_iload dX9_ring_130 rfl ?_
                          refine x_ialdN dX9_ring_132 (by omega) rfl rfl (by omega) ?_
                          refine x_pc (pc2 := 133) rfl ?_
                          refine x_bipush (v := 100) dX9_ring_133 (by decide) ?_
                          refine x_irem dX9_ring_135 (by decide) ?_
                          refine x_callSi dX9_ring_136 ml_X9_63 mt_X9_in st_X9_in (ct_X9_in) rfl rfl (Nat.le_of_ble_eq_true rfl) ⟨(Nat.le_of_ble_eq_true rfl), (Nat.le_of_ble_eq_true rfl)⟩ ⟨rfl, rfl⟩ ⟨(Nat.le_of_ble_eq_true rfl), (Nat.le_of_ble_eq_true rfl)⟩ ?_
                          refine x_if_eq (tgt := 146) dX9_ring_139 (by decide) (fun h139 => ?_) (fun h139 => ?_)
                          · skip
                            replace h139 := zb0 h139
                            refine x_iconst (v := 0) dX9_ring_146 (by decide) ?_
                            refine x_istore (lo2 := [_, _, _, _, _, _, _, _, _, _]) dX9_ring_147 (by decide) rfl rfl ?_
                            refine x_iincN (lo2 := [_, _, _, _, _, _, _, _, _, _]) dX9_ring_149 rfl rfl rfl ?_
                            refine x_goto (tgt := 92) dX9_ring_152 (by decide) ?_
                            exact x_eq (by simp only [kw_, h7, h17, h26, h44, h49, h78, h83, h96, h101, h111, h139]; simp [zb]) (by rfl) (by rfl) (Kc (by trivial))
                          · skip
                            replace h139 := zb1 h139
                            refine x_iconst (v := 1) dX9_ring_142 (by decide) ?_
                            refine x_goto (tgt := 147) dX9_ring_143 (by decide) ?_
                            refine x_istore (lo2 := [_, _, _, _, _, _, _, _, _, _]) dX9_ring_147 (by decide) rfl rfl ?_
                            refine x_iincN (lo2 := [_, _, _, _, _, _, _, _, _, _]) dX9_ring_149 rfl rfl rfl ?_
                            refine x_goto (tgt := 92) dX9_ring_152 (by decide) ?_
                            exact x_eq (by simp only [kw_, h7, h17, h26, h44, h49, h78, h83, h96, h101, h111, h139]; simp [zb]) (by rfl) (by rfl) (Kc (by trivial))
                  · skip
                    refine x_iload dX9_ring_92 rfl ?_
                    refine x_bipush (v := 8) dX9_ring_94 (by decide) ?_
                    refine x_icmp_ge (tgt := 155) dX9_ring_96 (by decide) (fun h96 => ?_) (fun h96 => ?_)
                    · skip
                      refine x_iload dX9_ring_155 rfl ?_
                      refine x_istore (lo2 := [_, _, _, _, _, _, _, _, _, _]) dX9_ring_157 (by decide) rfl rfl ?_
                      refine x_iincN (lo2 := [_, _, _, _, _, _, _, _, _, _]) dX9_ring_159 rfl rfl rfl ?_
                      refine x_goto (tgt := 75) dX9_ring_162 (by decide) ?_
                      refine x_drop (i := 8) (lo2 := [_, _, _, _, _, _, _, _, _, _]) rfl ?_
                      refine x_drop (i := 9) (lo2 := [_, _, _, _, _, _, _, _, _, _]) rfl ?_
                      have ek : (kv_ (I 46) (nI (z + 1)) aa (decide (krn (I 46) aa (bb + 1 - aa) z < 0 ∨ bt_ (nI (z + 1)) 10 < bt_ (krn (I 46) aa (bb + 1 - aa) z) 10)) (k + 1)) = kw_ (I 46) (nI (z + 1)) (nI (aa + k)) 8 := by simp only [kv_]; rw [h83]; rfl
                      exact x_eq (by rw [ek]; rfl) (by rfl) (by rfl) (K3 (k + 1) (by omega) (by omega))
                    · skip
                      exact absurd (nI_le (b := 8) (Nat.le_refl 8) (by decide)) h96
            · skip
              refine x_iload dX9_ring_52 rfl ?_
              refine x_callSi dX9_ring_54 ml_X9_71 mt_X9_bits st_X9_bits (ct_X9_bits) rfl rfl (Nat.le_of_ble_eq_true rfl) ⟨(Nat.le_of_ble_eq_true rfl), (Nat.le_of_ble_eq_true rfl)⟩ ⟨rfl, rfl⟩ ⟨(Nat.le_of_ble_eq_true rfl), (Nat.le_of_ble_eq_true rfl)⟩ ?_
              refine x_iload dX9_ring_57 rfl ?_
              refine x_callSi dX9_ring_59 ml_X9_71 mt_X9_bits st_X9_bits (ct_X9_bits) rfl rfl (Nat.le_of_ble_eq_true rfl) ⟨(Nat.le_of_ble_eq_true rfl), (Nat.le_of_ble_eq_true rfl)⟩ ⟨rfl, rfl⟩ ⟨(Nat.le_of_ble_eq_true rfl), (Nat.le_of_ble_eq_true rfl)⟩ ?_
              refine x_icmp_ge (tgt := 69) dX9_ring_62 (by decide) (fun h62 => ?_) (fun h62 => ?_)
              · skip
                refine x_iconst (v := 0) dX9_ring_69 (by decide) ?_
                refine x_istore (lo2 := [_, _, _, _, _, _, _, _, _, _]) dX9_ring_70 (by decide) rfl rfl ?_
                refine x_iload_n dX9_ring_72 rfl ?_
                refine x_istore (lo2 := [_, _, _, _, _, _, _, _, _, _]) dX9_ring_73 (by decide) rfl rfl ?_
                refine x_while (σ := Nat) (fun k => k ≤ bb + 1 - aa) (fun k => bb + 1 - aa - k) (fun k => [some (.ref (g.2.1 + 40)), some (.int (nI aa)), some (.int (nI bb)), some (.int w), some (.int (krn (I 46) aa (bb + 1 - aa) z)), some (.int (nI (z + 1))), some (.int (zb (kv_ (I 46) (nI (z + 1)) aa (decide (krn (I 46) aa (bb + 1 - aa) z < 0 ∨ bt_ (nI (z + 1)) 10 < bt_ (krn (I 46) aa (bb + 1 - aa) z) 10)) k))), some (.int (nI (aa + k))), none, none]) (fun _ => I) (fun _ => L) 0 (Nat.zero_le _) (by simp only [kv_, Nat.add_zero]; rw [decide_eq_false (fun q => q.elim h49 (fun z => absurd z (Int32.not_lt.mpr h62)))]; rfl) rfl rfl (fun k hk K3 => ?_)
                refine x_iload dX9_ring_75 rfl ?_
                refine x_iload_n dX9_ring_77 rfl ?_
                refine x_icmp_gt (tgt := 165) dX9_ring_78 (by decide) (fun h78 => ?_) (fun h78 => ?_)
                · skip
                  have hkb : k = bb + 1 - aa := by have z1 := (nI_ltI (by omega) (by omega)).mp h78; omega
                  subst hkb
                  refine x_iload dX9_ring_165 rfl ?_
                  refine x_if_eq (tgt := 175) dX9_ring_167 (by decide) (fun h167 => ?_) (fun h167 => ?_)
                  · skip
                    replace h167 := zb0 h167
                    have hfin := h167
                    refine x_iload dX9_ring_175 rfl ?_
                    refine x_istore (lo2 := [_, _, _, _, _, _, _, _, _, _]) dX9_ring_177 (by decide) rfl rfl ?_
                    refine x_iincN (lo2 := [_, _, _, _, _, _, _, _, _, _]) dX9_ring_179 rfl rfl rfl ?_
                    refine x_goto (tgt := 39) dX9_ring_182 (by decide) ?_
                    refine x_drop (i := 6) (lo2 := [_, _, _, _, _, _, _, _, _, _]) rfl ?_
                    refine x_drop (i := 7) (lo2 := [_, _, _, _, _, _, _, _, _, _]) rfl ?_
                    have ek : krn (I 46) aa (bb + 1 - aa) (z + 1) = krn (I 46) aa (bb + 1 - aa) z := by simp only [krn]; rw [if_neg (by rw [hfin]; decide)]
                    exact x_eq (by rw [Nat.add_sub_cancel, ek]) (by rfl) (by rfl) (Ks trivial)
                  · skip
                    replace h167 := zb1 h167
                    have hfin := h167
                    refine x_iload dX9_ring_170 rfl ?_
                    refine x_goto (tgt := 177) dX9_ring_172 (by decide) ?_
                    refine x_istore (lo2 := [_, _, _, _, _, _, _, _, _, _]) dX9_ring_177 (by decide) rfl rfl ?_
                    refine x_iincN (lo2 := [_, _, _, _, _, _, _, _, _, _]) dX9_ring_179 rfl rfl rfl ?_
                    refine x_goto (tgt := 39) dX9_ring_182 (by decide) ?_
                    refine x_drop (i := 6) (lo2 := [_, _, _, _, _, _, _, _, _, _]) rfl ?_
                    refine x_drop (i := 7) (lo2 := [_, _, _, _, _, _, _, _, _, _]) rfl ?_
                    have ek : krn (I 46) aa (bb + 1 - aa) (z + 1) = nI (z + 1) := by simp only [krn]; rw [if_pos hfin]
                    exact x_eq (by rw [Nat.add_sub_cancel, ek]) (by rfl) (by rfl) (Ks trivial)
                · skip
                  have hkb : k < bb + 1 - aa := by have z1 := mt (nI_ltI (by omega) (by omega)).mpr h78; omega
                  refine x_iload dX9_ring_81 rfl ?_
                  refine x_if_eq (tgt := 165) dX9_ring_83 (by decide) (fun h83 => ?_) (fun h83 => ?_)
                  · skip
                    replace h83 := zb0 h83
                    have hfin : (kv_ (I 46) (nI (z + 1)) aa (decide (krn (I 46) aa (bb + 1 - aa) z < 0 ∨ bt_ (nI (z + 1)) 10 < bt_ (krn (I 46) aa (bb + 1 - aa) z) 10)) (bb + 1 - aa)) = false := kv_no h83 (by omega)
                    refine x_iload dX9_ring_165 rfl ?_
                    refine x_if_eq (tgt := 175) dX9_ring_167 (by decide) (fun h167 => ?_) (fun h167 => ?_)
                    · skip
                      replace h167 := zb0 h167
                      refine x_iload dX9_ring_175 rfl ?_
                      refine x_istore (lo2 := [_, _, _, _, _, _, _, _, _, _]) dX9_ring_177 (by decide) rfl rfl ?_
                      refine x_iincN (lo2 := [_, _, _, _, _, _, _, _, _, _]) dX9_ring_179 rfl rfl rfl ?_
                      refine x_goto (tgt := 39) dX9_ring_182 (by decide) ?_
                      refine x_drop (i := 6) (lo2 := [_, _, _, _, _, _, _, _, _, _]) rfl ?_
                      refine x_drop (i := 7) (lo2 := [_, _, _, _, _, _, _, _, _, _]) rfl ?_
                      have ek : krn (I 46) aa (bb + 1 - aa) (z + 1) = krn (I 46) aa (bb + 1 - aa) z := by simp only [krn]; rw [if_neg (by rw [hfin]; decide)]
                      exact x_eq (by rw [Nat.add_sub_cancel, ek]) (by rfl) (by rfl) (Ks trivial)
                    · skip
                      replace h167 := zb1 h167
                      rw [kv_no (i := k) (n := k) (by assumption) (Nat.le_refl k)] at h167; exact absurd h167 (by decide)
                  · skip
                    replace h83 := zb1 h83
                    refine x_iconst (v := 0) dX9_ring_86 (by decide) ?_
                    refine x_istore (lo2 := [_, _, _, _, _, _, _, _, _, _]) dX9_ring_87 (by decide) rfl rfl ?_
                    refine x_iconst (v := 0) dX9_ring_89 (by decide) ?_
                    refine x_istore (lo2 := [_, _, _, _, _, _, _, _, _, _]) dX9_ring_90 (by decide) rfl rfl ?_
                    refine x_loop (inv := fun c => True) (fun c => [some (.ref (g.2.1 + 40)), some (.int (nI aa)), some (.int (nI bb)), some (.int w), some (.int (krn (I 46) aa (bb + 1 - aa) z)), some (.int (nI (z + 1))), some (.int (zb (kv_ (I 46) (nI (z + 1)) aa (decide (krn (I 46) aa (bb + 1 - aa) z < 0 ∨ bt_ (nI (z + 1)) 10 < bt_ (krn (I 46) aa (bb + 1 - aa) z) 10)) k))), some (.int (nI (aa + k))), some (.int (zb (kw_ (I 46) (nI (z + 1)) (nI (aa + k)) c))), some (.int (nI c))]) (fun c => I) (fun c => L) 0 8 (by omega) (by trivial) (by rfl) (by rfl) (by rfl) (fun c hloc hhic hinvc Kc => ?_) (fun hinvc => ?_)
                    · skip
                      refine x_iload dX9_ring_92 rfl ?_
                      refine x_bipush (v := 8) dX9_ring_94 (by decide) ?_
                      refine x_icmp_ge (tgt := 155) dX9_ring_96 (by decide) (fun h96 => ?_) (fun h96 => ?_)
                      · skip
                        exact absurd h96 (nI_ge (b := 8) hhic (by decide))
                      · skip
                        refine x_iload dX9_ring_99 rfl ?_
                        refine x_if_ne (tgt := 142) dX9_ring_101 (by decide) (fun h101 => ?_) (fun h101 => ?_)
                        · skip
                          replace h101 := zb1 h101
                          refine x_iconst (v := 1) dX9_ring_142 (by decide) ?_
                          refine x_goto (tgt := 147) dX9_ring_143 (by decide) ?_
                          refine x_istore (lo2 := [_, _, _, _, _, _, _, _, _, _]) dX9_ring_147 (by decide) rfl rfl ?_
                          refine x_iincN (lo2 := [_, _, _, _, _, _, _, _, _, _]) dX9_ring_149 rfl rfl rfl ?_
                          refine x_goto (tgt := 92) dX9_ring_152 (by decide) ?_
                          exact x_eq (by simp only [kw_, h7, h17, h26, h44, h49, h62, h78, h83, h96, h101]; simp [zb]) (by rfl) (by rfl) (Kc (by trivial))
                        · skip
                          replace h101 := zb0 h101
                          refine x_iload dX9_ring_104 rfl ?_
                          refine x_iload dX9_ring_106 rfl ?_
                          refine x_callSi dX9_ring_108 ml_X9_67 mt_X9_has st_X9_has (ct_X9_has) rfl rfl (Nat.le_of_ble_eq_true rfl) ⟨(Nat.le_of_ble_eq_true rfl), (Nat.le_of_ble_eq_true rfl)⟩ ⟨rfl, rfl⟩ ⟨(Nat.le_of_ble_eq_true rfl), (Nat.le_of_ble_eq_true rfl)⟩ ?_
                          refine x_if_eq (tgt := 146) dX9_ring_111 (by decide) (fun h111 => ?_) (fun h111 => ?_)
                          · skip
                            replace h111 := zb0 h111
                            refine x_iconst (v := 0) dX9_ring_146 (by decide) ?_
                            refine x_istore (lo2 := [_, _, _, _, _, _, _, _, _, _]) dX9_ring_147 (by decide) rfl rfl ?_
                            refine x_iincN (lo2 := [_, _, _, _, _, _, _, _, _, _]) dX9_ring_149 rfl rfl rfl ?_
                            refine x_goto (tgt := 92) dX9_ring_152 (by decide) ?_
                            exact x_eq (by simp only [kw_, h7, h17, h26, h44, h49, h62, h78, h83, h96, h101, h111]; simp [zb]) (by rfl) (by rfl) (Kc (by trivial))
                          · skip
                            replace h111 := zb1 h111
                            refine x_iload dX9_ring_114 rfl ?_
                            refine x_aload_n dX9_ring_116 rfl ?_
                            refine x_getR dX9_ring_117 fl_X9_25 (by omega) rfl rfl rfl ?_
                            refine x_iload dX9_ring_120 rfl ?_
                            refine x_ialdN dX9_ring_122 (by omega) rfl rfl (by omega) ?_
                            refine x_pc (pc2 := 123) rfl ?_
                            refine x_bipush (v := 100) dX9_ring_123 (by decide) ?_
                            refine x_idiv dX9_ring_125 (by decide) ?_
                            refine x_aload_n dX9_ring_126 rfl ?_
                            refine x_getR dX9_ring_127 fl_X9_25 (by omega) rfl rfl rfl ?_
                            refine x_iload dX9_ring_130 rfl ?_
                            refine x_ialdN dX9_ring_132 (by omega) rfl rfl (by omega) ?_
                            refine x_pc (pc2 := 133) rfl ?_
                            refine x_bipush (v := 100) dX9_ring_133 (by decide) ?_
                            refine x_irem dX9_ring_135 (by decide) ?_
                            refine x_callSi dX9_ring_136 ml_X9_63 mt_X9_in st_X9_in (ct_X9_in) rfl rfl (Nat.le_of_ble_eq_true rfl) ⟨(Nat.le_of_ble_eq_true rfl), (Nat.le_of_ble_eq_true rfl)⟩ ⟨rfl, rfl⟩ ⟨(Nat.le_of_ble_eq_true rfl), (Nat.le_of_ble_eq_true rfl)⟩ ?_
                            refine x_if_eq (tgt := 146) dX9_ring_139 (by decide) (fun h139 => ?_) (fun h139 => ?_)
                            · skip
                              replace h139 := zb0 h139
                              refine x_iconst (v := 0) dX9_ring_146 (by decide) ?_
                              refine x_istore (lo2 := [_, _, _, _, _, _, _, _, _, _]) dX9_ring_147 (by decide) rfl rfl ?_
                              refine x_iincN (lo2 := [_, _, _, _, _, _, _, _, _, _]) dX9_ring_149 rfl rfl rfl ?_
                              refine x_goto (tgt := 92) dX9_ring_152 (by decide) ?_
                              exact x_eq (by simp only [kw_, h7, h17, h26, h44, h49, h62, h78, h83, h96, h101, h111, h139]; simp [zb]) (by rfl) (by rfl) (Kc (by trivial))
                            · skip
                              replace h139 := zb1 h139
                              refine x_iconst (v := 1) dX9_ring_142 (by decide) ?_
                              refine x_goto (tgt := 147) dX9_ring_143 (by decide) ?_
                              refine x_istore (lo2 := [_, _, _, _, _, _, _, _, _, _]) dX9_ring_147 (by decide) rfl rfl ?_
                              refine x_iincN (lo2 := [_, _, _, _, _, _, _, _, _, _]) dX9_ring_149 rfl rfl rfl ?_
                              refine x_goto (tgt := 92) dX9_ring_152 (by decide) ?_
                              exact x_eq (by simp only [kw_, h7, h17, h26, h44, h49, h62, h78, h83, h96, h101, h111, h139]; simp [zb]) (by rfl) (by rfl) (Kc (by trivial))
                    · skip
                      refine x_iload dX9_ring_92 rfl ?_
                      refine x_bipush (v := 8) dX9_ring_94 (by decide) ?_
                      refine x_icmp_ge (tgt := 155) dX9_ring_96 (by decide) (fun h96 => ?_) (fun h96 => ?_)
                      · skip
                        refine x_iload dX9_ring_155 rfl ?_
                        refine x_istore (lo2 := [_, _, _, _, _, _, _, _, _, _]) dX9_ring_157 (by decide) rfl rfl ?_
                        refine x_iincN (lo2 := [_, _, _, _, _, _, _, _, _, _]) dX9_ring_159 rfl rfl rfl ?_
                        refine x_goto (tgt := 75) dX9_ring_162 (by decide) ?_
                        refine x_drop (i := 8) (lo2 := [_, _, _, _, _, _, _, _, _, _]) rfl ?_
                        refine x_drop (i := 9) (lo2 := [_, _, _, _, _, _, _, _, _, _]) rfl ?_
                        have ek : (kv_ (I 46) (nI (z + 1)) aa (decide (krn (I 46) aa (bb + 1 - aa) z < 0 ∨ bt_ (nI (z + 1)) 10 < bt_ (krn (I 46) aa (bb + 1 - aa) z) 10)) (k + 1)) = kw_ (I 46) (nI (z + 1)) (nI (aa + k)) 8 := by simp only [kv_]; rw [h83]; rfl
                        exact x_eq (by rw [ek]; rfl) (by rfl) (by rfl) (K3 (k + 1) (by omega) (by omega))
                      · skip
                        exact absurd (nI_le (b := 8) (Nat.le_refl 8) (by decide)) h96
              · skip
                refine x_iconst (v := 1) dX9_ring_65 (by decide) ?_
                refine x_goto (tgt := 70) dX9_ring_66 (by decide) ?_
                refine x_istore (lo2 := [_, _, _, _, _, _, _, _, _, _]) dX9_ring_70 (by decide) rfl rfl ?_
                refine x_iload_n dX9_ring_72 rfl ?_
                refine x_istore (lo2 := [_, _, _, _, _, _, _, _, _, _]) dX9_ring_73 (by decide) rfl rfl ?_
                refine x_while (σ := Nat) (fun k => k ≤ bb + 1 - aa) (fun k => bb + 1 - aa - k) (fun k => [some (.ref (g.2.1 + 40)), some (.int (nI aa)), some (.int (nI bb)), some (.int w), some (.int (krn (I 46) aa (bb + 1 - aa) z)), some (.int (nI (z + 1))), some (.int (zb (kv_ (I 46) (nI (z + 1)) aa (decide (krn (I 46) aa (bb + 1 - aa) z < 0 ∨ bt_ (nI (z + 1)) 10 < bt_ (krn (I 46) aa (bb + 1 - aa) z) 10)) k))), some (.int (nI (aa + k))), none, none]) (fun _ => I) (fun _ => L) 0 (Nat.zero_le _) (by simp only [kv_, Nat.add_zero]; rw [decide_eq_true (Or.inr (Int32.not_le.mp h62))]; rfl) rfl rfl (fun k hk K3 => ?_)
                refine x_iload dX9_ring_75 rfl ?_
                refine x_iload_n dX9_ring_77 rfl ?_
                refine x_icmp_gt (tgt := 165) dX9_ring_78 (by decide) (fun h78 => ?_) (fun h78 => ?_)
                · skip
                  have hkb : k = bb + 1 - aa := by have z1 := (nI_ltI (by omega) (by omega)).mp h78; omega
                  subst hkb
                  refine x_iload dX9_ring_165 rfl ?_
                  refine x_if_eq (tgt := 175) dX9_ring_167 (by decide) (fun h167 => ?_) (fun h167 => ?_)
                  · skip
                    replace h167 := zb0 h167
                    have hfin := h167
                    refine x_iload dX9_ring_175 rfl ?_
                    refine x_istore (lo2 := [_, _, _, _, _, _, _, _, _, _]) dX9_ring_177 (by decide) rfl rfl ?_
                    refine x_iincN (lo2 := [_, _, _, _, _, _, _, _, _, _]) dX9_ring_179 rfl rfl rfl ?_
                    refine x_goto (tgt := 39) dX9_ring_182 (by decide) ?_
                    refine x_drop (i := 6) (lo2 := [_, _, _, _, _, _, _, _, _, _]) rfl ?_
                    refine x_drop (i := 7) (lo2 := [_, _, _, _, _, _, _, _, _, _]) rfl ?_
                    have ek : krn (I 46) aa (bb + 1 - aa) (z + 1) = krn (I 46) aa (bb + 1 - aa) z := by simp only [krn]; rw [if_neg (by rw [hfin]; decide)]
                    exact x_eq (by rw [Nat.add_sub_cancel, ek]) (by rfl) (by rfl) (Ks trivial)
                  · skip
                    replace h167 := zb1 h167
                    have hfin := h167
                    refine x_iload dX9_ring_170 rfl ?_
                    refine x_goto (tgt := 177) dX9_ring_172 (by decide) ?_
                    refine x_istore (lo2 := [_, _, _, _, _, _, _, _, _, _]) dX9_ring_177 (by decide) rfl rfl ?_
                    refine x_iincN (lo2 := [_, _, _, _, _, _, _, _, _, _]) dX9_ring_179 rfl rfl rfl ?_
                    refine x_goto (tgt := 39) dX9_ring_182 (by decide) ?_
                    refine x_drop (i := 6) (lo2 := [_, _, _, _, _, _, _, _, _, _]) rfl ?_
                    refine x_drop (i := 7) (lo2 := [_, _, _, _, _, _, _, _, _, _]) rfl ?_
                    have ek : krn (I 46) aa (bb + 1 - aa) (z + 1) = nI (z + 1) := by simp only [krn]; rw [if_pos hfin]
                    exact x_eq (by rw [Nat.add_sub_cancel, ek]) (by rfl) (by rfl) (Ks trivial)
                · skip
                  have hkb : k < bb + 1 - aa := by have z1 := mt (nI_ltI (by omega) (by omega)).mpr h78; omega
                  refine x_iload dX9_ring_81 rfl ?_
                  refine x_if_eq (tgt := 165) dX9_ring_83 (by decide) (fun h83 => ?_) (fun h83 => ?_)
                  · skip
                    replace h83 := zb0 h83
                    have hfin : (kv_ (I 46) (nI (z + 1)) aa (decide (krn (I 46) aa (bb + 1 - aa) z < 0 ∨ bt_ (nI (z + 1)) 10 < bt_ (krn (I 46) aa (bb + 1 - aa) z) 10)) (bb + 1 - aa)) = false := kv_no h83 (by omega)
                    refine x_iload dX9_ring_165 rfl ?_
                    refine x_if_eq (tgt := 175) dX9_ring_167 (by decide) (fun h167 => ?_) (fun h167 => ?_)
                    · skip
                      replace h167 := zb0 h167
                      refine x_iload dX9_ring_175 rfl ?_
                      refine x_istore (lo2 := [_, _, _, _, _, _, _, _, _, _]) dX9_ring_177 (by decide) rfl rfl ?_
                      refine x_iincN (lo2 := [_, _, _, _, _, _, _, _, _, _]) dX9_ring_179 rfl rfl rfl ?_
                      refine x_goto (tgt := 39) dX9_ring_182 (by decide) ?_
                      refine x_drop (i := 6) (lo2 := [_, _, _, _, _, _, _, _, _, _]) rfl ?_
                      refine x_drop (i := 7) (lo2 := [_, _, _, _, _, _, _, _, _, _]) rfl ?_
                      have ek : krn (I 46) aa (bb + 1 - aa) (z + 1) = krn (I 46) aa (bb + 1 - aa) z := by simp only [krn]; rw [if_neg (by rw [hfin]; decide)]
                      exact x_eq (by rw [Nat.add_sub_cancel, ek]) (by rfl) (by rfl) (Ks trivial)
                    · skip
                      replace h167 := zb1 h167
                      rw [kv_no (i := k) (n := k) (by assumption) (Nat.le_refl k)] at h167; exact absurd h167 (by decide)
                  · skip
                    replace h83 := zb1 h83
                    refine x_iconst (v := 0) dX9_ring_86 (by decide) ?_
                    refine x_istore (lo2 := [_, _, _, _, _, _, _, _, _, _]) dX9_ring_87 (by decide) rfl rfl ?_
                    refine x_iconst (v := 0) dX9_ring_89 (by decide) ?_
                    refine x_istore (lo2 := [_, _, _, _, _, _, _, _, _, _]) dX9_ring_90 (by decide) rfl rfl ?_
                    refine x_loop (inv := fun c => True) (fun c => [some (.ref (g.2.1 + 40)), some (.int (nI aa)), some (.int (nI bb)), some (.int w), some (.int (krn (I 46) aa (bb + 1 - aa) z)), some (.int (nI (z + 1))), some (.int (zb (kv_ (I 46) (nI (z + 1)) aa (decide (krn (I 46) aa (bb + 1 - aa) z < 0 ∨ bt_ (nI (z + 1)) 10 < bt_ (krn (I 46) aa (bb + 1 - aa) z) 10)) k))), some (.int (nI (aa + k))), some (.int (zb (kw_ (I 46) (nI (z + 1)) (nI (aa + k)) c))), some (.int (nI c))]) (fun c => I) (fun c => L) 0 8 (by omega) (by trivial) (by rfl) (by rfl) (by rfl) (fun c hloc hhic hinvc Kc => ?_) (fun hinvc => ?_)
                    · skip
                      refine x_iload dX9_ring_92 rfl ?_
                      refine x_bipush (v := 8) dX9_ring_94 (by decide) ?_
                      refine x_icmp_ge (tgt := 155) dX9_ring_96 (by decide) (fun h96 => ?_) (fun h96 => ?_)
                      · skip
                        exact absurd h96 (nI_ge (b := 8) hhic (by decide))
                      · skip
                        refine x_iload dX9_ring_99 rfl ?_
                        refine x_if_ne (tgt := 142) dX9_ring_101 (by decide) (fun h101 => ?_) (fun h101 => ?_)
                        · skip
                          replace h101 := zb1 h101
                          refine x_iconst (v := 1) dX9_ring_142 (by decide) ?_
                          refine x_goto (tgt := 147) dX9_ring_143 (by decide) ?_
                          refine x_istore (lo2 := [_, _, _, _, _, _, _, _, _, _]) dX9_ring_147 (by decide) rfl rfl ?_
                          refine x_iincN (lo2 := [_, _, _, _, _, _, _, _, _, _]) dX9_ring_149 rfl rfl rfl ?_
                          refine x_goto (tgt := 92) dX9_ring_152 (by decide) ?_
                          exact x_eq (by simp only [kw_, h7, h17, h26, h44, h49, h62, h78, h83, h96, h101]; simp [zb]) (by rfl) (by rfl) (Kc (by trivial))
                        · skip
                          replace h101 := zb0 h101
                          refine x_iload dX9_ring_104 rfl ?_
                          refine x_iload dX9_ring_106 rfl ?_
                          refine x_callSi dX9_ring_108 ml_X9_67 mt_X9_has st_X9_has (ct_X9_has) rfl rfl (Nat.le_of_ble_eq_true rfl) ⟨(Nat.le_of_ble_eq_true rfl), (Nat.le_of_ble_eq_true rfl)⟩ ⟨rfl, rfl⟩ ⟨(Nat.le_of_ble_eq_true rfl), (Nat.le_of_ble_eq_true rfl)⟩ ?_
                          refine x_if_eq (tgt := 146) dX9_ring_111 (by decide) (fun h111 => ?_) (fun h111 => ?_)
                          · skip
                            replace h111 := zb0 h111
                            refine x_iconst (v := 0) dX9_ring_146 (by decide) ?_
                            refine x_istore (lo2 := [_, _, _, _, _, _, _, _, _, _]) dX9_ring_147 (by decide) rfl rfl ?_
                            refine x_iincN (lo2 := [_, _, _, _, _, _, _, _, _, _]) dX9_ring_149 rfl rfl rfl ?_
                            refine x_goto (tgt := 92) dX9_ring_152 (by decide) ?_
                            exact x_eq (by simp only [kw_, h7, h17, h26, h44, h49, h62, h78, h83, h96, h101, h111]; simp [zb]) (by rfl) (by rfl) (Kc (by trivial))
                          · skip
                            replace h111 := zb1 h111
                            refine x_iload dX9_ring_114 rfl ?_
                            refine x_aload_n dX9_ring_116 rfl ?_
                            refine x_getR dX9_ring_117 fl_X9_25 (by omega) rfl rfl rfl ?_
                            refine x_iload dX9_ring_120 rfl ?_
                            refine x_ialdN dX9_ring_122 (by omega) rfl rfl (by omega) ?_
                            refine x_pc (pc2 := 123) rfl ?_
                            refine x_bipush (v := 100) dX9_ring_123 (by decide) ?_
                            refine x_idiv dX9_ring_125 (by decide) ?_
                            refine x_aload_n dX9_ring_126 rfl ?_
                            refine x_getR dX9_ring_127 fl_X9_25 (by omega) rfl rfl rfl ?_
                            refine x_iload dX9_ring_130 rfl ?_
                            refine x_ialdN dX9_ring_132 (by omega) rfl rfl (by omega) ?_
                            refine x_pc (pc2 := 133) rfl ?_
                            refine x_bipush (v := 100) dX9_ring_133 (by decide) ?_
                            refine x_irem dX9_ring_135 (by decide) ?_
                            refine x_callSi dX9_ring_136 ml_X9_63 mt_X9_in st_X9_in (ct_X9_in) rfl rfl (Nat.le_of_ble_eq_true rfl) ⟨(Nat.le_of_ble_eq_true rfl), (Nat.le_of_ble_eq_true rfl)⟩ ⟨rfl, rfl⟩ ⟨(Nat.le_of_ble_eq_true rfl), (Nat.le_of_ble_eq_true rfl)⟩ ?_
                            refine x_if_eq (tgt := 146) dX9_ring_139 (by decide) (fun h139 => ?_) (fun h139 => ?_)
                            · skip
                              replace h139 := zb0 h139
                              refine x_iconst (v := 0) dX9_ring_146 (by decide) ?_
                              refine x_istore (lo2 := [_, _, _, _, _, _, _, _, _, _]) dX9_ring_147 (by decide) rfl rfl ?_
                              refine x_iincN (lo2 := [_, _, _, _, _, _, _, _, _, _]) dX9_ring_149 rfl rfl rfl ?_
                              refine x_goto (tgt := 92) dX9_ring_152 (by decide) ?_
                              exact x_eq (by simp only [kw_, h7, h17, h26, h44, h49, h62, h78, h83, h96, h101, h111, h139]; simp [zb]) (by rfl) (by rfl) (Kc (by trivial))
                            · skip
                              replace h139 := zb1 h139
                              refine x_iconst (v := 1) dX9_ring_142 (by decide) ?_
                              refine x_goto (tgt := 147) dX9_ring_143 (by decide) ?_
                              refine x_istore (lo2 := [_, _, _, _, _, _, _, _, _, _]) dX9_ring_147 (by decide) rfl rfl ?_
                              refine x_iincN (lo2 := [_, _, _, _, _, _, _, _, _, _]) dX9_ring_149 rfl rfl rfl ?_
                              refine x_goto (tgt := 92) dX9_ring_152 (by decide) ?_
                              exact x_eq (by simp only [kw_, h7, h17, h26, h44, h49, h62, h78, h83, h96, h101, h111, h139]; simp [zb]) (by rfl) (by rfl) (Kc (by trivial))
                    · skip
                      refine x_iload dX9_ring_92 rfl ?_
                      refine x_bipush (v := 8) dX9_ring_94 (by decide) ?_
                      refine x_icmp_ge (tgt := 155) dX9_ring_96 (by decide) (fun h96 => ?_) (fun h96 => ?_)
                      · skip
                        refine x_iload dX9_ring_155 rfl ?_
                        refine x_istore (lo2 := [_, _, _, _, _, _, _, _, _, _]) dX9_ring_157 (by decide) rfl rfl ?_
                        refine x_iincN (lo2 := [_, _, _, _, _, _, _, _, _, _]) dX9_ring_159 rfl rfl rfl ?_
                        refine x_goto (tgt := 75) dX9_ring_162 (by decide) ?_
                        refine x_drop (i := 8) (lo2 := [_, _, _, _, _, _, _, _, _, _]) rfl ?_
                        refine x_drop (i := 9) (lo2 := [_, _, _, _, _, _, _, _, _, _]) rfl ?_
                        have ek : (kv_ (I 46) (nI (z + 1)) aa (decide (krn (I 46) aa (bb + 1 - aa) z < 0 ∨ bt_ (nI (z + 1)) 10 < bt_ (krn (I 46) aa (bb + 1 - aa) z) 10)) (k + 1)) = kw_ (I 46) (nI (z + 1)) (nI (aa + k)) 8 := by simp only [kv_]; rw [h83]; rfl
                        exact x_eq (by rw [ek]; rfl) (by rfl) (by rfl) (K3 (k + 1) (by omega) (by omega))
                      · skip
                        exact absurd (nI_le (b := 8) (Nat.le_refl 8) (by decide)) h96
        · skip
          refine x_iload dX9_ring_39 rfl ?_
          refine x_sipush (v := 256) dX9_ring_41 (by decide) ?_
          refine x_icmp_ge (tgt := 185) dX9_ring_44 (by decide) (fun h44 => ?_) (fun h44 => ?_)
          · skip
            refine x_iload dX9_ring_185 rfl ?_
            refine x_if_lt (tgt := 195) dX9_ring_187 (by decide) (fun h187 => ?_) (fun h187 => ?_)
            · skip
              refine x_iload dX9_ring_195 rfl ?_
              refine x_goto (tgt := 205) dX9_ring_197 (by decide) ?_
              refine x_iret dX9_ring_205 rfl (Nat.le_of_ble_eq_true rfl) (Nat.le_of_ble_eq_true rfl) ?_
              refine zV_of (congrArg Value.int ?_) ?_ ?_ ?_
              · first | (rw [krgA, if_pos (by simp [h7, h17, h26, h44, h187])]; done) | (rw [krgA, if_neg (by simp [h7, h17, h26]), zxa, zxb, if_pos (Or.inl h187)]; done) | (rw [krgA, if_neg (by simp [h7, h17, h26]), zxa, zxb, if_pos (Or.inr h192)]; done) | (rw [krgA, if_neg (by simp [h7, h17, h26]), zxa, zxb, if_neg (fun q => q.elim h187 h192)])
              · intro _ _; rfl
              · rfl
              · rfl
            · skip
              refine x_iload_n dX9_ring_190 rfl ?_
              refine x_iconst (v := 1) dX9_ring_191 (by decide) ?_
              refine x_icmp_ne (tgt := 200) dX9_ring_192 (by decide) (fun h192 => ?_) (fun h192 => ?_)
              · skip
                refine x_iload dX9_ring_200 rfl ?_
                refine x_callSi dX9_ring_202 ml_X9_71 mt_X9_bits st_X9_bits (ct_X9_bits) rfl rfl (Nat.le_of_ble_eq_true rfl) ⟨(Nat.le_of_ble_eq_true rfl), (Nat.le_of_ble_eq_true rfl)⟩ ⟨rfl, rfl⟩ ⟨(Nat.le_of_ble_eq_true rfl), (Nat.le_of_ble_eq_true rfl)⟩ ?_
                refine x_iret dX9_ring_205 rfl (Nat.le_of_ble_eq_true rfl) (Nat.le_of_ble_eq_true rfl) ?_
                refine zV_of (congrArg Value.int ?_) ?_ ?_ ?_
                · first | (rw [krgA, if_pos (by simp [h7, h17, h26, h44, h187, h192])]; done) | (rw [krgA, if_neg (by simp [h7, h17, h26]), zxa, zxb, if_pos (Or.inl h187)]; done) | (rw [krgA, if_neg (by simp [h7, h17, h26]), zxa, zxb, if_pos (Or.inr h192)]; done) | (rw [krgA, if_neg (by simp [h7, h17, h26]), zxa, zxb, if_neg (fun q => q.elim h187 h192)])
                · intro _ _; rfl
                · rfl
                · rfl
              · skip
                refine x_iload dX9_ring_195 rfl ?_
                refine x_goto (tgt := 205) dX9_ring_197 (by decide) ?_
                refine x_iret dX9_ring_205 rfl (Nat.le_of_ble_eq_true rfl) (Nat.le_of_ble_eq_true rfl) ?_
                refine zV_of (congrArg Value.int ?_) ?_ ?_ ?_
                · first | (rw [krgA, if_pos (by simp [h7, h17, h26, h44, h187, h192])]; done) | (rw [krgA, if_neg (by simp [h7, h17, h26]), zxa, zxb, if_pos (Or.inl h187)]; done) | (rw [krgA, if_neg (by simp [h7, h17, h26]), zxa, zxb, if_pos (Or.inr h192)]; done) | (rw [krgA, if_neg (by simp [h7, h17, h26]), zxa, zxb, if_neg (fun q => q.elim h187 h192)])
                · intro _ _; rfl
                · rfl
                · rfl
          · skip
            exact absurd (nI_le (b := 256) (Nat.le_refl 256) (by decide)) h44
      · skip
        replace h26 := zb0 h26
        refine x_bipush (v := (-2)) dX9_ring_29 (by decide) ?_
        refine x_iret dX9_ring_31 rfl (Nat.le_of_ble_eq_true rfl) (Nat.le_of_ble_eq_true rfl) ?_
        refine zV_of (congrArg Value.int ?_) ?_ ?_ ?_
        · first | (rw [krgA, if_pos (by simp [h7, h17, h26])]; done) | (rw [krgA, if_neg (by simp [h7, h17, h26]), zxa, zxb, if_pos (Or.inl h187)]; done) | (rw [krgA, if_neg (by simp [h7, h17, h26]), zxa, zxb, if_pos (Or.inr h192)]; done) | (rw [krgA, if_neg (by simp [h7, h17, h26]), zxa, zxb, if_neg (fun q => q.elim h187 h192)])
        · intro _ _; rfl
        · rfl
        · rfl
theorem ct_X9_seen {g : zG} {N : Nat} {I : zI} {L : zL} {q0 q1 : Option Nat} {h : Int32} {b : Bool} {n : Nat} (hN : 58 ≤ N) (hs : I 40 7 = nI n) (hn : n ≤ 8) : Ct g yX9_seen mX9_seen [.ref (g.2.1 + 40), .int h, .int (zb b)] N I L (zRw q0 q1) (zV (.int (seA n h)) N (kseI I n h b) (zRw q0 q1)) := by
  refine Ct_of (lo0 := [some (.ref (g.2.1 + 40)), some (.int h), some (.int (zb b))]) rfl rfl rfl rfl (Nat.le_of_ble_eq_true rfl) (fun E => ?_)
  refine x_iload_n dX9_seen_0 rfl ?_
  refine x_iconst (v := 0) dX9_seen_1 (by decide) ?_
  refine x_iconst (v := 5) dX9_seen_2 (by decide) ?_
  refine x_callSi dX9_seen_3 ml_X9_63 mt_X9_in st_X9_in (ct_X9_in) rfl rfl (Nat.le_of_ble_eq_true rfl) ⟨(Nat.le_of_ble_eq_true rfl), (Nat.le_of_ble_eq_true rfl)⟩ ⟨rfl, rfl⟩ ⟨(Nat.le_of_ble_eq_true rfl), (Nat.le_of_ble_eq_true rfl)⟩ ?_
  refine x_if_ne (tgt := 11) dX9_seen_6 (by decide) (fun h6 => ?_) (fun h6 => ?_)
  · skip
    replace h6 := zb1 h6
    refine x_aload_n dX9_seen_11 rfl ?_
    refine x_getI dX9_seen_12 fl_X9_141 (by omega) rfl rfl ?_
    refine x_bipush (v := 8) dX9_seen_15 (by decide) ?_
    refine x_icmp_ne (tgt := 23) dX9_seen_17 (by decide) (fun h17 => ?_) (fun h17 => ?_)
    · skip
      have h8n : n < 8 := by rw [hs, show (8 : Int32) = nI 8 from rfl, nI_eq (by omega) (by decide)] at h17; omega
      refine x_aload_n dX9_seen_23 rfl ?_
      refine x_getR dX9_seen_24 fl_X9_31 (by omega) rfl rfl rfl ?_
      refine x_iconst (v := 2) dX9_seen_27 (by decide) ?_
      refine x_aload_n dX9_seen_28 rfl ?_
      refine x_getI dX9_seen_29 fl_X9_141 (by omega) rfl rfl ?_
      refine x_pc (pc2 := 32) rfl ?_
      refine x_imul dX9_seen_32 ?_
      refine x_iload_n dX9_seen_33 rfl ?_
      refine x_iast dX9_seen_34 (by omega) rfl (by rw [hs, show (2 : Int32) = nI 2 from rfl, pk_mul]) (by omega) ?_
      refine x_aload_n dX9_seen_35 rfl ?_
      refine x_getR dX9_seen_36 fl_X9_31 (by omega) rfl rfl rfl ?_
      refine x_iconst (v := 2) dX9_seen_39 (by decide) ?_
      refine x_pc (pc2 := 40) rfl ?_
      refine x_aload_n dX9_seen_40 rfl ?_
      refine x_getI dX9_seen_41 fl_X9_141 (by omega) rfl rfl ?_
      refine x_imul dX9_seen_44 ?_
      refine x_iconst (v := 1) dX9_seen_45 (by decide) ?_
      refine x_iadd dX9_seen_46 ?_
      refine x_iload_n dX9_seen_47 rfl ?_
      refine x_pc (pc2 := 48) rfl ?_
      refine x_if_eq (tgt := 55) dX9_seen_48 (by decide) (fun h48 => ?_) (fun h48 => ?_)
      · skip
        replace h48 := zb0 h48
        refine x_iconst (v := 0) dX9_seen_55 (by decide) ?_
        refine x_iast dX9_seen_56 (by omega) rfl (by rw [show zu I 48 (2 * n) h 40 7 = nI n from hs, show (2 : Int32) = nI 2 from rfl, pk_mul, nI_1]) (by omega) ?_
        refine x_aload_n dX9_seen_57 rfl ?_
        refine x_dup dX9_seen_58 rfl ?_
        refine x_getI dX9_seen_59 fl_X9_141 (by omega) rfl rfl ?_
        refine x_pc (pc2 := 62) rfl ?_
        refine x_iconst (v := 1) dX9_seen_62 (by decide) ?_
        refine x_iadd dX9_seen_63 ?_
        refine x_putI dX9_seen_64 fp_X9_141 (by omega) rfl ?_
        refine x_aload_n dX9_seen_67 rfl ?_
        refine x_getI dX9_seen_68 fl_X9_141 (by omega) rfl rfl ?_
        refine x_iret dX9_seen_71 rfl (Nat.le_of_ble_eq_true rfl) (Nat.le_of_ble_eq_true rfl) ?_
        refine zV_of (congrArg Value.int ?_) ?_ ?_ ?_
        · first | (simp [seA, h6, h17, h48]; done) | (simp [seA, h6, h8n]; done) | (simp [seA, h6, h8n, zu, hs, nI_1])
        · first | (intro _ _; simp [kseI, h6, h17, h48]; done) | (intro _ _; simp [kseI, h6, h8n]; done) | (intro c hq; unfold zscr at hq; simp [kseI, h6, h8n, zb, h48, zrn, show c ≠ 40 by omega])
        · first | (simp [kseI, h6, h17, h48]; done) | (simp [kseI, h6, h8n]; done) | (simp [kseI, h6, h8n, zu, zb, h48, hs, nI_1])
        · first | (simp [kseI, h6, h17, h48]; done) | (simp [kseI, h6, h8n]; done) | (simp [kseI, h6, h8n, zu, zb, h48])
      · skip
        replace h48 := zb1 h48
        refine x_iconst (v := 1) dX9_seen_51 (by decide) ?_
        refine x_goto (tgt := 56) dX9_seen_52 (by decide) ?_
        refine x_iast dX9_seen_56 (by omega) rfl (by rw [show zu I 48 (2 * n) h 40 7 = nI n from hs, show (2 : Int32) = nI 2 from rfl, pk_mul, nI_1]) (by omega) ?_
        refine x_aload_n dX9_seen_57 rfl ?_
        refine x_dup dX9_seen_58 rfl ?_
        refine x_getI dX9_seen_59 fl_X9_141 (by omega) rfl rfl ?_
        refine x_iconst (v := 1) dX9_seen_62 (by decide) ?_
        refine x_pc (pc2 := 63) rfl ?_
        refine x_iadd dX9_seen_63 ?_
        refine x_putI dX9_seen_64 fp_X9_141 (by omega) rfl ?_
        refine x_aload_n dX9_seen_67 rfl ?_
        refine x_getI dX9_seen_68 fl_X9_141 (by omega) rfl rfl ?_
        refine x_iret dX9_seen_71 rfl (Nat.le_of_ble_eq_true rfl) (Nat.le_of_ble_eq_true rfl) ?_
        refine zV_of (congrArg Value.int ?_) ?_ ?_ ?_
        · first | (simp [seA, h6, h17, h48]; done) | (simp [seA, h6, h8n]; done) | (simp [seA, h6, h8n, zu, hs, nI_1])
        · first | (intro _ _; simp [kseI, h6, h17, h48]; done) | (intro _ _; simp [kseI, h6, h8n]; done) | (intro c hq; unfold zscr at hq; simp [kseI, h6, h8n, zb, h48, zrn, show c ≠ 40 by omega])
        · first | (simp [kseI, h6, h17, h48]; done) | (simp [kseI, h6, h8n]; done) | (simp [kseI, h6, h8n, zu, zb, h48, hs, nI_1])
        · first | (simp [kseI, h6, h17, h48]; done) | (simp [kseI, h6, h8n]; done) | (simp [kseI, h6, h8n, zu, zb, h48])
    · skip
      have h8n : ¬ n < 8 := by rw [hs, show (8 : Int32) = nI 8 from rfl, nI_eq (by omega) (by decide)] at h17; omega
      refine x_bipush (v := (-4)) dX9_seen_20 (by decide) ?_
      refine x_iret dX9_seen_22 rfl (Nat.le_of_ble_eq_true rfl) (Nat.le_of_ble_eq_true rfl) ?_
      refine zV_of (congrArg Value.int ?_) ?_ ?_ ?_
      · first | (simp [seA, h6, h17]; done) | (simp [seA, h6, h8n]; done) | (simp [seA, h6, h8n, zu, hs, nI_1])
      · first | (intro _ _; simp [kseI, h6, h17]; done) | (intro _ _; simp [kseI, h6, h8n]; done) | (intro c hq; unfold zscr at hq; simp [kseI, h6, h8n, zb, h48, zrn, show c ≠ 40 by omega])
      · first | (simp [kseI, h6, h17]; done) | (simp [kseI, h6, h8n]; done) | (simp [kseI, h6, h8n, zu, zb, h48, hs, nI_1])
      · first | (simp [kseI, h6, h17]; done) | (simp [kseI, h6, h8n]; done) | (simp [kseI, h6, h8n, zu, zb, h48])
  · skip
    replace h6 := zb0 h6
    refine x_iconst (v := (-1)) dX9_seen_9 (by decide) ?_
    refine x_iret dX9_seen_10 rfl (Nat.le_of_ble_eq_true rfl) (Nat.le_of_ble_eq_true rfl) ?_
    refine zV_of (congrArg Value.int ?_) ?_ ?_ ?_
    · first | (simp [seA, h6]; done) | (simp [seA, h6, h8n]; done) | (simp [seA, h6, h8n, zu, hs, nI_1])
    · first | (intro _ _; simp [kseI, h6]; done) | (intro _ _; simp [kseI, h6, h8n]; done) | (intro c hq; unfold zscr at hq; simp [kseI, h6, h8n, zb, h48, zrn, show c ≠ 40 by omega])
    · first | (simp [kseI, h6]; done) | (simp [kseI, h6, h8n]; done) | (simp [kseI, h6, h8n, zu, zb, h48, hs, nI_1])
    · first | (simp [kseI, h6]; done) | (simp [kseI, h6, h8n]; done) | (simp [kseI, h6, h8n, zu, zb, h48])
theorem ct_X9_forget {g : zG} {N : Nat} {I : zI} {L : zL} {q0 q1 : Option Nat} (hN : 58 ≤ N) : Ct g yX9_forget mX9_forget [.ref (g.2.1 + 40)] N I L (zRw q0 q1) (zV (.int (I 40 7)) N (zu I 40 7 0) (zRw q0 q1)) := by
  refine Ct_of (lo0 := [some (.ref (g.2.1 + 40)), none]) rfl rfl rfl rfl (Nat.le_of_ble_eq_true rfl) (fun E => ?_)
  refine x_aload_n dX9_forget_0 rfl ?_
  refine x_getI dX9_forget_1 fl_X9_141 (by omega) rfl rfl ?_
  refine x_istore_n (lo2 := [_, _]) dX9_forget_4 (by decide) rfl rfl ?_
  refine x_aload_n dX9_forget_5 rfl ?_
  refine x_iconst (v := 0) dX9_forget_6 (by decide) ?_
  refine x_pc (pc2 := 7) rfl ?_
  refine x_putI dX9_forget_7 fp_X9_141 (by omega) rfl ?_
  refine x_iload_n dX9_forget_10 rfl ?_
  refine x_iret dX9_forget_11 rfl (Nat.le_of_ble_eq_true rfl) (Nat.le_of_ble_eq_true rfl) ?_
  refine zV_of (congrArg Value.int ?_) ?_ ?_ ?_
  · rfl
  · intro _ _; rfl
  · first | rfl | (simp [zu])
  · first | rfl | (simp [zu])
theorem ct_X9_isFit {g : zG} {N : Nat} {I : zI} {L : zL} {q0 q1 : Option Nat} {s : Nat} {n : Nat} (hN : 58 ≤ N) (hs : I 40 7 = nI n) (hn : n ≤ 8) (hh : ∀ i, i < 8 → ∃ k, k < 6 ∧ I 48 (2 * i) = nI k) : Ct g yX9_isFit mX9_isFit [.ref (g.2.1 + 40), .int (nI s)] N I L (zRw q0 q1) (zD (some (.int (zb (ksp I n s)))) N I L (zRw q0 q1)) := by
  refine Ct_of (lo0 := [some (.ref (g.2.1 + 40)), some (.int (nI s)), none, none]) rfl rfl rfl rfl (Nat.le_of_ble_eq_true rfl) (fun E => ?_)
  refine x_iconst (v := 1) dX9_isFit_0 (by decide) ?_
  refine x_istore_n (lo2 := [_, _, _, _]) dX9_isFit_1 (by decide) rfl rfl ?_
  refine x_iconst (v := 0) dX9_isFit_2 (by decide) ?_
  refine x_istore_n (lo2 := [_, _, _, _]) dX9_isFit_3 (by decide) rfl rfl ?_
  refine x_loop (inv := fun i => True) (fun i => [some (.ref (g.2.1 + 40)), some (.int (nI s)), some (.int (zb (khas (I 43) (I 48) (nI s) i))), some (.int (nI i))]) (fun i => I) (fun i => L) 0 n (by omega) (by trivial) (by rfl) (by rfl) (by rfl) (fun i hloi hhii hinvi Ki => ?_) (fun hinvi => ?_)
  · skip
    obtain ⟨k, hk, ek⟩ := hh i (by omega)
    refine x_iload_n dX9_isFit_4 rfl ?_
    refine x_aload_n dX9_isFit_5 rfl ?_
    refine x_getI dX9_isFit_6 fl_X9_141 (by omega) rfl rfl ?_
    refine x_icmp_ge (tgt := 75) dX9_isFit_9 (by decide) (fun h9 => ?_) (fun h9 => ?_)
    · skip
      exact absurd (hs ▸ h9) (nI_ge hhii (by omega))
    · skip
      refine x_iload_n dX9_isFit_12 rfl ?_
      refine x_if_eq (tgt := 75) dX9_isFit_13 (by decide) (fun h13 => ?_) (fun h13 => ?_)
      · skip
        replace h13 := zb0 h13
        refine x_iload_n dX9_isFit_75 rfl ?_
        exact x_zretb dX9_isFit_76 rfl (Nat.le_of_ble_eq_true rfl) (Nat.le_of_ble_eq_true rfl) ⟨congrArg (fun z => some (Value.int z)) (by first | rfl | (rw [show ksp I n s = false from khas_no (i := i) h13 (by omega)]; simp [h9, h13])), rfl, by rfl, by rfl, rfl⟩
      · skip
        replace h13 := zb1 h13
        refine x_aload_n dX9_isFit_16 rfl ?_
        refine x_getR dX9_isFit_17 fl_X9_16 (by omega) rfl rfl rfl ?_
        refine x_aload_n dX9_isFit_20 rfl ?_
        refine x_getR dX9_isFit_21 fl_X9_31 (by omega) rfl rfl rfl ?_
        refine x_iconst (v := 2) dX9_isFit_24 (by decide) ?_
        refine x_pc (pc2 := 25) rfl ?_
        refine x_iload_n dX9_isFit_25 rfl ?_
        refine x_imul dX9_isFit_26 ?_
        refine x_ialdN dX9_isFit_27 (by omega) rfl (by rw [show (2 : Int32) = nI 2 from rfl, pk_mul]) (by omega) ?_
        refine x_ialdN dX9_isFit_28 (by omega) rfl ek (by omega) ?_
        refine x_iload_n dX9_isFit_29 rfl ?_
        refine x_iconst (v := (-1)) dX9_isFit_30 (by decide) ?_
        refine x_pc (pc2 := 31) rfl ?_
        refine x_ixor dX9_isFit_31 ?_
        refine x_iand dX9_isFit_32 ?_
        refine x_if_ne (tgt := 40) dX9_isFit_33 (by decide) (fun h33 => ?_) (fun h33 => ?_)
        · skip
          replace h33 := zwi_f h33
          refine x_iconst (v := 0) dX9_isFit_40 (by decide) ?_
          refine x_aload_n dX9_isFit_41 rfl ?_
          refine x_getR dX9_isFit_42 fl_X9_31 (by omega) rfl rfl rfl ?_
          refine x_iconst (v := 2) dX9_isFit_45 (by decide) ?_
          refine x_iload_n dX9_isFit_46 rfl ?_
          refine x_pc (pc2 := 47) rfl ?_
          refine x_imul dX9_isFit_47 ?_
          refine x_iconst (v := 1) dX9_isFit_48 (by decide) ?_
          refine x_iadd dX9_isFit_49 ?_
          refine x_ialdN dX9_isFit_50 (by omega) rfl (by rw [show (2 : Int32) = nI 2 from rfl, pk_mul, nI_1]) (by omega) ?_
          refine x_iconst (v := 1) dX9_isFit_51 (by decide) ?_
          refine x_icmp_ne (tgt := 59) dX9_isFit_52 (by decide) (fun h52 => ?_) (fun h52 => ?_)
          · skip
            refine x_iconst (v := 0) dX9_isFit_59 (by decide) ?_
            refine x_icmp_ne (tgt := 67) dX9_isFit_60 (by decide) (fun h60 => ?_) (fun h60 => ?_)
            · skip
              exact absurd rfl h60
            · skip
              refine x_iconst (v := 1) dX9_isFit_63 (by decide) ?_
              refine x_goto (tgt := 68) dX9_isFit_64 (by decide) ?_
              refine x_istore_n (lo2 := [_, _, _, _]) dX9_isFit_68 (by decide) rfl rfl ?_
              refine x_iincN (lo2 := [_, _, _, _]) dX9_isFit_69 rfl rfl rfl ?_
              refine x_goto (tgt := 4) dX9_isFit_72 (by decide) ?_
              exact x_eq (by simp only [khas, h13, ek, nI_clamp (show k < 2 ^ 31 by omega)]; rw [h33, decide_eq_false h52]; rfl) (by rfl) (by rfl) (Ki trivial)
          · skip
            refine x_iconst (v := 1) dX9_isFit_55 (by decide) ?_
            refine x_goto (tgt := 60) dX9_isFit_56 (by decide) ?_
            refine x_icmp_ne (tgt := 67) dX9_isFit_60 (by decide) (fun h60 => ?_) (fun h60 => ?_)
            · skip
              refine x_iconst (v := 0) dX9_isFit_67 (by decide) ?_
              refine x_istore_n (lo2 := [_, _, _, _]) dX9_isFit_68 (by decide) rfl rfl ?_
              refine x_iincN (lo2 := [_, _, _, _]) dX9_isFit_69 rfl rfl rfl ?_
              refine x_goto (tgt := 4) dX9_isFit_72 (by decide) ?_
              exact x_eq (by simp only [khas, h13, ek, nI_clamp (show k < 2 ^ 31 by omega)]; rw [h33, decide_eq_true h52]; rfl) (by rfl) (by rfl) (Ki trivial)
            · skip
              exact absurd h60 (by decide)
        · skip
          replace h33 := zwi_t h33
          refine x_iconst (v := 1) dX9_isFit_36 (by decide) ?_
          refine x_goto (tgt := 41) dX9_isFit_37 (by decide) ?_
          refine x_aload_n dX9_isFit_41 rfl ?_
          refine x_getR dX9_isFit_42 fl_X9_31 (by omega) rfl rfl rfl ?_
          refine x_iconst (v := 2) dX9_isFit_45 (by decide) ?_
          refine x_iload_n dX9_isFit_46 rfl ?_
          refine x_imul dX9_isFit_47 ?_
          refine x_pc (pc2 := 48) rfl ?_
          refine x_iconst (v := 1) dX9_isFit_48 (by decide) ?_
          refine x_iadd dX9_isFit_49 ?_
          refine x_ialdN dX9_isFit_50 (by omega) rfl (by rw [show (2 : Int32) = nI 2 from rfl, pk_mul, nI_1]) (by omega) ?_
          refine x_iconst (v := 1) dX9_isFit_51 (by decide) ?_
          refine x_icmp_ne (tgt := 59) dX9_isFit_52 (by decide) (fun h52 => ?_) (fun h52 => ?_)
          · skip
            refine x_iconst (v := 0) dX9_isFit_59 (by decide) ?_
            refine x_icmp_ne (tgt := 67) dX9_isFit_60 (by decide) (fun h60 => ?_) (fun h60 => ?_)
            · skip
              refine x_iconst (v := 0) dX9_isFit_67 (by decide) ?_
              refine x_istore_n (lo2 := [_, _, _, _]) dX9_isFit_68 (by decide) rfl rfl ?_
              refine x_iincN (lo2 := [_, _, _, _]) dX9_isFit_69 rfl rfl rfl ?_
              refine x_goto (tgt := 4) dX9_isFit_72 (by decide) ?_
              exact x_eq (by simp only [khas, h13, ek, nI_clamp (show k < 2 ^ 31 by omega)]; rw [h33, decide_eq_false h52]; rfl) (by rfl) (by rfl) (Ki trivial)
            · skip
              exact absurd h60 (by decide)
          · skip
            refine x_iconst (v := 1) dX9_isFit_55 (by decide) ?_
            refine x_goto (tgt := 60) dX9_isFit_56 (by decide) ?_
            refine x_icmp_ne (tgt := 67) dX9_isFit_60 (by decide) (fun h60 => ?_) (fun h60 => ?_)
            · skip
              exact absurd rfl h60
            · skip
              refine x_iconst (v := 1) dX9_isFit_63 (by decide) ?_
              refine x_goto (tgt := 68) dX9_isFit_64 (by decide) ?_
              refine x_istore_n (lo2 := [_, _, _, _]) dX9_isFit_68 (by decide) rfl rfl ?_
              refine x_iincN (lo2 := [_, _, _, _]) dX9_isFit_69 rfl rfl rfl ?_
              refine x_goto (tgt := 4) dX9_isFit_72 (by decide) ?_
              exact x_eq (by simp only [khas, h13, ek, nI_clamp (show k < 2 ^ 31 by omega)]; rw [h33, decide_eq_true h52]; rfl) (by rfl) (by rfl) (Ki trivial)
  · skip
    refine x_iload_n dX9_isFit_4 rfl ?_
    refine x_aload_n dX9_isFit_5 rfl ?_
    refine x_getI dX9_isFit_6 fl_X9_141 (by omega) rfl rfl ?_
    refine x_icmp_ge (tgt := 75) dX9_isFit_9 (by decide) (fun h9 => ?_) (fun h9 => ?_)
    · skip
      refine x_iload_n dX9_isFit_75 rfl ?_
      exact x_zretb dX9_isFit_76 rfl (Nat.le_of_ble_eq_true rfl) (Nat.le_of_ble_eq_true rfl) ⟨congrArg (fun z => some (Value.int z)) (by first | rfl | (rw [show ksp I n s = false from khas_no (i := i) h13 (by omega)]; simp [h9])), rfl, by rfl, by rfl, rfl⟩
    · skip
      exact absurd (hs ▸ nI_le (Nat.le_refl n) (by omega)) h9
theorem ct_X9_shape {g : zG} {N : Nat} {I : zI} {L : zL} {q0 q1 : Option Nat} {j : Int32} {n : Nat} (hN : 58 ≤ N) (hs : I 40 7 = nI n) (hn : n ≤ 8) (hh : ∀ i, i < 8 → ∃ k, k < 6 ∧ I 48 (2 * i) = nI k) : Ct g yX9_shape mX9_shape [.ref (g.2.1 + 40), .int j] N I L (zRw q0 q1) (zV (.int (kshA I n j)) N I (zRw q0 q1)) := by
  refine Ct_of (lo0 := [some (.ref (g.2.1 + 40)), some (.int j), none, none]) rfl rfl rfl rfl (Nat.le_of_ble_eq_true rfl) (fun E => ?_)
  refine x_iconst (v := 0) dX9_shape_0 (by decide) ?_
  refine x_istore_n (lo2 := [_, _, _, _]) dX9_shape_1 (by decide) rfl rfl ?_
  refine x_iconst (v := 0) dX9_shape_2 (by decide) ?_
  refine x_istore_n (lo2 := [_, _, _, _]) dX9_shape_3 (by decide) rfl rfl ?_
  refine x_loop (inv := fun s => kse (ksp I n) j s = none) (fun s => [some (.ref (g.2.1 + 40)), some (.int j), some (.int (nI (cn_ (ksp I n) s))), some (.int (nI s))]) (fun s => I) (fun s => L) 0 256 (by omega) (by rfl) (by rfl) (by rfl) (by rfl) (fun s hlos hhis hinvs Ks => ?_) (fun hinvs => ?_)
  · skip
    refine x_iload_n dX9_shape_4 rfl ?_
    refine x_sipush (v := 256) dX9_shape_5 (by decide) ?_
    refine x_icmp_ge (tgt := 35) dX9_shape_8 (by decide) (fun h8 => ?_) (fun h8 => ?_)
    · skip
      exact absurd h8 (nI_ge (b := 256) hhis (by decide))
    · skip
      refine x_aload_n dX9_shape_11 rfl ?_
      refine x_iload_n dX9_shape_12 rfl ?_
      refine x_callVi dX9_shape_13 ml_X9_144 mt_X9_isFit mv_X9_isFit (ct_X9_isFit hN hs hn hh) (by omega) rfl rfl rfl rfl (Nat.le_of_ble_eq_true rfl) ⟨(Nat.le_of_ble_eq_true rfl), (Nat.le_of_ble_eq_true rfl)⟩ ⟨rfl, rfl⟩ ⟨(Nat.le_of_ble_eq_true rfl), (Nat.le_of_ble_eq_true rfl)⟩ ?_
      refine x_if_eq (tgt := 29) dX9_shape_16 (by decide) (fun h16 => ?_) (fun h16 => ?_)
      · skip
        replace h16 := zb0 h16
        refine x_iincN (lo2 := [_, _, _, _]) dX9_shape_29 rfl rfl rfl ?_
        refine x_goto (tgt := 4) dX9_shape_32 (by decide) ?_
        exact x_eq (by first | (simp [cn_, h16]; done) | (simp [cn_, h16, nI_1])) (by rfl) (by rfl) (Ks (by first | (simp [kse, hinvs, h16]; done) | (simp [kse, hinvs, h16, h21])))
      · skip
        replace h16 := zb1 h16
        refine x_iload_n dX9_shape_19 rfl ?_
        refine x_iload_n dX9_shape_20 rfl ?_
        refine x_icmp_ne (tgt := 26) dX9_shape_21 (by decide) (fun h21 => ?_) (fun h21 => ?_)
        · skip
          refine x_iincN (lo2 := [_, _, _, _]) dX9_shape_26 rfl rfl rfl ?_
          refine x_iincN (lo2 := [_, _, _, _]) dX9_shape_29 rfl rfl rfl ?_
          refine x_goto (tgt := 4) dX9_shape_32 (by decide) ?_
          exact x_eq (by first | (simp [cn_, h16]; done) | (simp [cn_, h16, nI_1])) (by rfl) (by rfl) (Ks (by first | (simp [kse, hinvs, h16]; done) | (simp [kse, hinvs, h16, h21])))
        · skip
          refine x_iload_n dX9_shape_24 rfl ?_
          refine x_iret dX9_shape_25 rfl (Nat.le_of_ble_eq_true rfl) (Nat.le_of_ble_eq_true rfl) ?_
          refine zV_of (congrArg Value.int ?_) ?_ ?_ ?_
          · first | (exact ksh_some (kse_some (i := s + 1) (show kse (ksp I n) j (s + 1) = some s by simp [kse, hinvs, h16, h21]) (by omega))) | (exact ksh_m1 hinvs h37) | (exact ksh_m6 hinvs h37)
          · intro _ _; rfl
          · rfl
          · rfl
  · skip
    refine x_iload_n dX9_shape_4 rfl ?_
    refine x_sipush (v := 256) dX9_shape_5 (by decide) ?_
    refine x_icmp_ge (tgt := 35) dX9_shape_8 (by decide) (fun h8 => ?_) (fun h8 => ?_)
    · skip
      refine x_iload_n dX9_shape_35 rfl ?_
      refine x_iconst (v := (-1)) dX9_shape_36 (by decide) ?_
      refine x_icmp_ne (tgt := 44) dX9_shape_37 (by decide) (fun h37 => ?_) (fun h37 => ?_)
      · skip
        refine x_bipush (v := (-6)) dX9_shape_44 (by decide) ?_
        refine x_iret dX9_shape_46 rfl (Nat.le_of_ble_eq_true rfl) (Nat.le_of_ble_eq_true rfl) ?_
        refine zV_of (congrArg Value.int ?_) ?_ ?_ ?_
        · first | (exact ksh_some (kse_some (i := s + 1) (show kse (ksp I n) j (s + 1) = some s by simp [kse, hinvs, h16, h21]) (by omega))) | (exact ksh_m1 hinvs h37) | (exact ksh_m6 hinvs h37)
        · intro _ _; rfl
        · rfl
        · rfl
      · skip
        refine x_iload_n dX9_shape_40 rfl ?_
        refine x_goto (tgt := 46) dX9_shape_41 (by decide) ?_
        refine x_iret dX9_shape_46 rfl (Nat.le_of_ble_eq_true rfl) (Nat.le_of_ble_eq_true rfl) ?_
        refine zV_of (congrArg Value.int ?_) ?_ ?_ ?_
        · first | (exact ksh_some (kse_some (i := s + 1) (show kse (ksp I n) j (s + 1) = some s by simp [kse, hinvs, h16, h21]) (by omega))) | (exact ksh_m1 hinvs h37) | (exact ksh_m6 hinvs h37)
        · intro _ _; rfl
        · rfl
        · rfl
    · skip
      exact absurd (nI_le (b := 256) (Nat.le_refl 256) (by decide)) h8
theorem ct_X9_ask {g : zG} {N : Nat} {I : zI} {L : zL} {q0 q1 : Option Nat} {w : Int32} {n : Nat} (hN : 58 ≤ N) (hs : I 40 7 = nI n) (hn : n ≤ 8) (hh : ∀ i, i < 8 → ∃ k, k < 6 ∧ I 48 (2 * i) = nI k) : Ct g yX9_ask mX9_ask [.ref (g.2.1 + 40), .int w] N I L (zRw q0 q1) (zV (.int (kasA I n w)) N I (zRw q0 q1)) := by
  refine Ct_of (lo0 := [some (.ref (g.2.1 + 40)), some (.int w), none, none, none, none, none, none, none]) rfl rfl rfl rfl (Nat.le_of_ble_eq_true rfl) (fun E => ?_)
  refine x_iload_n dX9_ask_0 rfl ?_
  refine x_iconst (v := 0) dX9_ask_1 (by decide) ?_
  refine x_iconst (v := 1) dX9_ask_2 (by decide) ?_
  refine x_callSi dX9_ask_3 ml_X9_63 mt_X9_in st_X9_in (ct_X9_in) rfl rfl (Nat.le_of_ble_eq_true rfl) ⟨(Nat.le_of_ble_eq_true rfl), (Nat.le_of_ble_eq_true rfl)⟩ ⟨rfl, rfl⟩ ⟨(Nat.le_of_ble_eq_true rfl), (Nat.le_of_ble_eq_true rfl)⟩ ?_
  refine x_if_ne (tgt := 12) dX9_ask_6 (by decide) (fun h6 => ?_) (fun h6 => ?_)
  · skip
    replace h6 := zb1 h6
    refine x_bipush (v := (-6)) dX9_ask_12 (by decide) ?_
    refine x_istore_n (lo2 := [_, _, _, _, _, _, _, _, _]) dX9_ask_14 (by decide) rfl rfl ?_
    refine x_ldc dX9_ask_15 cn_X9_137 ?_
    refine x_istore_n (lo2 := [_, _, _, _, _, _, _, _, _]) dX9_ask_17 (by decide) rfl rfl ?_
    refine x_iconst (v := 0) dX9_ask_18 (by decide) ?_
    refine x_pc (pc2 := 19) rfl ?_
    refine x_istore (lo2 := [_, _, _, _, _, _, _, _, _]) dX9_ask_19 (by decide) rfl rfl ?_
    refine x_loop (inv := fun h => True) (fun h => [some (.ref (g.2.1 + 40)), some (.int w), some (.int (kas (ksp I n) (I 43) h).1), some (.int (nI (kas (ksp I n) (I 43) h).2)), some (.int (nI h)), none, none, none, none]) (fun h => I) (fun h => L) 0 6 (by omega) (by trivial) (by rfl) (by rfl) (by rfl) (fun h hloh hhih hinvh Kh => ?_) (fun hinvh => ?_)
    · skip
      refine x_iload dX9_ask_21 rfl ?_
      refine x_bipush (v := 6) dX9_ask_23 (by decide) ?_
      refine x_icmp_ge (tgt := 174) dX9_ask_25 (by decide) (fun h25 => ?_) (fun h25 => ?_)
      · skip
        exact absurd h25 (nI_ge (b := 6) hhih (by decide))
      · skip
        refine x_iconst (v := 0) dX9_ask_28 (by decide) ?_
        refine x_istore (lo2 := [_, _, _, _, _, _, _, _, _]) dX9_ask_29 (by decide) rfl rfl ?_
        refine x_iconst (v := 0) dX9_ask_31 (by decide) ?_
        refine x_istore (lo2 := [_, _, _, _, _, _, _, _, _]) dX9_ask_32 (by decide) rfl rfl ?_
        refine x_iconst (v := 0) dX9_ask_34 (by decide) ?_
        refine x_pc (pc2 := 35) rfl ?_
        refine x_istore (lo2 := [_, _, _, _, _, _, _, _, _]) dX9_ask_35 (by decide) rfl rfl ?_
        refine x_loop (inv := fun s => True) (fun s => [some (.ref (g.2.1 + 40)), some (.int w), some (.int (kas (ksp I n) (I 43) h).1), some (.int (nI (kas (ksp I n) (I 43) h).2)), some (.int (nI h)), some (.int (nI (cn_ (ksp I n) s))), some (.int (nI (cn_ (fun s => ksp I n s && zwi (I 43 h) (nI s)) s))), some (.int (nI s)), none]) (fun s => I) (fun s => L) 0 256 (by omega) (by trivial) (by rfl) (by rfl) (by rfl) (fun s hlos hhis hinvs Ks => ?_) (fun hinvs => ?_)
        · skip
          refine x_iload dX9_ask_37 rfl ?_
          refine x_sipush (v := 256) dX9_ask_39 (by decide) ?_
          refine x_icmp_ge (tgt := 104) dX9_ask_42 (by decide) (fun h42 => ?_) (fun h42 => ?_)
          · skip
            exact absurd h42 (nI_ge (b := 256) hhis (by decide))
          · skip
            refine x_aload_n dX9_ask_45 rfl ?_
            refine x_iload dX9_ask_46 rfl ?_
            refine x_callVi dX9_ask_48 ml_X9_144 mt_X9_isFit mv_X9_isFit (ct_X9_isFit hN hs hn hh) (by omega) rfl rfl rfl rfl (Nat.le_of_ble_eq_true rfl) ⟨(Nat.le_of_ble_eq_true rfl), (Nat.le_of_ble_eq_true rfl)⟩ ⟨rfl, rfl⟩ ⟨(Nat.le_of_ble_eq_true rfl), (Nat.le_of_ble_eq_true rfl)⟩ ?_
            refine x_istore (lo2 := [_, _, _, _, _, _, _, _, _]) dX9_ask_51 (by decide) rfl rfl ?_
            refine x_iload dX9_ask_53 rfl ?_
            refine x_pc (pc2 := 55) rfl ?_
            refine x_iload dX9_ask_55 rfl ?_
            refine x_if_eq (tgt := 64) dX9_ask_57 (by decide) (fun h57 => ?_) (fun h57 => ?_)
            · skip
              replace h57 := zb0 h57
              have hfit := h57
              refine x_iconst (v := 0) dX9_ask_64 (by decide) ?_
              refine x_iadd dX9_ask_65 ?_
              refine x_istore (lo2 := [_, _, _, _, _, _, _, _, _]) dX9_ask_66 (by decide) rfl rfl ?_
              refine x_iload dX9_ask_68 rfl ?_
              refine x_iload dX9_ask_70 rfl ?_
              refine x_pc (pc2 := 72) rfl ?_
              refine x_if_eq (tgt := 94) dX9_ask_72 (by decide) (fun h72 => ?_) (fun h72 => ?_)
              · skip
                replace h72 := zb0 h72
                refine x_iconst (v := 0) dX9_ask_94 (by decide) ?_
                refine x_iadd dX9_ask_95 ?_
                refine x_istore (lo2 := [_, _, _, _, _, _, _, _, _]) dX9_ask_96 (by decide) rfl rfl ?_
                refine x_iincN (lo2 := [_, _, _, _, _, _, _, _, _]) dX9_ask_98 rfl rfl rfl ?_
                refine x_goto (tgt := 37) dX9_ask_101 (by decide) ?_
                refine x_drop (i := 8) (lo2 := [_, _, _, _, _, _, _, _, _]) rfl ?_
                have e1 : cn_ (ksp I n) (s + 1) = cn_ (ksp I n) s := by simp [cn_, hfit]
                have e2 : cn_ (fun s => ksp I n s && zwi (I 43 h) (nI s)) (s + 1) = cn_ (fun s => ksp I n s && zwi (I 43 h) (nI s)) s := by simp [cn_, hfit]
                exact x_eq (by rw [e1, e2]; simp only [nI_1, Int32.add_zero]) (by rfl) (by rfl) (Ks trivial)
              · skip
                replace h72 := zb1 h72
                exact absurd (h57.symm.trans h72) (by decide)
            · skip
              replace h57 := zb1 h57
              have hfit := h57
              refine x_iconst (v := 1) dX9_ask_60 (by decide) ?_
              refine x_goto (tgt := 65) dX9_ask_61 (by decide) ?_
              refine x_iadd dX9_ask_65 ?_
              refine x_istore (lo2 := [_, _, _, _, _, _, _, _, _]) dX9_ask_66 (by decide) rfl rfl ?_
              refine x_iload dX9_ask_68 rfl ?_
              refine x_iload dX9_ask_70 rfl ?_
              refine x_if_eq (tgt := 94) dX9_ask_72 (by decide) (fun h72 => ?_) (fun h72 => ?_)
              · skip
                replace h72 := zb0 h72
                exact absurd (h57.symm.trans h72) (by decide)
              · skip
                replace h72 := zb1 h72
                refine x_aload_n dX9_ask_75 rfl ?_
                refine x_getR dX9_ask_76 fl_X9_16 (by omega) rfl rfl rfl ?_
                refine x_iload dX9_ask_79 rfl ?_
                refine x_ialdN dX9_ask_81 (by omega) rfl rfl (by omega) ?_
                refine x_iload dX9_ask_82 rfl ?_
                refine x_pc (pc2 := 84) rfl ?_
                refine x_iconst (v := (-1)) dX9_ask_84 (by decide) ?_
                refine x_ixor dX9_ask_85 ?_
                refine x_iand dX9_ask_86 ?_
                refine x_if_ne (tgt := 94) dX9_ask_87 (by decide) (fun h87 => ?_) (fun h87 => ?_)
                · skip
                  have hin := zwi_f h87
                  refine x_iconst (v := 0) dX9_ask_94 (by decide) ?_
                  refine x_iadd dX9_ask_95 ?_
                  refine x_istore (lo2 := [_, _, _, _, _, _, _, _, _]) dX9_ask_96 (by decide) rfl rfl ?_
                  refine x_iincN (lo2 := [_, _, _, _, _, _, _, _, _]) dX9_ask_98 rfl rfl rfl ?_
                  refine x_goto (tgt := 37) dX9_ask_101 (by decide) ?_
                  refine x_drop (i := 8) (lo2 := [_, _, _, _, _, _, _, _, _]) rfl ?_
                  have e1 : cn_ (ksp I n) (s + 1) = cn_ (ksp I n) s + 1 := by simp [cn_, hfit]
                  have e2 : cn_ (fun s => ksp I n s && zwi (I 43 h) (nI s)) (s + 1) = cn_ (fun s => ksp I n s && zwi (I 43 h) (nI s)) s := by simp [cn_, hfit, hin]
                  exact x_eq (by rw [e1, e2]; simp only [nI_1, Int32.add_zero]) (by rfl) (by rfl) (Ks trivial)
                · skip
                  have hin := zwi_t h87
                  refine x_iconst (v := 1) dX9_ask_90 (by decide) ?_
                  refine x_goto (tgt := 95) dX9_ask_91 (by decide) ?_
                  refine x_iadd dX9_ask_95 ?_
                  refine x_istore (lo2 := [_, _, _, _, _, _, _, _, _]) dX9_ask_96 (by decide) rfl rfl ?_
                  refine x_iincN (lo2 := [_, _, _, _, _, _, _, _, _]) dX9_ask_98 rfl rfl rfl ?_
                  refine x_goto (tgt := 37) dX9_ask_101 (by decide) ?_
                  refine x_drop (i := 8) (lo2 := [_, _, _, _, _, _, _, _, _]) rfl ?_
                  have e1 : cn_ (ksp I n) (s + 1) = cn_ (ksp I n) s + 1 := by simp [cn_, hfit]
                  have e2 : cn_ (fun s => ksp I n s && zwi (I 43 h) (nI s)) (s + 1) = cn_ (fun s => ksp I n s && zwi (I 43 h) (nI s)) s + 1 := by simp [cn_, hfit, hin]
                  exact x_eq (by rw [e1, e2]; simp only [nI_1, Int32.add_zero]) (by rfl) (by rfl) (Ks trivial)
        · skip
          have c1 := cn_le (ksp I n) 256
          have c2 : cn_ (fun s => ksp I n s && zwi (I 43 h) (nI s)) 256 ≤ cn_ (ksp I n) 256 := cn_and 256
          have hk := kas_le (ksp I n) (I 43) h
          refine x_iload dX9_ask_37 rfl ?_
          refine x_sipush (v := 256) dX9_ask_39 (by decide) ?_
          refine x_icmp_ge (tgt := 104) dX9_ask_42 (by decide) (fun h42 => ?_) (fun h42 => ?_)
          · skip
            refine x_iload dX9_ask_104 rfl ?_
            refine x_iload dX9_ask_106 rfl ?_
            refine x_iload dX9_ask_108 rfl ?_
            refine x_isub dX9_ask_110 ?_
            rw [show nI (cn_ (ksp I n) 256) - nI (cn_ (fun s => ksp I n s && zwi (I 43 h) (nI s)) 256) = nI (cn_ (ksp I n) 256 - cn_ (fun s => ksp I n s && zwi (I 43 h) (nI s)) 256) from pk_sub c2]
            refine x_icmp_le (tgt := 119) dX9_ask_111 (by decide) (fun h111 => ?_) (fun h111 => ?_)
            · skip
              rw [nI_leI (by omega) (by omega)] at h111
              refine x_iload dX9_ask_119 rfl ?_
              refine x_iload dX9_ask_121 rfl ?_
              refine x_isub dX9_ask_123 ?_
              rw [show nI (cn_ (ksp I n) 256) - nI (cn_ (fun s => ksp I n s && zwi (I 43 h) (nI s)) 256) = nI (mxN (ksp I n) (I 43 h)) from by rw [pk_sub c2]; unfold mxN; congr 1; omega]
              have hmx : mxN (ksp I n) (I 43 h) ≤ 256 := by unfold mxN; omega
              refine x_istore (lo2 := [_, _, _, _, _, _, _, _, _]) dX9_ask_124 (by decide) rfl rfl ?_
              refine x_iload dX9_ask_126 rfl ?_
              refine x_pc (pc2 := 128) rfl ?_
              refine x_if_le (tgt := 141) dX9_ask_128 (by decide) (fun h128 => ?_) (fun h128 => ?_)
              · skip
                have hc0 : cn_ (ksp I n) 256 = 0 := by rw [show (0 : Int32) = nI 0 from rfl, nI_leI (by omega) (by decide)] at h128; omega
                refine x_iconst (v := 0) dX9_ask_141 (by decide) ?_
                refine x_istore (lo2 := [_, _, _, _, _, _, _, _, _]) dX9_ask_142 (by decide) rfl rfl ?_
                refine x_iload dX9_ask_144 rfl ?_
                refine x_if_eq (tgt := 154) dX9_ask_146 (by decide) (fun h146 => ?_) (fun h146 => ?_)
                · skip
                  refine x_iload_n dX9_ask_154 rfl ?_
                  refine x_istore_n (lo2 := [_, _, _, _, _, _, _, _, _]) dX9_ask_155 (by decide) rfl rfl ?_
                  refine x_iload dX9_ask_156 rfl ?_
                  refine x_if_eq (tgt := 166) dX9_ask_158 (by decide) (fun h158 => ?_) (fun h158 => ?_)
                  · skip
                    refine x_iload_n dX9_ask_166 rfl ?_
                    refine x_istore_n (lo2 := [_, _, _, _, _, _, _, _, _]) dX9_ask_167 (by decide) rfl rfl ?_
                    refine x_iincN (lo2 := [_, _, _, _, _, _, _, _, _]) dX9_ask_168 rfl rfl rfl ?_
                    refine x_goto (tgt := 21) dX9_ask_171 (by decide) ?_
                    refine x_drop (i := 5) (lo2 := [_, _, _, _, _, _, _, _, _]) rfl ?_
                    refine x_drop (i := 6) (lo2 := [_, _, _, _, _, _, _, _, _]) rfl ?_
                    refine x_drop (i := 7) (lo2 := [_, _, _, _, _, _, _, _, _]) rfl ?_
                    refine x_drop (i := 8) (lo2 := [_, _, _, _, _, _, _, _, _]) rfl ?_
                    have ek : kas (ksp I n) (I 43) (h + 1) = (kas (ksp I n) (I 43) h) := by simp only [kas]; rw [if_neg (fun q => by have := q.1; omega)]
                    exact x_eq (by rw [ek]) (by rfl) (by rfl) (Kh trivial)
                  · skip
                    exact absurd rfl h158
                · skip
                  exact absurd rfl h146
              · skip
                have hc0 : 0 < cn_ (ksp I n) 256 := by rw [show (0 : Int32) = nI 0 from rfl, nI_leI (by omega) (by decide)] at h128; omega
                refine x_iload dX9_ask_131 rfl ?_
                refine x_iload_n dX9_ask_133 rfl ?_
                refine x_icmp_ge (tgt := 141) dX9_ask_134 (by decide) (fun h134 => ?_) (fun h134 => ?_)
                · skip
                  rw [nI_leI (by omega) (by omega)] at h134
                  refine x_iconst (v := 0) dX9_ask_141 (by decide) ?_
                  refine x_istore (lo2 := [_, _, _, _, _, _, _, _, _]) dX9_ask_142 (by decide) rfl rfl ?_
                  refine x_iload dX9_ask_144 rfl ?_
                  refine x_if_eq (tgt := 154) dX9_ask_146 (by decide) (fun h146 => ?_) (fun h146 => ?_)
                  · skip
                    refine x_iload_n dX9_ask_154 rfl ?_
                    refine x_istore_n (lo2 := [_, _, _, _, _, _, _, _, _]) dX9_ask_155 (by decide) rfl rfl ?_
                    refine x_iload dX9_ask_156 rfl ?_
                    refine x_if_eq (tgt := 166) dX9_ask_158 (by decide) (fun h158 => ?_) (fun h158 => ?_)
                    · skip
                      refine x_iload_n dX9_ask_166 rfl ?_
                      refine x_istore_n (lo2 := [_, _, _, _, _, _, _, _, _]) dX9_ask_167 (by decide) rfl rfl ?_
                      refine x_iincN (lo2 := [_, _, _, _, _, _, _, _, _]) dX9_ask_168 rfl rfl rfl ?_
                      refine x_goto (tgt := 21) dX9_ask_171 (by decide) ?_
                      refine x_drop (i := 5) (lo2 := [_, _, _, _, _, _, _, _, _]) rfl ?_
                      refine x_drop (i := 6) (lo2 := [_, _, _, _, _, _, _, _, _]) rfl ?_
                      refine x_drop (i := 7) (lo2 := [_, _, _, _, _, _, _, _, _]) rfl ?_
                      refine x_drop (i := 8) (lo2 := [_, _, _, _, _, _, _, _, _]) rfl ?_
                      have ek : kas (ksp I n) (I 43) (h + 1) = (kas (ksp I n) (I 43) h) := by simp only [kas]; rw [if_neg (fun q => by have := q.2; omega)]
                      exact x_eq (by rw [ek]) (by rfl) (by rfl) (Kh trivial)
                    · skip
                      exact absurd rfl h158
                  · skip
                    exact absurd rfl h146
                · skip
                  rw [nI_leI (by omega) (by omega)] at h134
                  refine x_iconst (v := 1) dX9_ask_137 (by decide) ?_
                  refine x_goto (tgt := 142) dX9_ask_138 (by decide) ?_
                  refine x_istore (lo2 := [_, _, _, _, _, _, _, _, _]) dX9_ask_142 (by decide) rfl rfl ?_
                  refine x_iload dX9_ask_144 rfl ?_
                  refine x_if_eq (tgt := 154) dX9_ask_146 (by decide) (fun h146 => ?_) (fun h146 => ?_)
                  · skip
                    exact absurd h146 (by decide)
                  · skip
                    refine x_iload dX9_ask_149 rfl ?_
                    refine x_goto (tgt := 155) dX9_ask_151 (by decide) ?_
                    refine x_istore_n (lo2 := [_, _, _, _, _, _, _, _, _]) dX9_ask_155 (by decide) rfl rfl ?_
                    refine x_iload dX9_ask_156 rfl ?_
                    refine x_if_eq (tgt := 166) dX9_ask_158 (by decide) (fun h158 => ?_) (fun h158 => ?_)
                    · skip
                      exact absurd h158 (by decide)
                    · skip
                      refine x_iload dX9_ask_161 rfl ?_
                      refine x_goto (tgt := 167) dX9_ask_163 (by decide) ?_
                      refine x_istore_n (lo2 := [_, _, _, _, _, _, _, _, _]) dX9_ask_167 (by decide) rfl rfl ?_
                      refine x_iincN (lo2 := [_, _, _, _, _, _, _, _, _]) dX9_ask_168 rfl rfl rfl ?_
                      refine x_goto (tgt := 21) dX9_ask_171 (by decide) ?_
                      refine x_drop (i := 5) (lo2 := [_, _, _, _, _, _, _, _, _]) rfl ?_
                      refine x_drop (i := 6) (lo2 := [_, _, _, _, _, _, _, _, _]) rfl ?_
                      refine x_drop (i := 7) (lo2 := [_, _, _, _, _, _, _, _, _]) rfl ?_
                      refine x_drop (i := 8) (lo2 := [_, _, _, _, _, _, _, _, _]) rfl ?_
                      have ek : kas (ksp I n) (I 43) (h + 1) = (nI h, mxN (ksp I n) (I 43 h)) := by simp only [kas]; rw [if_pos ⟨by omega, by omega⟩]
                      exact x_eq (by rw [ek]) (by rfl) (by rfl) (Kh trivial)
            · skip
              rw [nI_leI (by omega) (by omega)] at h111
              refine x_iload dX9_ask_114 rfl ?_
              refine x_goto (tgt := 124) dX9_ask_116 (by decide) ?_
              rw [show nI (cn_ (fun s => ksp I n s && zwi (I 43 h) (nI s)) 256) = nI (mxN (ksp I n) (I 43 h)) from by unfold mxN; congr 1; omega]
              have hmx : mxN (ksp I n) (I 43 h) ≤ 256 := by unfold mxN; omega
              refine x_istore (lo2 := [_, _, _, _, _, _, _, _, _]) dX9_ask_124 (by decide) rfl rfl ?_
              refine x_iload dX9_ask_126 rfl ?_
              refine x_if_le (tgt := 141) dX9_ask_128 (by decide) (fun h128 => ?_) (fun h128 => ?_)
              · skip
                have hc0 : cn_ (ksp I n) 256 = 0 := by rw [show (0 : Int32) = nI 0 from rfl, nI_leI (by omega) (by decide)] at h128; omega
                refine x_iconst (v := 0) dX9_ask_141 (by decide) ?_
                refine x_istore (lo2 := [_, _, _, _, _, _, _, _, _]) dX9_ask_142 (by decide) rfl rfl ?_
                refine x_iload dX9_ask_144 rfl ?_
                refine x_if_eq (tgt := 154) dX9_ask_146 (by decide) (fun h146 => ?_) (fun h146 => ?_)
                · skip
                  refine x_iload_n dX9_ask_154 rfl ?_
                  refine x_istore_n (lo2 := [_, _, _, _, _, _, _, _, _]) dX9_ask_155 (by decide) rfl rfl ?_
                  refine x_iload dX9_ask_156 rfl ?_
                  refine x_if_eq (tgt := 166) dX9_ask_158 (by decide) (fun h158 => ?_) (fun h158 => ?_)
                  · skip
                    refine x_iload_n dX9_ask_166 rfl ?_
                    refine x_istore_n (lo2 := [_, _, _, _, _, _, _, _, _]) dX9_ask_167 (by decide) rfl rfl ?_
                    refine x_iincN (lo2 := [_, _, _, _, _, _, _, _, _]) dX9_ask_168 rfl rfl rfl ?_
                    refine x_goto (tgt := 21) dX9_ask_171 (by decide) ?_
                    refine x_drop (i := 5) (lo2 := [_, _, _, _, _, _, _, _, _]) rfl ?_
                    refine x_drop (i := 6) (lo2 := [_, _, _, _, _, _, _, _, _]) rfl ?_
                    refine x_drop (i := 7) (lo2 := [_, _, _, _, _, _, _, _, _]) rfl ?_
                    refine x_drop (i := 8) (lo2 := [_, _, _, _, _, _, _, _, _]) rfl ?_
                    have ek : kas (ksp I n) (I 43) (h + 1) = (kas (ksp I n) (I 43) h) := by simp only [kas]; rw [if_neg (fun q => by have := q.1; omega)]
                    exact x_eq (by rw [ek]) (by rfl) (by rfl) (Kh trivial)
                  · skip
                    exact absurd rfl h158
                · skip
                  exact absurd rfl h146
              · skip
                have hc0 : 0 < cn_ (ksp I n) 256 := by rw [show (0 : Int32) = nI 0 from rfl, nI_leI (by omega) (by decide)] at h128; omega
                refine x_iload dX9_ask_131 rfl ?_
                refine x_iload_n dX9_ask_133 rfl ?_
                refine x_icmp_ge (tgt := 141) dX9_ask_134 (by decide) (fun h134 => ?_) (fun h134 => ?_)
                · skip
                  rw [nI_leI (by omega) (by omega)] at h134
                  refine x_iconst (v := 0) dX9_ask_141 (by decide) ?_
                  refine x_istore (lo2 := [_, _, _, _, _, _, _, _, _]) dX9_ask_142 (by decide) rfl rfl ?_
                  refine x_iload dX9_ask_144 rfl ?_
                  refine x_if_eq (tgt := 154) dX9_ask_146 (by decide) (fun h146 => ?_) (fun h146 => ?_)
                  · skip
                    refine x_iload_n dX9_ask_154 rfl ?_
                    refine x_istore_n (lo2 := [_, _, _, _, _, _, _, _, _]) dX9_ask_155 (by decide) rfl rfl ?_
                    refine x_iload dX9_ask_156 rfl ?_
                    refine x_if_eq (tgt := 166) dX9_ask_158 (by decide) (fun h158 => ?_) (fun h158 => ?_)
                    · skip
                      refine x_iload_n dX9_ask_166 rfl ?_
                      refine x_istore_n (lo2 := [_, _, _, _, _, _, _, _, _]) dX9_ask_167 (by decide) rfl rfl ?_
                      refine x_iincN (lo2 := [_, _, _, _, _, _, _, _, _]) dX9_ask_168 rfl rfl rfl ?_
                      refine x_goto (tgt := 21) dX9_ask_171 (by decide) ?_
                      refine x_drop (i := 5) (lo2 := [_, _, _, _, _, _, _, _, _]) rfl ?_
                      refine x_drop (i := 6) (lo2 := [_, _, _, _, _, _, _, _, _]) rfl ?_
                      refine x_drop (i := 7) (lo2 := [_, _, _, _, _, _, _, _, _]) rfl ?_
                      refine x_drop (i := 8) (lo2 := [_, _, _, _, _, _, _, _, _]) rfl ?_
                      have ek : kas (ksp I n) (I 43) (h + 1) = (kas (ksp I n) (I 43) h) := by simp only [kas]; rw [if_neg (fun q => by have := q.2; omega)]
                      exact x_eq (by rw [ek]) (by rfl) (by rfl) (Kh trivial)
                    · skip
                      exact absurd rfl h158
                  · skip
                    exact absurd rfl h146
                · skip
                  rw [nI_leI (by omega) (by omega)] at h134
                  refine x_iconst (v := 1) dX9_ask_137 (by decide) ?_
                  refine x_goto (tgt := 142) dX9_ask_138 (by decide) ?_
                  refine x_istore (lo2 := [_, _, _, _, _, _, _, _, _]) dX9_ask_142 (by decide) rfl rfl ?_
                  refine x_iload dX9_ask_144 rfl ?_
                  refine x_if_eq (tgt := 154) dX9_ask_146 (by decide) (fun h146 => ?_) (fun h146 => ?_)
                  · skip
                    exact absurd h146 (by decide)
                  · skip
                    refine x_iload dX9_ask_149 rfl ?_
                    refine x_goto (tgt := 155) dX9_ask_151 (by decide) ?_
                    refine x_istore_n (lo2 := [_, _, _, _, _, _, _, _, _]) dX9_ask_155 (by decide) rfl rfl ?_
                    refine x_iload dX9_ask_156 rfl ?_
                    refine x_if_eq (tgt := 166) dX9_ask_158 (by decide) (fun h158 => ?_) (fun h158 => ?_)
                    · skip
                      exact absurd h158 (by decide)
                    · skip
                      refine x_iload dX9_ask_161 rfl ?_
                      refine x_goto (tgt := 167) dX9_ask_163 (by decide) ?_
                      refine x_istore_n (lo2 := [_, _, _, _, _, _, _, _, _]) dX9_ask_167 (by decide) rfl rfl ?_
                      refine x_iincN (lo2 := [_, _, _, _, _, _, _, _, _]) dX9_ask_168 rfl rfl rfl ?_
                      refine x_goto (tgt := 21) dX9_ask_171 (by decide) ?_
                      refine x_drop (i := 5) (lo2 := [_, _, _, _, _, _, _, _, _]) rfl ?_
                      refine x_drop (i := 6) (lo2 := [_, _, _, _, _, _, _, _, _]) rfl ?_
                      refine x_drop (i := 7) (lo2 := [_, _, _, _, _, _, _, _, _]) rfl ?_
                      refine x_drop (i := 8) (lo2 := [_, _, _, _, _, _, _, _, _]) rfl ?_
                      have ek : kas (ksp I n) (I 43) (h + 1) = (nI h, mxN (ksp I n) (I 43 h)) := by simp only [kas]; rw [if_pos ⟨by omega, by omega⟩]
                      exact x_eq (by rw [ek]) (by rfl) (by rfl) (Kh trivial)
          · skip
            exact absurd (nI_le (b := 256) (Nat.le_refl 256) (by decide)) h42
    · skip
      refine x_iload dX9_ask_21 rfl ?_
      refine x_bipush (v := 6) dX9_ask_23 (by decide) ?_
      refine x_icmp_ge (tgt := 174) dX9_ask_25 (by decide) (fun h25 => ?_) (fun h25 => ?_)
      · skip
        refine x_iload_n dX9_ask_174 rfl ?_
        refine x_if_lt (tgt := 182) dX9_ask_175 (by decide) (fun h175 => ?_) (fun h175 => ?_)
        · skip
          refine x_iload_n dX9_ask_182 rfl ?_
          refine x_goto (tgt := 187) dX9_ask_183 (by decide) ?_
          refine x_iret dX9_ask_187 rfl (Nat.le_of_ble_eq_true rfl) (Nat.le_of_ble_eq_true rfl) ?_
          refine zV_of (congrArg Value.int ?_) ?_ ?_ ?_
          · first | (rw [kasA, if_pos h6]; done) | (rw [kasA, if_neg (by rw [h6]; decide), if_pos (Or.inl h175)]; done) | (rw [kasA, if_neg (by rw [h6]; decide), if_pos (Or.inr h179)]; done) | (rw [kasA, if_neg (by rw [h6]; decide), if_neg (fun q => q.elim h175 h179)])
          · intro _ _; rfl
          · rfl
          · rfl
        · skip
          refine x_iload_n dX9_ask_178 rfl ?_
          refine x_if_ne (tgt := 186) dX9_ask_179 (by decide) (fun h179 => ?_) (fun h179 => ?_)
          · skip
            refine x_iload_n dX9_ask_186 rfl ?_
            refine x_iret dX9_ask_187 rfl (Nat.le_of_ble_eq_true rfl) (Nat.le_of_ble_eq_true rfl) ?_
            refine zV_of (congrArg Value.int ?_) ?_ ?_ ?_
            · first | (rw [kasA, if_pos h6]; done) | (rw [kasA, if_neg (by rw [h6]; decide), if_pos (Or.inl h175)]; done) | (rw [kasA, if_neg (by rw [h6]; decide), if_pos (Or.inr h179)]; done) | (rw [kasA, if_neg (by rw [h6]; decide), if_neg (fun q => q.elim h175 h179)])
            · intro _ _; rfl
            · rfl
            · rfl
          · skip
            refine x_iload_n dX9_ask_182 rfl ?_
            refine x_goto (tgt := 187) dX9_ask_183 (by decide) ?_
            refine x_iret dX9_ask_187 rfl (Nat.le_of_ble_eq_true rfl) (Nat.le_of_ble_eq_true rfl) ?_
            refine zV_of (congrArg Value.int ?_) ?_ ?_ ?_
            · first | (rw [kasA, if_pos h6]; done) | (rw [kasA, if_neg (by rw [h6]; decide), if_pos (Or.inl h175)]; done) | (rw [kasA, if_neg (by rw [h6]; decide), if_pos (Or.inr h179)]; done) | (rw [kasA, if_neg (by rw [h6]; decide), if_neg (fun q => q.elim h175 h179)])
            · intro _ _; rfl
            · rfl
            · rfl
      · skip
        exact absurd (nI_le (b := 6) (Nat.le_refl 6) (by decide)) h25
  · skip
    replace h6 := zb0 h6
    refine x_bipush (v := (-2)) dX9_ask_9 (by decide) ?_
    refine x_iret dX9_ask_11 rfl (Nat.le_of_ble_eq_true rfl) (Nat.le_of_ble_eq_true rfl) ?_
    refine zV_of (congrArg Value.int ?_) ?_ ?_ ?_
    · first | (rw [kasA, if_pos h6]; done) | (rw [kasA, if_neg (by rw [h6]; decide), if_pos (Or.inl h175)]; done) | (rw [kasA, if_neg (by rw [h6]; decide), if_pos (Or.inr h179)]; done) | (rw [kasA, if_neg (by rw [h6]; decide), if_neg (fun q => q.elim h175 h179)])
    · intro _ _; rfl
    · rfl
    · rfl
