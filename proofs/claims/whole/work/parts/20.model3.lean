/-! the reference's LEAST and ORDER -/
def kch (fit : Nat → Bool) (fo tk row : Nat → Nat) (need : Nat) : Nat → Nat
  | 0 => 1000000
  | h + 1 => if fit h = true then min (kch fit fo tk row need h) (row (need - fo h) + 1000 * tk h + 1) else kch fit fo tk row need h
theorem kch_le (fit : Nat → Bool) (fo tk row : Nat → Nat) (need : Nat) : ∀ h, kch fit fo tk row need h ≤ 1000000
  | 0 => Nat.le_refl _
  | h + 1 => by
    have := kch_le fit fo tk row need h
    simp only [kch]
    split
    · omega
    · exact this
def kpt (fit : Nat → Bool) (fo tk : Nat → Nat) : Nat → Nat → Nat
  | 0 => fun _ => 0
  | v + 1 => fun k => if k = v + 1 then kch fit fo tk (kpt fit fo tk v) (v + 1) 6 else kpt fit fo tk v k
theorem kpt_le (fit : Nat → Bool) (fo tk : Nat → Nat) : ∀ v k, kpt fit fo tk v k ≤ 1000000
  | 0, k => by simp [kpt]
  | v + 1, k => by
    simp only [kpt]
    split
    · exact kch_le _ _ _ _ _ _
    · exact kpt_le fit fo tk v k
theorem kpt_0 (fit : Nat → Bool) (fo tk : Nat → Nat) : ∀ v, kpt fit fo tk v 0 = 0
  | 0 => rfl
  | v + 1 => by simp only [kpt]; rw [if_neg (by omega)]; exact kpt_0 fit fo tk v
def kprw (fit : Nat → Bool) (fo tk : Nat → Nat) (base : Nat → Int32) (i : Nat) : Nat → Int32 := fun k => if 1 ≤ k ∧ k < i then nI (kpt fit fo tk (i - 1) k) else base k
theorem kprw_1 {fit : Nat → Bool} {fo tk : Nat → Nat} {base : Nat → Int32} : base = kprw fit fo tk base 1 := by
  funext k
  simp only [kprw]
  rw [if_neg (by omega)]
theorem kprw_s {fit : Nat → Bool} {fo tk : Nat → Nat} {base : Nat → Int32} {i : Nat} (hi : 1 ≤ i) : upd (kprw fit fo tk base i) i (nI (kch fit fo tk (kpt fit fo tk (i - 1)) i 6)) = kprw fit fo tk base (i + 1) := by
  obtain ⟨j, rfl⟩ : ∃ j, i = j + 1 := ⟨i - 1, by omega⟩
  funext k
  by_cases e : k = j + 1
  · subst e; simp [upd, kprw, kpt]
  · by_cases q : 1 ≤ k ∧ k < j + 1
    · simp only [upd, kprw, if_neg e, if_pos q]
      rw [if_pos (by omega)]
      simp [kpt, e]
    · simp only [upd, kprw, if_neg e, if_neg q]
      rw [if_neg (by omega)]
theorem updd (f : Nat → Int32) (i : Nat) (v w : Int32) : upd (upd f i v) i w = upd f i w := by
  funext k
  by_cases e : k = i <;> simp [upd, e]
theorem updk (f : Nat → Int32) (i : Nat) (v : Int32) : upd f i v i = v := by simp [upd]
def kfit (I : zI) (a : Nat) (h : Nat) : Bool := zis (kf_ (I 43) (I 41 (6 + a)) 6) (nI h)
def kpN (I : zI) (a : Nat) : Nat := kpt (kfit I a) (fun h => zx (I 44 h)) (fun h => zx (I 45 h)) (zx (I 41 a)) (zx (I 41 a))
def kleA (I : zI) (a w : Int32) : Int32 := if thr I a = false then -1 else if zin w 0 1 = false then -2 else if kpN I (zx a) < 1000000 then (if w = 0 then nI (kpN I (zx a) / 1000) else nI (kpN I (zx a) % 1000)) else -6
def kTk (I : zI) (a : Nat) : Bool := thr I (nI a) && decide (kpN I a < 1000000)
def kHr (I : zI) (a : Nat) : Nat := if kTk I a = true then kpN I a % 1000 else 0
def kTs (I : zI) : Nat := ts_ (kTk I) 6
theorem kHr_le (I : zI) (a : Nat) : kHr I a ≤ 999 := by
  unfold kHr
  split
  · have := Nat.mod_lt (kpN I a) (show 0 < 1000 by decide); omega
  · omega
def kic (st hr : Nat → Nat) (B : Nat → Nat) (s i : Nat) : Nat := B (s ||| 2 ^ i) + st i * (S_ hr s 6 + hr i)
def ki_ (st hr : Nat → Nat) (T : Nat) (B : Nat → Nat) (s : Nat) (F : Int32) : Nat → Nat × Int32
  | 0 => (if s = T then 0 else 1000000, F)
  | j + 1 => if T.testBit (5 - j) = true ∧ s.testBit (5 - j) = false then (min (ki_ st hr T B s F j).1 (kic st hr B s (5 - j)), if kic st hr B s (5 - j) ≤ (ki_ st hr T B s F j).1 then nI (5 - j) else (ki_ st hr T B s F j).2) else ki_ st hr T B s F j
theorem ki_le (st hr : Nat → Nat) (T : Nat) (B : Nat → Nat) (s : Nat) (F : Int32) : ∀ j, (ki_ st hr T B s F j).1 ≤ 1000000
  | 0 => by simp only [ki_]; split <;> omega
  | j + 1 => by
    have := ki_le st hr T B s F j
    simp only [ki_]
    split
    · dsimp only; omega
    · exact this
def kis (st hr : Nat → Nat) (T : Nat) (B : Nat → Nat) (s : Nat) (F : Int32) : Nat × Int32 := ki_ st hr T B s F (if s &&& T = s then 6 else 0)
def ko_ (st hr : Nat → Nat) (T : Nat) : Nat → (Nat → Nat) × Int32
  | 0 => (fun _ => 0, -6)
  | d + 1 => (fun k => if k = 63 - d then (kis st hr T (ko_ st hr T d).1 (63 - d) (ko_ st hr T d).2).1 else (ko_ st hr T d).1 k, (kis st hr T (ko_ st hr T d).1 (63 - d) (ko_ st hr T d).2).2)
theorem ko_le (st hr : Nat → Nat) (T : Nat) : ∀ d k, (ko_ st hr T d).1 k ≤ 1000000
  | 0, k => by simp [ko_]
  | d + 1, k => by
    simp only [ko_]
    split
    · exact ki_le _ _ _ _ _ _ _
    · exact ko_le st hr T d k
def kST (I : zI) (a : Nat) : Nat := if kTk I a = true then zx (I 41 a) else 0
def kO (I : zI) : (Nat → Nat) × Int32 := ko_ (kST I) (kHr I) (kTs I) 64
def korA (I : zI) (w : Int32) : Int32 := if zin w 0 1 = false then -2 else if w = 0 then nI ((kO I).1 0) else if kTs I = 0 then -6 else (kO I).2
theorem nI_m1 (n : Nat) : nI (n + 1) + (-1) = nI n := by
  rw [← nI_1 n, Int32.add_assoc]
  show nI n + 0 = nI n
  exact Int32.add_zero _
theorem S_le9 {st : Nat → Nat} {n : Nat} (h : ∀ k, st k ≤ 999) : ∀ i, S_ st n i ≤ 999 * i
  | 0 => by simp [S_]
  | i + 1 => by
    have h1 := S_le9 (n := n) h i
    have h2 := h i
    simp only [S_]
    split <;> omega
theorem zan6 : ∀ t, t < 64 → ∀ s, s < 64 → nI t &&& (nI s ^^^ (-1)) = nI (t &&& (s ^^^ 63)) := by decide +kernel
theorem zt63 : ∀ i, i < 6 → (63 : Nat).testBit i = true := by decide
theorem zhs {t s i : Nat} (ht : t < 64) (hs : s < 64) (hi : i < 6) : zis (nI t &&& (nI s ^^^ (-1))) (nI i) = (t.testBit i && !s.testBit i) := by
  rw [zan6 t ht s hs, zis_nI (Nat.lt_of_le_of_lt Nat.and_le_left (by omega)) (by omega), Nat.testBit_and, Nat.testBit_xor, zt63 i hi]
  simp
theorem zorlt : ∀ s, s < 64 → ∀ i, i < 6 → s.testBit i = false → s < s ||| 2 ^ i ∧ s ||| 2 ^ i < 64 := by decide +kernel
theorem nI_or0 (a : Nat) : nI a ||| 0 = nI a := by rw [show (0 : Int32) = nI 0 from rfl, nI_or, Nat.or_zero]
theorem kic_lt {st hr B : Nat → Nat} {s i : Nat} (h1 : st i ≤ 99) (h2 : ∀ k, hr k ≤ 999) (h3 : ∀ k, B k ≤ 1000000) : kic st hr B s i ≤ 2000000 := by
  have e := S_le9 (n := s) h2 6
  have e2 := h2 i
  have e3 := h3 (s ||| 2 ^ i)
  have e4 : st i * (S_ hr s 6 + hr i) ≤ 99 * 6993 := Nat.mul_le_mul h1 (by omega)
  unfold kic
  omega

theorem ct_X9_leastOf {g : zG} {N : Nat} {I : zI} {L : zL} {q0 q1 : Option Nat} {a s : Nat} {fit : Nat → Bool} {fo tk : Nat → Nat} (hN : 58 ≤ N) (ha : a < 6) (hs : I 41 a = nI s) (hs1 : 1 ≤ s) (hs2 : s ≤ 99) (hf : ∀ h, h < 6 → I 44 h = nI (fo h) ∧ 1 ≤ fo h ∧ fo h ≤ 20) (ht : ∀ h, h < 6 → I 45 h = nI (tk h) ∧ tk h ≤ 9) (hfit : ∀ h, h < 6 → zis (kf_ (I 43) (I 41 (6 + a)) 6) (nI h) = fit h) : Ct g yX9_leastOf mX9_leastOf [.ref (g.2.1 + 40), .int (nI a)] N I L (zRw q0 q1) (zD1 (some (.int (nI (kpt fit fo tk s s)))) N I 50 L (zRw q0 q1)) := by
  refine Ct_of (lo0 := [some (.ref (g.2.1 + 40)), some (.int (nI a)), none, none, none, none, none]) rfl rfl rfl rfl (Nat.le_of_ble_eq_true rfl) (fun E => ?_)
  refine x_aload_n dX9_leastOf_0 rfl ?_
  refine x_iload_n dX9_leastOf_1 rfl ?_
  refine x_callVi dX9_leastOf_2 ml_X9_134 mt_X9_fitsOf mv_X9_fitsOf (ct_X9_fitsOf hN ha) (by omega) rfl rfl rfl rfl (Nat.le_of_ble_eq_true rfl) ⟨(Nat.le_of_ble_eq_true rfl), (Nat.le_of_ble_eq_true rfl)⟩ ⟨rfl, rfl⟩ ⟨(Nat.le_of_ble_eq_true rfl), (Nat.le_of_ble_eq_true rfl)⟩ ?_
  refine x_istore_n (lo2 := [_, _, _, _, _, _, _]) dX9_leastOf_5 (by decide) rfl rfl ?_
  refine x_iconst (v := 1) dX9_leastOf_6 (by decide) ?_
  refine x_pc (pc2 := 7) rfl ?_
  refine x_istore_n (lo2 := [_, _, _, _, _, _, _]) dX9_leastOf_7 (by decide) rfl rfl ?_
  refine x_loop (inv := fun k => True) (fun k => [some (.ref (g.2.1 + 40)), some (.int (nI a)), some (.int (kf_ (I 43) (I 41 (6 + a)) 6)), some (.int (nI k)), none, none, none]) (fun k => zrow I 50 (kprw fit fo tk (I 50) k)) (fun k => L) 1 (s + 1) (by omega) (by trivial) (by rfl) (by rw [← kprw_1, zrow_same]) (by rfl) (fun k hlok hhik hinvk Kk => ?_) (fun hinvk => ?_)
  · skip
    have hf1 := hf
    have hsk : k ≤ s := by omega
    refine x_iload_n dX9_leastOf_8 rfl ?_
    refine x_aload_n dX9_leastOf_9 rfl ?_
    refine x_getR dX9_leastOf_10 fl_X9_7 (by omega) rfl rfl rfl ?_
    refine x_iload_n dX9_leastOf_13 rfl ?_
    refine x_ialdN dX9_leastOf_14 (by omega) rfl rfl (by omega) ?_
    refine x_pc (pc2 := 15) rfl ?_
    refine x_icmp_gt (tgt := 143) dX9_leastOf_15 (by decide) (fun h15 => ?_) (fun h15 => ?_)
    · skip
      exact absurd h15 (by rw [show zrow I 50 (kprw fit fo tk (I 50) k) 41 a = nI s from hs]; exact nI_nlt (show k ≤ s by omega) (by omega))
    · skip
      refine x_aload_n dX9_leastOf_18 rfl ?_
      refine x_getR dX9_leastOf_19 fl_X9_37 (by omega) rfl rfl rfl ?_
      refine x_iload_n dX9_leastOf_22 rfl ?_
      refine x_ldc dX9_leastOf_23 cn_X9_137 ?_
      refine x_iast dX9_leastOf_25 (by omega) rfl rfl (by omega) ?_
      refine x_pc (pc2 := 26) rfl ?_
      refine x_iconst (v := 0) dX9_leastOf_26 (by decide) ?_
      refine x_istore (lo2 := [_, _, _, _, _, _, _]) dX9_leastOf_27 (by decide) rfl rfl ?_
      refine x_loop (inv := fun h => True) (fun h => [some (.ref (g.2.1 + 40)), some (.int (nI a)), some (.int (kf_ (I 43) (I 41 (6 + a)) 6)), some (.int (nI k)), some (.int (nI h)), none, none]) (fun h => (zrow I 50 (upd (kprw fit fo tk (I 50) k) k (nI (kch fit fo tk (kpt fit fo tk (k - 1)) k h))))) (fun h => L) 0 6 (by omega) (by trivial) (by rfl) (by rw [zu_zrow]; rfl) (by rfl) (fun h hloh hhih hinvh Kh => ?_) (fun hinvh => ?_)
      · skip
        have e50 : (zrow I 50 (upd (kprw fit fo tk (I 50) k) k (nI (kch fit fo tk (kpt fit fo tk (k - 1)) k h)))) 50 k = (nI (kch fit fo tk (kpt fit fo tk (k - 1)) k h)) := by rw [zrow_k, updk]
        have e44 : (zrow I 50 (upd (kprw fit fo tk (I 50) k) k (nI (kch fit fo tk (kpt fit fo tk (k - 1)) k h)))) 44 h = nI (fo h) := (hf h hhih).1
        have e45 : (zrow I 50 (upd (kprw fit fo tk (I 50) k) k (nI (kch fit fo tk (kpt fit fo tk (k - 1)) k h)))) 45 h = nI (tk h) := (ht h hhih).1
        have b1 := hf h hhih
        have b2 := ht h hhih
        have b3 := kch_le fit fo tk (kpt fit fo tk (k - 1)) k h
        have b4 := kpt_le fit fo tk (k - 1) (k - fo h)
        have er : k - fo h ≠ 0 → (zrow I 50 (upd (kprw fit fo tk (I 50) k) k (nI (kch fit fo tk (kpt fit fo tk (k - 1)) k h)))) 50 (k - fo h) = nI (kpt fit fo tk (k - 1) (k - fo h)) := fun q => by rw [zrow_k]; simp only [upd, kprw]; rw [if_neg (by omega), if_pos (by omega)]
        have ez : k - fo h = 0 → kpt fit fo tk (k - 1) (k - fo h) = 0 := fun q => by rw [q, kpt_0]
        refine x_iload dX9_leastOf_29 rfl ?_
        refine x_bipush (v := 6) dX9_leastOf_31 (by decide) ?_
        refine x_icmp_ge (tgt := 137) dX9_leastOf_33 (by decide) (fun h33 => ?_) (fun h33 => ?_)
        · skip
          exact absurd h33 (nI_ge (b := 6) hhih (by decide))
        · skip
          refine x_iload_n dX9_leastOf_36 rfl ?_
          refine x_aload_n dX9_leastOf_37 rfl ?_
          refine x_getR dX9_leastOf_38 fl_X9_19 (by omega) rfl rfl rfl ?_
          refine x_iload dX9_leastOf_41 rfl ?_
          refine x_ialdN dX9_leastOf_43 (by omega) rfl rfl hhih ?_
          refine x_pc (pc2 := 44) rfl ?_
          refine x_icmp_le (tgt := 59) dX9_leastOf_44 (by decide) (fun h44 => ?_) (fun h44 => ?_)
          · skip
            rw [e44, nI_leI (by omega) (by omega)] at h44
            refine x_iconst (v := 0) dX9_leastOf_59 (by decide) ?_
            refine x_istore (lo2 := [_, _, _, _, _, _, _]) dX9_leastOf_60 (by decide) rfl rfl ?_
            refine x_iload dX9_leastOf_62 rfl ?_
            refine x_if_ne (tgt := 71) dX9_leastOf_64 (by decide) (fun h64 => ?_) (fun h64 => ?_)
            · skip
              exact absurd rfl h64
            · skip
              refine x_iconst (v := 0) dX9_leastOf_67 (by decide) ?_
              refine x_goto (tgt := 78) dX9_leastOf_68 (by decide) ?_
              refine x_sipush (v := 1000) dX9_leastOf_78 (by decide) ?_
              refine x_aload_n dX9_leastOf_81 rfl ?_
              refine x_getR dX9_leastOf_82 fl_X9_22 (by omega) rfl rfl rfl ?_
              refine x_iload dX9_leastOf_85 rfl ?_
              refine x_ialdN dX9_leastOf_87 (by omega) rfl rfl hhih ?_
              rw [e45]
              refine x_pc (pc2 := 88) rfl ?_
              refine x_imul dX9_leastOf_88 ?_
              refine x_iadd dX9_leastOf_89 ?_
              refine x_iconst (v := 1) dX9_leastOf_90 (by decide) ?_
              refine x_iadd dX9_leastOf_91 ?_
              rw [show (0 : Int32) + 1000 * nI (tk h) + 1 = nI (kpt fit fo tk (k - 1) (k - fo h) + 1000 * tk h + 1) from by rw [ez (by omega), show (0 : Int32) = nI 0 from rfl, show (1000 : Int32) = nI 1000 from rfl, pk_mul, nI_add, nI_1]]
              refine x_istore (lo2 := [_, _, _, _, _, _, _]) dX9_leastOf_92 (by decide) rfl rfl ?_
              refine x_aload_n dX9_leastOf_94 rfl ?_
              refine x_pc (pc2 := 95) rfl ?_
              refine x_getR dX9_leastOf_95 fl_X9_37 (by omega) rfl rfl rfl ?_
              refine x_iload_n dX9_leastOf_98 rfl ?_
              refine x_iload_n dX9_leastOf_99 rfl ?_
              refine x_iload dX9_leastOf_100 rfl ?_
              refine x_callSi dX9_leastOf_102 ml_X9_67 mt_X9_has st_X9_has (ct_X9_has) rfl rfl (Nat.le_of_ble_eq_true rfl) ⟨(Nat.le_of_ble_eq_true rfl), (Nat.le_of_ble_eq_true rfl)⟩ ⟨rfl, rfl⟩ ⟨(Nat.le_of_ble_eq_true rfl), (Nat.le_of_ble_eq_true rfl)⟩ ?_
              refine x_if_eq (tgt := 124) dX9_leastOf_105 (by decide) (fun h105 => ?_) (fun h105 => ?_)
              · skip
                replace h105 := zb0 h105
                refine x_aload_n dX9_leastOf_124 rfl ?_
                refine x_getR dX9_leastOf_125 fl_X9_37 (by omega) rfl rfl rfl ?_
                refine x_iload_n dX9_leastOf_128 rfl ?_
                refine x_ialdN dX9_leastOf_129 (by omega) rfl rfl (by omega) ?_
                rw [e50]
                refine x_iast dX9_leastOf_130 (by omega) rfl rfl (by omega) ?_
                refine x_pc (pc2 := 131) rfl ?_
                refine x_iincN (lo2 := [_, _, _, _, _, _, _]) dX9_leastOf_131 rfl rfl rfl ?_
                refine x_goto (tgt := 29) dX9_leastOf_134 (by decide) ?_
                refine x_drop (i := 5) (lo2 := [_, _, _, _, _, _, _]) rfl ?_
                refine x_drop (i := 6) (lo2 := [_, _, _, _, _, _, _]) rfl ?_
                have ek : kch fit fo tk (kpt fit fo tk (k - 1)) k (h + 1) = kch fit fo tk (kpt fit fo tk (k - 1)) k h := by rw [kch, if_neg (by rw [← hfit h hhih, h105]; decide)]
                exact x_eq (by rfl) (by rw [zu_zrow, updd, ek]) (by rfl) (Kh trivial)
              · skip
                replace h105 := zb1 h105
                refine x_iload dX9_leastOf_108 rfl ?_
                refine x_aload_n dX9_leastOf_110 rfl ?_
                refine x_getR dX9_leastOf_111 fl_X9_37 (by omega) rfl rfl rfl ?_
                refine x_iload_n dX9_leastOf_114 rfl ?_
                refine x_ialdN dX9_leastOf_115 (by omega) rfl rfl (by omega) ?_
                refine x_pc (pc2 := 116) rfl ?_
                refine x_icmp_ge (tgt := 124) dX9_leastOf_116 (by decide) (fun h116 => ?_) (fun h116 => ?_)
                · skip
                  rw [e50, nI_leI (by omega) (by omega)] at h116
                  refine x_aload_n dX9_leastOf_124 rfl ?_
                  refine x_getR dX9_leastOf_125 fl_X9_37 (by omega) rfl rfl rfl ?_
                  refine x_iload_n dX9_leastOf_128 rfl ?_
                  refine x_ialdN dX9_leastOf_129 (by omega) rfl rfl (by omega) ?_
                  rw [e50]
                  refine x_iast dX9_leastOf_130 (by omega) rfl rfl (by omega) ?_
                  refine x_pc (pc2 := 131) rfl ?_
                  refine x_iincN (lo2 := [_, _, _, _, _, _, _]) dX9_leastOf_131 rfl rfl rfl ?_
                  refine x_goto (tgt := 29) dX9_leastOf_134 (by decide) ?_
                  refine x_drop (i := 5) (lo2 := [_, _, _, _, _, _, _]) rfl ?_
                  refine x_drop (i := 6) (lo2 := [_, _, _, _, _, _, _]) rfl ?_
                  have ek : kch fit fo tk (kpt fit fo tk (k - 1)) k (h + 1) = kch fit fo tk (kpt fit fo tk (k - 1)) k h := by rw [kch, if_pos (by rw [← hfit h hhih]; exact h105)]; omega
                  exact x_eq (by rfl) (by rw [zu_zrow, updd, ek]) (by rfl) (Kh trivial)
                · skip
                  rw [e50, nI_leI (by omega) (by omega)] at h116
                  refine x_iload dX9_leastOf_119 rfl ?_
                  refine x_goto (tgt := 130) dX9_leastOf_121 (by decide) ?_
                  refine x_iast dX9_leastOf_130 (by omega) rfl rfl (by omega) ?_
                  refine x_iincN (lo2 := [_, _, _, _, _, _, _]) dX9_leastOf_131 rfl rfl rfl ?_
                  refine x_goto (tgt := 29) dX9_leastOf_134 (by decide) ?_
                  refine x_drop (i := 5) (lo2 := [_, _, _, _, _, _, _]) rfl ?_
                  refine x_drop (i := 6) (lo2 := [_, _, _, _, _, _, _]) rfl ?_
                  have ek : kch fit fo tk (kpt fit fo tk (k - 1)) k (h + 1) = kpt fit fo tk (k - 1) (k - fo h) + 1000 * tk h + 1 := by rw [kch, if_pos (by rw [← hfit h hhih]; exact h105)]; omega
                  exact x_eq (by rfl) (by rw [zu_zrow, updd, ek]) (by rfl) (Kh trivial)
          · skip
            rw [e44, nI_leI (by omega) (by omega)] at h44
            refine x_iload_n dX9_leastOf_47 rfl ?_
            refine x_aload_n dX9_leastOf_48 rfl ?_
            refine x_getR dX9_leastOf_49 fl_X9_19 (by omega) rfl rfl rfl ?_
            refine x_iload dX9_leastOf_52 rfl ?_
            refine x_ialdN dX9_leastOf_54 (by omega) rfl rfl hhih ?_
            rw [e44]
            refine x_pc (pc2 := 55) rfl ?_
            refine x_isub dX9_leastOf_55 ?_
            rw [pk_sub (by omega)]
            refine x_goto (tgt := 60) dX9_leastOf_56 (by decide) ?_
            refine x_istore (lo2 := [_, _, _, _, _, _, _]) dX9_leastOf_60 (by decide) rfl rfl ?_
            refine x_iload dX9_leastOf_62 rfl ?_
            refine x_if_ne (tgt := 71) dX9_leastOf_64 (by decide) (fun h64 => ?_) (fun h64 => ?_)
            · skip
              refine x_aload_n dX9_leastOf_71 rfl ?_
              refine x_getR dX9_leastOf_72 fl_X9_37 (by omega) rfl rfl rfl ?_
              refine x_iload dX9_leastOf_75 rfl ?_
              refine x_ialdN dX9_leastOf_77 (by omega) rfl rfl (by omega) ?_
              refine x_sipush (v := 1000) dX9_leastOf_78 (by decide) ?_
              refine x_pc (pc2 := 81) rfl ?_
              refine x_aload_n dX9_leastOf_81 rfl ?_
              refine x_getR dX9_leastOf_82 fl_X9_22 (by omega) rfl rfl rfl ?_
              refine x_iload dX9_leastOf_85 rfl ?_
              refine x_ialdN dX9_leastOf_87 (by omega) rfl rfl hhih ?_
              rw [e45]
              refine x_imul dX9_leastOf_88 ?_
              refine x_iadd dX9_leastOf_89 ?_
              refine x_pc (pc2 := 90) rfl ?_
              refine x_iconst (v := 1) dX9_leastOf_90 (by decide) ?_
              refine x_iadd dX9_leastOf_91 ?_
              rw [er (by omega), show nI (kpt fit fo tk (k - 1) (k - fo h)) + 1000 * nI (tk h) + 1 = nI (kpt fit fo tk (k - 1) (k - fo h) + 1000 * tk h + 1) from by rw [show (1000 : Int32) = nI 1000 from rfl, pk_mul, nI_add, nI_1]]
              refine x_istore (lo2 := [_, _, _, _, _, _, _]) dX9_leastOf_92 (by decide) rfl rfl ?_
              refine x_aload_n dX9_leastOf_94 rfl ?_
              refine x_getR dX9_leastOf_95 fl_X9_37 (by omega) rfl rfl rfl ?_
              refine x_iload_n dX9_leastOf_98 rfl ?_
              refine x_pc (pc2 := 99) rfl ?_
              refine x_iload_n dX9_leastOf_99 rfl ?_
              refine x_iload dX9_leastOf_100 rfl ?_
              refine x_callSi dX9_leastOf_102 ml_X9_67 mt_X9_has st_X9_has (ct_X9_has) rfl rfl (Nat.le_of_ble_eq_true rfl) ⟨(Nat.le_of_ble_eq_true rfl), (Nat.le_of_ble_eq_true rfl)⟩ ⟨rfl, rfl⟩ ⟨(Nat.le_of_ble_eq_true rfl), (Nat.le_of_ble_eq_true rfl)⟩ ?_
              refine x_if_eq (tgt := 124) dX9_leastOf_105 (by decide) (fun h105 => ?_) (fun h105 => ?_)
              · skip
                replace h105 := zb0 h105
                refine x_aload_n dX9_leastOf_124 rfl ?_
                refine x_getR dX9_leastOf_125 fl_X9_37 (by omega) rfl rfl rfl ?_
                refine x_iload_n dX9_leastOf_128 rfl ?_
                refine x_ialdN dX9_leastOf_129 (by omega) rfl rfl (by omega) ?_
                rw [e50]
                refine x_iast dX9_leastOf_130 (by omega) rfl rfl (by omega) ?_
                refine x_pc (pc2 := 131) rfl ?_
                refine x_iincN (lo2 := [_, _, _, _, _, _, _]) dX9_leastOf_131 rfl rfl rfl ?_
                refine x_goto (tgt := 29) dX9_leastOf_134 (by decide) ?_
                refine x_drop (i := 5) (lo2 := [_, _, _, _, _, _, _]) rfl ?_
                refine x_drop (i := 6) (lo2 := [_, _, _, _, _, _, _]) rfl ?_
                have ek : kch fit fo tk (kpt fit fo tk (k - 1)) k (h + 1) = kch fit fo tk (kpt fit fo tk (k - 1)) k h := by rw [kch, if_neg (by rw [← hfit h hhih, h105]; decide)]
                exact x_eq (by rfl) (by rw [zu_zrow, updd, ek]) (by rfl) (Kh trivial)
              · skip
                replace h105 := zb1 h105
                refine x_iload dX9_leastOf_108 rfl ?_
                refine x_aload_n dX9_leastOf_110 rfl ?_
                refine x_getR dX9_leastOf_111 fl_X9_37 (by omega) rfl rfl rfl ?_
                refine x_iload_n dX9_leastOf_114 rfl ?_
                refine x_ialdN dX9_leastOf_115 (by omega) rfl rfl (by omega) ?_
                refine x_pc (pc2 := 116) rfl ?_
                refine x_icmp_ge (tgt := 124) dX9_leastOf_116 (by decide) (fun h116 => ?_) (fun h116 => ?_)
                · skip
                  rw [e50, nI_leI (by omega) (by omega)] at h116
                  refine x_aload_n dX9_leastOf_124 rfl ?_
                  refine x_getR dX9_leastOf_125 fl_X9_37 (by omega) rfl rfl rfl ?_
                  refine x_iload_n dX9_leastOf_128 rfl ?_
                  refine x_ialdN dX9_leastOf_129 (by omega) rfl rfl (by omega) ?_
                  rw [e50]
                  refine x_iast dX9_leastOf_130 (by omega) rfl rfl (by omega) ?_
                  refine x_pc (pc2 := 131) rfl ?_
                  refine x_iincN (lo2 := [_, _, _, _, _, _, _]) dX9_leastOf_131 rfl rfl rfl ?_
                  refine x_goto (tgt := 29) dX9_leastOf_134 (by decide) ?_
                  refine x_drop (i := 5) (lo2 := [_, _, _, _, _, _, _]) rfl ?_
                  refine x_drop (i := 6) (lo2 := [_, _, _, _, _, _, _]) rfl ?_
                  have ek : kch fit fo tk (kpt fit fo tk (k - 1)) k (h + 1) = kch fit fo tk (kpt fit fo tk (k - 1)) k h := by rw [kch, if_pos (by rw [← hfit h hhih]; exact h105)]; omega
                  exact x_eq (by rfl) (by rw [zu_zrow, updd, ek]) (by rfl) (Kh trivial)
                · skip
                  rw [e50, nI_leI (by omega) (by omega)] at h116
                  refine x_iload dX9_leastOf_119 rfl ?_
                  refine x_goto (tgt := 130) dX9_leastOf_121 (by decide) ?_
                  refine x_iast dX9_leastOf_130 (by omega) rfl rfl (by omega) ?_
                  refine x_iincN (lo2 := [_, _, _, _, _, _, _]) dX9_leastOf_131 rfl rfl rfl ?_
                  refine x_goto (tgt := 29) dX9_leastOf_134 (by decide) ?_
                  refine x_drop (i := 5) (lo2 := [_, _, _, _, _, _, _]) rfl ?_
                  refine x_drop (i := 6) (lo2 := [_, _, _, _, _, _, _]) rfl ?_
                  have ek : kch fit fo tk (kpt fit fo tk (k - 1)) k (h + 1) = kpt fit fo tk (k - 1) (k - fo h) + 1000 * tk h + 1 := by rw [kch, if_pos (by rw [← hfit h hhih]; exact h105)]; omega
                  exact x_eq (by rfl) (by rw [zu_zrow, updd, ek]) (by rfl) (Kh trivial)
            · skip
              exact absurd h64 (by rw [nI_z (by omega)]; omega)
      · skip
        refine x_iload dX9_leastOf_29 rfl ?_
        refine x_bipush (v := 6) dX9_leastOf_31 (by decide) ?_
        refine x_icmp_ge (tgt := 137) dX9_leastOf_33 (by decide) (fun h33 => ?_) (fun h33 => ?_)
        · skip
          refine x_iincN (lo2 := [_, _, _, _, _, _, _]) dX9_leastOf_137 rfl rfl rfl ?_
          refine x_goto (tgt := 8) dX9_leastOf_140 (by decide) ?_
          refine x_drop (i := 4) (lo2 := [_, _, _, _, _, _, _]) rfl ?_
          exact x_eq (by rfl) (by rw [kprw_s hlok]) (by rfl) (Kk trivial)
        · skip
          exact absurd (nI_le (b := 6) (Nat.le_refl 6) (by decide)) h33
  · skip
    refine x_iload_n dX9_leastOf_8 rfl ?_
    refine x_aload_n dX9_leastOf_9 rfl ?_
    refine x_getR dX9_leastOf_10 fl_X9_7 (by omega) rfl rfl rfl ?_
    refine x_iload_n dX9_leastOf_13 rfl ?_
    refine x_ialdN dX9_leastOf_14 (by omega) rfl rfl (by omega) ?_
    refine x_pc (pc2 := 15) rfl ?_
    refine x_icmp_gt (tgt := 143) dX9_leastOf_15 (by decide) (fun h15 => ?_) (fun h15 => ?_)
    · skip
      refine x_aload_n dX9_leastOf_143 rfl ?_
      refine x_getR dX9_leastOf_144 fl_X9_37 (by omega) rfl rfl rfl ?_
      refine x_aload_n dX9_leastOf_147 rfl ?_
      refine x_getR dX9_leastOf_148 fl_X9_7 (by omega) rfl rfl rfl ?_
      refine x_iload_n dX9_leastOf_151 rfl ?_
      refine x_pc (pc2 := 152) rfl ?_
      refine x_ialdN dX9_leastOf_152 (by omega) rfl rfl (by omega) ?_
      rw [show zrow I 50 (kprw fit fo tk (I 50) (s + 1)) 41 a = nI s from hs]
      refine x_ialdN dX9_leastOf_153 (by omega) rfl rfl (by omega) ?_
      exact x_iret dX9_leastOf_154 rfl (Nat.le_of_ble_eq_true rfl) (Nat.le_of_ble_eq_true rfl) (by exact ⟨by rw [zrow_k]; simp only [kprw]; rw [if_pos (by omega), Nat.add_sub_cancel], rfl, ⟨_, rfl⟩, rfl, rfl⟩)
    · skip
      exact absurd (by rw [show zrow I 50 (kprw fit fo tk (I 50) (s + 1)) 41 a = nI s from hs]; exact nI_lt (Nat.lt_succ_self s) (by omega)) h15
theorem ct_X9_least {g : zG} {N : Nat} {I : zI} {L : zL} {q0 q1 : Option Nat} {a w : Int32} (hN : 58 ≤ N) (hst : ∀ k, k < 6 → thr I (nI k) = true → I 41 k = nI (zx (I 41 k)) ∧ 1 ≤ zx (I 41 k) ∧ zx (I 41 k) ≤ 99) (hf : ∀ h, h < 6 → I 44 h = nI (zx (I 44 h)) ∧ 1 ≤ zx (I 44 h) ∧ zx (I 44 h) ≤ 20) (ht : ∀ h, h < 6 → I 45 h = nI (zx (I 45 h)) ∧ zx (I 45 h) ≤ 9) : Ct g yX9_least mX9_least [.ref (g.2.1 + 40), .int a, .int w] N I L (zRw q0 q1) (zV (.int (kleA I a w)) N I (zRw q0 q1)) := by
  refine Ct_of (lo0 := [some (.ref (g.2.1 + 40)), some (.int a), some (.int w), none]) rfl rfl rfl rfl (Nat.le_of_ble_eq_true rfl) (fun E => ?_)
  refine x_aload_n dX9_least_0 rfl ?_
  refine x_iload_n dX9_least_1 rfl ?_
  refine x_callVi dX9_least_2 ml_X9_131 mt_X9_isThere mv_X9_isThere (ct_X9_isThere hN) (by omega) rfl rfl rfl rfl (Nat.le_of_ble_eq_true rfl) ⟨(Nat.le_of_ble_eq_true rfl), (Nat.le_of_ble_eq_true rfl)⟩ ⟨rfl, rfl⟩ ⟨(Nat.le_of_ble_eq_true rfl), (Nat.le_of_ble_eq_true rfl)⟩ ?_
  refine x_if_ne (tgt := 10) dX9_least_5 (by decide) (fun h5 => ?_) (fun h5 => ?_)
  · skip
    replace h5 := zb1 h5
    have hth0 := h5
    obtain ⟨i, hi, rfl⟩ := thr_ex h5
    have zxi : zx (nI i) = i := zx_nI (by omega)
    have hs0 := hst i hi hth0
    refine x_iload_n dX9_least_10 rfl ?_
    refine x_iconst (v := 0) dX9_least_11 (by decide) ?_
    refine x_iconst (v := 1) dX9_least_12 (by decide) ?_
    refine x_callSi dX9_least_13 ml_X9_63 mt_X9_in st_X9_in (ct_X9_in) rfl rfl (Nat.le_of_ble_eq_true rfl) ⟨(Nat.le_of_ble_eq_true rfl), (Nat.le_of_ble_eq_true rfl)⟩ ⟨rfl, rfl⟩ ⟨(Nat.le_of_ble_eq_true rfl), (Nat.le_of_ble_eq_true rfl)⟩ ?_
    refine x_if_ne (tgt := 22) dX9_least_16 (by decide) (fun h16 => ?_) (fun h16 => ?_)
    · skip
      replace h16 := zb1 h16
      refine x_aload_n dX9_least_22 rfl ?_
      refine x_iload_n dX9_least_23 rfl ?_
      refine x_callV1 dX9_least_24 ml_X9_138 mt_X9_leastOf mv_X9_leastOf (ct_X9_leastOf (a := i) (s := zx (I 41 i)) (fo := fun h => zx (I 44 h)) (tk := fun h => zx (I 45 h)) (fit := kfit I i) hN hi hs0.1 hs0.2.1 hs0.2.2 hf ht (fun _ _ => rfl)) (by omega) rfl rfl rfl rfl (Nat.le_of_ble_eq_true rfl) ⟨(Nat.le_of_ble_eq_true rfl), (Nat.le_of_ble_eq_true rfl)⟩ ⟨rfl, rfl⟩ ⟨(Nat.le_of_ble_eq_true rfl), (Nat.le_of_ble_eq_true rfl)⟩ (fun f => ?_)
      have hprn : kpN I i ≤ 1000000 := kpt_le _ _ _ _ _
      rw [show kpt (kfit I i) (fun h => zx (I 44 h)) (fun h => zx (I 45 h)) (zx (I 41 i)) (zx (I 41 i)) = kpN I i from rfl]
      refine x_istore_n (lo2 := [_, _, _, _]) dX9_least_27 (by decide) rfl rfl ?_
      refine x_iload_n dX9_least_28 rfl ?_
      refine x_pc (pc2 := 29) rfl ?_
      refine x_ldc dX9_least_29 cn_X9_137 ?_
      refine x_icmp_lt (tgt := 39) dX9_least_31 (by decide) (fun h31 => ?_) (fun h31 => ?_)
      · skip
        rw [show (1000000 : Int32) = nI 1000000 from rfl, nI_ltI (by omega) (by decide)] at h31
        refine x_iload_n dX9_least_39 rfl ?_
        refine x_if_ne (tgt := 51) dX9_least_40 (by decide) (fun h40 => ?_) (fun h40 => ?_)
        · skip
          refine x_iload_n dX9_least_51 rfl ?_
          refine x_sipush (v := 1000) dX9_least_52 (by decide) ?_
          refine x_irem dX9_least_55 (by decide) ?_
          refine x_iret dX9_least_56 rfl (Nat.le_of_ble_eq_true rfl) (Nat.le_of_ble_eq_true rfl) ?_
          refine zV_of (congrArg Value.int ?_) ?_ ?_ ?_
          · first | (rw [kleA, if_pos h5]; done) | (rw [kleA, if_neg (by rw [h5]; decide), if_pos h16]; done) | (rw [kleA, if_neg (by rw [h5]; decide), if_neg (by rw [h16]; decide), zxi, if_neg (by omega)]; done) | (rw [kleA, if_neg (by rw [h5]; decide), if_neg (by rw [h16]; decide), zxi, if_pos h31, if_pos h40]; exact zdiv_nI (d := 1000) (e := 1000) rfl (by omega) (by decide) (by decide)) | (rw [kleA, if_neg (by rw [h5]; decide), if_neg (by rw [h16]; decide), zxi, if_pos h31, if_neg h40]; exact zrem_nI (d := 1000) (e := 1000) rfl (by omega) (by decide) (by decide))
          · first | (intro _ _; rfl) | (intro c hc2; unfold zscr at hc2; exact zrow_ne _ _ (by omega))
          · rfl
          · rfl
        · skip
          refine x_iload_n dX9_least_43 rfl ?_
          refine x_sipush (v := 1000) dX9_least_44 (by decide) ?_
          refine x_idiv dX9_least_47 (by decide) ?_
          refine x_goto (tgt := 56) dX9_least_48 (by decide) ?_
          refine x_iret dX9_least_56 rfl (Nat.le_of_ble_eq_true rfl) (Nat.le_of_ble_eq_true rfl) ?_
          refine zV_of (congrArg Value.int ?_) ?_ ?_ ?_
          · first | (rw [kleA, if_pos h5]; done) | (rw [kleA, if_neg (by rw [h5]; decide), if_pos h16]; done) | (rw [kleA, if_neg (by rw [h5]; decide), if_neg (by rw [h16]; decide), zxi, if_neg (by omega)]; done) | (rw [kleA, if_neg (by rw [h5]; decide), if_neg (by rw [h16]; decide), zxi, if_pos h31, if_pos h40]; exact zdiv_nI (d := 1000) (e := 1000) rfl (by omega) (by decide) (by decide)) | (rw [kleA, if_neg (by rw [h5]; decide), if_neg (by rw [h16]; decide), zxi, if_pos h31, if_neg h40]; exact zrem_nI (d := 1000) (e := 1000) rfl (by omega) (by decide) (by decide))
          · first | (intro _ _; rfl) | (intro c hc2; unfold zscr at hc2; exact zrow_ne _ _ (by omega))
          · rfl
          · rfl
      · skip
        rw [show (1000000 : Int32) = nI 1000000 from rfl, nI_ltI (by omega) (by decide)] at h31
        refine x_bipush (v := (-6)) dX9_least_34 (by decide) ?_
        refine x_goto (tgt := 56) dX9_least_36 (by decide) ?_
        refine x_iret dX9_least_56 rfl (Nat.le_of_ble_eq_true rfl) (Nat.le_of_ble_eq_true rfl) ?_
        refine zV_of (congrArg Value.int ?_) ?_ ?_ ?_
        · first | (rw [kleA, if_pos h5]; done) | (rw [kleA, if_neg (by rw [h5]; decide), if_pos h16]; done) | (rw [kleA, if_neg (by rw [h5]; decide), if_neg (by rw [h16]; decide), zxi, if_neg (by omega)]; done) | (rw [kleA, if_neg (by rw [h5]; decide), if_neg (by rw [h16]; decide), zxi, if_pos h31, if_pos h40]; exact zdiv_nI (d := 1000) (e := 1000) rfl (by omega) (by decide) (by decide)) | (rw [kleA, if_neg (by rw [h5]; decide), if_neg (by rw [h16]; decide), zxi, if_pos h31, if_neg h40]; exact zrem_nI (d := 1000) (e := 1000) rfl (by omega) (by decide) (by decide))
        · first | (intro _ _; rfl) | (intro c hc2; unfold zscr at hc2; exact zrow_ne _ _ (by omega))
        · rfl
        · rfl
    · skip
      replace h16 := zb0 h16
      refine x_bipush (v := (-2)) dX9_least_19 (by decide) ?_
      refine x_iret dX9_least_21 rfl (Nat.le_of_ble_eq_true rfl) (Nat.le_of_ble_eq_true rfl) ?_
      refine zV_of (congrArg Value.int ?_) ?_ ?_ ?_
      · first | (rw [kleA, if_pos h5]; done) | (rw [kleA, if_neg (by rw [h5]; decide), if_pos h16]; done) | (rw [kleA, if_neg (by rw [h5]; decide), if_neg (by rw [h16]; decide), zxi, if_neg (by omega)]; done) | (rw [kleA, if_neg (by rw [h5]; decide), if_neg (by rw [h16]; decide), zxi, if_pos h31, if_pos h40]; exact zdiv_nI (d := 1000) (e := 1000) rfl (by omega) (by decide) (by decide)) | (rw [kleA, if_neg (by rw [h5]; decide), if_neg (by rw [h16]; decide), zxi, if_pos h31, if_neg h40]; exact zrem_nI (d := 1000) (e := 1000) rfl (by omega) (by decide) (by decide))
      · first | (intro _ _; rfl) | (intro c hc2; unfold zscr at hc2; exact zrow_ne _ _ (by omega))
      · rfl
      · rfl
  · skip
    replace h5 := zb0 h5
    refine x_iconst (v := (-1)) dX9_least_8 (by decide) ?_
    refine x_iret dX9_least_9 rfl (Nat.le_of_ble_eq_true rfl) (Nat.le_of_ble_eq_true rfl) ?_
    refine zV_of (congrArg Value.int ?_) ?_ ?_ ?_
    · first | (rw [kleA, if_pos h5]; done) | (rw [kleA, if_neg (by rw [h5]; decide), if_pos h16]; done) | (rw [kleA, if_neg (by rw [h5]; decide), if_neg (by rw [h16]; decide), zxi, if_neg (by omega)]; done) | (rw [kleA, if_neg (by rw [h5]; decide), if_neg (by rw [h16]; decide), zxi, if_pos h31, if_pos h40]; exact zdiv_nI (d := 1000) (e := 1000) rfl (by omega) (by decide) (by decide)) | (rw [kleA, if_neg (by rw [h5]; decide), if_neg (by rw [h16]; decide), zxi, if_pos h31, if_neg h40]; exact zrem_nI (d := 1000) (e := 1000) rfl (by omega) (by decide) (by decide))
    · first | (intro _ _; rfl) | (intro c hc2; unfold zscr at hc2; exact zrow_ne _ _ (by omega))
    · rfl
    · rfl
theorem ct_X9_order {g : zG} {N : Nat} {I : zI} {L : zL} {q0 q1 : Option Nat} {w : Int32} (hN : 58 ≤ N) (hst : ∀ k, k < 6 → thr I (nI k) = true → I 41 k = nI (zx (I 41 k)) ∧ 1 ≤ zx (I 41 k) ∧ zx (I 41 k) ≤ 99) (hf : ∀ h, h < 6 → I 44 h = nI (zx (I 44 h)) ∧ 1 ≤ zx (I 44 h) ∧ zx (I 44 h) ≤ 20) (ht : ∀ h, h < 6 → I 45 h = nI (zx (I 45 h)) ∧ zx (I 45 h) ≤ 9) : Ct g yX9_order mX9_order [.ref (g.2.1 + 40), .int w] N I L (zRw q0 q1) (zV (.int (korA I w)) N I (zRw q0 q1)) := by
  refine Ct_of (lo0 := [some (.ref (g.2.1 + 40)), some (.int w), none, none, none, none, none, none, none]) rfl rfl rfl rfl (Nat.le_of_ble_eq_true rfl) (fun E => ?_)
  refine x_iload_n dX9_order_0 rfl ?_
  refine x_iconst (v := 0) dX9_order_1 (by decide) ?_
  refine x_iconst (v := 1) dX9_order_2 (by decide) ?_
  refine x_callSi dX9_order_3 ml_X9_63 mt_X9_in st_X9_in (ct_X9_in) rfl rfl (Nat.le_of_ble_eq_true rfl) ⟨(Nat.le_of_ble_eq_true rfl), (Nat.le_of_ble_eq_true rfl)⟩ ⟨rfl, rfl⟩ ⟨(Nat.le_of_ble_eq_true rfl), (Nat.le_of_ble_eq_true rfl)⟩ ?_
  refine x_if_ne (tgt := 12) dX9_order_6 (by decide) (fun h6 => ?_) (fun h6 => ?_)
  · skip
    replace h6 := zb1 h6
    refine x_iconst (v := 0) dX9_order_12 (by decide) ?_
    refine x_istore_n (lo2 := [_, _, _, _, _, _, _, _, _]) dX9_order_13 (by decide) rfl rfl ?_
    refine x_iconst (v := 0) dX9_order_14 (by decide) ?_
    refine x_istore_n (lo2 := [_, _, _, _, _, _, _, _, _]) dX9_order_15 (by decide) rfl rfl ?_
    refine x_while (σ := Nat × zI) (fun t => t.1 ≤ 6 ∧ (∀ c, c ≠ 50 → c ≠ 51 → t.2 c = I c) ∧ ∀ k, k < t.1 → t.2 51 k = nI (kHr I k)) (fun t => 6 - t.1) (fun t => [some (.ref (g.2.1 + 40)), some (.int w), some (.int (nI (ts_ (kTk I) t.1))), some (.int (nI t.1)), none, none, none, none, none]) (fun t => t.2) (fun _ => L) (0, I) ⟨Nat.zero_le _, fun c _ _ => rfl, fun k h => absurd h (Nat.not_lt_zero k)⟩ rfl rfl rfl (fun t ht0 K => ?_)
    obtain ⟨i, J⟩ := t
    obtain ⟨t1, t2, t3⟩ := ht0
    dsimp only at t1 t2 t3 K ⊢
    have e41 : J 41 = I 41 := t2 41 (by decide) (by decide)
    have e43 : J 43 = I 43 := t2 43 (by decide) (by decide)
    have e44 : J 44 = I 44 := t2 44 (by decide) (by decide)
    have e45 : J 45 = I 45 := t2 45 (by decide) (by decide)
    have ethr : ∀ x, thr J x = thr I x := fun x => by unfold thr; rw [e41]
    refine x_iload_n dX9_order_16 rfl ?_
    refine x_bipush (v := 6) dX9_order_17 (by decide) ?_
    refine x_icmp_ge (tgt := 88) dX9_order_19 (by decide) (fun h19 => ?_) (fun h19 => ?_)
    · skip
      refine x_bipush (v := (-6)) dX9_order_88 (by decide) ?_
      refine x_istore_n (lo2 := [_, _, _, _, _, _, _, _, _]) dX9_order_90 (by decide) rfl rfl ?_
      refine x_bipush (v := 63) dX9_order_91 (by decide) ?_
      refine x_istore (lo2 := [_, _, _, _, _, _, _, _, _]) dX9_order_93 (by decide) rfl rfl ?_
      have ei : i = 6 := by rw [show (6 : Int32) = nI 6 from rfl, nI_leI (by decide) (by omega)] at h19; omega
      subst ei
      have hts : kTs I < 64 := ts_lt (kTk I) 6
      have hT : ts_ (kTk I) 6 = kTs I := rfl
      rw [hT]
      generalize hTT : kTs I = T at hts ⊢
      have hbit : ∀ k, k < 6 → T.testBit k = true → kTk I k = true := fun k hk q => by rw [← hTT] at q; unfold kTs at q; rw [ts_bit] at q; simpa [hk] using q
      refine x_while (σ := Nat × zI) (fun t => t.1 ≤ 64 ∧ (∀ c, c ≠ 50 → c ≠ 51 → c ≠ 52 → t.2 c = I c) ∧ (∀ k, k < 6 → t.2 51 k = nI (kHr I k)) ∧ ∀ k, 64 - t.1 ≤ k → k < 64 → t.2 52 k = nI ((ko_ (kST I) (kHr I) T t.1).1 k)) (fun t => 64 - t.1) (fun t => [some (.ref (g.2.1 + 40)), some (.int w), some (.int (nI T)), some (.int (ko_ (kST I) (kHr I) T t.1).2), some (.int (nI (64 - t.1) + (-1))), none, none, none, none]) (fun t => t.2) (fun _ => L) (0, J) ⟨Nat.zero_le _, fun c h1 h2 _ => t2 c h1 h2, t3, fun k h1 h2 => absurd h1 (by dsimp only; omega)⟩ (by show (_ : List (Option Value)) = [some (.ref (g.2.1 + 40)), some (.int w), some (.int (nI T)), some (.int (-6)), some (.int (nI 64 + (-1))), none, none, none, none]; rw [show nI 64 + (-1) = (63 : Int32) from by decide]) rfl rfl (fun t hu0 K2 => ?_)
      obtain ⟨d, W⟩ := t
      obtain ⟨u1, u2, u3, u4⟩ := hu0
      dsimp only at u1 u2 u3 u4 K2 ⊢
      refine x_iload dX9_order_95 rfl ?_
      refine x_if_lt (tgt := 274) dX9_order_97 (by decide) (fun h97 => ?_) (fun h97 => ?_)
      · skip
        have hd64 : d = 64 := by
          rcases Nat.lt_or_ge d 64 with q | q
          · obtain ⟨s, hs⟩ : ∃ s, 64 - d = s + 1 := ⟨63 - d, by omega⟩
            rw [hs, nI_m1] at h97; exact absurd h97 (nI_pos (by omega))
          · omega
        subst hd64
        refine x_iload_n dX9_order_274 rfl ?_
        refine x_if_ne (tgt := 287) dX9_order_275 (by decide) (fun h275 => ?_) (fun h275 => ?_)
        · skip
          refine x_iload_n dX9_order_287 rfl ?_
          refine x_if_ne (tgt := 296) dX9_order_288 (by decide) (fun h288 => ?_) (fun h288 => ?_)
          · skip
            refine x_iload_n dX9_order_296 rfl ?_
            refine x_iret dX9_order_297 rfl (Nat.le_of_ble_eq_true rfl) (Nat.le_of_ble_eq_true rfl) ?_
            refine zV_of (congrArg Value.int ?_) ?_ ?_ ?_
            · first | (rw [korA, if_pos h6]; done) | (rw [korA, if_neg (by rw [h6]; decide), if_pos h275]; unfold kO; rw [hTT]; exact u4 0 (Nat.zero_le _) (by decide)) | (rw [korA, if_neg (by rw [h6]; decide), if_neg h275, hTT, if_pos ((nI_z (by omega)).mp h288)]; done) | (rw [korA, if_neg (by rw [h6]; decide), if_neg h275, hTT, if_neg (fun q => h288 ((nI_z (by omega)).mpr q))]; unfold kO; rw [hTT])
            · first | (intro _ _; rfl) | (intro c hc2; unfold zscr at hc2; exact u2 c (by omega) (by omega) (by omega))
            · first | rfl | (rw [u2 40 (by decide) (by decide) (by decide)])
            · first | rfl | (rw [u2 40 (by decide) (by decide) (by decide)])
          · skip
            refine x_bipush (v := (-6)) dX9_order_291 (by decide) ?_
            refine x_goto (tgt := 297) dX9_order_293 (by decide) ?_
            refine x_iret dX9_order_297 rfl (Nat.le_of_ble_eq_true rfl) (Nat.le_of_ble_eq_true rfl) ?_
            refine zV_of (congrArg Value.int ?_) ?_ ?_ ?_
            · first | (rw [korA, if_pos h6]; done) | (rw [korA, if_neg (by rw [h6]; decide), if_pos h275]; unfold kO; rw [hTT]; exact u4 0 (Nat.zero_le _) (by decide)) | (rw [korA, if_neg (by rw [h6]; decide), if_neg h275, hTT, if_pos ((nI_z (by omega)).mp h288)]; done) | (rw [korA, if_neg (by rw [h6]; decide), if_neg h275, hTT, if_neg (fun q => h288 ((nI_z (by omega)).mpr q))]; unfold kO; rw [hTT])
            · first | (intro _ _; rfl) | (intro c hc2; unfold zscr at hc2; exact u2 c (by omega) (by omega) (by omega))
            · first | rfl | (rw [u2 40 (by decide) (by decide) (by decide)])
            · first | rfl | (rw [u2 40 (by decide) (by decide) (by decide)])
        · skip
          refine x_aload_n dX9_order_278 rfl ?_
          refine x_getR dX9_order_279 fl_X9_43 (by omega) rfl rfl rfl ?_
          refine x_iconst (v := 0) dX9_order_282 (by decide) ?_
          refine x_ialdN (i := 0) dX9_order_283 (by omega) rfl rfl (by decide) ?_
          refine x_goto (tgt := 297) dX9_order_284 (by decide) ?_
          refine x_iret dX9_order_297 rfl (Nat.le_of_ble_eq_true rfl) (Nat.le_of_ble_eq_true rfl) ?_
          refine zV_of (congrArg Value.int ?_) ?_ ?_ ?_
          · first | (rw [korA, if_pos h6]; done) | (rw [korA, if_neg (by rw [h6]; decide), if_pos h275]; unfold kO; rw [hTT]; exact u4 0 (Nat.zero_le _) (by decide)) | (rw [korA, if_neg (by rw [h6]; decide), if_neg h275, hTT, if_pos ((nI_z (by omega)).mp h288)]; done) | (rw [korA, if_neg (by rw [h6]; decide), if_neg h275, hTT, if_neg (fun q => h288 ((nI_z (by omega)).mpr q))]; unfold kO; rw [hTT])
          · first | (intro _ _; rfl) | (intro c hc2; unfold zscr at hc2; exact u2 c (by omega) (by omega) (by omega))
          · first | rfl | (rw [u2 40 (by decide) (by decide) (by decide)])
          · first | rfl | (rw [u2 40 (by decide) (by decide) (by decide)])
      · skip
        have hd : d < 64 := by
          rcases Nat.lt_or_ge d 64 with q | q
          · exact q
          · rw [show 64 - d = 0 by omega] at h97; exact absurd (by decide) h97
        obtain ⟨s, hs⟩ : ∃ s, s + d = 63 := ⟨63 - d, by omega⟩
        rw [show nI (64 - d) + (-1) = nI s from by rw [show 64 - d = s + 1 by omega, nI_m1]]
        have e41 : W 41 = I 41 := u2 41 (by decide) (by decide) (by decide)
        refine x_iconst (v := 0) dX9_order_100 (by decide) ?_
        refine x_istore (lo2 := [_, _, _, _, _, _, _, _, _]) dX9_order_101 (by decide) rfl rfl ?_
        refine x_iconst (v := 0) dX9_order_103 (by decide) ?_
        refine x_istore (lo2 := [_, _, _, _, _, _, _, _, _]) dX9_order_104 (by decide) rfl rfl ?_
        refine x_loop (inv := fun k => True) (fun k => [some (.ref (g.2.1 + 40)), some (.int w), some (.int (nI T)), some (.int (ko_ (kST I) (kHr I) T d).2), some (.int (nI s)), some (.int (nI (S_ (kHr I) s k))), some (.int (nI k)), none, none]) (fun k => W) (fun k => L) 0 6 (by omega) (by trivial) (by rfl) (by rfl) (by rfl) (fun k hlok hhik hinvk Kk => ?_) (fun hinvk => ?_)
        · skip
          refine x_iload dX9_order_106 rfl ?_
          refine x_bipush (v := 6) dX9_order_108 (by decide) ?_
          refine x_icmp_ge (tgt := 145) dX9_order_110 (by decide) (fun h110 => ?_) (fun h110 => ?_)
          · skip
            exact absurd h110 (nI_ge (b := 6) hhik (by decide))
          · skip
            refine x_iload dX9_order_113 rfl ?_
            refine x_iload dX9_order_115 rfl ?_
            refine x_iload dX9_order_117 rfl ?_
            refine x_callSi dX9_order_119 ml_X9_67 mt_X9_has st_X9_has (ct_X9_has) rfl rfl (Nat.le_of_ble_eq_true rfl) ⟨(Nat.le_of_ble_eq_true rfl), (Nat.le_of_ble_eq_true rfl)⟩ ⟨rfl, rfl⟩ ⟨(Nat.le_of_ble_eq_true rfl), (Nat.le_of_ble_eq_true rfl)⟩ ?_
            refine x_if_eq (tgt := 135) dX9_order_122 (by decide) (fun h122 => ?_) (fun h122 => ?_)
            · skip
              replace h122 := zb0 h122
              refine x_iconst (v := 0) dX9_order_135 (by decide) ?_
              refine x_iadd dX9_order_136 ?_
              refine x_istore (lo2 := [_, _, _, _, _, _, _, _, _]) dX9_order_137 (by decide) rfl rfl ?_
              refine x_iincN (lo2 := [_, _, _, _, _, _, _, _, _]) dX9_order_139 rfl rfl rfl ?_
              refine x_goto (tgt := 106) dX9_order_142 (by decide) ?_
              exact x_eq (by rw [zis_nI (by omega) (by omega)] at h122; first | (rw [nI_add]; simp [S_, h122]; done) | (rw [show (0 : Int32) = nI 0 from rfl, nI_add]; simp [S_, h122])) (by rfl) (by rfl) (Kk (by trivial))
            · skip
              replace h122 := zb1 h122
              refine x_aload_n dX9_order_125 rfl ?_
              refine x_getR dX9_order_126 fl_X9_40 (by omega) rfl rfl rfl ?_
              refine x_iload dX9_order_129 rfl ?_
              refine x_ialdN dX9_order_131 (by omega) rfl rfl hhik ?_
              rw [u3 k hhik]
              refine x_goto (tgt := 136) dX9_order_132 (by decide) ?_
              refine x_iadd dX9_order_136 ?_
              refine x_istore (lo2 := [_, _, _, _, _, _, _, _, _]) dX9_order_137 (by decide) rfl rfl ?_
              refine x_iincN (lo2 := [_, _, _, _, _, _, _, _, _]) dX9_order_139 rfl rfl rfl ?_
              refine x_goto (tgt := 106) dX9_order_142 (by decide) ?_
              exact x_eq (by rw [zis_nI (by omega) (by omega)] at h122; first | (rw [nI_add]; simp [S_, h122]; done) | (rw [show (0 : Int32) = nI 0 from rfl, nI_add]; simp [S_, h122])) (by rfl) (by rfl) (Kk (by trivial))
        · skip
          refine x_iload dX9_order_106 rfl ?_
          refine x_bipush (v := 6) dX9_order_108 (by decide) ?_
          refine x_icmp_ge (tgt := 145) dX9_order_110 (by decide) (fun h110 => ?_) (fun h110 => ?_)
          · skip
            refine x_iload dX9_order_145 rfl ?_
            refine x_iload_n dX9_order_147 rfl ?_
            refine x_icmp_ne (tgt := 155) dX9_order_148 (by decide) (fun h148 => ?_) (fun h148 => ?_)
            · skip
              have hseq : ¬ s = T := fun q => h148 (by rw [q])
              refine x_ldc dX9_order_155 cn_X9_137 ?_
              refine x_istore (lo2 := [_, _, _, _, _, _, _, _, _]) dX9_order_157 (by decide) rfl rfl ?_
              refine x_iconst (v := 5) dX9_order_159 (by decide) ?_
              refine x_istore (lo2 := [_, _, _, _, _, _, _, _, _]) dX9_order_160 (by decide) rfl rfl ?_
              refine x_while (σ := Nat) (fun j => j ≤ 6 ∧ (j ≠ 0 → s &&& T = s)) (fun j => 6 - j) (fun j => [some (.ref (g.2.1 + 40)), some (.int w), some (.int (nI T)), some (.int (ki_ (kST I) (kHr I) T (ko_ (kST I) (kHr I) T d).1 s (ko_ (kST I) (kHr I) T d).2 j).2), some (.int (nI s)), some (.int (nI (S_ (kHr I) s 6))), some (.int (nI (ki_ (kST I) (kHr I) T (ko_ (kST I) (kHr I) T d).1 s (ko_ (kST I) (kHr I) T d).2 j).1)), some (.int (nI (6 - j) + (-1))), none]) (fun _ => W) (fun _ => L) 0 ⟨Nat.zero_le _, fun q => absurd rfl q⟩ (by simp only [ki_, if_neg hseq]; rfl) rfl rfl (fun j hj0 K3 => ?_)
              obtain ⟨v1, v2⟩ := hj0
              have hB := ko_le (kST I) (kHr I) T d
              have hki := ki_le (kST I) (kHr I) T (ko_ (kST I) (kHr I) T d).1 s (ko_ (kST I) (kHr I) T d).2 j
              refine x_iload dX9_order_162 rfl ?_
              refine x_if_lt (tgt := 259) dX9_order_164 (by decide) (fun h164 => ?_) (fun h164 => ?_)
              · skip
                have hj6 : j = 6 := by
                  rcases Nat.lt_or_ge j 6 with q | q
                  · obtain ⟨z, hz⟩ : ∃ z, 6 - j = z + 1 := ⟨5 - j, by omega⟩
                    rw [hz, nI_m1] at h164; exact absurd h164 (nI_pos (by omega))
                  · omega
                refine x_aload_n dX9_order_259 rfl ?_
                refine x_getR dX9_order_260 fl_X9_43 (by omega) rfl rfl rfl ?_
                refine x_iload dX9_order_263 rfl ?_
                refine x_iload dX9_order_265 rfl ?_
                refine x_iast dX9_order_267 (by omega) rfl rfl (by omega) ?_
                refine x_pc (pc2 := 268) rfl ?_
                refine x_iincm (lo2 := [_, _, _, _, _, _, _, _, _]) dX9_order_268 rfl rfl rfl ?_
                refine x_goto (tgt := 95) dX9_order_271 (by decide) ?_
                refine x_drop (i := 5) (lo2 := [_, _, _, _, _, _, _, _, _]) rfl ?_
                refine x_drop (i := 6) (lo2 := [_, _, _, _, _, _, _, _, _]) rfl ?_
                refine x_drop (i := 7) (lo2 := [_, _, _, _, _, _, _, _, _]) rfl ?_
                have ekis : kis (kST I) (kHr I) T (ko_ (kST I) (kHr I) T d).1 s (ko_ (kST I) (kHr I) T d).2 = (ki_ (kST I) (kHr I) T (ko_ (kST I) (kHr I) T d).1 s (ko_ (kST I) (kHr I) T d).2 j) := by unfold kis; rw [if_pos (v2 (by omega)), show j = 6 by omega]
                have hs63 : 63 - d = s := by omega
                refine x_eq (by simp only [ko_]; rw [hs63, ekis, show 64 - (d + 1) = s by omega]) (by rfl) (by rfl) (K2 (d + 1, zu W 52 s (nI (ki_ (kST I) (kHr I) T (ko_ (kST I) (kHr I) T d).1 s (ko_ (kST I) (kHr I) T d).2 j).1)) ⟨by dsimp only; omega, fun c h1 h2 h3 => by dsimp only; rw [zrn _ _ h3]; exact u2 c h1 h2 h3, fun k hk => by dsimp only; rw [zrn _ _ (by decide)]; exact u3 k hk, fun k h1 h2 => ?_⟩ (by dsimp only; omega))
                dsimp only at h1 ⊢
                simp only [ko_]
                rw [hs63, ekis]
                by_cases e : k = s
                · subst e; rw [zu_self, if_pos rfl]
                · rw [zu_ne _ _ (Or.inr e), if_neg e]; exact u4 k (by omega) h2
              · skip
                have hj6 : j < 6 := by
                  rcases Nat.lt_or_ge j 6 with q | q
                  · exact q
                  · rw [show 6 - j = 0 by omega] at h164; exact absurd (by decide) h164
                obtain ⟨i, hi⟩ : ∃ i, i + j = 5 := ⟨5 - j, by omega⟩
                have hi5 : 5 - j = i := by omega
                rw [show nI (6 - j) + (-1) = nI i from by rw [show 6 - j = i + 1 by omega, nI_m1]]
                refine x_iload dX9_order_167 rfl ?_
                refine x_iload_n dX9_order_169 rfl ?_
                refine x_iconst (v := (-1)) dX9_order_170 (by decide) ?_
                refine x_ixor dX9_order_171 ?_
                refine x_iand dX9_order_172 ?_
                refine x_pc (pc2 := 173) rfl ?_
                refine x_if_ne (tgt := 259) dX9_order_173 (by decide) (fun h173 => ?_) (fun h173 => ?_)
                · skip
                  have hnsub : ¬ s &&& T = s := by have z := zwi_f h173; rw [zwi_64 (by omega) hts] at z; exact of_decide_eq_false z
                  refine x_aload_n dX9_order_259 rfl ?_
                  refine x_getR dX9_order_260 fl_X9_43 (by omega) rfl rfl rfl ?_
                  refine x_iload dX9_order_263 rfl ?_
                  refine x_iload dX9_order_265 rfl ?_
                  refine x_iast dX9_order_267 (by omega) rfl rfl (by omega) ?_
                  refine x_pc (pc2 := 268) rfl ?_
                  refine x_iincm (lo2 := [_, _, _, _, _, _, _, _, _]) dX9_order_268 rfl rfl rfl ?_
                  refine x_goto (tgt := 95) dX9_order_271 (by decide) ?_
                  refine x_drop (i := 5) (lo2 := [_, _, _, _, _, _, _, _, _]) rfl ?_
                  refine x_drop (i := 6) (lo2 := [_, _, _, _, _, _, _, _, _]) rfl ?_
                  refine x_drop (i := 7) (lo2 := [_, _, _, _, _, _, _, _, _]) rfl ?_
                  have ekis : kis (kST I) (kHr I) T (ko_ (kST I) (kHr I) T d).1 s (ko_ (kST I) (kHr I) T d).2 = (ki_ (kST I) (kHr I) T (ko_ (kST I) (kHr I) T d).1 s (ko_ (kST I) (kHr I) T d).2 j) := by unfold kis; rw [if_neg hnsub, show j = 0 from by rcases Nat.eq_zero_or_pos j with q | q; exact q; exact absurd (v2 (by omega)) hnsub]
                  have hs63 : 63 - d = s := by omega
                  refine x_eq (by simp only [ko_]; rw [hs63, ekis, show 64 - (d + 1) = s by omega]) (by rfl) (by rfl) (K2 (d + 1, zu W 52 s (nI (ki_ (kST I) (kHr I) T (ko_ (kST I) (kHr I) T d).1 s (ko_ (kST I) (kHr I) T d).2 j).1)) ⟨by dsimp only; omega, fun c h1 h2 h3 => by dsimp only; rw [zrn _ _ h3]; exact u2 c h1 h2 h3, fun k hk => by dsimp only; rw [zrn _ _ (by decide)]; exact u3 k hk, fun k h1 h2 => ?_⟩ (by dsimp only; omega))
                  dsimp only at h1 ⊢
                  simp only [ko_]
                  rw [hs63, ekis]
                  by_cases e : k = s
                  · subst e; rw [zu_self, if_pos rfl]
                  · rw [zu_ne _ _ (Or.inr e), if_neg e]; exact u4 k (by omega) h2
                · skip
                  have hsub : s &&& T = s := by have z := zwi_t h173; rw [zwi_64 (by omega) hts] at z; exact of_decide_eq_true z
                  refine x_iload_n dX9_order_176 rfl ?_
                  refine x_iload dX9_order_177 rfl ?_
                  refine x_iconst (v := (-1)) dX9_order_179 (by decide) ?_
                  refine x_ixor dX9_order_180 ?_
                  refine x_iand dX9_order_181 ?_
                  refine x_pc (pc2 := 182) rfl ?_
                  refine x_iload dX9_order_182 rfl ?_
                  refine x_callSi dX9_order_184 ml_X9_67 mt_X9_has st_X9_has (ct_X9_has) rfl rfl (Nat.le_of_ble_eq_true rfl) ⟨(Nat.le_of_ble_eq_true rfl), (Nat.le_of_ble_eq_true rfl)⟩ ⟨rfl, rfl⟩ ⟨(Nat.le_of_ble_eq_true rfl), (Nat.le_of_ble_eq_true rfl)⟩ ?_
                  refine x_if_eq (tgt := 253) dX9_order_187 (by decide) (fun h187 => ?_) (fun h187 => ?_)
                  · skip
                    replace h187 := zb0 h187
                    rw [zhs hts (by omega) (by omega)] at h187
                    refine x_iincm (lo2 := [_, _, _, _, _, _, _, _, _]) dX9_order_253 rfl rfl rfl ?_
                    refine x_goto (tgt := 162) dX9_order_256 (by decide) ?_
                    have ek : ki_ (kST I) (kHr I) T (ko_ (kST I) (kHr I) T d).1 s (ko_ (kST I) (kHr I) T d).2 (j + 1) = (ki_ (kST I) (kHr I) T (ko_ (kST I) (kHr I) T d).1 s (ko_ (kST I) (kHr I) T d).2 j) := by simp only [ki_]; rw [hi5, if_neg (fun z => by rw [z.1, z.2] at h187; exact absurd h187 (by decide))]
                    exact x_eq (by rw [ek, show 6 - (j + 1) = i by omega]) (by rfl) (by rfl) (K3 (j + 1) ⟨by omega, fun _ => hsub⟩ (by omega))
                  · skip
                    replace h187 := zb1 h187
                    rw [zhs hts (by omega) (by omega)] at h187
                    have hq187 : T.testBit i = true ∧ s.testBit i = false := by
                      rw [Bool.and_eq_true] at h187
                      exact ⟨h187.1, by simpa using h187.2⟩
                    have htk := hbit i (by omega) hq187.1
                    have hth : thr I (nI i) = true := by unfold kTk at htk; exact (Bool.and_eq_true _ _ ▸ htk).1
                    have hsi := hst i (by omega) hth
                    have hor := zorlt s (by omega) i (by omega) hq187.2
                    have eST : kST I i = zx (I 41 i) := by unfold kST; rw [if_pos htk]
                    have hlt := kic_lt (st := kST I) (hr := kHr I) (B := (ko_ (kST I) (kHr I) T d).1) (s := s) (i := i) (by omega) (kHr_le I) hB
                    refine x_aload_n dX9_order_190 rfl ?_
                    refine x_getR dX9_order_191 fl_X9_43 (by omega) rfl rfl rfl ?_
                    refine x_iload dX9_order_194 rfl ?_
                    refine x_iconst (v := 1) dX9_order_196 (by decide) ?_
                    refine x_iload dX9_order_197 rfl ?_
                    refine x_pc (pc2 := 199) rfl ?_
                    refine x_ishl dX9_order_199 ?_
                    refine x_ior dX9_order_200 ?_
                    refine x_ialdN dX9_order_201 (by omega) rfl (by rw [zsh1 i (by omega), nI_or]) hor.2 ?_
                    rw [u4 _ (by omega) hor.2]
                    refine x_aload_n dX9_order_202 rfl ?_
                    refine x_getR dX9_order_203 fl_X9_7 (by omega) rfl rfl rfl ?_
                    refine x_iload dX9_order_206 rfl ?_
                    refine x_pc (pc2 := 208) rfl ?_
                    refine x_ialdN dX9_order_208 (by omega) rfl rfl (by omega) ?_
                    rw [e41, hsi.1, ← eST]
                    refine x_iload dX9_order_209 rfl ?_
                    refine x_aload_n dX9_order_211 rfl ?_
                    refine x_getR dX9_order_212 fl_X9_40 (by omega) rfl rfl rfl ?_
                    refine x_iload dX9_order_215 rfl ?_
                    refine x_ialdN dX9_order_217 (by omega) rfl rfl (by omega) ?_
                    rw [u3 i (by omega)]
                    refine x_pc (pc2 := 218) rfl ?_
                    refine x_iadd dX9_order_218 ?_
                    refine x_imul dX9_order_219 ?_
                    refine x_iadd dX9_order_220 ?_
                    rw [show nI ((ko_ (kST I) (kHr I) T d).1 (s ||| 2 ^ i)) + nI (kST I i) * (nI (S_ (kHr I) s 6) + nI (kHr I i)) = nI (kic (kST I) (kHr I) (ko_ (kST I) (kHr I) T d).1 s i) from by rw [nI_add, pk_mul, nI_add]; rfl]
                    refine x_istore (lo2 := [_, _, _, _, _, _, _, _, _]) dX9_order_221 (by decide) rfl rfl ?_
                    refine x_iload dX9_order_223 rfl ?_
                    refine x_iload dX9_order_225 rfl ?_
                    refine x_pc (pc2 := 227) rfl ?_
                    refine x_icmp_gt (tgt := 235) dX9_order_227 (by decide) (fun h227 => ?_) (fun h227 => ?_)
                    · skip
                      have hle : ¬ kic (kST I) (kHr I) (ko_ (kST I) (kHr I) T d).1 s i ≤ (ki_ (kST I) (kHr I) T (ko_ (kST I) (kHr I) T d).1 s (ko_ (kST I) (kHr I) T d).2 j).1 := by have z := (nI_ltI (by omega) (by omega)).mp h227; omega
                      refine x_iload_n dX9_order_235 rfl ?_
                      refine x_istore_n (lo2 := [_, _, _, _, _, _, _, _, _]) dX9_order_236 (by decide) rfl rfl ?_
                      refine x_iload dX9_order_237 rfl ?_
                      refine x_iload dX9_order_239 rfl ?_
                      refine x_icmp_ge (tgt := 249) dX9_order_241 (by decide) (fun h241 => ?_) (fun h241 => ?_)
                      · skip
                        refine x_iload dX9_order_249 rfl ?_
                        refine x_istore (lo2 := [_, _, _, _, _, _, _, _, _]) dX9_order_251 (by decide) rfl rfl ?_
                        refine x_iincm (lo2 := [_, _, _, _, _, _, _, _, _]) dX9_order_253 rfl rfl rfl ?_
                        refine x_goto (tgt := 162) dX9_order_256 (by decide) ?_
                        refine x_drop (i := 8) (lo2 := [_, _, _, _, _, _, _, _, _]) rfl ?_
                        have ek : ki_ (kST I) (kHr I) T (ko_ (kST I) (kHr I) T d).1 s (ko_ (kST I) (kHr I) T d).2 (j + 1) = ((ki_ (kST I) (kHr I) T (ko_ (kST I) (kHr I) T d).1 s (ko_ (kST I) (kHr I) T d).2 j).1, (ki_ (kST I) (kHr I) T (ko_ (kST I) (kHr I) T d).1 s (ko_ (kST I) (kHr I) T d).2 j).2) := by simp only [ki_]; rw [hi5, if_pos hq187, if_neg hle, Nat.min_eq_left (by omega)]
                        exact x_eq (by rw [ek, show 6 - (j + 1) = i by omega]) (by rfl) (by rfl) (K3 (j + 1) ⟨by omega, fun _ => hsub⟩ (by omega))
                      · skip
                        exact absurd ((nI_leI (by omega) (by omega)).mpr (by omega)) h241
                    · skip
                      have hle : kic (kST I) (kHr I) (ko_ (kST I) (kHr I) T d).1 s i ≤ (ki_ (kST I) (kHr I) T (ko_ (kST I) (kHr I) T d).1 s (ko_ (kST I) (kHr I) T d).2 j).1 := by have z := mt (nI_ltI (by omega) (by omega)).mpr h227; omega
                      refine x_iload dX9_order_230 rfl ?_
                      refine x_goto (tgt := 236) dX9_order_232 (by decide) ?_
                      refine x_istore_n (lo2 := [_, _, _, _, _, _, _, _, _]) dX9_order_236 (by decide) rfl rfl ?_
                      refine x_iload dX9_order_237 rfl ?_
                      refine x_iload dX9_order_239 rfl ?_
                      refine x_icmp_ge (tgt := 249) dX9_order_241 (by decide) (fun h241 => ?_) (fun h241 => ?_)
                      · skip
                        have heq : kic (kST I) (kHr I) (ko_ (kST I) (kHr I) T d).1 s i = (ki_ (kST I) (kHr I) T (ko_ (kST I) (kHr I) T d).1 s (ko_ (kST I) (kHr I) T d).2 j).1 := by have z := (nI_leI (by omega) (by omega)).mp h241; omega
                        rw [← heq]
                        refine x_iload dX9_order_249 rfl ?_
                        refine x_istore (lo2 := [_, _, _, _, _, _, _, _, _]) dX9_order_251 (by decide) rfl rfl ?_
                        refine x_iincm (lo2 := [_, _, _, _, _, _, _, _, _]) dX9_order_253 rfl rfl rfl ?_
                        refine x_goto (tgt := 162) dX9_order_256 (by decide) ?_
                        refine x_drop (i := 8) (lo2 := [_, _, _, _, _, _, _, _, _]) rfl ?_
                        have ek : ki_ (kST I) (kHr I) T (ko_ (kST I) (kHr I) T d).1 s (ko_ (kST I) (kHr I) T d).2 (j + 1) = (kic (kST I) (kHr I) (ko_ (kST I) (kHr I) T d).1 s i, nI i) := by simp only [ki_]; rw [hi5, if_pos hq187, if_pos hle, Nat.min_eq_right hle]
                        exact x_eq (by rw [ek, show 6 - (j + 1) = i by omega]) (by rfl) (by rfl) (K3 (j + 1) ⟨by omega, fun _ => hsub⟩ (by omega))
                      · skip
                        refine x_iload dX9_order_244 rfl ?_
                        refine x_goto (tgt := 251) dX9_order_246 (by decide) ?_
                        refine x_istore (lo2 := [_, _, _, _, _, _, _, _, _]) dX9_order_251 (by decide) rfl rfl ?_
                        refine x_iincm (lo2 := [_, _, _, _, _, _, _, _, _]) dX9_order_253 rfl rfl rfl ?_
                        refine x_goto (tgt := 162) dX9_order_256 (by decide) ?_
                        refine x_drop (i := 8) (lo2 := [_, _, _, _, _, _, _, _, _]) rfl ?_
                        have ek : ki_ (kST I) (kHr I) T (ko_ (kST I) (kHr I) T d).1 s (ko_ (kST I) (kHr I) T d).2 (j + 1) = (kic (kST I) (kHr I) (ko_ (kST I) (kHr I) T d).1 s i, nI i) := by simp only [ki_]; rw [hi5, if_pos hq187, if_pos hle, Nat.min_eq_right hle]
                        exact x_eq (by rw [ek, show 6 - (j + 1) = i by omega]) (by rfl) (by rfl) (K3 (j + 1) ⟨by omega, fun _ => hsub⟩ (by omega))
            · skip
              have hseq : s = T := by rw [nI_eq (by omega) (by omega)] at h148; exact h148
              refine x_iconst (v := 0) dX9_order_151 (by decide) ?_
              refine x_goto (tgt := 157) dX9_order_152 (by decide) ?_
              refine x_istore (lo2 := [_, _, _, _, _, _, _, _, _]) dX9_order_157 (by decide) rfl rfl ?_
              refine x_iconst (v := 5) dX9_order_159 (by decide) ?_
              refine x_istore (lo2 := [_, _, _, _, _, _, _, _, _]) dX9_order_160 (by decide) rfl rfl ?_
              refine x_while (σ := Nat) (fun j => j ≤ 6 ∧ (j ≠ 0 → s &&& T = s)) (fun j => 6 - j) (fun j => [some (.ref (g.2.1 + 40)), some (.int w), some (.int (nI T)), some (.int (ki_ (kST I) (kHr I) T (ko_ (kST I) (kHr I) T d).1 s (ko_ (kST I) (kHr I) T d).2 j).2), some (.int (nI s)), some (.int (nI (S_ (kHr I) s 6))), some (.int (nI (ki_ (kST I) (kHr I) T (ko_ (kST I) (kHr I) T d).1 s (ko_ (kST I) (kHr I) T d).2 j).1)), some (.int (nI (6 - j) + (-1))), none]) (fun _ => W) (fun _ => L) 0 ⟨Nat.zero_le _, fun q => absurd rfl q⟩ (by simp only [ki_, if_pos hseq]; rfl) rfl rfl (fun j hj0 K3 => ?_)
              obtain ⟨v1, v2⟩ := hj0
              have hB := ko_le (kST I) (kHr I) T d
              have hki := ki_le (kST I) (kHr I) T (ko_ (kST I) (kHr I) T d).1 s (ko_ (kST I) (kHr I) T d).2 j
              refine x_iload dX9_order_162 rfl ?_
              refine x_if_lt (tgt := 259) dX9_order_164 (by decide) (fun h164 => ?_) (fun h164 => ?_)
              · skip
                have hj6 : j = 6 := by
                  rcases Nat.lt_or_ge j 6 with q | q
                  · obtain ⟨z, hz⟩ : ∃ z, 6 - j = z + 1 := ⟨5 - j, by omega⟩
                    rw [hz, nI_m1] at h164; exact absurd h164 (nI_pos (by omega))
                  · omega
                refine x_aload_n dX9_order_259 rfl ?_
                refine x_getR dX9_order_260 fl_X9_43 (by omega) rfl rfl rfl ?_
                refine x_iload dX9_order_263 rfl ?_
                refine x_iload dX9_order_265 rfl ?_
                refine x_iast dX9_order_267 (by omega) rfl rfl (by omega) ?_
                refine x_pc (pc2 := 268) rfl ?_
                refine x_iincm (lo2 := [_, _, _, _, _, _, _, _, _]) dX9_order_268 rfl rfl rfl ?_
                refine x_goto (tgt := 95) dX9_order_271 (by decide) ?_
                refine x_drop (i := 5) (lo2 := [_, _, _, _, _, _, _, _, _]) rfl ?_
                refine x_drop (i := 6) (lo2 := [_, _, _, _, _, _, _, _, _]) rfl ?_
                refine x_drop (i := 7) (lo2 := [_, _, _, _, _, _, _, _, _]) rfl ?_
                have ekis : kis (kST I) (kHr I) T (ko_ (kST I) (kHr I) T d).1 s (ko_ (kST I) (kHr I) T d).2 = (ki_ (kST I) (kHr I) T (ko_ (kST I) (kHr I) T d).1 s (ko_ (kST I) (kHr I) T d).2 j) := by unfold kis; rw [if_pos (v2 (by omega)), show j = 6 by omega]
                have hs63 : 63 - d = s := by omega
                refine x_eq (by simp only [ko_]; rw [hs63, ekis, show 64 - (d + 1) = s by omega]) (by rfl) (by rfl) (K2 (d + 1, zu W 52 s (nI (ki_ (kST I) (kHr I) T (ko_ (kST I) (kHr I) T d).1 s (ko_ (kST I) (kHr I) T d).2 j).1)) ⟨by dsimp only; omega, fun c h1 h2 h3 => by dsimp only; rw [zrn _ _ h3]; exact u2 c h1 h2 h3, fun k hk => by dsimp only; rw [zrn _ _ (by decide)]; exact u3 k hk, fun k h1 h2 => ?_⟩ (by dsimp only; omega))
                dsimp only at h1 ⊢
                simp only [ko_]
                rw [hs63, ekis]
                by_cases e : k = s
                · subst e; rw [zu_self, if_pos rfl]
                · rw [zu_ne _ _ (Or.inr e), if_neg e]; exact u4 k (by omega) h2
              · skip
                have hj6 : j < 6 := by
                  rcases Nat.lt_or_ge j 6 with q | q
                  · exact q
                  · rw [show 6 - j = 0 by omega] at h164; exact absurd (by decide) h164
                obtain ⟨i, hi⟩ : ∃ i, i + j = 5 := ⟨5 - j, by omega⟩
                have hi5 : 5 - j = i := by omega
                rw [show nI (6 - j) + (-1) = nI i from by rw [show 6 - j = i + 1 by omega, nI_m1]]
                refine x_iload dX9_order_167 rfl ?_
                refine x_iload_n dX9_order_169 rfl ?_
                refine x_iconst (v := (-1)) dX9_order_170 (by decide) ?_
                refine x_ixor dX9_order_171 ?_
                refine x_iand dX9_order_172 ?_
                refine x_pc (pc2 := 173) rfl ?_
                refine x_if_ne (tgt := 259) dX9_order_173 (by decide) (fun h173 => ?_) (fun h173 => ?_)
                · skip
                  have hnsub : ¬ s &&& T = s := by have z := zwi_f h173; rw [zwi_64 (by omega) hts] at z; exact of_decide_eq_false z
                  refine x_aload_n dX9_order_259 rfl ?_
                  refine x_getR dX9_order_260 fl_X9_43 (by omega) rfl rfl rfl ?_
                  refine x_iload dX9_order_263 rfl ?_
                  refine x_iload dX9_order_265 rfl ?_
                  refine x_iast dX9_order_267 (by omega) rfl rfl (by omega) ?_
                  refine x_pc (pc2 := 268) rfl ?_
                  refine x_iincm (lo2 := [_, _, _, _, _, _, _, _, _]) dX9_order_268 rfl rfl rfl ?_
                  refine x_goto (tgt := 95) dX9_order_271 (by decide) ?_
                  refine x_drop (i := 5) (lo2 := [_, _, _, _, _, _, _, _, _]) rfl ?_
                  refine x_drop (i := 6) (lo2 := [_, _, _, _, _, _, _, _, _]) rfl ?_
                  refine x_drop (i := 7) (lo2 := [_, _, _, _, _, _, _, _, _]) rfl ?_
                  have ekis : kis (kST I) (kHr I) T (ko_ (kST I) (kHr I) T d).1 s (ko_ (kST I) (kHr I) T d).2 = (ki_ (kST I) (kHr I) T (ko_ (kST I) (kHr I) T d).1 s (ko_ (kST I) (kHr I) T d).2 j) := by unfold kis; rw [if_neg hnsub, show j = 0 from by rcases Nat.eq_zero_or_pos j with q | q; exact q; exact absurd (v2 (by omega)) hnsub]
                  have hs63 : 63 - d = s := by omega
                  refine x_eq (by simp only [ko_]; rw [hs63, ekis, show 64 - (d + 1) = s by omega]) (by rfl) (by rfl) (K2 (d + 1, zu W 52 s (nI (ki_ (kST I) (kHr I) T (ko_ (kST I) (kHr I) T d).1 s (ko_ (kST I) (kHr I) T d).2 j).1)) ⟨by dsimp only; omega, fun c h1 h2 h3 => by dsimp only; rw [zrn _ _ h3]; exact u2 c h1 h2 h3, fun k hk => by dsimp only; rw [zrn _ _ (by decide)]; exact u3 k hk, fun k h1 h2 => ?_⟩ (by dsimp only; omega))
                  dsimp only at h1 ⊢
                  simp only [ko_]
                  rw [hs63, ekis]
                  by_cases e : k = s
                  · subst e; rw [zu_self, if_pos rfl]
                  · rw [zu_ne _ _ (Or.inr e), if_neg e]; exact u4 k (by omega) h2
                · skip
                  have hsub : s &&& T = s := by have z := zwi_t h173; rw [zwi_64 (by omega) hts] at z; exact of_decide_eq_true z
                  refine x_iload_n dX9_order_176 rfl ?_
                  refine x_iload dX9_order_177 rfl ?_
                  refine x_iconst (v := (-1)) dX9_order_179 (by decide) ?_
                  refine x_ixor dX9_order_180 ?_
                  refine x_iand dX9_order_181 ?_
                  refine x_pc (pc2 := 182) rfl ?_
                  refine x_iload dX9_order_182 rfl ?_
                  refine x_callSi dX9_order_184 ml_X9_67 mt_X9_has st_X9_has (ct_X9_has) rfl rfl (Nat.le_of_ble_eq_true rfl) ⟨(Nat.le_of_ble_eq_true rfl), (Nat.le_of_ble_eq_true rfl)⟩ ⟨rfl, rfl⟩ ⟨(Nat.le_of_ble_eq_true rfl), (Nat.le_of_ble_eq_true rfl)⟩ ?_
                  refine x_if_eq (tgt := 253) dX9_order_187 (by decide) (fun h187 => ?_) (fun h187 => ?_)
                  · skip
                    replace h187 := zb0 h187
                    rw [zhs hts (by omega) (by omega)] at h187
                    refine x_iincm (lo2 := [_, _, _, _, _, _, _, _, _]) dX9_order_253 rfl rfl rfl ?_
                    refine x_goto (tgt := 162) dX9_order_256 (by decide) ?_
                    have ek : ki_ (kST I) (kHr I) T (ko_ (kST I) (kHr I) T d).1 s (ko_ (kST I) (kHr I) T d).2 (j + 1) = (ki_ (kST I) (kHr I) T (ko_ (kST I) (kHr I) T d).1 s (ko_ (kST I) (kHr I) T d).2 j) := by simp only [ki_]; rw [hi5, if_neg (fun z => by rw [z.1, z.2] at h187; exact absurd h187 (by decide))]
                    exact x_eq (by rw [ek, show 6 - (j + 1) = i by omega]) (by rfl) (by rfl) (K3 (j + 1) ⟨by omega, fun _ => hsub⟩ (by omega))
                  · skip
                    replace h187 := zb1 h187
                    rw [zhs hts (by omega) (by omega)] at h187
                    have hq187 : T.testBit i = true ∧ s.testBit i = false := by
                      rw [Bool.and_eq_true] at h187
                      exact ⟨h187.1, by simpa using h187.2⟩
                    have htk := hbit i (by omega) hq187.1
                    have hth : thr I (nI i) = true := by unfold kTk at htk; exact (Bool.and_eq_true _ _ ▸ htk).1
                    have hsi := hst i (by omega) hth
                    have hor := zorlt s (by omega) i (by omega) hq187.2
                    have eST : kST I i = zx (I 41 i) := by unfold kST; rw [if_pos htk]
                    have hlt := kic_lt (st := kST I) (hr := kHr I) (B := (ko_ (kST I) (kHr I) T d).1) (s := s) (i := i) (by omega) (kHr_le I) hB
                    refine x_aload_n dX9_order_190 rfl ?_
                    refine x_getR dX9_order_191 fl_X9_43 (by omega) rfl rfl rfl ?_
                    refine x_iload dX9_order_194 rfl ?_
                    refine x_iconst (v := 1) dX9_order_196 (by decide) ?_
                    refine x_iload dX9_order_197 rfl ?_
                    refine x_pc (pc2 := 199) rfl ?_
                    refine x_ishl dX9_order_199 ?_
                    refine x_ior dX9_order_200 ?_
                    refine x_ialdN dX9_order_201 (by omega) rfl (by rw [zsh1 i (by omega), nI_or]) hor.2 ?_
                    rw [u4 _ (by omega) hor.2]
                    refine x_aload_n dX9_order_202 rfl ?_
                    refine x_getR dX9_order_203 fl_X9_7 (by omega) rfl rfl rfl ?_
                    refine x_iload dX9_order_206 rfl ?_
                    refine x_pc (pc2 := 208) rfl ?_
                    refine x_ialdN dX9_order_208 (by omega) rfl rfl (by omega) ?_
                    rw [e41, hsi.1, ← eST]
                    refine x_iload dX9_order_209 rfl ?_
                    refine x_aload_n dX9_order_211 rfl ?_
                    refine x_getR dX9_order_212 fl_X9_40 (by omega) rfl rfl rfl ?_
                    refine x_iload dX9_order_215 rfl ?_
                    refine x_ialdN dX9_order_217 (by omega) rfl rfl (by omega) ?_
                    rw [u3 i (by omega)]
                    refine x_pc (pc2 := 218) rfl ?_
                    refine x_iadd dX9_order_218 ?_
                    refine x_imul dX9_order_219 ?_
                    refine x_iadd dX9_order_220 ?_
                    rw [show nI ((ko_ (kST I) (kHr I) T d).1 (s ||| 2 ^ i)) + nI (kST I i) * (nI (S_ (kHr I) s 6) + nI (kHr I i)) = nI (kic (kST I) (kHr I) (ko_ (kST I) (kHr I) T d).1 s i) from by rw [nI_add, pk_mul, nI_add]; rfl]
                    refine x_istore (lo2 := [_, _, _, _, _, _, _, _, _]) dX9_order_221 (by decide) rfl rfl ?_
                    refine x_iload dX9_order_223 rfl ?_
                    refine x_iload dX9_order_225 rfl ?_
                    refine x_pc (pc2 := 227) rfl ?_
                    refine x_icmp_gt (tgt := 235) dX9_order_227 (by decide) (fun h227 => ?_) (fun h227 => ?_)
                    · skip
                      have hle : ¬ kic (kST I) (kHr I) (ko_ (kST I) (kHr I) T d).1 s i ≤ (ki_ (kST I) (kHr I) T (ko_ (kST I) (kHr I) T d).1 s (ko_ (kST I) (kHr I) T d).2 j).1 := by have z := (nI_ltI (by omega) (by omega)).mp h227; omega
                      refine x_iload_n dX9_order_235 rfl ?_
                      refine x_istore_n (lo2 := [_, _, _, _, _, _, _, _, _]) dX9_order_236 (by decide) rfl rfl ?_
                      refine x_iload dX9_order_237 rfl ?_
                      refine x_iload dX9_order_239 rfl ?_
                      refine x_icmp_ge (tgt := 249) dX9_order_241 (by decide) (fun h241 => ?_) (fun h241 => ?_)
                      · skip
                        refine x_iload dX9_order_249 rfl ?_
                        refine x_istore (lo2 := [_, _, _, _, _, _, _, _, _]) dX9_order_251 (by decide) rfl rfl ?_
                        refine x_iincm (lo2 := [_, _, _, _, _, _, _, _, _]) dX9_order_253 rfl rfl rfl ?_
                        refine x_goto (tgt := 162) dX9_order_256 (by decide) ?_
                        refine x_drop (i := 8) (lo2 := [_, _, _, _, _, _, _, _, _]) rfl ?_
                        have ek : ki_ (kST I) (kHr I) T (ko_ (kST I) (kHr I) T d).1 s (ko_ (kST I) (kHr I) T d).2 (j + 1) = ((ki_ (kST I) (kHr I) T (ko_ (kST I) (kHr I) T d).1 s (ko_ (kST I) (kHr I) T d).2 j).1, (ki_ (kST I) (kHr I) T (ko_ (kST I) (kHr I) T d).1 s (ko_ (kST I) (kHr I) T d).2 j).2) := by simp only [ki_]; rw [hi5, if_pos hq187, if_neg hle, Nat.min_eq_left (by omega)]
                        exact x_eq (by rw [ek, show 6 - (j + 1) = i by omega]) (by rfl) (by rfl) (K3 (j + 1) ⟨by omega, fun _ => hsub⟩ (by omega))
                      · skip
                        exact absurd ((nI_leI (by omega) (by omega)).mpr (by omega)) h241
                    · skip
                      have hle : kic (kST I) (kHr I) (ko_ (kST I) (kHr I) T d).1 s i ≤ (ki_ (kST I) (kHr I) T (ko_ (kST I) (kHr I) T d).1 s (ko_ (kST I) (kHr I) T d).2 j).1 := by have z := mt (nI_ltI (by omega) (by omega)).mpr h227; omega
                      refine x_iload dX9_order_230 rfl ?_
                      refine x_goto (tgt := 236) dX9_order_232 (by decide) ?_
                      refine x_istore_n (lo2 := [_, _, _, _, _, _, _, _, _]) dX9_order_236 (by decide) rfl rfl ?_
                      refine x_iload dX9_order_237 rfl ?_
                      refine x_iload dX9_order_239 rfl ?_
                      refine x_icmp_ge (tgt := 249) dX9_order_241 (by decide) (fun h241 => ?_) (fun h241 => ?_)
                      · skip
                        have heq : kic (kST I) (kHr I) (ko_ (kST I) (kHr I) T d).1 s i = (ki_ (kST I) (kHr I) T (ko_ (kST I) (kHr I) T d).1 s (ko_ (kST I) (kHr I) T d).2 j).1 := by have z := (nI_leI (by omega) (by omega)).mp h241; omega
                        rw [← heq]
                        refine x_iload dX9_order_249 rfl ?_
                        refine x_istore (lo2 := [_, _, _, _, _, _, _, _, _]) dX9_order_251 (by decide) rfl rfl ?_
                        refine x_iincm (lo2 := [_, _, _, _, _, _, _, _, _]) dX9_order_253 rfl rfl rfl ?_
                        refine x_goto (tgt := 162) dX9_order_256 (by decide) ?_
                        refine x_drop (i := 8) (lo2 := [_, _, _, _, _, _, _, _, _]) rfl ?_
                        have ek : ki_ (kST I) (kHr I) T (ko_ (kST I) (kHr I) T d).1 s (ko_ (kST I) (kHr I) T d).2 (j + 1) = (kic (kST I) (kHr I) (ko_ (kST I) (kHr I) T d).1 s i, nI i) := by simp only [ki_]; rw [hi5, if_pos hq187, if_pos hle, Nat.min_eq_right hle]
                        exact x_eq (by rw [ek, show 6 - (j + 1) = i by omega]) (by rfl) (by rfl) (K3 (j + 1) ⟨by omega, fun _ => hsub⟩ (by omega))
                      · skip
                        refine x_iload dX9_order_244 rfl ?_
                        refine x_goto (tgt := 251) dX9_order_246 (by decide) ?_
                        refine x_istore (lo2 := [_, _, _, _, _, _, _, _, _]) dX9_order_251 (by decide) rfl rfl ?_
                        refine x_iincm (lo2 := [_, _, _, _, _, _, _, _, _]) dX9_order_253 rfl rfl rfl ?_
                        refine x_goto (tgt := 162) dX9_order_256 (by decide) ?_
                        refine x_drop (i := 8) (lo2 := [_, _, _, _, _, _, _, _, _]) rfl ?_
                        have ek : ki_ (kST I) (kHr I) T (ko_ (kST I) (kHr I) T d).1 s (ko_ (kST I) (kHr I) T d).2 (j + 1) = (kic (kST I) (kHr I) (ko_ (kST I) (kHr I) T d).1 s i, nI i) := by simp only [ki_]; rw [hi5, if_pos hq187, if_pos hle, Nat.min_eq_right hle]
                        exact x_eq (by rw [ek, show 6 - (j + 1) = i by omega]) (by rfl) (by rfl) (K3 (j + 1) ⟨by omega, fun _ => hsub⟩ (by omega))
          · skip
            exact absurd (nI_le (b := 6) (Nat.le_refl 6) (by decide)) h110
    · skip
      have hi6 : i < 6 := by rw [show (6 : Int32) = nI 6 from rfl, nI_leI (by decide) (by omega)] at h19; omega
      refine x_aload_n dX9_order_22 rfl ?_
      refine x_iload_n dX9_order_23 rfl ?_
      refine x_callVi dX9_order_24 ml_X9_131 mt_X9_isThere mv_X9_isThere (ct_X9_isThere hN) (by omega) rfl rfl rfl rfl (Nat.le_of_ble_eq_true rfl) ⟨(Nat.le_of_ble_eq_true rfl), (Nat.le_of_ble_eq_true rfl)⟩ ⟨rfl, rfl⟩ ⟨(Nat.le_of_ble_eq_true rfl), (Nat.le_of_ble_eq_true rfl)⟩ ?_
      refine x_if_eq (tgt := 38) dX9_order_27 (by decide) (fun h27 => ?_) (fun h27 => ?_)
      · skip
        replace h27 := zb0 h27
        rw [ethr] at h27
        have hth := h27
        refine x_ldc dX9_order_38 cn_X9_137 ?_
        refine x_istore (lo2 := [_, _, _, _, _, _, _, _, _]) dX9_order_40 (by decide) rfl rfl ?_
        refine x_aload_n dX9_order_42 rfl ?_
        refine x_getR dX9_order_43 fl_X9_40 (by omega) rfl rfl rfl ?_
        refine x_iload_n dX9_order_46 rfl ?_
        refine x_pc (pc2 := 47) rfl ?_
        refine x_iload dX9_order_47 rfl ?_
        refine x_ldc dX9_order_49 cn_X9_137 ?_
        refine x_icmp_lt (tgt := 58) dX9_order_51 (by decide) (fun h51 => ?_) (fun h51 => ?_)
        · skip
          exact absurd h51 (by decide)
        · skip
          refine x_iconst (v := 0) dX9_order_54 (by decide) ?_
          refine x_goto (tgt := 64) dX9_order_55 (by decide) ?_
          refine x_iast dX9_order_64 (by omega) rfl rfl (by omega) ?_
          refine x_iload_n dX9_order_65 rfl ?_
          refine x_iload dX9_order_66 rfl ?_
          refine x_ldc dX9_order_68 cn_X9_137 ?_
          refine x_icmp_lt (tgt := 77) dX9_order_70 (by decide) (fun h70 => ?_) (fun h70 => ?_)
          · skip
            exact absurd h70 (by decide)
          · skip
            refine x_iconst (v := 0) dX9_order_73 (by decide) ?_
            refine x_goto (tgt := 80) dX9_order_74 (by decide) ?_
            refine x_ior dX9_order_80 ?_
            refine x_istore_n (lo2 := [_, _, _, _, _, _, _, _, _]) dX9_order_81 (by decide) rfl rfl ?_
            refine x_iincN (lo2 := [_, _, _, _, _, _, _, _, _]) dX9_order_82 rfl rfl rfl ?_
            refine x_goto (tgt := 16) dX9_order_85 (by decide) ?_
            refine x_drop (i := 4) (lo2 := [_, _, _, _, _, _, _, _, _]) rfl ?_
            have htk : kTk I i = false := by unfold kTk; rw [hth]; rfl
            have hhr : kHr I i = 0 := by unfold kHr; rw [if_neg (by rw [htk]; decide)]
            have ets : nI (ts_ (kTk I) i) ||| 0 = nI (ts_ (kTk I) (i + 1)) := by rw [nI_or0]; simp only [ts_]; rw [if_neg (by rw [htk]; decide)]
            have ehr : (0 : Int32) = nI (kHr I i) := by rw [hhr]; rfl
            refine x_eq (by rw [ets]) (by rfl) (by rfl) (K (i + 1, (zu J 51 i 0)) ⟨hi6, fun c h1 h2 => by dsimp only; rw [zrn _ _ h2]; exact t2 c h1 h2, fun k hk => ?_⟩ (by dsimp only; omega))
            dsimp only at hk ⊢
            by_cases e : k = i
            · subst e; rw [zu_self]; exact ehr
            · rw [zu_ne _ _ (Or.inr e)]; exact t3 k (by omega)
      · skip
        replace h27 := zb1 h27
        rw [ethr] at h27
        have hth := h27
        refine x_aload_n dX9_order_30 rfl ?_
        refine x_iload_n dX9_order_31 rfl ?_
        refine x_callV1 dX9_order_32 ml_X9_138 mt_X9_leastOf mv_X9_leastOf (ct_X9_leastOf (a := i) (s := zx (I 41 i)) (fo := fun h => zx (I 44 h)) (tk := fun h => zx (I 45 h)) (fit := kfit I i) hN hi6 (by rw [e41]; exact (hst i hi6 hth).1) (hst i hi6 hth).2.1 (hst i hi6 hth).2.2 (fun h hh => by rw [e44]; exact hf h hh) (fun h hh => by rw [e45]; exact ht h hh) (fun h _ => by rw [e43, e41]; rfl)) (by omega) rfl rfl rfl rfl (Nat.le_of_ble_eq_true rfl) ⟨(Nat.le_of_ble_eq_true rfl), (Nat.le_of_ble_eq_true rfl)⟩ ⟨rfl, rfl⟩ ⟨(Nat.le_of_ble_eq_true rfl), (Nat.le_of_ble_eq_true rfl)⟩ (fun f => ?_)
        have hprn : kpN I i ≤ 1000000 := kpt_le _ _ _ _ _
        rw [show kpt (kfit I i) (fun h => zx (I 44 h)) (fun h => zx (I 45 h)) (zx (I 41 i)) (zx (I 41 i)) = kpN I i from rfl]
        refine x_goto (tgt := 40) dX9_order_35 (by decide) ?_
        refine x_istore (lo2 := [_, _, _, _, _, _, _, _, _]) dX9_order_40 (by decide) rfl rfl ?_
        refine x_aload_n dX9_order_42 rfl ?_
        refine x_getR dX9_order_43 fl_X9_40 (by omega) rfl rfl rfl ?_
        refine x_iload_n dX9_order_46 rfl ?_
        refine x_iload dX9_order_47 rfl ?_
        refine x_pc (pc2 := 49) rfl ?_
        refine x_ldc dX9_order_49 cn_X9_137 ?_
        refine x_icmp_lt (tgt := 58) dX9_order_51 (by decide) (fun h51 => ?_) (fun h51 => ?_)
        · skip
          rw [show (1000000 : Int32) = nI 1000000 from rfl, nI_ltI (by omega) (by decide)] at h51
          refine x_iload dX9_order_58 rfl ?_
          refine x_sipush (v := 1000) dX9_order_60 (by decide) ?_
          refine x_irem dX9_order_63 (by decide) ?_
          refine x_iast dX9_order_64 (by omega) rfl rfl (by omega) ?_
          refine x_iload_n dX9_order_65 rfl ?_
          refine x_pc (pc2 := 66) rfl ?_
          refine x_iload dX9_order_66 rfl ?_
          refine x_ldc dX9_order_68 cn_X9_137 ?_
          refine x_icmp_lt (tgt := 77) dX9_order_70 (by decide) (fun h70 => ?_) (fun h70 => ?_)
          · skip
            refine x_iconst (v := 1) dX9_order_77 (by decide) ?_
            refine x_iload_n dX9_order_78 rfl ?_
            refine x_ishl dX9_order_79 ?_
            refine x_ior dX9_order_80 ?_
            refine x_istore_n (lo2 := [_, _, _, _, _, _, _, _, _]) dX9_order_81 (by decide) rfl rfl ?_
            refine x_pc (pc2 := 82) rfl ?_
            refine x_iincN (lo2 := [_, _, _, _, _, _, _, _, _]) dX9_order_82 rfl rfl rfl ?_
            refine x_goto (tgt := 16) dX9_order_85 (by decide) ?_
            refine x_drop (i := 4) (lo2 := [_, _, _, _, _, _, _, _, _]) rfl ?_
            have htk : kTk I i = true := by unfold kTk; rw [hth, decide_eq_true h51]; rfl
            have hhr : kHr I i = kpN I i % 1000 := by unfold kHr; rw [if_pos htk]
            have ets : nI (ts_ (kTk I) i) ||| (1 <<< (nI i &&& 31)) = nI (ts_ (kTk I) (i + 1)) := by rw [zsh1 i (by omega), nI_or]; simp only [ts_]; rw [if_pos htk]
            have ehr : nI (kpN I i) - nI (kpN I i) / 1000 * 1000 = nI (kHr I i) := by rw [hhr]; exact zrem_nI (d := 1000) (e := 1000) rfl (by omega) (by decide) (by decide)
            refine x_eq (by rw [ets]) (by rfl) (by rfl) (K (i + 1, (zu (zrow J 50 f) 51 i (nI (kpN I i) - nI (kpN I i) / 1000 * 1000))) ⟨hi6, fun c h1 h2 => by dsimp only; rw [zrn _ _ h2, zrow_ne _ _ h1]; exact t2 c h1 h2, fun k hk => ?_⟩ (by dsimp only; omega))
            dsimp only at hk ⊢
            by_cases e : k = i
            · subst e; rw [zu_self]; exact ehr
            · rw [zu_ne _ _ (Or.inr e), zrow_ne _ _ (by decide)]; exact t3 k (by omega)
          · skip
            exact absurd (by rw [show (1000000 : Int32) = nI 1000000 from rfl, nI_ltI (by omega) (by decide)]; exact h51) h70
        · skip
          rw [show (1000000 : Int32) = nI 1000000 from rfl, nI_ltI (by omega) (by decide)] at h51
          refine x_iconst (v := 0) dX9_order_54 (by decide) ?_
          refine x_goto (tgt := 64) dX9_order_55 (by decide) ?_
          refine x_iast dX9_order_64 (by omega) rfl rfl (by omega) ?_
          refine x_iload_n dX9_order_65 rfl ?_
          refine x_iload dX9_order_66 rfl ?_
          refine x_ldc dX9_order_68 cn_X9_137 ?_
          refine x_icmp_lt (tgt := 77) dX9_order_70 (by decide) (fun h70 => ?_) (fun h70 => ?_)
          · skip
            rw [show (1000000 : Int32) = nI 1000000 from rfl, nI_ltI (by omega) (by decide)] at h70; exact absurd h70 h51
          · skip
            refine x_iconst (v := 0) dX9_order_73 (by decide) ?_
            refine x_goto (tgt := 80) dX9_order_74 (by decide) ?_
            refine x_ior dX9_order_80 ?_
            refine x_istore_n (lo2 := [_, _, _, _, _, _, _, _, _]) dX9_order_81 (by decide) rfl rfl ?_
            refine x_iincN (lo2 := [_, _, _, _, _, _, _, _, _]) dX9_order_82 rfl rfl rfl ?_
            refine x_goto (tgt := 16) dX9_order_85 (by decide) ?_
            refine x_drop (i := 4) (lo2 := [_, _, _, _, _, _, _, _, _]) rfl ?_
            have htk : kTk I i = false := by unfold kTk; rw [hth, decide_eq_false h51]; rfl
            have hhr : kHr I i = 0 := by unfold kHr; rw [if_neg (by rw [htk]; decide)]
            have ets : nI (ts_ (kTk I) i) ||| 0 = nI (ts_ (kTk I) (i + 1)) := by rw [nI_or0]; simp only [ts_]; rw [if_neg (by rw [htk]; decide)]
            have ehr : (0 : Int32) = nI (kHr I i) := by rw [hhr]; rfl
            refine x_eq (by rw [ets]) (by rfl) (by rfl) (K (i + 1, (zu (zrow J 50 f) 51 i 0)) ⟨hi6, fun c h1 h2 => by dsimp only; rw [zrn _ _ h2, zrow_ne _ _ h1]; exact t2 c h1 h2, fun k hk => ?_⟩ (by dsimp only; omega))
            dsimp only at hk ⊢
            by_cases e : k = i
            · subst e; rw [zu_self]; exact ehr
            · rw [zu_ne _ _ (Or.inr e), zrow_ne _ _ (by decide)]; exact t3 k (by omega)
  · skip
    replace h6 := zb0 h6
    refine x_bipush (v := (-2)) dX9_order_9 (by decide) ?_
    refine x_iret dX9_order_11 rfl (Nat.le_of_ble_eq_true rfl) (Nat.le_of_ble_eq_true rfl) ?_
    refine zV_of (congrArg Value.int ?_) ?_ ?_ ?_
    · first | (rw [korA, if_pos h6]; done) | (rw [korA, if_neg (by rw [h6]; decide), if_pos h275]; unfold kO; rw [hTT]; exact u4 0 (Nat.zero_le _) (by decide)) | (rw [korA, if_neg (by rw [h6]; decide), if_neg h275, hTT, if_pos ((nI_z (by omega)).mp h288)]; done) | (rw [korA, if_neg (by rw [h6]; decide), if_neg h275, hTT, if_neg (fun q => h288 ((nI_z (by omega)).mpr q))]; unfold kO; rw [hTT])
    · first | (intro _ _; rfl) | (intro c hc2; unfold zscr at hc2; exact u2 c (by omega) (by omega) (by omega))
    · first | rfl | (rw [u2 40 (by decide) (by decide) (by decide)])
    · first | rfl | (rw [u2 40 (by decide) (by decide) (by decide)])
