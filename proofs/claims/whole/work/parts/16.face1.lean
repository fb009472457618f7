/-! the class's calls: what they answer, and what is seen of the world behind (the places below 14 and from 39 on; 14 to 38 are scratch) -/
def zU (v : Int32) (N : Nat) (J : zI) (L : zL) (R : zR) : zPost := fun r' N' I' L' R' => r' = some (.int v) ∧ N' = N ∧ L' = L ∧ R' = R ∧ (∀ c, c < 14 ∨ 39 ≤ c → I' c = J c) ∧ I' 33 0 = 0
theorem zU_of {v v' : Int32} {N : Nat} {I J : zI} {L : zL} {R : zR} (h : v = v') (hI : ∀ c, c < 14 ∨ 39 ≤ c → I c = J c) (h0 : I 33 0 = 0) : zU v' N J L R (some (.int v)) N I L R := ⟨by rw [h], rfl, rfl, rfl, hI, h0⟩
theorem ff_ok {f : Nat → Int32} {n : Nat} (hn : n < 2 ^ 31) (h : ff_ f n = -6) : fp_ f n = none ∧ ds_ f n = 0 := by
  have fl : ∀ i p, fp_ f i = some p → p < i := by
    intro i
    induction i with
    | zero => intro p h; simp [fp_] at h
    | succ i ih =>
      intro p h
      simp only [fp_] at h
      split at h
      · cases h; rename_i h0; have := ih _ h0; omega
      · split at h
        · cases h; omega
        · cases h
  unfold ff_ at h
  split at h
  · rename_i p hp
    exact absurd h (nI_n6 (by have := fl n p hp; omega))
  · rename_i hp
    refine ⟨hp, ?_⟩
    split at h
    · assumption
    · exact absurd h (nI_n6 hn)
def dyI (I : zI) (n : Nat) : zI := rn_ (I 13) n 60 0 (bgI I)
theorem rn_far {f : Nat → Int32} {n c : Nat} (h1 : c ≠ 14) (h2 : c ≠ 15) (h3 : c ≠ 16) (h4 : c ≠ 17) (h5 : c ≠ 26) : ∀ (d p : Nat) (I : zI), rn_ f n d p I c = I c
  | 0, _, _ => rfl
  | d + 1, p, I => by
    simp only [rn_]
    split
    · rfl
    · split
      · rw [rn_far h1 h2 h3 h4 h5 d, zrn _ _ h1, ndI_far h1, zrn _ _ h1, acI_far h2 h3 h4, rdI_far h5]
      · rw [zrn _ _ h1, acI_far h2 h3 h4, rdI_far h5]
theorem bg_far {I : zI} {c : Nat} (h : c < 14 ∨ 26 ≤ c) : bgI I c = I c := by
  have e : c ≠ 14 := by omega
  simp only [bgI]
  rw [zrn _ _ e, zrn _ _ e, zrn _ _ e, zrn _ _ e, zrn _ _ e]
  simp only [zbec]
  rw [if_neg (by omega)]
theorem dy_far {I : zI} {n c : Nat} (h : c < 14 ∨ 27 ≤ c) : dyI I n c = I c := by
  unfold dyI
  rw [rn_far (by omega) (by omega) (by omega) (by omega) (by omega), bg_far (by omega)]
theorem iteDy {I : zI} {n c : Nat} {p : Prop} [Decidable p] (h : c < 14 ∨ 27 ≤ c) : (if p then dyI I n else I) c = I c := by
  split
  · exact dy_far h
  · rfl
theorem dy_25 {I : zI} {n : Nat} : dyI I n 25 = I 11 := by
  unfold dyI
  rw [rn_far (by decide) (by decide) (by decide) (by decide) (by decide)]
  funext j
  simp [bgI, zu, zbec]
theorem yI_far {s : Nat} {I : zI} {c : Nat} (h1 : c ≠ 15) (h2 : c ≠ 16) (h3 : c ≠ 17) (h4 : c ≠ 26) : ∀ i, yI_ s I i c = I c
  | 0 => rfl
  | i + 1 => by simp only [yI_]; rw [acI_far h1 h2 h3, dwI_far h4, yI_far h1 h2 h3 h4 i]
theorem zb_far {I : zI} {c : Nat} (h : c < 15 ∨ 26 ≤ c) : zbec I 15 1 c = I c := by simp only [zbec]; rw [if_neg (by omega)]
/-- answers -/
def grI (I : zI) (a s h : Int32) : zI := if zin a 0 5 = true ∧ zin s 1 99 = true ∧ zin h 0 255 = true then zu (zu I 2 (zx a) s) 3 (zx a) h else I
def grA (I : zI) (a s h : Int32) : Int32 := if zin a 0 5 = false then -1 else if zin s 1 99 = false ∨ zin h 0 255 = false then -2 else bc (gt_ (grI I a s h 2) 6)
def hdI (I : zI) (a b c d : Int32) : zI := if zin a 0 5 = true ∧ zin b 0 255 = true ∧ zin c 1 20 = true ∧ zin d 1 9 = true then zu (zu (zu I 4 (zx a) b) 5 (zx a) c) 6 (zx a) d else I
def hdA (I : zI) (a b c d : Int32) : Int32 := if zin a 0 5 = false then -1 else if zin b 0 255 = false ∨ zin c 1 20 = false ∨ zin d 1 9 = false then -2 else 1000 * I 4 (zx a) + 10 * I 5 (zx a) + I 6 (zx a)
def brI (I : zI) (v : Int32) : zI := if zin v 0 99 = true then zu I 1 11 v else I
def brA (I : zI) (v : Int32) : Int32 := if zin v 0 99 = true then I 1 11 else -2
def coI (I : zI) (c a b : Int32) : zI := if zin c 0 7 = true ∧ (zin a 0 23 && zin b a 23) = true then zu (zu I 7 (zx c) a) 8 (zx c) b else I
def coA (I : zI) (c a b : Int32) : Int32 := if zin c 0 7 = false then -1 else if (zin a 0 23 && zin b a 23) = false then -2 else 100 * I 7 (zx c) + I 8 (zx c)
def mvI (I : zI) (a b : Int32) (is : Bool) : zI := if zin a 0 9 = true ∧ zin b 0 9 = true ∧ ¬ a = b then zu I 9 (zx a) (if is = true then I 9 (zx a) ||| (1 <<< (b &&& 31)) else I 9 (zx a) &&& ((1 <<< (b &&& 31)) ^^^ (-1))) else I
def mvA (I : zI) (a b : Int32) (is : Bool) : Int32 := if zin a 0 9 = false ∨ zin b 0 9 = false ∨ a = b then -1 else cm_ (mvI I a b is 9) 10
def syI (I : zI) (n : Nat) (s : Int32) : zI := if zin s 33 126 = true ∧ n < 60 then zu (zu I 13 n s) 12 1 (nI (n + 1)) else I
def syA (n : Nat) (s : Int32) : Int32 := if zin s 33 126 = false then -2 else if n < 60 then nI (n + 1) else -4
def juA (I : zI) (n : Nat) (w : Int32) : Int32 := if zin w 0 1 = false then -2 else if ff_ (I 13) n = -6 then (if dyI I n 14 3 = 0 then -6 else if w = 0 then dyI I n 14 2 else dyI I n 14 3) else -5
def okD (I : zI) (n : Nat) : Bool := decide (ff_ (I 13) n = -6 ∧ dyI I n 14 3 = 0)
def doI (I : zI) (n : Nat) : zI := if okD I n = true then zu (zbec (dyI I n) 1 15) 12 1 0 else I
def doA (I : zI) (n : Nat) : Int32 := if okD I n = true then dyI I n 14 2 else -5
def beA (I : zI) (n : Nat) (a w : Int32) : Int32 := if zth (I 2) a = false then -1 else if zin w 0 1 = false then -2 else if okD I n = false then -5 else if zth (dyI I n 16) a = true then (if w = 0 then dyI I n 16 (zx a) else dyI I n 17 (zx a)) else -6
def thA (I : zI) (n : Nat) (w : Int32) : Int32 := if zin w 0 5 = false then -2 else if okD I n = false then -5 else if w = 0 then gt_ (dyI I n 16) 6 else if w = 1 then dyI I n 15 11 else if w = 2 then dyI I n 15 12 else if w = 3 then dyI I n 14 4 else if w = 4 then dyI I n 14 5 else dyI I n 14 6
def fiA (I : zI) (a : Int32) : Int32 := if zth (I 2) a = true then hf_ (I 4) (I 3 (zx a)) 6 else -1
def prN (I : zI) (a : Nat) : Nat := pt_ (fun h => zis (hf_ (I 4) (I 3 a) 6) (nI h)) (fun h => zx (I 5 h)) (fun h => zx (I 6 h)) (zx (I 2 a)) (zx (I 2 a))
def leA (I : zI) (a w : Int32) : Int32 := if zth (I 2) a = false then -1 else if zin w 0 1 = false then -2 else if hf_ (I 4) (I 3 (zx a)) 6 = 0 then -6 else if w = 0 then nI (prN I (zx a) / 1000) else nI (prN I (zx a) % 1000)
def tkN (I : zI) (a : Nat) : Bool := decide (0 < zx (I 2 a)) && !decide (hf_ (I 4) (I 3 a) 6 = 0)
def hrN (I : zI) (a : Nat) : Nat := prN I a % 1000
def tsN (I : zI) : Nat := ts_ (tkN I) 6
def BN (I : zI) : Nat → Nat := BT_ (fun a => zx (I 2 a)) (hrN I) (tsN I + 1)
def orA (I : zI) (w : Int32) : Int32 := if zin w 0 1 = false then -2 else if w = 0 then nI (BN I (tsN I)) else zo (ft_ (fun a => zx (I 2 a)) (hrN I) (BN I) (tsN I) (BN I (tsN I)) 6)
def maA (I : zI) (mk w : Int32) : Int32 := if zin mk 0 255 = false ∨ zin w 0 1 = false then -2 else if ls_ (I 2) (I 3) mk 64 = -6 ∨ w = 1 then ls_ (I 2) (I 3) mk 64 else so_ (I 2) (ls_ (I 2) (I 3) mk 64) 6
def riA (I : zI) (a b w : Int32) : Int32 := if (zin a 0 23 && zin b a 23) = false ∨ zin w 0 1 = false then -2 else if fc_ (I 7) (I 8) (hfr a b) 256 = -6 ∨ w = 1 then fc_ (I 7) (I 8) (hfr a b) 256 else bc (fc_ (I 7) (I 8) (hfr a b) 256)
def seI (I : zI) (n : Nat) (h : Int32) (b : Bool) : zI := if zin h 0 5 = true ∧ n < 8 then zu (zu (zu I 10 n h) 11 n (zb b)) 1 10 (nI (n + 1)) else I
def seA (n : Nat) (h : Int32) : Int32 := if zin h 0 5 = false then -1 else if n < 8 then nI (n + 1) else -4
/-- the shapes that are left -/
def shp (I : zI) (n : Nat) (s : Nat) : Bool := has_ (I 4) (I 10) (I 11) (nI s) n
def toA (I : zI) (n w : Int32) : Int32 :=
  if zin w 10 19 = true then I 9 (zx (w - 10)) else if zin w 20 27 = true then 100 * I 7 (zx (w - 20)) + I 8 (zx (w - 20)) else if zin w 30 35 = true then 1000 * I 4 (zx (w - 30)) + 10 * I 5 (zx (w - 30)) + I 6 (zx (w - 30))
  else if w < 100 then (if w = 0 then n else if w = 1 then gt_ (I 2) 6 else if w = 2 then I 1 11 else if w = 3 then I 1 12 else if w = 4 then I 1 10 else -2)
  else if zth (I 2) ((w - 100) / 10) = true ∧ zin ((w - 100) - (w - 100) / 10 * 10) 0 1 = true then (if (w - 100) - (w - 100) / 10 * 10 = 0 then I 2 (zx ((w - 100) / 10)) else I 3 (zx ((w - 100) / 10))) else -2
theorem zth_ex {s : Nat → Int32} {j : Int32} (h : zth s j = true) : ∃ i, i < 6 ∧ j = nI i := by
  have h1 : zin j 0 5 = true := by
    unfold zth at h
    exact (Bool.and_eq_true _ _ ▸ h).1
  exact zin_ex (b := 5) (by decide) h1
theorem nb01 {x : Int32} (h : x = 0 ∨ x = 1) : narrow .boolean (.int x) = .int x := by rcases h with rfl | rfl <;> rfl
theorem zsw_ne {x : Int32} {k : Int32} (h : ¬ x = k) : x.toInt ≠ k.toInt := fun e => h (Int32.toInt_inj.mp e)

theorem ct_X8_grief {g : zG} {N : Nat} {I : zI} {L : zL} {q0 q1 : Option Nat} {a s h : Int32} (hN : 58 ≤ N) (h33 : I 33 0 = 0) : Ct g yX8_grief mX8_grief [.ref (g.2.1 + 0), .int a, .int s, .int h] N I L (zRw q0 q1) (zU (grA I a s h) N (grI I a s h) L (zRw q0 q1)) := by
  refine Ct_of (lo0 := [some (.ref (g.2.1 + 0)), some (.int a), some (.int s), some (.int h)]) rfl rfl rfl rfl (Nat.le_of_ble_eq_true rfl) (fun E => ?_)
  refine x_iload_n dX8_grief_0 rfl ?_
  refine x_iconst (v := 0) dX8_grief_1 (by decide) ?_
  refine x_iconst (v := 5) dX8_grief_2 (by decide) ?_
  refine x_callSi dX8_grief_3 ml_X8_62 mt_X8_isFrom st_X8_isFrom (ct_X8_isFrom) rfl rfl (Nat.le_of_ble_eq_true rfl) ⟨(Nat.le_of_ble_eq_true rfl), (Nat.le_of_ble_eq_true rfl)⟩ ⟨rfl, rfl⟩ ⟨(Nat.le_of_ble_eq_true rfl), (Nat.le_of_ble_eq_true rfl)⟩ ?_
  refine x_if_ne (tgt := 11) dX8_grief_6 (by decide) (fun h6 => ?_) (fun h6 => ?_)
  · skip
    replace h6 := zb1 h6
    obtain ⟨i, hi, rfl⟩ := zin_ex (b := 5) (by decide) h6
    have zxi : zx (nI i) = i := zx_nI (by omega)
    refine x_iload_n dX8_grief_11 rfl ?_
    refine x_iconst (v := 1) dX8_grief_12 (by decide) ?_
    refine x_bipush (v := 99) dX8_grief_13 (by decide) ?_
    refine x_callSi dX8_grief_15 ml_X8_62 mt_X8_isFrom st_X8_isFrom (ct_X8_isFrom) rfl rfl (Nat.le_of_ble_eq_true rfl) ⟨(Nat.le_of_ble_eq_true rfl), (Nat.le_of_ble_eq_true rfl)⟩ ⟨rfl, rfl⟩ ⟨(Nat.le_of_ble_eq_true rfl), (Nat.le_of_ble_eq_true rfl)⟩ ?_
    refine x_if_eq (tgt := 28) dX8_grief_18 (by decide) (fun h18 => ?_) (fun h18 => ?_)
    · skip
      replace h18 := zb0 h18
      refine x_bipush (v := (-2)) dX8_grief_28 (by decide) ?_
      refine x_iret dX8_grief_30 rfl (Nat.le_of_ble_eq_true rfl) (Nat.le_of_ble_eq_true rfl) ?_
      refine zU_of ?_ ?_ ?_
      · simp [grA, grI, h6, h18, zxi]
      · first | (intro _ _; simp [grI, h6, h18, zxi]; done)
      · first | exact h33 | (simp [zu, h33]; done)
    · skip
      replace h18 := zb1 h18
      refine x_iload_n dX8_grief_21 rfl ?_
      refine x_callSi dX8_grief_22 ml_X8_66 mt_X8_isSetOfMarks st_X8_isSetOfMarks (ct_X8_isSetOfMarks) rfl rfl (Nat.le_of_ble_eq_true rfl) ⟨(Nat.le_of_ble_eq_true rfl), (Nat.le_of_ble_eq_true rfl)⟩ ⟨rfl, rfl⟩ ⟨(Nat.le_of_ble_eq_true rfl), (Nat.le_of_ble_eq_true rfl)⟩ ?_
      refine x_if_ne (tgt := 31) dX8_grief_25 (by decide) (fun h25 => ?_) (fun h25 => ?_)
      · skip
        replace h25 := zb1 h25
        refine x_aload_n dX8_grief_31 rfl ?_
        refine x_getR dX8_grief_32 fl_X8_10 (by omega) rfl rfl rfl ?_
        refine x_getR dX8_grief_35 fl_X8_70 (by omega) rfl rfl rfl ?_
        refine x_iload_n dX8_grief_38 rfl ?_
        refine x_iload_n dX8_grief_39 rfl ?_
        refine x_pc (pc2 := 40) rfl ?_
        refine x_iast dX8_grief_40 (by omega) rfl rfl hi ?_
        refine x_aload_n dX8_grief_41 rfl ?_
        refine x_getR dX8_grief_42 fl_X8_10 (by omega) rfl rfl rfl ?_
        refine x_getR dX8_grief_45 fl_X8_74 (by omega) rfl rfl rfl ?_
        refine x_iload_n dX8_grief_48 rfl ?_
        refine x_iload_n dX8_grief_49 rfl ?_
        refine x_pc (pc2 := 50) rfl ?_
        refine x_iast dX8_grief_50 (by omega) rfl rfl hi ?_
        refine x_aload_n dX8_grief_51 rfl ?_
        refine x_getR dX8_grief_52 fl_X8_10 (by omega) rfl rfl rfl ?_
        refine x_callVi dX8_grief_55 ml_X8_77 mt_X3_griefsThere mv_X3_griefsThere (ct_X3_griefsThere (Or.inl rfl) (by omega)) (by omega) rfl rfl rfl rfl (Nat.le_of_ble_eq_true rfl) ⟨(Nat.le_of_ble_eq_true rfl), (Nat.le_of_ble_eq_true rfl)⟩ ⟨rfl, rfl⟩ ⟨(Nat.le_of_ble_eq_true rfl), (Nat.le_of_ble_eq_true rfl)⟩ ?_
        refine x_callSi dX8_grief_58 ml_X8_81 mt_J6_bitCount_0f7a4 st_J6_bitCount_0f7a4 (ct_J6_bitCount_0f7a4) rfl rfl (Nat.le_of_ble_eq_true rfl) ⟨(Nat.le_of_ble_eq_true rfl), (Nat.le_of_ble_eq_true rfl)⟩ ⟨rfl, rfl⟩ ⟨(Nat.le_of_ble_eq_true rfl), (Nat.le_of_ble_eq_true rfl)⟩ ?_
        refine x_iret dX8_grief_61 rfl (Nat.le_of_ble_eq_true rfl) (Nat.le_of_ble_eq_true rfl) ?_
        refine zU_of ?_ ?_ ?_
        · simp [grA, grI, h6, h18, h25, zxi]
        · first | (intro _ _; simp [grI, h6, h18, h25, zxi]; done)
        · first | exact h33 | (simp [zu, h33]; done)
      · skip
        replace h25 := zb0 h25
        refine x_bipush (v := (-2)) dX8_grief_28 (by decide) ?_
        refine x_iret dX8_grief_30 rfl (Nat.le_of_ble_eq_true rfl) (Nat.le_of_ble_eq_true rfl) ?_
        refine zU_of ?_ ?_ ?_
        · simp [grA, grI, h6, h18, h25, zxi]
        · first | (intro _ _; simp [grI, h6, h18, h25, zxi]; done)
        · first | exact h33 | (simp [zu, h33]; done)
  · skip
    replace h6 := zb0 h6
    have zxi : True := trivial
    refine x_iconst (v := (-1)) dX8_grief_9 (by decide) ?_
    refine x_iret dX8_grief_10 rfl (Nat.le_of_ble_eq_true rfl) (Nat.le_of_ble_eq_true rfl) ?_
    refine zU_of ?_ ?_ ?_
    · simp [grA, grI, h6, zxi]
    · first | (intro _ _; simp [grI, h6, zxi]; done)
    · first | exact h33 | (simp [zu, h33]; done)
theorem ct_X8_hold {g : zG} {N : Nat} {I : zI} {L : zL} {q0 q1 : Option Nat} {a b c d : Int32} (hN : 58 ≤ N) (h33 : I 33 0 = 0) : Ct g yX8_hold mX8_hold [.ref (g.2.1 + 0), .int a, .int b, .int c, .int d] N I L (zRw q0 q1) (zU (hdA I a b c d) N (hdI I a b c d) L (zRw q0 q1)) := by
  refine Ct_of (lo0 := [some (.ref (g.2.1 + 0)), some (.int a), some (.int b), some (.int c), some (.int d), none]) rfl rfl rfl rfl (Nat.le_of_ble_eq_true rfl) (fun E => ?_)
  refine x_iload_n dX8_hold_0 rfl ?_
  refine x_callSi dX8_hold_1 ml_X8_87 mt_X8_isHold st_X8_isHold (ct_X8_isHold) rfl rfl (Nat.le_of_ble_eq_true rfl) ⟨(Nat.le_of_ble_eq_true rfl), (Nat.le_of_ble_eq_true rfl)⟩ ⟨rfl, rfl⟩ ⟨(Nat.le_of_ble_eq_true rfl), (Nat.le_of_ble_eq_true rfl)⟩ ?_
  refine x_if_ne (tgt := 9) dX8_hold_4 (by decide) (fun h4 => ?_) (fun h4 => ?_)
  · skip
    replace h4 := zb1 h4
    obtain ⟨i, hi, rfl⟩ := zin_ex (b := 5) (by decide) h4
    have zxi : zx (nI i) = i := zx_nI (by omega)
    refine x_iload_n dX8_hold_9 rfl ?_
    refine x_callSi dX8_hold_10 ml_X8_66 mt_X8_isSetOfMarks st_X8_isSetOfMarks (ct_X8_isSetOfMarks) rfl rfl (Nat.le_of_ble_eq_true rfl) ⟨(Nat.le_of_ble_eq_true rfl), (Nat.le_of_ble_eq_true rfl)⟩ ⟨rfl, rfl⟩ ⟨(Nat.le_of_ble_eq_true rfl), (Nat.le_of_ble_eq_true rfl)⟩ ?_
    refine x_if_eq (tgt := 37) dX8_hold_13 (by decide) (fun h13 => ?_) (fun h13 => ?_)
    · skip
      replace h13 := zb0 h13
      refine x_bipush (v := (-2)) dX8_hold_37 (by decide) ?_
      refine x_iret dX8_hold_39 rfl (Nat.le_of_ble_eq_true rfl) (Nat.le_of_ble_eq_true rfl) ?_
      refine zU_of ?_ ?_ ?_
      · simp [hdA, h4, h13, zxi]
      · intro _ _; simp [hdI, h4, h13, zxi]
      · first | exact h33 | (simp [zu, h33]; done)
    · skip
      replace h13 := zb1 h13
      refine x_iload_n dX8_hold_16 rfl ?_
      refine x_iconst (v := 1) dX8_hold_17 (by decide) ?_
      refine x_bipush (v := 20) dX8_hold_18 (by decide) ?_
      refine x_callSi dX8_hold_20 ml_X8_62 mt_X8_isFrom st_X8_isFrom (ct_X8_isFrom) rfl rfl (Nat.le_of_ble_eq_true rfl) ⟨(Nat.le_of_ble_eq_true rfl), (Nat.le_of_ble_eq_true rfl)⟩ ⟨rfl, rfl⟩ ⟨(Nat.le_of_ble_eq_true rfl), (Nat.le_of_ble_eq_true rfl)⟩ ?_
      refine x_if_eq (tgt := 37) dX8_hold_23 (by decide) (fun h23 => ?_) (fun h23 => ?_)
      · skip
        replace h23 := zb0 h23
        refine x_bipush (v := (-2)) dX8_hold_37 (by decide) ?_
        refine x_iret dX8_hold_39 rfl (Nat.le_of_ble_eq_true rfl) (Nat.le_of_ble_eq_true rfl) ?_
        refine zU_of ?_ ?_ ?_
        · simp [hdA, h4, h13, h23, zxi]
        · intro _ _; simp [hdI, h4, h13, h23, zxi]
        · first | exact h33 | (simp [zu, h33]; done)
      · skip
        replace h23 := zb1 h23
        refine x_iload dX8_hold_26 rfl ?_
        refine x_iconst (v := 1) dX8_hold_28 (by decide) ?_
        refine x_bipush (v := 9) dX8_hold_29 (by decide) ?_
        refine x_callSi dX8_hold_31 ml_X8_62 mt_X8_isFrom st_X8_isFrom (ct_X8_isFrom) rfl rfl (Nat.le_of_ble_eq_true rfl) ⟨(Nat.le_of_ble_eq_true rfl), (Nat.le_of_ble_eq_true rfl)⟩ ⟨rfl, rfl⟩ ⟨(Nat.le_of_ble_eq_true rfl), (Nat.le_of_ble_eq_true rfl)⟩ ?_
        refine x_if_ne (tgt := 40) dX8_hold_34 (by decide) (fun h34 => ?_) (fun h34 => ?_)
        · skip
          replace h34 := zb1 h34
          refine x_aload_n dX8_hold_40 rfl ?_
          refine x_getR dX8_hold_41 fl_X8_10 (by omega) rfl rfl rfl ?_
          refine x_iload_n dX8_hold_44 rfl ?_
          refine x_callVi dX8_hold_45 ml_X8_90 mt_X3_holdAsNumber mv_X3_holdAsNumber (ct_X3_holdAsNumber (m := 1) (Or.inl rfl) (by omega) rfl hi) (by omega) rfl rfl rfl rfl (Nat.le_of_ble_eq_true rfl) ⟨(Nat.le_of_ble_eq_true rfl), (Nat.le_of_ble_eq_true rfl)⟩ ⟨rfl, rfl⟩ ⟨(Nat.le_of_ble_eq_true rfl), (Nat.le_of_ble_eq_true rfl)⟩ ?_
          refine x_istore (lo2 := [_, _, _, _, _, _]) dX8_hold_48 (by decide) rfl rfl ?_
          refine x_pc (pc2 := 50) rfl ?_
          refine x_aload_n dX8_hold_50 rfl ?_
          refine x_getR dX8_hold_51 fl_X8_10 (by omega) rfl rfl rfl ?_
          refine x_getR dX8_hold_54 fl_X8_93 (by omega) rfl rfl rfl ?_
          refine x_iload_n dX8_hold_57 rfl ?_
          refine x_iload_n dX8_hold_58 rfl ?_
          refine x_iast dX8_hold_59 (by omega) rfl rfl hi ?_
          refine x_pc (pc2 := 60) rfl ?_
          refine x_aload_n dX8_hold_60 rfl ?_
          refine x_getR dX8_hold_61 fl_X8_10 (by omega) rfl rfl rfl ?_
          refine x_getR dX8_hold_64 fl_X8_96 (by omega) rfl rfl rfl ?_
          refine x_iload_n dX8_hold_67 rfl ?_
          refine x_iload_n dX8_hold_68 rfl ?_
          refine x_iast dX8_hold_69 (by omega) rfl rfl hi ?_
          refine x_pc (pc2 := 70) rfl ?_
          refine x_aload_n dX8_hold_70 rfl ?_
          refine x_getR dX8_hold_71 fl_X8_10 (by omega) rfl rfl rfl ?_
          refine x_getR dX8_hold_74 fl_X8_99 (by omega) rfl rfl rfl ?_
          refine x_iload_n dX8_hold_77 rfl ?_
          refine x_iload dX8_hold_78 rfl ?_
          refine x_iast dX8_hold_80 (by omega) rfl rfl hi ?_
          refine x_pc (pc2 := 81) rfl ?_
          refine x_iload dX8_hold_81 rfl ?_
          refine x_iret dX8_hold_83 rfl (Nat.le_of_ble_eq_true rfl) (Nat.le_of_ble_eq_true rfl) ?_
          refine zU_of ?_ ?_ ?_
          · simp [hdA, h4, h13, h23, h34, zxi]
          · intro _ _; simp [hdI, h4, h13, h23, h34, zxi]
          · first | exact h33 | (simp [zu, h33]; done)
        · skip
          replace h34 := zb0 h34
          refine x_bipush (v := (-2)) dX8_hold_37 (by decide) ?_
          refine x_iret dX8_hold_39 rfl (Nat.le_of_ble_eq_true rfl) (Nat.le_of_ble_eq_true rfl) ?_
          refine zU_of ?_ ?_ ?_
          · simp [hdA, h4, h13, h23, h34, zxi]
          · intro _ _; simp [hdI, h4, h13, h23, h34, zxi]
          · first | exact h33 | (simp [zu, h33]; done)
  · skip
    replace h4 := zb0 h4
    have zxi : True := trivial
    refine x_iconst (v := (-1)) dX8_hold_7 (by decide) ?_
    refine x_iret dX8_hold_8 rfl (Nat.le_of_ble_eq_true rfl) (Nat.le_of_ble_eq_true rfl) ?_
    refine zU_of ?_ ?_ ?_
    · simp [hdA, h4, zxi]
    · intro _ _; simp [hdI, h4, zxi]
    · first | exact h33 | (simp [zu, h33]; done)
theorem ct_X8_breath {g : zG} {N : Nat} {I : zI} {L : zL} {q0 q1 : Option Nat} {v : Int32} (hN : 58 ≤ N) (h33 : I 33 0 = 0) : Ct g yX8_breath mX8_breath [.ref (g.2.1 + 0), .int v] N I L (zRw q0 q1) (zU (brA I v) N (brI I v) L (zRw q0 q1)) := by
  refine Ct_of (lo0 := [some (.ref (g.2.1 + 0)), some (.int v), none]) rfl rfl rfl rfl (Nat.le_of_ble_eq_true rfl) (fun E => ?_)
  refine x_iload_n dX8_breath_0 rfl ?_
  refine x_iconst (v := 0) dX8_breath_1 (by decide) ?_
  refine x_bipush (v := 99) dX8_breath_2 (by decide) ?_
  refine x_callSi dX8_breath_4 ml_X8_62 mt_X8_isFrom st_X8_isFrom (ct_X8_isFrom) rfl rfl (Nat.le_of_ble_eq_true rfl) ⟨(Nat.le_of_ble_eq_true rfl), (Nat.le_of_ble_eq_true rfl)⟩ ⟨rfl, rfl⟩ ⟨(Nat.le_of_ble_eq_true rfl), (Nat.le_of_ble_eq_true rfl)⟩ ?_
  refine x_if_ne (tgt := 13) dX8_breath_7 (by decide) (fun h7 => ?_) (fun h7 => ?_)
  · skip
    replace h7 := zb1 h7
    refine x_aload_n dX8_breath_13 rfl ?_
    refine x_getR dX8_breath_14 fl_X8_10 (by omega) rfl rfl rfl ?_
    refine x_getI dX8_breath_17 fl_X8_102 (by omega) rfl rfl ?_
    refine x_istore_n (lo2 := [_, _, _]) dX8_breath_20 (by decide) rfl rfl ?_
    refine x_aload_n dX8_breath_21 rfl ?_
    refine x_pc (pc2 := 22) rfl ?_
    refine x_getR dX8_breath_22 fl_X8_10 (by omega) rfl rfl rfl ?_
    refine x_iload_n dX8_breath_25 rfl ?_
    refine x_putI dX8_breath_26 fp_X8_102 (by omega) rfl ?_
    refine x_iload_n dX8_breath_29 rfl ?_
    refine x_iret dX8_breath_30 rfl (Nat.le_of_ble_eq_true rfl) (Nat.le_of_ble_eq_true rfl) ?_
    refine zU_of ?_ ?_ ?_
    · simp [brA, h7]
    · intro _ _; simp [brI, h7]
    · first | exact h33 | (simp [zu, h33]; done)
  · skip
    replace h7 := zb0 h7
    refine x_bipush (v := (-2)) dX8_breath_10 (by decide) ?_
    refine x_iret dX8_breath_12 rfl (Nat.le_of_ble_eq_true rfl) (Nat.le_of_ble_eq_true rfl) ?_
    refine zU_of ?_ ?_ ?_
    · simp [brA, h7]
    · intro _ _; simp [brI, h7]
    · first | exact h33 | (simp [zu, h33]; done)
theorem ct_X8_coat {g : zG} {N : Nat} {I : zI} {L : zL} {q0 q1 : Option Nat} {c a b : Int32} (hN : 58 ≤ N) (h33 : I 33 0 = 0) : Ct g yX8_coat mX8_coat [.ref (g.2.1 + 0), .int c, .int a, .int b] N I L (zRw q0 q1) (zU (coA I c a b) N (coI I c a b) L (zRw q0 q1)) := by
  refine Ct_of (lo0 := [some (.ref (g.2.1 + 0)), some (.int c), some (.int a), some (.int b), none]) rfl rfl rfl rfl (Nat.le_of_ble_eq_true rfl) (fun E => ?_)
  refine x_iload_n dX8_coat_0 rfl ?_
  refine x_iconst (v := 0) dX8_coat_1 (by decide) ?_
  refine x_bipush (v := 7) dX8_coat_2 (by decide) ?_
  refine x_callSi dX8_coat_4 ml_X8_62 mt_X8_isFrom st_X8_isFrom (ct_X8_isFrom) rfl rfl (Nat.le_of_ble_eq_true rfl) ⟨(Nat.le_of_ble_eq_true rfl), (Nat.le_of_ble_eq_true rfl)⟩ ⟨rfl, rfl⟩ ⟨(Nat.le_of_ble_eq_true rfl), (Nat.le_of_ble_eq_true rfl)⟩ ?_
  refine x_if_ne (tgt := 12) dX8_coat_7 (by decide) (fun h7 => ?_) (fun h7 => ?_)
  · skip
    replace h7 := zb1 h7
    obtain ⟨i, hi, rfl⟩ := zin_ex (b := 7) (by decide) h7
    have zxi : zx (nI i) = i := zx_nI (by omega)
    refine x_iload_n dX8_coat_12 rfl ?_
    refine x_iload_n dX8_coat_13 rfl ?_
    refine x_callSi dX8_coat_14 ml_X8_106 mt_X8_areHours st_X8_areHours (ct_X8_areHours) rfl rfl (Nat.le_of_ble_eq_true rfl) ⟨(Nat.le_of_ble_eq_true rfl), (Nat.le_of_ble_eq_true rfl)⟩ ⟨rfl, rfl⟩ ⟨(Nat.le_of_ble_eq_true rfl), (Nat.le_of_ble_eq_true rfl)⟩ ?_
    refine x_if_ne (tgt := 23) dX8_coat_17 (by decide) (fun h17 => ?_) (fun h17 => ?_)
    · skip
      replace h17 := zb1 h17
      refine x_aload_n dX8_coat_23 rfl ?_
      refine x_getR dX8_coat_24 fl_X8_10 (by omega) rfl rfl rfl ?_
      refine x_iload_n dX8_coat_27 rfl ?_
      refine x_callVi dX8_coat_28 ml_X8_110 mt_X3_coatAsNumber mv_X3_coatAsNumber (ct_X3_coatAsNumber (m := 1) (Or.inl rfl) (by omega) rfl hi) (by omega) rfl rfl rfl rfl (Nat.le_of_ble_eq_true rfl) ⟨(Nat.le_of_ble_eq_true rfl), (Nat.le_of_ble_eq_true rfl)⟩ ⟨rfl, rfl⟩ ⟨(Nat.le_of_ble_eq_true rfl), (Nat.le_of_ble_eq_true rfl)⟩ ?_
      refine x_istore (lo2 := [_, _, _, _, _]) dX8_coat_31 (by decide) rfl rfl ?_
      refine x_pc (pc2 := 33) rfl ?_
      refine x_aload_n dX8_coat_33 rfl ?_
      refine x_getR dX8_coat_34 fl_X8_10 (by omega) rfl rfl rfl ?_
      refine x_getR dX8_coat_37 fl_X8_113 (by omega) rfl rfl rfl ?_
      refine x_iload_n dX8_coat_40 rfl ?_
      refine x_iload_n dX8_coat_41 rfl ?_
      refine x_iast dX8_coat_42 (by omega) rfl rfl hi ?_
      refine x_pc (pc2 := 43) rfl ?_
      refine x_aload_n dX8_coat_43 rfl ?_
      refine x_getR dX8_coat_44 fl_X8_10 (by omega) rfl rfl rfl ?_
      refine x_getR dX8_coat_47 fl_X8_116 (by omega) rfl rfl rfl ?_
      refine x_iload_n dX8_coat_50 rfl ?_
      refine x_iload_n dX8_coat_51 rfl ?_
      refine x_iast dX8_coat_52 (by omega) rfl rfl hi ?_
      refine x_pc (pc2 := 53) rfl ?_
      refine x_iload dX8_coat_53 rfl ?_
      refine x_iret dX8_coat_55 rfl (Nat.le_of_ble_eq_true rfl) (Nat.le_of_ble_eq_true rfl) ?_
      refine zU_of ?_ ?_ ?_
      · simp only [coA, h7, h17, zxi]; simp
      · intro _ _; simp only [coI, h7, h17, zxi]; simp
      · first | exact h33 | (simp [zu, h33]; done)
    · skip
      replace h17 := zb0 h17
      refine x_bipush (v := (-2)) dX8_coat_20 (by decide) ?_
      refine x_iret dX8_coat_22 rfl (Nat.le_of_ble_eq_true rfl) (Nat.le_of_ble_eq_true rfl) ?_
      refine zU_of ?_ ?_ ?_
      · simp only [coA, h7, h17, zxi]; simp
      · intro _ _; simp only [coI, h7, h17, zxi]; simp
      · first | exact h33 | (simp [zu, h33]; done)
  · skip
    replace h7 := zb0 h7
    have zxi : True := trivial
    refine x_iconst (v := (-1)) dX8_coat_10 (by decide) ?_
    refine x_iret dX8_coat_11 rfl (Nat.le_of_ble_eq_true rfl) (Nat.le_of_ble_eq_true rfl) ?_
    refine zU_of ?_ ?_ ?_
    · simp only [coA, h7, zxi]; simp
    · intro _ _; simp only [coI, h7, zxi]; simp
    · first | exact h33 | (simp [zu, h33]; done)
theorem ct_X8_move {g : zG} {N : Nat} {I : zI} {L : zL} {q0 q1 : Option Nat} {a b : Int32} {is : Bool} (hN : 58 ≤ N) (h33 : I 33 0 = 0) : Ct g yX8_move mX8_move [.ref (g.2.1 + 0), .int a, .int b, .int (zb is)] N I L (zRw q0 q1) (zU (mvA I a b is) N (mvI I a b is) L (zRw q0 q1)) := by
  refine Ct_of (lo0 := [some (.ref (g.2.1 + 0)), some (.int a), some (.int b), some (.int (zb is))]) rfl rfl rfl rfl (Nat.le_of_ble_eq_true rfl) (fun E => ?_)
  refine x_iload_n dX8_move_0 rfl ?_
  refine x_callSi dX8_move_1 ml_X8_119 mt_X8_isState st_X8_isState (ct_X8_isState) rfl rfl (Nat.le_of_ble_eq_true rfl) ⟨(Nat.le_of_ble_eq_true rfl), (Nat.le_of_ble_eq_true rfl)⟩ ⟨rfl, rfl⟩ ⟨(Nat.le_of_ble_eq_true rfl), (Nat.le_of_ble_eq_true rfl)⟩ ?_
  refine x_if_eq (tgt := 19) dX8_move_4 (by decide) (fun h4 => ?_) (fun h4 => ?_)
  · skip
    replace h4 := zb0 h4
    have zxi : True := trivial
    refine x_iconst (v := (-1)) dX8_move_19 (by decide) ?_
    refine x_iret dX8_move_20 rfl (Nat.le_of_ble_eq_true rfl) (Nat.le_of_ble_eq_true rfl) ?_
    refine zU_of ?_ ?_ ?_
    · simp [mvA, mvI, h4, zxi]
    · intro _ _; simp [mvI, h4, zxi]
    · first | exact h33 | (simp [zu, h33]; done)
  · skip
    replace h4 := zb1 h4
    obtain ⟨i, hi, rfl⟩ := zin_ex (b := 9) (by decide) h4
    have zxi : zx (nI i) = i := zx_nI (by omega)
    refine x_iload_n dX8_move_7 rfl ?_
    refine x_callSi dX8_move_8 ml_X8_119 mt_X8_isState st_X8_isState (ct_X8_isState) rfl rfl (Nat.le_of_ble_eq_true rfl) ⟨(Nat.le_of_ble_eq_true rfl), (Nat.le_of_ble_eq_true rfl)⟩ ⟨rfl, rfl⟩ ⟨(Nat.le_of_ble_eq_true rfl), (Nat.le_of_ble_eq_true rfl)⟩ ?_
    refine x_if_eq (tgt := 19) dX8_move_11 (by decide) (fun h11 => ?_) (fun h11 => ?_)
    · skip
      replace h11 := zb0 h11
      refine x_iconst (v := (-1)) dX8_move_19 (by decide) ?_
      refine x_iret dX8_move_20 rfl (Nat.le_of_ble_eq_true rfl) (Nat.le_of_ble_eq_true rfl) ?_
      refine zU_of ?_ ?_ ?_
      · simp [mvA, mvI, h4, h11, zxi]
      · intro _ _; simp [mvI, h4, h11, zxi]
      · first | exact h33 | (simp [zu, h33]; done)
    · skip
      replace h11 := zb1 h11
      refine x_iload_n dX8_move_14 rfl ?_
      refine x_iload_n dX8_move_15 rfl ?_
      refine x_icmp_ne (tgt := 21) dX8_move_16 (by decide) (fun h16 => ?_) (fun h16 => ?_)
      · skip
        refine x_iload_n dX8_move_21 rfl ?_
        refine x_if_eq (tgt := 43) dX8_move_22 (by decide) (fun h22 => ?_) (fun h22 => ?_)
        · skip
          replace h22 := zb0 h22
          refine x_aload_n dX8_move_43 rfl ?_
          refine x_getR dX8_move_44 fl_X8_10 (by omega) rfl rfl rfl ?_
          refine x_getR dX8_move_47 fl_X8_122 (by omega) rfl rfl rfl ?_
          refine x_iload_n dX8_move_50 rfl ?_
          refine x_dup2 dX8_move_51 rfl rfl ?_
          refine x_pc (pc2 := 52) rfl ?_
          refine x_ialdN dX8_move_52 (by omega) rfl rfl hi ?_
          refine x_iconst (v := 1) dX8_move_53 (by decide) ?_
          refine x_iload_n dX8_move_54 rfl ?_
          refine x_ishl dX8_move_55 ?_
          refine x_iconst (v := (-1)) dX8_move_56 (by decide) ?_
          refine x_ixor dX8_move_57 ?_
          refine x_pc (pc2 := 58) rfl ?_
          refine x_iand dX8_move_58 ?_
          refine x_iast dX8_move_59 (by omega) rfl rfl hi ?_
          refine x_aload_n dX8_move_60 rfl ?_
          refine x_getR dX8_move_61 fl_X8_10 (by omega) rfl rfl rfl ?_
          refine x_callVi dX8_move_64 ml_X8_125 mt_X3_countMoves mv_X3_countMoves (ct_X3_countMoves (Or.inl rfl) (by omega)) (by omega) rfl rfl rfl rfl (Nat.le_of_ble_eq_true rfl) ⟨(Nat.le_of_ble_eq_true rfl), (Nat.le_of_ble_eq_true rfl)⟩ ⟨rfl, rfl⟩ ⟨(Nat.le_of_ble_eq_true rfl), (Nat.le_of_ble_eq_true rfl)⟩ ?_
          refine x_iret dX8_move_67 rfl (Nat.le_of_ble_eq_true rfl) (Nat.le_of_ble_eq_true rfl) ?_
          refine zU_of ?_ ?_ ?_
          · simp [mvA, mvI, h4, h11, h16, h22, zxi]
          · intro _ _; simp [mvI, h4, h11, h16, h22, zxi]
          · first | exact h33 | (simp [zu, h33]; done)
        · skip
          replace h22 := zb1 h22
          refine x_aload_n dX8_move_25 rfl ?_
          refine x_getR dX8_move_26 fl_X8_10 (by omega) rfl rfl rfl ?_
          refine x_getR dX8_move_29 fl_X8_122 (by omega) rfl rfl rfl ?_
          refine x_iload_n dX8_move_32 rfl ?_
          refine x_dup2 dX8_move_33 rfl rfl ?_
          refine x_pc (pc2 := 34) rfl ?_
          refine x_ialdN dX8_move_34 (by omega) rfl rfl hi ?_
          refine x_iconst (v := 1) dX8_move_35 (by decide) ?_
          refine x_iload_n dX8_move_36 rfl ?_
          refine x_ishl dX8_move_37 ?_
          refine x_ior dX8_move_38 ?_
          refine x_iast dX8_move_39 (by omega) rfl rfl hi ?_
          refine x_pc (pc2 := 40) rfl ?_
          refine x_goto (tgt := 60) dX8_move_40 (by decide) ?_
          refine x_aload_n dX8_move_60 rfl ?_
          refine x_getR dX8_move_61 fl_X8_10 (by omega) rfl rfl rfl ?_
          refine x_callVi dX8_move_64 ml_X8_125 mt_X3_countMoves mv_X3_countMoves (ct_X3_countMoves (Or.inl rfl) (by omega)) (by omega) rfl rfl rfl rfl (Nat.le_of_ble_eq_true rfl) ⟨(Nat.le_of_ble_eq_true rfl), (Nat.le_of_ble_eq_true rfl)⟩ ⟨rfl, rfl⟩ ⟨(Nat.le_of_ble_eq_true rfl), (Nat.le_of_ble_eq_true rfl)⟩ ?_
          refine x_iret dX8_move_67 rfl (Nat.le_of_ble_eq_true rfl) (Nat.le_of_ble_eq_true rfl) ?_
          refine zU_of ?_ ?_ ?_
          · simp [mvA, mvI, h4, h11, h16, h22, zxi]
          · intro _ _; simp [mvI, h4, h11, h16, h22, zxi]
          · first | exact h33 | (simp [zu, h33]; done)
      · skip
        refine x_iconst (v := (-1)) dX8_move_19 (by decide) ?_
        refine x_iret dX8_move_20 rfl (Nat.le_of_ble_eq_true rfl) (Nat.le_of_ble_eq_true rfl) ?_
        refine zU_of ?_ ?_ ?_
        · simp [mvA, mvI, h4, h11, h16, zxi]
        · intro _ _; simp [mvI, h4, h11, h16, zxi]
        · first | exact h33 | (simp [zu, h33]; done)
theorem ct_X8_say {g : zG} {N : Nat} {I : zI} {L : zL} {q0 q1 : Option Nat} {s : Int32} {n : Nat} (hN : 58 ≤ N) (h33 : I 33 0 = 0) (hc : I 12 1 = nI n) (hn : n ≤ 60) : Ct g yX8_say mX8_say [.ref (g.2.1 + 0), .int s] N I L (zRw q0 q1) (zU (syA n s) N (syI I n s) L (zRw q0 q1)) := by
  refine Ct_of (lo0 := [some (.ref (g.2.1 + 0)), some (.int s)]) rfl rfl rfl rfl (Nat.le_of_ble_eq_true rfl) (fun E => ?_)
  refine x_iload_n dX8_say_0 rfl ?_
  refine x_bipush (v := 33) dX8_say_1 (by decide) ?_
  refine x_bipush (v := 126) dX8_say_3 (by decide) ?_
  refine x_callSi dX8_say_5 ml_X8_62 mt_X8_isFrom st_X8_isFrom (ct_X8_isFrom) rfl rfl (Nat.le_of_ble_eq_true rfl) ⟨(Nat.le_of_ble_eq_true rfl), (Nat.le_of_ble_eq_true rfl)⟩ ⟨rfl, rfl⟩ ⟨(Nat.le_of_ble_eq_true rfl), (Nat.le_of_ble_eq_true rfl)⟩ ?_
  refine x_if_ne (tgt := 14) dX8_say_8 (by decide) (fun h8 => ?_) (fun h8 => ?_)
  · skip
    replace h8 := zb1 h8
    refine x_aload_n dX8_say_14 rfl ?_
    refine x_getR dX8_say_15 fl_X8_19 (by omega) rfl rfl rfl ?_
    refine x_iload_n dX8_say_18 rfl ?_
    refine x_callVi dX8_say_19 ml_X8_128 mt_X5_write mv_X5_write (ct_X5_write hN hn hc) (by omega) rfl rfl rfl rfl (Nat.le_of_ble_eq_true rfl) ⟨(Nat.le_of_ble_eq_true rfl), (Nat.le_of_ble_eq_true rfl)⟩ ⟨rfl, rfl⟩ ⟨(Nat.le_of_ble_eq_true rfl), (Nat.le_of_ble_eq_true rfl)⟩ ?_
    refine x_if_eq (tgt := 35) dX8_say_22 (by decide) (fun h22 => ?_) (fun h22 => ?_)
    · skip
      replace h22 := zb0 h22
      refine x_bipush (v := (-4)) dX8_say_35 (by decide) ?_
      refine x_iret dX8_say_37 rfl (Nat.le_of_ble_eq_true rfl) (Nat.le_of_ble_eq_true rfl) ?_
      refine zU_of ?_ ?_ ?_
      · first | (simp [syA, h8, h22]; done) | (simp at h22; simp [syA, h8, h22, zu]; done) | (simp at h22; simp [syA, h8, show ¬ n < 60 by omega])
      · first | (intro _ _; simp [syI, h8, h22]; done) | (simp at h22; intro _ _; simp [syI, h8, h22]; done) | (simp at h22; intro _ _; simp [syI, h8, show ¬ n < 60 by omega])
      · first | exact h33 | (split <;> simp [zu, h33])
    · skip
      replace h22 := zb1 h22
      refine x_aload_n dX8_say_25 rfl ?_
      refine x_getR dX8_say_26 fl_X8_19 (by omega) rfl rfl rfl ?_
      refine x_getI dX8_say_29 fl_X8_131 (by omega) rfl rfl ?_
      refine x_goto (tgt := 37) dX8_say_32 (by decide) ?_
      refine x_iret dX8_say_37 rfl (Nat.le_of_ble_eq_true rfl) (Nat.le_of_ble_eq_true rfl) ?_
      refine zU_of ?_ ?_ ?_
      · first | (simp [syA, h8, h22]; done) | (simp at h22; simp [syA, h8, h22, zu]; done) | (simp at h22; simp [syA, h8, show ¬ n < 60 by omega])
      · first | (intro _ _; simp [syI, h8, h22]; done) | (simp at h22; intro _ _; simp [syI, h8, h22]; done) | (simp at h22; intro _ _; simp [syI, h8, show ¬ n < 60 by omega])
      · first | exact h33 | (split <;> simp [zu, h33])
  · skip
    replace h8 := zb0 h8
    refine x_bipush (v := (-2)) dX8_say_11 (by decide) ?_
    refine x_iret dX8_say_13 rfl (Nat.le_of_ble_eq_true rfl) (Nat.le_of_ble_eq_true rfl) ?_
    refine zU_of ?_ ?_ ?_
    · first | (simp [syA, h8]; done) | (simp at h22; simp [syA, h8, zu]; done) | (simp at h22; simp [syA, h8, show ¬ n < 60 by omega])
    · first | (intro _ _; simp [syI, h8]; done) | (simp at h22; intro _ _; simp [syI, h8]; done) | (simp at h22; intro _ _; simp [syI, h8, show ¬ n < 60 by omega])
    · first | exact h33 | (split <;> simp [zu, h33])
theorem ct_X8_wipe {g : zG} {N : Nat} {I : zI} {L : zL} {q0 q1 : Option Nat} (hN : 58 ≤ N) (h33 : I 33 0 = 0) : Ct g yX8_wipe mX8_wipe [.ref (g.2.1 + 0)] N I L (zRw q0 q1) (zU (I 12 1) N (zu I 12 1 0) L (zRw q0 q1)) := by
  refine Ct_of (lo0 := [some (.ref (g.2.1 + 0)), none]) rfl rfl rfl rfl (Nat.le_of_ble_eq_true rfl) (fun E => ?_)
  refine x_aload_n dX8_wipe_0 rfl ?_
  refine x_getR dX8_wipe_1 fl_X8_19 (by omega) rfl rfl rfl ?_
  refine x_getI dX8_wipe_4 fl_X8_131 (by omega) rfl rfl ?_
  refine x_istore_n (lo2 := [_, _]) dX8_wipe_7 (by decide) rfl rfl ?_
  refine x_aload_n dX8_wipe_8 rfl ?_
  refine x_pc (pc2 := 9) rfl ?_
  refine x_getR dX8_wipe_9 fl_X8_19 (by omega) rfl rfl rfl ?_
  refine x_iconst (v := 0) dX8_wipe_12 (by decide) ?_
  refine x_putI dX8_wipe_13 fp_X8_131 (by omega) rfl ?_
  refine x_iload_n dX8_wipe_16 rfl ?_
  refine x_iret dX8_wipe_17 rfl (Nat.le_of_ble_eq_true rfl) (Nat.le_of_ble_eq_true rfl) ?_
  refine zU_of ?_ ?_ ?_
  · rfl
  · intro _ _; rfl
  · first | exact h33 | (simp [zu, h33]; done)
theorem ct_X8_fault {g : zG} {N : Nat} {I : zI} {L : zL} {q0 q1 : Option Nat} {n : Nat} (hN : 58 ≤ N) (h33 : I 33 0 = 0) (hc : I 12 1 = nI n) (hn : n ≤ 60) : Ct g yX8_fault mX8_fault [.ref (g.2.1 + 0)] N I L (zRw q0 q1) (zU (ff_ (I 13) n) N I L (zRw q0 q1)) := by
  refine Ct_of (lo0 := [some (.ref (g.2.1 + 0))]) rfl rfl rfl rfl (Nat.le_of_ble_eq_true rfl) (fun E => ?_)
  refine x_aload_n dX8_fault_0 rfl ?_
  refine x_getR dX8_fault_1 fl_X8_19 (by omega) rfl rfl rfl ?_
  refine x_callVi dX8_fault_4 ml_X8_134 mt_X5_findFault mv_X5_findFault (ct_X5_findFault hN hc hn rfl) (by omega) rfl rfl rfl rfl (Nat.le_of_ble_eq_true rfl) ⟨(Nat.le_of_ble_eq_true rfl), (Nat.le_of_ble_eq_true rfl)⟩ ⟨rfl, rfl⟩ ⟨(Nat.le_of_ble_eq_true rfl), (Nat.le_of_ble_eq_true rfl)⟩ ?_
  refine x_iret dX8_fault_7 rfl (Nat.le_of_ble_eq_true rfl) (Nat.le_of_ble_eq_true rfl) ?_
  refine zU_of ?_ ?_ ?_
  · rfl
  · intro _ _; rfl
  · exact h33
theorem ct_X8_tryDays {g : zG} {N : Nat} {I : zI} {L : zL} {q0 q1 : Option Nat} {n : Nat} (hN : 58 ≤ N) (h33 : I 33 0 = 0) (hc : I 12 1 = nI n) (hn : n ≤ 60) (hz : ∀ i, i < 8 → I 11 i = 0 ∨ I 11 i = 1) : Ct g yX8_tryDays mX8_tryDays [.ref (g.2.1 + 0)] N I L (zRw q0 q1) (zD (some (.int (zb (okD I n)))) N (if ff_ (I 13) n = -6 then dyI I n else I) L (zRw q0 q1)) := by
  refine Ct_of (lo0 := [some (.ref (g.2.1 + 0))]) rfl rfl rfl rfl (Nat.le_of_ble_eq_true rfl) (fun E => ?_)
  refine x_aload_n dX8_tryDays_0 rfl ?_
  refine x_getR dX8_tryDays_1 fl_X8_19 (by omega) rfl rfl rfl ?_
  refine x_callVi dX8_tryDays_4 ml_X8_134 mt_X5_findFault mv_X5_findFault (ct_X5_findFault hN hc hn rfl) (by omega) rfl rfl rfl rfl (Nat.le_of_ble_eq_true rfl) ⟨(Nat.le_of_ble_eq_true rfl), (Nat.le_of_ble_eq_true rfl)⟩ ⟨rfl, rfl⟩ ⟨(Nat.le_of_ble_eq_true rfl), (Nat.le_of_ble_eq_true rfl)⟩ ?_
  refine x_bipush (v := (-6)) dX8_tryDays_7 (by decide) ?_
  refine x_icmp_eq (tgt := 14) dX8_tryDays_9 (by decide) (fun h9 => ?_) (fun h9 => ?_)
  · skip
    refine x_aload_n dX8_tryDays_14 rfl ?_
    refine x_getR dX8_tryDays_15 fl_X8_26 (by omega) rfl rfl rfl ?_
    refine x_aload_n dX8_tryDays_18 rfl ?_
    refine x_getR dX8_tryDays_19 fl_X8_19 (by omega) rfl rfl rfl ?_
    refine x_aload_n dX8_tryDays_22 rfl ?_
    refine x_pc (pc2 := 23) rfl ?_
    refine x_getR dX8_tryDays_23 fl_X8_10 (by omega) rfl rfl rfl ?_
    refine x_callVv dX8_tryDays_26 ml_X8_137 mt_X1_run mv_X1_run (ct_X1_run hN hc hn rfl (ff_ok (by omega) h9).1 (ff_ok (by omega) h9).2 (fun i hi => nb01 (hz i hi))) (by omega) rfl rfl rfl rfl (Nat.le_of_ble_eq_true rfl) ⟨(Nat.le_of_ble_eq_true rfl), (Nat.le_of_ble_eq_true rfl)⟩ ⟨rfl, rfl⟩ ⟨(Nat.le_of_ble_eq_true rfl), (Nat.le_of_ble_eq_true rfl)⟩ ?_
    refine x_aload_n dX8_tryDays_29 rfl ?_
    refine x_getR dX8_tryDays_30 fl_X8_26 (by omega) rfl rfl rfl ?_
    refine x_getI dX8_tryDays_33 fl_X8_141 (by omega) rfl rfl ?_
    refine x_if_ne (tgt := 43) dX8_tryDays_36 (by decide) (fun h36 => ?_) (fun h36 => ?_)
    · skip
      refine x_iconst (v := 0) dX8_tryDays_43 (by decide) ?_
      exact x_zret dX8_tryDays_44 rfl rfl (Nat.le_of_ble_eq_true rfl) (Nat.le_of_ble_eq_true rfl) ⟨congrArg (fun z => some (Value.int z)) (by first | (simp [okD, zb, h9]; done) | (rw [okD, decide_eq_false (by rw [← show rn_ (I 13) n 60 0 (bgI I) = dyI I n from rfl]; exact fun q => h36 q.2)]; rfl) | (rw [okD, decide_eq_true (show _ from ⟨h9, h36⟩)]; rfl)), rfl, by first | (rw [if_neg h9]; done) | (rw [if_pos h9]; rfl), by rfl, rfl⟩
    · skip
      refine x_iconst (v := 1) dX8_tryDays_39 (by decide) ?_
      refine x_goto (tgt := 44) dX8_tryDays_40 (by decide) ?_
      exact x_zret dX8_tryDays_44 rfl rfl (Nat.le_of_ble_eq_true rfl) (Nat.le_of_ble_eq_true rfl) ⟨congrArg (fun z => some (Value.int z)) (by first | (simp [okD, zb, h9]; done) | (rw [okD, decide_eq_false (by rw [← show rn_ (I 13) n 60 0 (bgI I) = dyI I n from rfl]; exact fun q => h36 q.2)]; rfl) | (rw [okD, decide_eq_true (show _ from ⟨h9, h36⟩)]; rfl)), rfl, by first | (rw [if_neg h9]; done) | (rw [if_pos h9]; rfl), by rfl, rfl⟩
  · skip
    refine x_iconst (v := 0) dX8_tryDays_12 (by decide) ?_
    exact x_zret dX8_tryDays_13 rfl rfl (Nat.le_of_ble_eq_true rfl) (Nat.le_of_ble_eq_true rfl) ⟨congrArg (fun z => some (Value.int z)) (by first | (simp [okD, zb, h9]; done) | (rw [okD, decide_eq_false (by rw [← show rn_ (I 13) n 60 0 (bgI I) = dyI I n from rfl]; exact fun q => h36 q.2)]; rfl) | (rw [okD, decide_eq_true (show _ from ⟨h9, h36⟩)]; rfl)), rfl, by first | (rw [if_neg h9]; done) | (rw [if_pos h9]; rfl), by rfl, rfl⟩
theorem ct_X8_judge {g : zG} {N : Nat} {I : zI} {L : zL} {q0 q1 : Option Nat} {w : Int32} {n : Nat} (hN : 58 ≤ N) (h33 : I 33 0 = 0) (hc : I 12 1 = nI n) (hn : n ≤ 60) (hz : ∀ i, i < 8 → I 11 i = 0 ∨ I 11 i = 1) : Ct g yX8_judge mX8_judge [.ref (g.2.1 + 0), .int w] N I L (zRw q0 q1) (zU (juA I n w) N I L (zRw q0 q1)) := by
  refine Ct_of (lo0 := [some (.ref (g.2.1 + 0)), some (.int w)]) rfl rfl rfl rfl (Nat.le_of_ble_eq_true rfl) (fun E => ?_)
  refine x_iload_n dX8_judge_0 rfl ?_
  refine x_iconst (v := 0) dX8_judge_1 (by decide) ?_
  refine x_iconst (v := 1) dX8_judge_2 (by decide) ?_
  refine x_callSi dX8_judge_3 ml_X8_62 mt_X8_isFrom st_X8_isFrom (ct_X8_isFrom) rfl rfl (Nat.le_of_ble_eq_true rfl) ⟨(Nat.le_of_ble_eq_true rfl), (Nat.le_of_ble_eq_true rfl)⟩ ⟨rfl, rfl⟩ ⟨(Nat.le_of_ble_eq_true rfl), (Nat.le_of_ble_eq_true rfl)⟩ ?_
  refine x_if_ne (tgt := 12) dX8_judge_6 (by decide) (fun h6 => ?_) (fun h6 => ?_)
  · skip
    replace h6 := zb1 h6
    refine x_aload_n dX8_judge_12 rfl ?_
    refine x_getR dX8_judge_13 fl_X8_19 (by omega) rfl rfl rfl ?_
    refine x_callVi dX8_judge_16 ml_X8_134 mt_X5_findFault mv_X5_findFault (ct_X5_findFault hN hc hn rfl) (by omega) rfl rfl rfl rfl (Nat.le_of_ble_eq_true rfl) ⟨(Nat.le_of_ble_eq_true rfl), (Nat.le_of_ble_eq_true rfl)⟩ ⟨rfl, rfl⟩ ⟨(Nat.le_of_ble_eq_true rfl), (Nat.le_of_ble_eq_true rfl)⟩ ?_
    refine x_bipush (v := (-6)) dX8_judge_19 (by decide) ?_
    refine x_icmp_eq (tgt := 27) dX8_judge_21 (by decide) (fun h21 => ?_) (fun h21 => ?_)
    · skip
      refine x_aload_n dX8_judge_27 rfl ?_
      refine x_getR dX8_judge_28 fl_X8_26 (by omega) rfl rfl rfl ?_
      refine x_aload_n dX8_judge_31 rfl ?_
      refine x_getR dX8_judge_32 fl_X8_19 (by omega) rfl rfl rfl ?_
      refine x_aload_n dX8_judge_35 rfl ?_
      refine x_pc (pc2 := 36) rfl ?_
      refine x_getR dX8_judge_36 fl_X8_10 (by omega) rfl rfl rfl ?_
      refine x_callVv dX8_judge_39 ml_X8_137 mt_X1_run mv_X1_run (ct_X1_run hN hc hn rfl (ff_ok (by omega) h21).1 (ff_ok (by omega) h21).2 (fun i hi => nb01 (hz i hi))) (by omega) rfl rfl rfl rfl (Nat.le_of_ble_eq_true rfl) ⟨(Nat.le_of_ble_eq_true rfl), (Nat.le_of_ble_eq_true rfl)⟩ ⟨rfl, rfl⟩ ⟨(Nat.le_of_ble_eq_true rfl), (Nat.le_of_ble_eq_true rfl)⟩ ?_
      refine x_aload_n dX8_judge_42 rfl ?_
      refine x_getR dX8_judge_43 fl_X8_26 (by omega) rfl rfl rfl ?_
      refine x_getI dX8_judge_46 fl_X8_141 (by omega) rfl rfl ?_
      refine x_if_ne (tgt := 55) dX8_judge_49 (by decide) (fun h49 => ?_) (fun h49 => ?_)
      · skip
        refine x_iload_n dX8_judge_55 rfl ?_
        refine x_if_ne (tgt := 69) dX8_judge_56 (by decide) (fun h56 => ?_) (fun h56 => ?_)
        · skip
          refine x_aload_n dX8_judge_69 rfl ?_
          refine x_getR dX8_judge_70 fl_X8_26 (by omega) rfl rfl rfl ?_
          refine x_getI dX8_judge_73 fl_X8_141 (by omega) rfl rfl ?_
          refine x_iret dX8_judge_76 rfl (Nat.le_of_ble_eq_true rfl) (Nat.le_of_ble_eq_true rfl) ?_
          refine zU_of ?_ ?_ ?_
          · first | (rw [juA, if_pos h6]; done) | (rw [juA, if_neg (by rw [h6]; decide), if_neg h21]; done) | (rw [juA, if_neg (by rw [h6]; decide), if_pos h21, if_pos (show dyI I n 14 3 = 0 from h49)]; done) | (rw [juA, if_neg (by rw [h6]; decide), if_pos h21, if_neg (show ¬ dyI I n 14 3 = 0 from h49), if_pos h56]; rfl) | (rw [juA, if_neg (by rw [h6]; decide), if_pos h21, if_neg (show ¬ dyI I n 14 3 = 0 from h49), if_neg h56]; rfl)
          · first | (intro _ _; rfl) | (intro c hc2; exact dy_far (by omega))
          · first | exact h33 | (rw [show rn_ (I 13) n 60 0 (bgI I) = dyI I n from rfl, dy_far (by decide)]; exact h33)
        · skip
          refine x_aload_n dX8_judge_59 rfl ?_
          refine x_getR dX8_judge_60 fl_X8_26 (by omega) rfl rfl rfl ?_
          refine x_getI dX8_judge_63 fl_X8_144 (by omega) rfl rfl ?_
          refine x_goto (tgt := 76) dX8_judge_66 (by decide) ?_
          refine x_iret dX8_judge_76 rfl (Nat.le_of_ble_eq_true rfl) (Nat.le_of_ble_eq_true rfl) ?_
          refine zU_of ?_ ?_ ?_
          · first | (rw [juA, if_pos h6]; done) | (rw [juA, if_neg (by rw [h6]; decide), if_neg h21]; done) | (rw [juA, if_neg (by rw [h6]; decide), if_pos h21, if_pos (show dyI I n 14 3 = 0 from h49)]; done) | (rw [juA, if_neg (by rw [h6]; decide), if_pos h21, if_neg (show ¬ dyI I n 14 3 = 0 from h49), if_pos h56]; rfl) | (rw [juA, if_neg (by rw [h6]; decide), if_pos h21, if_neg (show ¬ dyI I n 14 3 = 0 from h49), if_neg h56]; rfl)
          · first | (intro _ _; rfl) | (intro c hc2; exact dy_far (by omega))
          · first | exact h33 | (rw [show rn_ (I 13) n 60 0 (bgI I) = dyI I n from rfl, dy_far (by decide)]; exact h33)
      · skip
        refine x_bipush (v := (-6)) dX8_judge_52 (by decide) ?_
        refine x_iret dX8_judge_54 rfl (Nat.le_of_ble_eq_true rfl) (Nat.le_of_ble_eq_true rfl) ?_
        refine zU_of ?_ ?_ ?_
        · first | (rw [juA, if_pos h6]; done) | (rw [juA, if_neg (by rw [h6]; decide), if_neg h21]; done) | (rw [juA, if_neg (by rw [h6]; decide), if_pos h21, if_pos (show dyI I n 14 3 = 0 from h49)]; done) | (rw [juA, if_neg (by rw [h6]; decide), if_pos h21, if_neg (show ¬ dyI I n 14 3 = 0 from h49), if_pos h56]; rfl) | (rw [juA, if_neg (by rw [h6]; decide), if_pos h21, if_neg (show ¬ dyI I n 14 3 = 0 from h49), if_neg h56]; rfl)
        · first | (intro _ _; rfl) | (intro c hc2; exact dy_far (by omega))
        · first | exact h33 | (rw [show rn_ (I 13) n 60 0 (bgI I) = dyI I n from rfl, dy_far (by decide)]; exact h33)
    · skip
      refine x_bipush (v := (-5)) dX8_judge_24 (by decide) ?_
      refine x_iret dX8_judge_26 rfl (Nat.le_of_ble_eq_true rfl) (Nat.le_of_ble_eq_true rfl) ?_
      refine zU_of ?_ ?_ ?_
      · first | (rw [juA, if_pos h6]; done) | (rw [juA, if_neg (by rw [h6]; decide), if_neg h21]; done) | (rw [juA, if_neg (by rw [h6]; decide), if_pos h21, if_pos (show dyI I n 14 3 = 0 from h49)]; done) | (rw [juA, if_neg (by rw [h6]; decide), if_pos h21, if_neg (show ¬ dyI I n 14 3 = 0 from h49), if_pos h56]; rfl) | (rw [juA, if_neg (by rw [h6]; decide), if_pos h21, if_neg (show ¬ dyI I n 14 3 = 0 from h49), if_neg h56]; rfl)
      · first | (intro _ _; rfl) | (intro c hc2; exact dy_far (by omega))
      · first | exact h33 | (rw [show rn_ (I 13) n 60 0 (bgI I) = dyI I n from rfl, dy_far (by decide)]; exact h33)
  · skip
    replace h6 := zb0 h6
    refine x_bipush (v := (-2)) dX8_judge_9 (by decide) ?_
    refine x_iret dX8_judge_11 rfl (Nat.le_of_ble_eq_true rfl) (Nat.le_of_ble_eq_true rfl) ?_
    refine zU_of ?_ ?_ ?_
    · first | (rw [juA, if_pos h6]; done) | (rw [juA, if_neg (by rw [h6]; decide), if_neg h21]; done) | (rw [juA, if_neg (by rw [h6]; decide), if_pos h21, if_pos (show dyI I n 14 3 = 0 from h49)]; done) | (rw [juA, if_neg (by rw [h6]; decide), if_pos h21, if_neg (show ¬ dyI I n 14 3 = 0 from h49), if_pos h56]; rfl) | (rw [juA, if_neg (by rw [h6]; decide), if_pos h21, if_neg (show ¬ dyI I n 14 3 = 0 from h49), if_neg h56]; rfl)
    · first | (intro _ _; rfl) | (intro c hc2; exact dy_far (by omega))
    · first | exact h33 | (rw [show rn_ (I 13) n 60 0 (bgI I) = dyI I n from rfl, dy_far (by decide)]; exact h33)
theorem ct_X8_done {g : zG} {N : Nat} {I : zI} {L : zL} {q0 q1 : Option Nat} {n : Nat} (hN : 58 ≤ N) (h33 : I 33 0 = 0) (hc : I 12 1 = nI n) (hn : n ≤ 60) (hz : ∀ i, i < 8 → I 11 i = 0 ∨ I 11 i = 1) : Ct g yX8_done mX8_done [.ref (g.2.1 + 0)] N I L (zRw q0 q1) (zU (doA I n) N (doI I n) L (zRw q0 q1)) := by
  refine Ct_of (lo0 := [some (.ref (g.2.1 + 0))]) rfl rfl rfl rfl (Nat.le_of_ble_eq_true rfl) (fun E => ?_)
  refine x_aload_n dX8_done_0 rfl ?_
  refine x_callVi dX8_done_1 ml_X8_147 mt_X8_tryDays mv_X8_tryDays (ct_X8_tryDays hN h33 hc hn hz) (by omega) rfl rfl rfl rfl (Nat.le_of_ble_eq_true rfl) ⟨(Nat.le_of_ble_eq_true rfl), (Nat.le_of_ble_eq_true rfl)⟩ ⟨rfl, rfl⟩ ⟨(Nat.le_of_ble_eq_true rfl), (Nat.le_of_ble_eq_true rfl)⟩ ?_
  refine x_if_ne (tgt := 10) dX8_done_4 (by decide) (fun h4 => ?_) (fun h4 => ?_)
  · skip
    replace h4 := zb1 h4
    have h9k : ff_ (I 13) n = -6 := by unfold okD at h4; exact (of_decide_eq_true h4).1
    rw [if_pos h9k]
    refine x_aload_n dX8_done_10 rfl ?_
    refine x_getR dX8_done_11 fl_X8_10 (by omega) rfl rfl rfl ?_
    refine x_aload_n dX8_done_14 rfl ?_
    refine x_getR dX8_done_15 fl_X8_26 (by omega) rfl rfl rfl ?_
    refine x_getR dX8_done_18 fl_X8_151 (by omega) rfl rfl rfl ?_
    refine x_pc (pc2 := 21) rfl ?_
    refine x_callVv dX8_done_21 ml_X8_154 mt_X3_become mv_X3_become (ct_X3_become_1_15 hN (fun i hi => by rw [dy_25]; exact nb01 (hz i hi))) (by omega) rfl rfl rfl rfl (Nat.le_of_ble_eq_true rfl) ⟨(Nat.le_of_ble_eq_true rfl), (Nat.le_of_ble_eq_true rfl)⟩ ⟨rfl, rfl⟩ ⟨(Nat.le_of_ble_eq_true rfl), (Nat.le_of_ble_eq_true rfl)⟩ ?_
    refine x_aload_n dX8_done_24 rfl ?_
    refine x_getR dX8_done_25 fl_X8_19 (by omega) rfl rfl rfl ?_
    refine x_iconst (v := 0) dX8_done_28 (by decide) ?_
    refine x_putI dX8_done_29 fp_X8_131 (by omega) rfl ?_
    refine x_aload_n dX8_done_32 rfl ?_
    refine x_pc (pc2 := 33) rfl ?_
    refine x_getR dX8_done_33 fl_X8_26 (by omega) rfl rfl rfl ?_
    refine x_getI dX8_done_36 fl_X8_144 (by omega) rfl rfl ?_
    refine x_iret dX8_done_39 rfl (Nat.le_of_ble_eq_true rfl) (Nat.le_of_ble_eq_true rfl) ?_
    refine zU_of ?_ ?_ ?_
    · first | (rw [doA, if_neg (by rw [h4]; decide)]; done) | (rw [doA, if_pos h4, zrn _ _ (by decide)]; simp [zbec])
    · first | (intro c hc2; rw [doI, if_neg (show ¬ okD I n = true by rw [h4]; decide)]; exact iteDy (by omega)) | (intro _ _; rw [doI, if_pos h4])
    · first | (rw [iteDy (by decide)]; exact h33) | (rw [zrn _ _ (by decide)]; simp only [zbec]; rw [if_neg (by decide), dy_far (by decide)]; exact h33)
  · skip
    replace h4 := zb0 h4
    refine x_bipush (v := (-5)) dX8_done_7 (by decide) ?_
    refine x_iret dX8_done_9 rfl (Nat.le_of_ble_eq_true rfl) (Nat.le_of_ble_eq_true rfl) ?_
    refine zU_of ?_ ?_ ?_
    · first | (rw [doA, if_neg (by rw [h4]; decide)]; done) | (rw [doA, if_pos h4, zrn _ _ (by decide)]; simp [zbec])
    · first | (intro c hc2; rw [doI, if_neg (show ¬ okD I n = true by rw [h4]; decide)]; exact iteDy (by omega)) | (intro _ _; rw [doI, if_pos h4])
    · first | (rw [iteDy (by decide)]; exact h33) | (rw [zrn _ _ (by decide)]; simp only [zbec]; rw [if_neg (by decide), dy_far (by decide)]; exact h33)
theorem ct_X8_behind {g : zG} {N : Nat} {I : zI} {L : zL} {q0 q1 : Option Nat} {a w : Int32} {n : Nat} (hN : 58 ≤ N) (h33 : I 33 0 = 0) (hc : I 12 1 = nI n) (hn : n ≤ 60) (hz : ∀ i, i < 8 → I 11 i = 0 ∨ I 11 i = 1) : Ct g yX8_behind mX8_behind [.ref (g.2.1 + 0), .int a, .int w] N I L (zRw q0 q1) (zU (beA I n a w) N I L (zRw q0 q1)) := by
  refine Ct_of (lo0 := [some (.ref (g.2.1 + 0)), some (.int a), some (.int w)]) rfl rfl rfl rfl (Nat.le_of_ble_eq_true rfl) (fun E => ?_)
  refine x_aload_n dX8_behind_0 rfl ?_
  refine x_getR dX8_behind_1 fl_X8_10 (by omega) rfl rfl rfl ?_
  refine x_iload_n dX8_behind_4 rfl ?_
  refine x_callVi dX8_behind_5 ml_X8_158 mt_X3_isThere mv_X3_isThere (ct_X3_isThere (Or.inl rfl) (by omega)) (by omega) rfl rfl rfl rfl (Nat.le_of_ble_eq_true rfl) ⟨(Nat.le_of_ble_eq_true rfl), (Nat.le_of_ble_eq_true rfl)⟩ ⟨rfl, rfl⟩ ⟨(Nat.le_of_ble_eq_true rfl), (Nat.le_of_ble_eq_true rfl)⟩ ?_
  refine x_if_ne (tgt := 13) dX8_behind_8 (by decide) (fun h8 => ?_) (fun h8 => ?_)
  · skip
    replace h8 := zb1 h8
    obtain ⟨i, hi, rfl⟩ := zth_ex h8
    have zxi : zx (nI i) = i := zx_nI (by omega)
    refine x_iload_n dX8_behind_13 rfl ?_
    refine x_iconst (v := 0) dX8_behind_14 (by decide) ?_
    refine x_iconst (v := 1) dX8_behind_15 (by decide) ?_
    refine x_callSi dX8_behind_16 ml_X8_62 mt_X8_isFrom st_X8_isFrom (ct_X8_isFrom) rfl rfl (Nat.le_of_ble_eq_true rfl) ⟨(Nat.le_of_ble_eq_true rfl), (Nat.le_of_ble_eq_true rfl)⟩ ⟨rfl, rfl⟩ ⟨(Nat.le_of_ble_eq_true rfl), (Nat.le_of_ble_eq_true rfl)⟩ ?_
    refine x_if_ne (tgt := 25) dX8_behind_19 (by decide) (fun h19 => ?_) (fun h19 => ?_)
    · skip
      replace h19 := zb1 h19
      refine x_aload_n dX8_behind_25 rfl ?_
      refine x_callVi dX8_behind_26 ml_X8_147 mt_X8_tryDays mv_X8_tryDays (ct_X8_tryDays hN h33 hc hn hz) (by omega) rfl rfl rfl rfl (Nat.le_of_ble_eq_true rfl) ⟨(Nat.le_of_ble_eq_true rfl), (Nat.le_of_ble_eq_true rfl)⟩ ⟨rfl, rfl⟩ ⟨(Nat.le_of_ble_eq_true rfl), (Nat.le_of_ble_eq_true rfl)⟩ ?_
      refine x_if_ne (tgt := 35) dX8_behind_29 (by decide) (fun h29 => ?_) (fun h29 => ?_)
      · skip
        replace h29 := zb1 h29
        have h9k : ff_ (I 13) n = -6 := by unfold okD at h29; exact (of_decide_eq_true h29).1
        rw [if_pos h9k]
        refine x_aload_n dX8_behind_35 rfl ?_
        refine x_getR dX8_behind_36 fl_X8_26 (by omega) rfl rfl rfl ?_
        refine x_getR dX8_behind_39 fl_X8_151 (by omega) rfl rfl rfl ?_
        refine x_iload_n dX8_behind_42 rfl ?_
        refine x_callVi dX8_behind_43 ml_X8_158 mt_X3_isThere mv_X3_isThere (ct_X3_isThere (Or.inr (Or.inl rfl)) (by omega)) (by omega) rfl rfl rfl rfl (Nat.le_of_ble_eq_true rfl) ⟨(Nat.le_of_ble_eq_true rfl), (Nat.le_of_ble_eq_true rfl)⟩ ⟨rfl, rfl⟩ ⟨(Nat.le_of_ble_eq_true rfl), (Nat.le_of_ble_eq_true rfl)⟩ ?_
        refine x_pc (pc2 := 46) rfl ?_
        refine x_if_eq (tgt := 64) dX8_behind_46 (by decide) (fun h46 => ?_) (fun h46 => ?_)
        · skip
          replace h46 := zb0 h46
          refine x_bipush (v := (-6)) dX8_behind_64 (by decide) ?_
          refine x_iret dX8_behind_66 rfl (Nat.le_of_ble_eq_true rfl) (Nat.le_of_ble_eq_true rfl) ?_
          refine zU_of ?_ ?_ ?_
          · first | (simp only [beA, h8, h19, h29, h46, zxi]; simp; done) | (simp only [beA, h8, h19, h29, h46, zxi]; rfl)
          · first | (intro _ _; rfl) | (intro c hc2; exact dy_far (by omega)) | (intro c hc2; exact iteDy (by omega))
          · first | exact h33 | (rw [dy_far (by decide)]; exact h33) | (rw [iteDy (by decide)]; exact h33)
        · skip
          replace h46 := zb1 h46
          refine x_aload_n dX8_behind_49 rfl ?_
          refine x_getR dX8_behind_50 fl_X8_26 (by omega) rfl rfl rfl ?_
          refine x_getR dX8_behind_53 fl_X8_151 (by omega) rfl rfl rfl ?_
          refine x_iload_n dX8_behind_56 rfl ?_
          refine x_iload_n dX8_behind_57 rfl ?_
          refine x_pc (pc2 := 58) rfl ?_
          refine x_callVi dX8_behind_58 ml_X8_161 mt_X3_griefPart mv_X3_griefPart (ct_X3_griefPart (m := 15) (Or.inr (Or.inl rfl)) (by omega) rfl hi) (by omega) rfl rfl rfl rfl (Nat.le_of_ble_eq_true rfl) ⟨(Nat.le_of_ble_eq_true rfl), (Nat.le_of_ble_eq_true rfl)⟩ ⟨rfl, rfl⟩ ⟨(Nat.le_of_ble_eq_true rfl), (Nat.le_of_ble_eq_true rfl)⟩ ?_
          refine x_goto (tgt := 66) dX8_behind_61 (by decide) ?_
          refine x_iret dX8_behind_66 rfl (Nat.le_of_ble_eq_true rfl) (Nat.le_of_ble_eq_true rfl) ?_
          refine zU_of ?_ ?_ ?_
          · first | (simp only [beA, h8, h19, h29, h46, zxi]; simp; done) | (simp only [beA, h8, h19, h29, h46, zxi]; rfl)
          · first | (intro _ _; rfl) | (intro c hc2; exact dy_far (by omega)) | (intro c hc2; exact iteDy (by omega))
          · first | exact h33 | (rw [dy_far (by decide)]; exact h33) | (rw [iteDy (by decide)]; exact h33)
      · skip
        replace h29 := zb0 h29
        refine x_bipush (v := (-5)) dX8_behind_32 (by decide) ?_
        refine x_iret dX8_behind_34 rfl (Nat.le_of_ble_eq_true rfl) (Nat.le_of_ble_eq_true rfl) ?_
        refine zU_of ?_ ?_ ?_
        · first | (simp only [beA, h8, h19, h29, zxi]; simp; done) | (simp only [beA, h8, h19, h29, zxi]; rfl)
        · first | (intro _ _; rfl) | (intro c hc2; exact dy_far (by omega)) | (intro c hc2; exact iteDy (by omega))
        · first | exact h33 | (rw [dy_far (by decide)]; exact h33) | (rw [iteDy (by decide)]; exact h33)
    · skip
      replace h19 := zb0 h19
      refine x_bipush (v := (-2)) dX8_behind_22 (by decide) ?_
      refine x_iret dX8_behind_24 rfl (Nat.le_of_ble_eq_true rfl) (Nat.le_of_ble_eq_true rfl) ?_
      refine zU_of ?_ ?_ ?_
      · first | (simp only [beA, h8, h19, zxi]; simp; done) | (simp only [beA, h8, h19, zxi]; rfl)
      · first | (intro _ _; rfl) | (intro c hc2; exact dy_far (by omega)) | (intro c hc2; exact iteDy (by omega))
      · first | exact h33 | (rw [dy_far (by decide)]; exact h33) | (rw [iteDy (by decide)]; exact h33)
  · skip
    replace h8 := zb0 h8
    have zxi : True := trivial
    refine x_iconst (v := (-1)) dX8_behind_11 (by decide) ?_
    refine x_iret dX8_behind_12 rfl (Nat.le_of_ble_eq_true rfl) (Nat.le_of_ble_eq_true rfl) ?_
    refine zU_of ?_ ?_ ?_
    · first | (simp only [beA, h8, zxi]; simp; done) | (simp only [beA, h8, zxi]; rfl)
    · first | (intro _ _; rfl) | (intro c hc2; exact dy_far (by omega)) | (intro c hc2; exact iteDy (by omega))
    · first | exact h33 | (rw [dy_far (by decide)]; exact h33) | (rw [iteDy (by decide)]; exact h33)
theorem ct_X8_then {g : zG} {N : Nat} {I : zI} {L : zL} {q0 q1 : Option Nat} {w : Int32} {n : Nat} (hN : 58 ≤ N) (h33 : I 33 0 = 0) (hc : I 12 1 = nI n) (hn : n ≤ 60) (hz : ∀ i, i < 8 → I 11 i = 0 ∨ I 11 i = 1) : Ct g yX8_then mX8_then [.ref (g.2.1 + 0), .int w] N I L (zRw q0 q1) (zU (thA I n w) N I L (zRw q0 q1)) := by
  refine Ct_of (lo0 := [some (.ref (g.2.1 + 0)), some (.int w)]) rfl rfl rfl rfl (Nat.le_of_ble_eq_true rfl) (fun E => ?_)
  refine x_iload_n dX8_then_0 rfl ?_
  refine x_iconst (v := 0) dX8_then_1 (by decide) ?_
  refine x_iconst (v := 5) dX8_then_2 (by decide) ?_
  refine x_callSi dX8_then_3 ml_X8_62 mt_X8_isFrom st_X8_isFrom (ct_X8_isFrom) rfl rfl (Nat.le_of_ble_eq_true rfl) ⟨(Nat.le_of_ble_eq_true rfl), (Nat.le_of_ble_eq_true rfl)⟩ ⟨rfl, rfl⟩ ⟨(Nat.le_of_ble_eq_true rfl), (Nat.le_of_ble_eq_true rfl)⟩ ?_
  refine x_if_ne (tgt := 12) dX8_then_6 (by decide) (fun h6 => ?_) (fun h6 => ?_)
  · skip
    replace h6 := zb1 h6
    refine x_aload_n dX8_then_12 rfl ?_
    refine x_callVi dX8_then_13 ml_X8_147 mt_X8_tryDays mv_X8_tryDays (ct_X8_tryDays hN h33 hc hn hz) (by omega) rfl rfl rfl rfl (Nat.le_of_ble_eq_true rfl) ⟨(Nat.le_of_ble_eq_true rfl), (Nat.le_of_ble_eq_true rfl)⟩ ⟨rfl, rfl⟩ ⟨(Nat.le_of_ble_eq_true rfl), (Nat.le_of_ble_eq_true rfl)⟩ ?_
    refine x_if_ne (tgt := 22) dX8_then_16 (by decide) (fun h16 => ?_) (fun h16 => ?_)
    · skip
      replace h16 := zb1 h16
      have h9k : ff_ (I 13) n = -6 := by unfold okD at h16; exact (of_decide_eq_true h16).1
      rw [if_pos h9k]
      refine x_iload_n dX8_then_22 rfl ?_
      by_cases hw0 : w = 0
      · skip
        subst hw0
        refine x_tableIn (off := 33) (tgt := 56) dX8_then_23 (by decide) (by decide) rfl (by decide) ?_
        refine x_aload_n dX8_then_56 rfl ?_
        refine x_getR dX8_then_57 fl_X8_26 (by omega) rfl rfl rfl ?_
        refine x_getR dX8_then_60 fl_X8_151 (by omega) rfl rfl rfl ?_
        refine x_callVi dX8_then_63 ml_X8_77 mt_X3_griefsThere mv_X3_griefsThere (ct_X3_griefsThere (Or.inr (Or.inl rfl)) (by omega)) (by omega) rfl rfl rfl rfl (Nat.le_of_ble_eq_true rfl) ⟨(Nat.le_of_ble_eq_true rfl), (Nat.le_of_ble_eq_true rfl)⟩ ⟨rfl, rfl⟩ ⟨(Nat.le_of_ble_eq_true rfl), (Nat.le_of_ble_eq_true rfl)⟩ ?_
        refine x_iret dX8_then_66 rfl (Nat.le_of_ble_eq_true rfl) (Nat.le_of_ble_eq_true rfl) ?_
        refine zU_of ?_ ?_ ?_
        · first | (rw [thA, if_pos h6]; done) | (rw [thA, if_neg (by rw [h6]; decide), if_pos h16]; done) | (rw [thA, if_neg (by decide), if_neg (by rw [h16]; decide)]; rfl) | (rw [thA, if_neg (by rw [h6]; decide), if_neg (by rw [h16]; decide), if_neg hw0, if_neg hw1, if_neg hw2, if_neg hw3, if_neg hw4])
        · first | (intro _ _; rfl) | (intro c hc2; exact dy_far (by omega)) | (intro c hc2; exact iteDy (by omega))
        · first | exact h33 | (rw [dy_far (by decide)]; exact h33) | (rw [iteDy (by decide)]; exact h33)
      by_cases hw1 : w = 1
      · skip
        subst hw1
        refine x_tableIn (off := 44) (tgt := 67) dX8_then_23 (by decide) (by decide) rfl (by decide) ?_
        refine x_aload_n dX8_then_67 rfl ?_
        refine x_getR dX8_then_68 fl_X8_26 (by omega) rfl rfl rfl ?_
        refine x_getR dX8_then_71 fl_X8_151 (by omega) rfl rfl rfl ?_
        refine x_getI dX8_then_74 fl_X8_102 (by omega) rfl rfl ?_
        refine x_iret dX8_then_77 rfl (Nat.le_of_ble_eq_true rfl) (Nat.le_of_ble_eq_true rfl) ?_
        refine zU_of ?_ ?_ ?_
        · first | (rw [thA, if_pos h6]; done) | (rw [thA, if_neg (by rw [h6]; decide), if_pos h16]; done) | (rw [thA, if_neg (by decide), if_neg (by rw [h16]; decide)]; rfl) | (rw [thA, if_neg (by rw [h6]; decide), if_neg (by rw [h16]; decide), if_neg hw0, if_neg hw1, if_neg hw2, if_neg hw3, if_neg hw4])
        · first | (intro _ _; rfl) | (intro c hc2; exact dy_far (by omega)) | (intro c hc2; exact iteDy (by omega))
        · first | exact h33 | (rw [dy_far (by decide)]; exact h33) | (rw [iteDy (by decide)]; exact h33)
      by_cases hw2 : w = 2
      · skip
        subst hw2
        refine x_tableIn (off := 55) (tgt := 78) dX8_then_23 (by decide) (by decide) rfl (by decide) ?_
        refine x_aload_n dX8_then_78 rfl ?_
        refine x_getR dX8_then_79 fl_X8_26 (by omega) rfl rfl rfl ?_
        refine x_getR dX8_then_82 fl_X8_151 (by omega) rfl rfl rfl ?_
        refine x_getI dX8_then_85 fl_X8_165 (by omega) rfl rfl ?_
        refine x_iret dX8_then_88 rfl (Nat.le_of_ble_eq_true rfl) (Nat.le_of_ble_eq_true rfl) ?_
        refine zU_of ?_ ?_ ?_
        · first | (rw [thA, if_pos h6]; done) | (rw [thA, if_neg (by rw [h6]; decide), if_pos h16]; done) | (rw [thA, if_neg (by decide), if_neg (by rw [h16]; decide)]; rfl) | (rw [thA, if_neg (by rw [h6]; decide), if_neg (by rw [h16]; decide), if_neg hw0, if_neg hw1, if_neg hw2, if_neg hw3, if_neg hw4])
        · first | (intro _ _; rfl) | (intro c hc2; exact dy_far (by omega)) | (intro c hc2; exact iteDy (by omega))
        · first | exact h33 | (rw [dy_far (by decide)]; exact h33) | (rw [iteDy (by decide)]; exact h33)
      by_cases hw3 : w = 3
      · skip
        subst hw3
        refine x_tableIn (off := 66) (tgt := 89) dX8_then_23 (by decide) (by decide) rfl (by decide) ?_
        refine x_aload_n dX8_then_89 rfl ?_
        refine x_getR dX8_then_90 fl_X8_26 (by omega) rfl rfl rfl ?_
        refine x_getI dX8_then_93 fl_X8_168 (by omega) rfl rfl ?_
        refine x_iret dX8_then_96 rfl (Nat.le_of_ble_eq_true rfl) (Nat.le_of_ble_eq_true rfl) ?_
        refine zU_of ?_ ?_ ?_
        · first | (rw [thA, if_pos h6]; done) | (rw [thA, if_neg (by rw [h6]; decide), if_pos h16]; done) | (rw [thA, if_neg (by decide), if_neg (by rw [h16]; decide)]; rfl) | (rw [thA, if_neg (by rw [h6]; decide), if_neg (by rw [h16]; decide), if_neg hw0, if_neg hw1, if_neg hw2, if_neg hw3, if_neg hw4])
        · first | (intro _ _; rfl) | (intro c hc2; exact dy_far (by omega)) | (intro c hc2; exact iteDy (by omega))
        · first | exact h33 | (rw [dy_far (by decide)]; exact h33) | (rw [iteDy (by decide)]; exact h33)
      by_cases hw4 : w = 4
      · skip
        subst hw4
        refine x_tableIn (off := 74) (tgt := 97) dX8_then_23 (by decide) (by decide) rfl (by decide) ?_
        refine x_aload_n dX8_then_97 rfl ?_
        refine x_getR dX8_then_98 fl_X8_26 (by omega) rfl rfl rfl ?_
        refine x_getI dX8_then_101 fl_X8_171 (by omega) rfl rfl ?_
        refine x_iret dX8_then_104 rfl (Nat.le_of_ble_eq_true rfl) (Nat.le_of_ble_eq_true rfl) ?_
        refine zU_of ?_ ?_ ?_
        · first | (rw [thA, if_pos h6]; done) | (rw [thA, if_neg (by rw [h6]; decide), if_pos h16]; done) | (rw [thA, if_neg (by decide), if_neg (by rw [h16]; decide)]; rfl) | (rw [thA, if_neg (by rw [h6]; decide), if_neg (by rw [h16]; decide), if_neg hw0, if_neg hw1, if_neg hw2, if_neg hw3, if_neg hw4])
        · first | (intro _ _; rfl) | (intro c hc2; exact dy_far (by omega)) | (intro c hc2; exact iteDy (by omega))
        · first | exact h33 | (rw [dy_far (by decide)]; exact h33) | (rw [iteDy (by decide)]; exact h33)
      refine x_tableOut (tgt := 105) dX8_then_23 (by have z1 := zin_t h6; have z2 := Int32.le_iff_toInt_le.mp z1.1; have e0 := zsw_ne hw0; have e1 := zsw_ne hw1; have e2 := zsw_ne hw2; have e3 := zsw_ne hw3; have e4 := zsw_ne hw4; have c0 : (0 : Int32).toInt = 0 := (by decide); have c1 : (1 : Int32).toInt = 1 := (by decide); have c2 : (2 : Int32).toInt = 2 := (by decide); have c3 : (3 : Int32).toInt = 3 := (by decide); have c4 : (4 : Int32).toInt = 4 := (by decide); omega) (by decide) ?_
      refine x_aload_n dX8_then_105 rfl ?_
      refine x_getR dX8_then_106 fl_X8_26 (by omega) rfl rfl rfl ?_
      refine x_getI dX8_then_109 fl_X8_174 (by omega) rfl rfl ?_
      refine x_iret dX8_then_112 rfl (Nat.le_of_ble_eq_true rfl) (Nat.le_of_ble_eq_true rfl) ?_
      refine zU_of ?_ ?_ ?_
      · first | (rw [thA, if_pos h6]; done) | (rw [thA, if_neg (by rw [h6]; decide), if_pos h16]; done) | (rw [thA, if_neg (by decide), if_neg (by rw [h16]; decide)]; rfl) | (rw [thA, if_neg (by rw [h6]; decide), if_neg (by rw [h16]; decide), if_neg hw0, if_neg hw1, if_neg hw2, if_neg hw3, if_neg hw4])
      · first | (intro _ _; rfl) | (intro c hc2; exact dy_far (by omega)) | (intro c hc2; exact iteDy (by omega))
      · first | exact h33 | (rw [dy_far (by decide)]; exact h33) | (rw [iteDy (by decide)]; exact h33)
    · skip
      replace h16 := zb0 h16
      refine x_bipush (v := (-5)) dX8_then_19 (by decide) ?_
      refine x_iret dX8_then_21 rfl (Nat.le_of_ble_eq_true rfl) (Nat.le_of_ble_eq_true rfl) ?_
      refine zU_of ?_ ?_ ?_
      · first | (rw [thA, if_pos h6]; done) | (rw [thA, if_neg (by rw [h6]; decide), if_pos h16]; done) | (rw [thA, if_neg (by decide), if_neg (by rw [h16]; decide)]; rfl) | (rw [thA, if_neg (by rw [h6]; decide), if_neg (by rw [h16]; decide), if_neg hw0, if_neg hw1, if_neg hw2, if_neg hw3, if_neg hw4])
      · first | (intro _ _; rfl) | (intro c hc2; exact dy_far (by omega)) | (intro c hc2; exact iteDy (by omega))
      · first | exact h33 | (rw [dy_far (by decide)]; exact h33) | (rw [iteDy (by decide)]; exact h33)
  · skip
    replace h6 := zb0 h6
    refine x_bipush (v := (-2)) dX8_then_9 (by decide) ?_
    refine x_iret dX8_then_11 rfl (Nat.le_of_ble_eq_true rfl) (Nat.le_of_ble_eq_true rfl) ?_
    refine zU_of ?_ ?_ ?_
    · first | (rw [thA, if_pos h6]; done) | (rw [thA, if_neg (by rw [h6]; decide), if_pos h16]; done) | (rw [thA, if_neg (by decide), if_neg (by rw [h16]; decide)]; rfl) | (rw [thA, if_neg (by rw [h6]; decide), if_neg (by rw [h16]; decide), if_neg hw0, if_neg hw1, if_neg hw2, if_neg hw3, if_neg hw4])
    · first | (intro _ _; rfl) | (intro c hc2; exact dy_far (by omega)) | (intro c hc2; exact iteDy (by omega))
    · first | exact h33 | (rw [dy_far (by decide)]; exact h33) | (rw [iteDy (by decide)]; exact h33)
theorem ct_X8_fitting {g : zG} {N : Nat} {I : zI} {L : zL} {q0 q1 : Option Nat} {a : Int32} (hN : 58 ≤ N) (h33 : I 33 0 = 0) : Ct g yX8_fitting mX8_fitting [.ref (g.2.1 + 0), .int a] N I L (zRw q0 q1) (zU (fiA I a) N I L (zRw q0 q1)) := by
  refine Ct_of (lo0 := [some (.ref (g.2.1 + 0)), some (.int a)]) rfl rfl rfl rfl (Nat.le_of_ble_eq_true rfl) (fun E => ?_)
  refine x_aload_n dX8_fitting_0 rfl ?_
  refine x_getR dX8_fitting_1 fl_X8_10 (by omega) rfl rfl rfl ?_
  refine x_iload_n dX8_fitting_4 rfl ?_
  refine x_callVi dX8_fitting_5 ml_X8_158 mt_X3_isThere mv_X3_isThere (ct_X3_isThere (Or.inl rfl) (by omega)) (by omega) rfl rfl rfl rfl (Nat.le_of_ble_eq_true rfl) ⟨(Nat.le_of_ble_eq_true rfl), (Nat.le_of_ble_eq_true rfl)⟩ ⟨rfl, rfl⟩ ⟨(Nat.le_of_ble_eq_true rfl), (Nat.le_of_ble_eq_true rfl)⟩ ?_
  refine x_if_eq (tgt := 22) dX8_fitting_8 (by decide) (fun h8 => ?_) (fun h8 => ?_)
  · skip
    replace h8 := zb0 h8
    refine x_iconst (v := (-1)) dX8_fitting_22 (by decide) ?_
    refine x_iret dX8_fitting_23 rfl (Nat.le_of_ble_eq_true rfl) (Nat.le_of_ble_eq_true rfl) ?_
    refine zU_of ?_ ?_ ?_
    · first | (rw [fiA, if_neg (by rw [h8]; decide)]; done) | (rw [fiA, if_pos h8, zx_nI (by omega)])
    · intro _ _; rfl
    · exact h33
  · skip
    replace h8 := zb1 h8
    obtain ⟨i, hi, rfl⟩ := zth_ex h8
    refine x_aload_n dX8_fitting_11 rfl ?_
    refine x_getR dX8_fitting_12 fl_X8_10 (by omega) rfl rfl rfl ?_
    refine x_iload_n dX8_fitting_15 rfl ?_
    refine x_callVi dX8_fitting_16 ml_X8_177 mt_X3_holdsThatFit mv_X3_holdsThatFit (ct_X3_holdsThatFit (m := 1) (Or.inl rfl) (by omega) rfl hi) (by omega) rfl rfl rfl rfl (Nat.le_of_ble_eq_true rfl) ⟨(Nat.le_of_ble_eq_true rfl), (Nat.le_of_ble_eq_true rfl)⟩ ⟨rfl, rfl⟩ ⟨(Nat.le_of_ble_eq_true rfl), (Nat.le_of_ble_eq_true rfl)⟩ ?_
    refine x_goto (tgt := 23) dX8_fitting_19 (by decide) ?_
    refine x_iret dX8_fitting_23 rfl (Nat.le_of_ble_eq_true rfl) (Nat.le_of_ble_eq_true rfl) ?_
    refine zU_of ?_ ?_ ?_
    · first | (rw [fiA, if_neg (by rw [h8]; decide)]; done) | (rw [fiA, if_pos h8, zx_nI (by omega)])
    · intro _ _; rfl
    · exact h33
theorem ct_X8_least {g : zG} {N : Nat} {I : zI} {L : zL} {q0 q1 : Option Nat} {a w : Int32} (hN : 58 ≤ N) (h33 : I 33 0 = 0) (hst : ∀ k, k < 6 → I 2 k = nI (zx (I 2 k)) ∧ zx (I 2 k) ≤ 99) (hf : ∀ h, h < 6 → I 5 h = nI (zx (I 5 h)) ∧ 1 ≤ zx (I 5 h) ∧ zx (I 5 h) ≤ 20) (ht : ∀ h, h < 6 → I 6 h = nI (zx (I 6 h)) ∧ zx (I 6 h) ≤ 9) : Ct g yX8_least mX8_least [.ref (g.2.1 + 0), .int a, .int w] N I L (zRw q0 q1) (zU (leA I a w) N I L (zRw q0 q1)) := by
  refine Ct_of (lo0 := [some (.ref (g.2.1 + 0)), some (.int a), some (.int w), none]) rfl rfl rfl rfl (Nat.le_of_ble_eq_true rfl) (fun E => ?_)
  refine x_aload_n dX8_least_0 rfl ?_
  refine x_getR dX8_least_1 fl_X8_10 (by omega) rfl rfl rfl ?_
  refine x_iload_n dX8_least_4 rfl ?_
  refine x_callVi dX8_least_5 ml_X8_158 mt_X3_isThere mv_X3_isThere (ct_X3_isThere (Or.inl rfl) (by omega)) (by omega) rfl rfl rfl rfl (Nat.le_of_ble_eq_true rfl) ⟨(Nat.le_of_ble_eq_true rfl), (Nat.le_of_ble_eq_true rfl)⟩ ⟨rfl, rfl⟩ ⟨(Nat.le_of_ble_eq_true rfl), (Nat.le_of_ble_eq_true rfl)⟩ ?_
  refine x_if_ne (tgt := 13) dX8_least_8 (by decide) (fun h8 => ?_) (fun h8 => ?_)
  · skip
    replace h8 := zb1 h8
    obtain ⟨i, hi, rfl⟩ := zth_ex h8
    have zxi : zx (nI i) = i := zx_nI (by omega)
    refine x_iload_n dX8_least_13 rfl ?_
    refine x_iconst (v := 0) dX8_least_14 (by decide) ?_
    refine x_iconst (v := 1) dX8_least_15 (by decide) ?_
    refine x_callSi dX8_least_16 ml_X8_62 mt_X8_isFrom st_X8_isFrom (ct_X8_isFrom) rfl rfl (Nat.le_of_ble_eq_true rfl) ⟨(Nat.le_of_ble_eq_true rfl), (Nat.le_of_ble_eq_true rfl)⟩ ⟨rfl, rfl⟩ ⟨(Nat.le_of_ble_eq_true rfl), (Nat.le_of_ble_eq_true rfl)⟩ ?_
    refine x_if_ne (tgt := 25) dX8_least_19 (by decide) (fun h19 => ?_) (fun h19 => ?_)
    · skip
      replace h19 := zb1 h19
      refine x_aload_n dX8_least_25 rfl ?_
      refine x_getR dX8_least_26 fl_X8_33 (by omega) rfl rfl rfl ?_
      refine x_aload_n dX8_least_29 rfl ?_
      refine x_getR dX8_least_30 fl_X8_10 (by omega) rfl rfl rfl ?_
      refine x_iload_n dX8_least_33 rfl ?_
      refine x_pc (pc2 := 34) rfl ?_
      refine x_callV1 dX8_least_34 ml_X8_180 mt_X6_priceOf mv_X6_priceOf (ct_X6_priceOf_27 (a := i) (s := zx (I 2 i)) (fo := fun h => zx (I 5 h)) (tk := fun h => zx (I 6 h)) hN hi (hst i hi).1 (hst i hi).2 hf ht) (by omega) rfl rfl rfl rfl (Nat.le_of_ble_eq_true rfl) ⟨(Nat.le_of_ble_eq_true rfl), (Nat.le_of_ble_eq_true rfl)⟩ ⟨rfl, rfl⟩ ⟨(Nat.le_of_ble_eq_true rfl), (Nat.le_of_ble_eq_true rfl)⟩ (fun f => ?_)
      refine x_istore_n (lo2 := [_, _, _, _]) dX8_least_37 (by decide) rfl rfl ?_
      have hprn : prN I i ≤ 1000000000 := pt_le _ _ _ _ _
      rw [show pt_ (fun h => zis (hf_ (I 4) (I 3 i) 6) (nI h)) (fun h => zx (I 5 h)) (fun h => zx (I 6 h)) (zx (I 2 i)) (zx (I 2 i)) = prN I i from rfl]
      refine x_iload_n dX8_least_38 rfl ?_
      refine x_bipush (v := (-6)) dX8_least_39 (by decide) ?_
      refine x_icmp_ne (tgt := 47) dX8_least_41 (by decide) (fun h41 => ?_) (fun h41 => ?_)
      · skip
        have hh0 : ¬ hf_ (I 4) (I 3 i) 6 = 0 := fun q => h41 (if_pos q)
        rw [if_neg hh0]
        refine x_iload_n dX8_least_47 rfl ?_
        refine x_if_ne (tgt := 59) dX8_least_48 (by decide) (fun h48 => ?_) (fun h48 => ?_)
        · skip
          refine x_iload_n dX8_least_59 rfl ?_
          refine x_sipush (v := 1000) dX8_least_60 (by decide) ?_
          refine x_irem dX8_least_63 (by decide) ?_
          refine x_iret dX8_least_64 rfl (Nat.le_of_ble_eq_true rfl) (Nat.le_of_ble_eq_true rfl) ?_
          refine zU_of ?_ ?_ ?_
          · first | (rw [leA, if_pos h8]; done) | (rw [leA, if_neg (by rw [h8]; decide), if_pos h19]; done) | (rw [leA, if_neg (by rw [h8]; decide), if_neg (by rw [h19]; decide), zxi, if_pos hh0]; done) | (rw [leA, if_neg (by rw [h8]; decide), if_neg (by rw [h19]; decide), zxi, if_neg hh0, if_pos h48]; exact zdiv_nI (d := 1000) (e := 1000) rfl (by omega) (by decide) (by decide)) | (rw [leA, if_neg (by rw [h8]; decide), if_neg (by rw [h19]; decide), zxi, if_neg hh0, if_neg h48]; exact zrem_nI (d := 1000) (e := 1000) rfl (by omega) (by decide) (by decide))
          · first | (intro _ _; rfl) | (intro c hc2; exact zrow_ne _ _ (by omega))
          · first | exact h33 | (rw [zrow_ne _ _ (by decide)]; exact h33)
        · skip
          refine x_iload_n dX8_least_51 rfl ?_
          refine x_sipush (v := 1000) dX8_least_52 (by decide) ?_
          refine x_idiv dX8_least_55 (by decide) ?_
          refine x_goto (tgt := 64) dX8_least_56 (by decide) ?_
          refine x_iret dX8_least_64 rfl (Nat.le_of_ble_eq_true rfl) (Nat.le_of_ble_eq_true rfl) ?_
          refine zU_of ?_ ?_ ?_
          · first | (rw [leA, if_pos h8]; done) | (rw [leA, if_neg (by rw [h8]; decide), if_pos h19]; done) | (rw [leA, if_neg (by rw [h8]; decide), if_neg (by rw [h19]; decide), zxi, if_pos hh0]; done) | (rw [leA, if_neg (by rw [h8]; decide), if_neg (by rw [h19]; decide), zxi, if_neg hh0, if_pos h48]; exact zdiv_nI (d := 1000) (e := 1000) rfl (by omega) (by decide) (by decide)) | (rw [leA, if_neg (by rw [h8]; decide), if_neg (by rw [h19]; decide), zxi, if_neg hh0, if_neg h48]; exact zrem_nI (d := 1000) (e := 1000) rfl (by omega) (by decide) (by decide))
          · first | (intro _ _; rfl) | (intro c hc2; exact zrow_ne _ _ (by omega))
          · first | exact h33 | (rw [zrow_ne _ _ (by decide)]; exact h33)
      · skip
        have hh0 : hf_ (I 4) (I 3 i) 6 = 0 := by
          by_cases q : hf_ (I 4) (I 3 i) 6 = 0
          · exact q
          · rw [if_neg q] at h41; exact absurd h41 (nI_n6 (by omega))
        refine x_bipush (v := (-6)) dX8_least_44 (by decide) ?_
        refine x_iret dX8_least_46 rfl (Nat.le_of_ble_eq_true rfl) (Nat.le_of_ble_eq_true rfl) ?_
        refine zU_of ?_ ?_ ?_
        · first | (rw [leA, if_pos h8]; done) | (rw [leA, if_neg (by rw [h8]; decide), if_pos h19]; done) | (rw [leA, if_neg (by rw [h8]; decide), if_neg (by rw [h19]; decide), zxi, if_pos hh0]; done) | (rw [leA, if_neg (by rw [h8]; decide), if_neg (by rw [h19]; decide), zxi, if_neg hh0, if_pos h48]; exact zdiv_nI (d := 1000) (e := 1000) rfl (by omega) (by decide) (by decide)) | (rw [leA, if_neg (by rw [h8]; decide), if_neg (by rw [h19]; decide), zxi, if_neg hh0, if_neg h48]; exact zrem_nI (d := 1000) (e := 1000) rfl (by omega) (by decide) (by decide))
        · first | (intro _ _; rfl) | (intro c hc2; exact zrow_ne _ _ (by omega))
        · first | exact h33 | (rw [zrow_ne _ _ (by decide)]; exact h33)
    · skip
      replace h19 := zb0 h19
      refine x_bipush (v := (-2)) dX8_least_22 (by decide) ?_
      refine x_iret dX8_least_24 rfl (Nat.le_of_ble_eq_true rfl) (Nat.le_of_ble_eq_true rfl) ?_
      refine zU_of ?_ ?_ ?_
      · first | (rw [leA, if_pos h8]; done) | (rw [leA, if_neg (by rw [h8]; decide), if_pos h19]; done) | (rw [leA, if_neg (by rw [h8]; decide), if_neg (by rw [h19]; decide), zxi, if_pos hh0]; done) | (rw [leA, if_neg (by rw [h8]; decide), if_neg (by rw [h19]; decide), zxi, if_neg hh0, if_pos h48]; exact zdiv_nI (d := 1000) (e := 1000) rfl (by omega) (by decide) (by decide)) | (rw [leA, if_neg (by rw [h8]; decide), if_neg (by rw [h19]; decide), zxi, if_neg hh0, if_neg h48]; exact zrem_nI (d := 1000) (e := 1000) rfl (by omega) (by decide) (by decide))
      · first | (intro _ _; rfl) | (intro c hc2; exact zrow_ne _ _ (by omega))
      · first | exact h33 | (rw [zrow_ne _ _ (by decide)]; exact h33)
  · skip
    replace h8 := zb0 h8
    refine x_iconst (v := (-1)) dX8_least_11 (by decide) ?_
    refine x_iret dX8_least_12 rfl (Nat.le_of_ble_eq_true rfl) (Nat.le_of_ble_eq_true rfl) ?_
    refine zU_of ?_ ?_ ?_
    · first | (rw [leA, if_pos h8]; done) | (rw [leA, if_neg (by rw [h8]; decide), if_pos h19]; done) | (rw [leA, if_neg (by rw [h8]; decide), if_neg (by rw [h19]; decide), zxi, if_pos hh0]; done) | (rw [leA, if_neg (by rw [h8]; decide), if_neg (by rw [h19]; decide), zxi, if_neg hh0, if_pos h48]; exact zdiv_nI (d := 1000) (e := 1000) rfl (by omega) (by decide) (by decide)) | (rw [leA, if_neg (by rw [h8]; decide), if_neg (by rw [h19]; decide), zxi, if_neg hh0, if_neg h48]; exact zrem_nI (d := 1000) (e := 1000) rfl (by omega) (by decide) (by decide))
    · first | (intro _ _; rfl) | (intro c hc2; exact zrow_ne _ _ (by omega))
    · first | exact h33 | (rw [zrow_ne _ _ (by decide)]; exact h33)
