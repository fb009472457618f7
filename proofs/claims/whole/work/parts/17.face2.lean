theorem BT_0 {st hr : Nat → Nat} : ∀ i, BT_ st hr i 0 = 0
  | 0 => rfl
  | i + 1 => by
    simp only [BT_]
    split
    · rename_i e; rw [if_pos e.symm]
    · exact BT_0 i
theorem zin_ex1 {x : Int32} {a b : Nat} (ha : a < 2 ^ 30) (hb : b < 2 ^ 30) (h : zin x (nI a) (nI b) = true) : ∃ i : Nat, a ≤ i ∧ i < b + 1 ∧ x = nI i := by
  obtain ⟨h1, h2⟩ := zin_t h
  have h0 : (0 : Int32) ≤ nI a := by rw [show (0 : Int32) = nI 0 from rfl, nI_leI (by omega) (by omega)]; omega
  obtain ⟨j, hj, rfl⟩ := nI_of (Int32.not_lt.mpr (Int32.le_trans h0 h1))
  exact ⟨j, (nI_leI (by omega) hj).mp h1, by have := (nI_leI hj (by omega)).mp h2; omega, rfl⟩
theorem zin_sub {x : Int32} {a b : Nat} (ha : a < 2 ^ 30) (hb : b < 2 ^ 30) (h : zin x (nI a) (nI b) = true) : ∃ i : Nat, i < b - a + 1 ∧ x - nI a = nI i := by
  obtain ⟨i, h1, h2, rfl⟩ := zin_ex1 ha hb h
  exact ⟨i - a, by omega, pk_sub h1⟩
/-- the k-th of the shapes that are left -/
def sel (p : Nat → Bool) (k : Nat) : Nat → Option Nat
  | 0 => none
  | s + 1 => match sel p k s with
    | some x => some x
    | none => if p s = true ∧ cn_ p s = k then some s else none
theorem sel_ex {p : Nat → Bool} {k : Nat} : ∀ {n : Nat}, k < cn_ p n → ∃ s, s < n ∧ p s = true ∧ cn_ p s = k ∧ sel p k n = some s
  | 0, h => by simp [cn_] at h
  | n + 1, h => by
    by_cases q : k < cn_ p n
    · obtain ⟨s, h1, h2, h3, h4⟩ := sel_ex q
      exact ⟨s, by omega, h2, h3, by simp [sel, h4]⟩
    · have hp : p n = true := by
        cases e : p n with
        | true => rfl
        | false => simp [cn_, e] at h; omega
      have hk : cn_ p n = k := by simp [cn_, hp] at h; omega
      have hno : sel p k n = none := by
        have key : ∀ m, m ≤ n → sel p k m = none := by
          intro m
          induction m with
          | zero => intro _; rfl
          | succ m ih =>
            intro hm
            simp only [sel, ih (by omega)]
            rw [if_neg]
            rintro ⟨z1, z2⟩
            have := cn_lt (p := p) (i := m) (j := n) (by omega) z1
            omega
        exact key n (Nat.le_refl n)
      exact ⟨n, by omega, hp, hk, by simp [sel, hno, hp, hk]⟩
theorem ml_cn {p : Nat → Bool} {f : Nat → Int32} {gr : Int32} {n : Nat} (h : ∀ s, s < n → p s = true → f (cn_ p s) = nI s) : ∀ i, i ≤ n → ml_ f gr (cn_ p i) = cn_ (fun s => p s && zwi gr (nI s)) i
  | 0, _ => rfl
  | i + 1, hi => by
    have ih := ml_cn (gr := gr) h i (by omega)
    by_cases e : p i = true
    · simp [cn_, e, ml_, ih, h i (by omega) e]
    · simp [cn_, e, ih]
def mxN (p : Nat → Bool) (gr : Int32) : Nat := max (cn_ (fun s => p s && zwi gr (nI s)) 256) (cn_ p 256 - cn_ (fun s => p s && zwi gr (nI s)) 256)
def bhN (p : Nat → Bool) (gr : Nat → Int32) : Nat → Nat
  | 0 => 0
  | h + 1 => if mxN p (gr (h + 1)) < mxN p (gr (bhN p gr h)) then h + 1 else bhN p gr h
theorem mx_N {p : Nat → Bool} {f : Nat → Int32} {gr : Int32} (h : ∀ s, s < 256 → p s = true → f (cn_ p s) = nI s) : mx_ f (cn_ p 256) gr = mxN p gr := by
  unfold mx_ mxN
  rw [ml_cn h 256 (Nat.le_refl _)]
theorem bh_N {p : Nat → Bool} {f : Nat → Int32} {gr : Nat → Int32} (h : ∀ s, s < 256 → p s = true → f (cn_ p s) = nI s) : ∀ i, bh_ f (cn_ p 256) gr i = bhN p gr i
  | 0 => rfl
  | i + 1 => by simp only [bh_, bhN, bh_N h i, mx_N h]
theorem bhN_le (p : Nat → Bool) (gr : Nat → Int32) : ∀ h, bhN p gr h ≤ h
  | 0 => Nat.le_refl _
  | h + 1 => by
    have := bhN_le p gr h
    simp only [bhN]
    split <;> omega
def shA (I : zI) (n : Nat) (i : Int32) : Int32 := if i = -1 then nI (cn_ (shp I n) 256) else if zin i 0 (nI (cn_ (shp I n) 256) - 1) = true then zo (sel (shp I n) (zx i) 256) else -6
def asA (I : zI) (n : Nat) (w : Int32) : Int32 := if zin w 0 1 = false then -2 else if cn_ (shp I n) 256 = 0 then -6 else if w = 0 then nI (bhN (shp I n) (I 4) 5) else nI (mxN (shp I n) (I 4 (bhN (shp I n) (I 4) 5)))
def mud (I : zI) : zWM := rs_ (I 9) (wm0 I 10) 10
def plA (I : zI) (a w : Int32) : Int32 := if zin a 0 9 = false then -1 else if zin w 0 2 = false then -2 else if w = 0 then (mud I).1 (zx a) else if w = 1 then (mud I).2 (zx a) else if (mud I).1 (zx a) = 1 then zo (l2_ (mud I).1 (mud I).2 (I 9 (zx a)) 0 ((mud I).2 (zx a)) 10) else -6
def yeY (I : zI) (s m : Nat) : zI := yI_ s (zbec I 15 1) m
def yeA (I : zI) (s m w : Int32) : Int32 := if zin s 0 9999 = false ∨ zin m 1 99 = false ∨ zin w 0 2 = false then -2 else if w = 0 then bc (gt_ (yeY I (zx s) (zx m) 16) 6) else if w = 1 then yeY I (zx s) (zx m) 15 11 else so_ (yeY I (zx s) (zx m) 16) (gt_ (yeY I (zx s) (zx m) 16) 6) 6
def tgA (I : zI) (a p : Int32) : Int32 := if zth (I 2) a = true ∧ zin p 0 1 = true then (if p = 0 then I 2 (zx a) else I 3 (zx a)) else -2
/-- THEMSELVES -/
def cw_ (n k : Nat) : Nat → Nat
  | 0 => 1
  | i + 1 => cw_ n k i * (n - k + (i + 1)) / (i + 1)
theorem cw_le : ∀ n, n < 18 → ∀ k, k < 18 → ∀ i, i < 18 → cw_ n k i * 100 < 2 ^ 40 := by decide +kernel
def rl_ (u l : Nat) : Nat → Nat × Nat
  | 0 => (u, l)
  | i + 1 =>
    let q := if (rl_ u l i).1 % 2 = 0 ∧ (rl_ u l i).2 % 2 = 0 then ((rl_ u l i).1 / 2, (rl_ u l i).2 / 2) else rl_ u l i
    if q.1 % 5 = 0 ∧ q.2 % 5 = 0 then (q.1 / 5, q.2 / 5) else q
def rh_ (q : Nat × Nat) : Nat × Nat := if q.1 % 2 = 0 ∧ q.2 % 2 = 0 then (q.1 / 2, q.2 / 2) else q
theorem rl_le (u l : Nat) : ∀ i, (rl_ u l i).1 ≤ u ∧ (rl_ u l i).2 ≤ l
  | 0 => ⟨Nat.le_refl _, Nat.le_refl _⟩
  | i + 1 => by
    obtain ⟨h1, h2⟩ := rl_le u l i
    have d2 := Nat.div_le_self (rl_ u l i).1 2
    have e2 := Nat.div_le_self (rl_ u l i).2 2
    have d5 := Nat.div_le_self (rl_ u l i).1 5
    have e5 := Nat.div_le_self (rl_ u l i).2 5
    have f5 := Nat.div_le_self ((rl_ u l i).1 / 2) 5
    have g5 := Nat.div_le_self ((rl_ u l i).2 / 2) 5
    simp only [rl_]
    split <;> split <;> (constructor <;> (try dsimp only) <;> omega)
def upN (n t k : Nat) : Nat := cw_ n k k * t ^ k * (10 - t) ^ (n - k)
theorem upN_lt : ∀ n, n < 18 → ∀ t, t < 11 → ∀ k, k < n + 1 → upN n t k < 2 ^ 62 := by decide +kernel
def teA (n t k p : Int32) : Int64 := if zin n 0 17 = false ∨ zin t 0 10 = false ∨ zin k 0 n = false ∨ zin p 0 1 = false then -1000000000000000002 else if p = 0 then lN (rl_ (upN (zx n) (zx t) (zx k)) (10 ^ zx n) (zx n)).1 else lN (rl_ (upN (zx n) (zx t) (zx k)) (10 ^ zx n) (zx n)).2
theorem lg_0 {a : Nat} (h : a < 2 ^ 63) : lg_cmp (lN a) 0 = 0 ↔ a = 0 := by
  have e : lN a = 0 ↔ a = 0 := pk_lEQ (b := 0) h (by decide)
  unfold lg_cmp
  by_cases q : a = 0
  · subst q
    rw [if_neg (by decide), if_pos (by decide)]
    simp
  · have h0 : (0 : Int64) < lN a := (pk_lLT (a := 0) (by decide) h).mpr (by omega)
    rw [if_pos h0]
    simp [q]
theorem lr_N {a d : Nat} {e : Int64} (he : e = lN d) (ha : a < 2 ^ 63) (h0 : 0 < d) (hd : d < 2 ^ 63) : lN a - lN a / e * e = lN (a % d) := by subst he; exact pk_lRem ha h0 hd
theorem ld_N {a d : Nat} {e : Int64} (he : e = lN d) (ha : a < 2 ^ 63) (h0 : 0 < d) (hd : d < 2 ^ 63) : lN a / e = lN (a / d) := by subst he; exact pk_lDiv ha h0 hd
theorem shape_at {p : Nat → Bool} {f : Nat → Int32} {j : Int32} (h : ∀ s, s < 256 → p s = true → f (cn_ p s) = nI s) : (if zin j 0 (nI (cn_ p 256) - 1) = true then f (zx j) else -6) = if zin j 0 (nI (cn_ p 256) - 1) = true then zo (sel p (zx j) 256) else -6 := by
  by_cases q : zin j 0 (nI (cn_ p 256) - 1) = true
  · rw [if_pos q, if_pos q]
    have hc := cn_le p 256
    have hc1 : 1 ≤ cn_ p 256 := by
      rcases Nat.eq_zero_or_pos (cn_ p 256) with z | z
      · rw [z] at q
        obtain ⟨z1, z2⟩ := zin_t q
        exact absurd (Int32.le_trans z1 z2) (by decide)
      · exact z
    obtain ⟨k, hk, rfl⟩ := zin_ex (b := cn_ p 256 - 1) (by omega) (by rw [← pk_sub (b := 1) hc1]; exact q)
    rw [zx_nI (by omega)]
    obtain ⟨s, h1, h2, h3, h4⟩ := sel_ex (p := p) (k := k) (n := 256) (by omega)
    rw [h4, ← h3, h s h1 h2]
    rfl
  · rw [if_neg q, if_neg q]

theorem ct_X8_order {g : zG} {N : Nat} {I : zI} {L : zL} {q0 q1 : Option Nat} {w : Int32} (hN : 58 ≤ N) (h33 : I 33 0 = 0) (hst : ∀ k, k < 6 → I 2 k = nI (zx (I 2 k)) ∧ zx (I 2 k) ≤ 99) (hf : ∀ h, h < 6 → I 5 h = nI (zx (I 5 h)) ∧ 1 ≤ zx (I 5 h) ∧ zx (I 5 h) ≤ 20) (ht : ∀ h, h < 6 → I 6 h = nI (zx (I 6 h)) ∧ zx (I 6 h) ≤ 9) : Ct g yX8_order mX8_order [.ref (g.2.1 + 0), .int w] N I L (zRw q0 q1) (zU (orA I w) N I L (zRw q0 q1)) := by
  refine Ct_of (lo0 := [some (.ref (g.2.1 + 0)), some (.int w)]) rfl rfl rfl rfl (Nat.le_of_ble_eq_true rfl) (fun E => ?_)
  refine x_iload_n dX8_order_0 rfl ?_
  refine x_iconst (v := 0) dX8_order_1 (by decide) ?_
  refine x_iconst (v := 1) dX8_order_2 (by decide) ?_
  refine x_callSi dX8_order_3 ml_X8_62 mt_X8_isFrom st_X8_isFrom (ct_X8_isFrom) rfl rfl (Nat.le_of_ble_eq_true rfl) ⟨(Nat.le_of_ble_eq_true rfl), (Nat.le_of_ble_eq_true rfl)⟩ ⟨rfl, rfl⟩ ⟨(Nat.le_of_ble_eq_true rfl), (Nat.le_of_ble_eq_true rfl)⟩ ?_
  refine x_if_ne (tgt := 12) dX8_order_6 (by decide) (fun h6 => ?_) (fun h6 => ?_)
  · skip
    replace h6 := zb1 h6
    refine x_aload_n dX8_order_12 rfl ?_
    refine x_getR dX8_order_13 fl_X8_40 (by omega) rfl rfl rfl ?_
    refine x_aload_n dX8_order_16 rfl ?_
    refine x_getR dX8_order_17 fl_X8_10 (by omega) rfl rfl rfl ?_
    refine x_callVr dX8_order_20 ml_X8_184 mt_X4_work mv_X4_work (ct_X4_work (st := (fun a => zx (I 2 a))) (fo := fun h => zx (I 5 h)) (tk := fun h => zx (I 6 h)) hN (fun k hk => (hst k hk).1) (fun k hk => (hst k hk).2) hf ht h33) (by omega) rfl rfl rfl rfl (Nat.le_of_ble_eq_true rfl) ⟨(Nat.le_of_ble_eq_true rfl), (Nat.le_of_ble_eq_true rfl)⟩ ⟨rfl, rfl⟩ ⟨(Nat.le_of_ble_eq_true rfl), (Nat.le_of_ble_eq_true rfl)⟩ (fun W hW => ?_)
    obtain ⟨w1, w2, w3, w4⟩ : (∀ c, c ≠ 29 → c ≠ 31 → c ≠ 32 → c ≠ 33 → W c = I c) ∧ W 29 3 = nI (tsN I) ∧ (∀ a, a < 6 → tkN I a = true → W 32 a = nI (hrN I a)) ∧ (∀ k, k ≤ tsN I → k &&& tsN I = k → W 33 k = nI (BN I k)) := hW
    have hts : tsN I < 64 := ts_lt _ 6
    refine x_pc (pc2 := 23) rfl ?_
    refine x_iload_n dX8_order_23 rfl ?_
    refine x_if_ne (tgt := 37) dX8_order_24 (by decide) (fun h24 => ?_) (fun h24 => ?_)
    · skip
      refine x_aload_n dX8_order_37 rfl ?_
      refine x_getR dX8_order_38 fl_X8_40 (by omega) rfl rfl rfl ?_
      refine x_aload_n dX8_order_41 rfl ?_
      refine x_getR dX8_order_42 fl_X8_10 (by omega) rfl rfl rfl ?_
      refine x_callVi dX8_order_45 ml_X8_190 mt_X4_firstTaken mv_X4_firstTaken (ct_X4_firstTaken (t := tsN I) (v := BN I (tsN I)) (st := (fun a => zx (I 2 a))) (hr := hrN I) (B := BN I) hN w2 hts (fun k hk => by rw [w1 2 (by decide) (by decide) (by decide) (by decide)]; exact (hst k hk).1) (fun k hk => (hst k hk).2) (w4 _ (Nat.le_refl _) (Nat.and_self _)) (BT_le _ _ _ _) (fun h hh hb => ⟨w3 h hh (by unfold tsN at hb; rw [ts_bit] at hb; simpa [hh] using hb), by have := Nat.mod_lt (prN I h) (show 0 < 1000 by decide); unfold hrN; omega⟩) (fun h hh hb => ⟨w4 _ (Nat.sub_le _ _) (zsubs hts hts (Nat.and_self _) hh hb).1, BT_le _ _ _ _⟩)) (by omega) rfl rfl rfl rfl (Nat.le_of_ble_eq_true rfl) ⟨(Nat.le_of_ble_eq_true rfl), (Nat.le_of_ble_eq_true rfl)⟩ ⟨rfl, rfl⟩ ⟨(Nat.le_of_ble_eq_true rfl), (Nat.le_of_ble_eq_true rfl)⟩ ?_
      refine x_pc (pc2 := 48) rfl ?_
      refine x_iret dX8_order_48 rfl (Nat.le_of_ble_eq_true rfl) (Nat.le_of_ble_eq_true rfl) ?_
      refine zU_of ?_ ?_ ?_
      · first | (rw [orA, if_pos h6]; done) | (rw [orA, if_neg (by rw [h6]; decide), if_pos h24]; exact w4 _ (Nat.le_refl _) (Nat.and_self _)) | (rw [orA, if_neg (by rw [h6]; decide), if_neg h24])
      · first | (intro _ _; rfl) | (intro c hc2; exact w1 c (by omega) (by omega) (by omega) (by omega))
      · first | exact h33 | (rw [w4 0 (Nat.zero_le _) (Nat.zero_and _)]; unfold BN; rw [BT_0]; rfl)
    · skip
      refine x_aload_n dX8_order_27 rfl ?_
      refine x_getR dX8_order_28 fl_X8_40 (by omega) rfl rfl rfl ?_
      refine x_callVi dX8_order_31 ml_X8_187 mt_X4_leastBorne mv_X4_leastBorne (ct_X4_leastBorne hN w2 hts) (by omega) rfl rfl rfl rfl (Nat.le_of_ble_eq_true rfl) ⟨(Nat.le_of_ble_eq_true rfl), (Nat.le_of_ble_eq_true rfl)⟩ ⟨rfl, rfl⟩ ⟨(Nat.le_of_ble_eq_true rfl), (Nat.le_of_ble_eq_true rfl)⟩ ?_
      refine x_goto (tgt := 48) dX8_order_34 (by decide) ?_
      refine x_iret dX8_order_48 rfl (Nat.le_of_ble_eq_true rfl) (Nat.le_of_ble_eq_true rfl) ?_
      refine zU_of ?_ ?_ ?_
      · first | (rw [orA, if_pos h6]; done) | (rw [orA, if_neg (by rw [h6]; decide), if_pos h24]; exact w4 _ (Nat.le_refl _) (Nat.and_self _)) | (rw [orA, if_neg (by rw [h6]; decide), if_neg h24])
      · first | (intro _ _; rfl) | (intro c hc2; exact w1 c (by omega) (by omega) (by omega) (by omega))
      · first | exact h33 | (rw [w4 0 (Nat.zero_le _) (Nat.zero_and _)]; unfold BN; rw [BT_0]; rfl)
  · skip
    replace h6 := zb0 h6
    refine x_bipush (v := (-2)) dX8_order_9 (by decide) ?_
    refine x_iret dX8_order_11 rfl (Nat.le_of_ble_eq_true rfl) (Nat.le_of_ble_eq_true rfl) ?_
    refine zU_of ?_ ?_ ?_
    · first | (rw [orA, if_pos h6]; done) | (rw [orA, if_neg (by rw [h6]; decide), if_pos h24]; exact w4 _ (Nat.le_refl _) (Nat.and_self _)) | (rw [orA, if_neg (by rw [h6]; decide), if_neg h24])
    · first | (intro _ _; rfl) | (intro c hc2; exact w1 c (by omega) (by omega) (by omega) (by omega))
    · first | exact h33 | (rw [w4 0 (Nat.zero_le _) (Nat.zero_and _)]; unfold BN; rw [BT_0]; rfl)
theorem ct_X8_make {g : zG} {N : Nat} {I : zI} {L : zL} {q0 q1 : Option Nat} {mk w : Int32} (hN : 58 ≤ N) (h33 : I 33 0 = 0) : Ct g yX8_make mX8_make [.ref (g.2.1 + 0), .int mk, .int w] N I L (zRw q0 q1) (zU (maA I mk w) N I L (zRw q0 q1)) := by
  refine Ct_of (lo0 := [some (.ref (g.2.1 + 0)), some (.int mk), some (.int w), none]) rfl rfl rfl rfl (Nat.le_of_ble_eq_true rfl) (fun E => ?_)
  refine x_iload_n dX8_make_0 rfl ?_
  refine x_callSi dX8_make_1 ml_X8_66 mt_X8_isSetOfMarks st_X8_isSetOfMarks (ct_X8_isSetOfMarks) rfl rfl (Nat.le_of_ble_eq_true rfl) ⟨(Nat.le_of_ble_eq_true rfl), (Nat.le_of_ble_eq_true rfl)⟩ ⟨rfl, rfl⟩ ⟨(Nat.le_of_ble_eq_true rfl), (Nat.le_of_ble_eq_true rfl)⟩ ?_
  refine x_if_eq (tgt := 16) dX8_make_4 (by decide) (fun h4 => ?_) (fun h4 => ?_)
  · skip
    replace h4 := zb0 h4
    refine x_bipush (v := (-2)) dX8_make_16 (by decide) ?_
    refine x_iret dX8_make_18 rfl (Nat.le_of_ble_eq_true rfl) (Nat.le_of_ble_eq_true rfl) ?_
    refine zU_of ?_ ?_ ?_
    · first | (simp [maA, h4]; done) | (rw [maA, if_neg (by rw [h4, h13]; simp), if_pos (Or.inr h36)])
    · intro _ _; rfl
    · exact h33
  · skip
    replace h4 := zb1 h4
    refine x_iload_n dX8_make_7 rfl ?_
    refine x_iconst (v := 0) dX8_make_8 (by decide) ?_
    refine x_iconst (v := 1) dX8_make_9 (by decide) ?_
    refine x_callSi dX8_make_10 ml_X8_62 mt_X8_isFrom st_X8_isFrom (ct_X8_isFrom) rfl rfl (Nat.le_of_ble_eq_true rfl) ⟨(Nat.le_of_ble_eq_true rfl), (Nat.le_of_ble_eq_true rfl)⟩ ⟨rfl, rfl⟩ ⟨(Nat.le_of_ble_eq_true rfl), (Nat.le_of_ble_eq_true rfl)⟩ ?_
    refine x_if_ne (tgt := 19) dX8_make_13 (by decide) (fun h13 => ?_) (fun h13 => ?_)
    · skip
      replace h13 := zb1 h13
      refine x_aload_n dX8_make_19 rfl ?_
      refine x_getR dX8_make_20 fl_X8_10 (by omega) rfl rfl rfl ?_
      refine x_iload_n dX8_make_23 rfl ?_
      refine x_callVi dX8_make_24 ml_X8_194 mt_X3_leastSetWith mv_X3_leastSetWith (ct_X3_leastSetWith (Or.inl rfl) (by omega)) (by omega) rfl rfl rfl rfl (Nat.le_of_ble_eq_true rfl) ⟨(Nat.le_of_ble_eq_true rfl), (Nat.le_of_ble_eq_true rfl)⟩ ⟨rfl, rfl⟩ ⟨(Nat.le_of_ble_eq_true rfl), (Nat.le_of_ble_eq_true rfl)⟩ ?_
      refine x_istore_n (lo2 := [_, _, _, _]) dX8_make_27 (by decide) rfl rfl ?_
      refine x_pc (pc2 := 28) rfl ?_
      refine x_iload_n dX8_make_28 rfl ?_
      refine x_bipush (v := (-6)) dX8_make_29 (by decide) ?_
      refine x_icmp_eq (tgt := 39) dX8_make_31 (by decide) (fun h31 => ?_) (fun h31 => ?_)
      · skip
        refine x_iload_n dX8_make_39 rfl ?_
        refine x_goto (tgt := 51) dX8_make_40 (by decide) ?_
        refine x_iret dX8_make_51 rfl (Nat.le_of_ble_eq_true rfl) (Nat.le_of_ble_eq_true rfl) ?_
        refine zU_of ?_ ?_ ?_
        · first | (simp [maA, h4, h13, h31]; done) | (rw [maA, if_neg (by rw [h4, h13]; simp), if_pos (Or.inr h36)])
        · intro _ _; rfl
        · exact h33
      · skip
        refine x_iload_n dX8_make_34 rfl ?_
        refine x_iconst (v := 1) dX8_make_35 (by decide) ?_
        refine x_icmp_ne (tgt := 43) dX8_make_36 (by decide) (fun h36 => ?_) (fun h36 => ?_)
        · skip
          refine x_aload_n dX8_make_43 rfl ?_
          refine x_getR dX8_make_44 fl_X8_10 (by omega) rfl rfl rfl ?_
          refine x_iload_n dX8_make_47 rfl ?_
          refine x_callVi dX8_make_48 ml_X8_197 mt_X3_strengthOf mv_X3_strengthOf (ct_X3_strengthOf (Or.inl rfl) (by omega)) (by omega) rfl rfl rfl rfl (Nat.le_of_ble_eq_true rfl) ⟨(Nat.le_of_ble_eq_true rfl), (Nat.le_of_ble_eq_true rfl)⟩ ⟨rfl, rfl⟩ ⟨(Nat.le_of_ble_eq_true rfl), (Nat.le_of_ble_eq_true rfl)⟩ ?_
          refine x_iret dX8_make_51 rfl (Nat.le_of_ble_eq_true rfl) (Nat.le_of_ble_eq_true rfl) ?_
          refine zU_of ?_ ?_ ?_
          · first | (simp [maA, h4, h13, h31, h36]; done) | (rw [maA, if_neg (by rw [h4, h13]; simp), if_pos (Or.inr h36)])
          · intro _ _; rfl
          · exact h33
        · skip
          refine x_iload_n dX8_make_39 rfl ?_
          refine x_goto (tgt := 51) dX8_make_40 (by decide) ?_
          refine x_iret dX8_make_51 rfl (Nat.le_of_ble_eq_true rfl) (Nat.le_of_ble_eq_true rfl) ?_
          refine zU_of ?_ ?_ ?_
          · first | (simp [maA, h4, h13, h31, h36]; done) | (rw [maA, if_neg (by rw [h4, h13]; simp), if_pos (Or.inr h36)])
          · intro _ _; rfl
          · exact h33
    · skip
      replace h13 := zb0 h13
      refine x_bipush (v := (-2)) dX8_make_16 (by decide) ?_
      refine x_iret dX8_make_18 rfl (Nat.le_of_ble_eq_true rfl) (Nat.le_of_ble_eq_true rfl) ?_
      refine zU_of ?_ ?_ ?_
      · first | (simp [maA, h4, h13]; done) | (rw [maA, if_neg (by rw [h4, h13]; simp), if_pos (Or.inr h36)])
      · intro _ _; rfl
      · exact h33
theorem ct_X8_ring {g : zG} {N : Nat} {I : zI} {L : zL} {q0 q1 : Option Nat} {a b w : Int32} (hN : 58 ≤ N) (h33 : I 33 0 = 0) : Ct g yX8_ring mX8_ring [.ref (g.2.1 + 0), .int a, .int b, .int w] N I L (zRw q0 q1) (zU (riA I a b w) N I L (zRw q0 q1)) := by
  refine Ct_of (lo0 := [some (.ref (g.2.1 + 0)), some (.int a), some (.int b), some (.int w), none]) rfl rfl rfl rfl (Nat.le_of_ble_eq_true rfl) (fun E => ?_)
  refine x_iload_n dX8_ring_0 rfl ?_
  refine x_iload_n dX8_ring_1 rfl ?_
  refine x_callSi dX8_ring_2 ml_X8_106 mt_X8_areHours st_X8_areHours (ct_X8_areHours) rfl rfl (Nat.le_of_ble_eq_true rfl) ⟨(Nat.le_of_ble_eq_true rfl), (Nat.le_of_ble_eq_true rfl)⟩ ⟨rfl, rfl⟩ ⟨(Nat.le_of_ble_eq_true rfl), (Nat.le_of_ble_eq_true rfl)⟩ ?_
  refine x_if_eq (tgt := 17) dX8_ring_5 (by decide) (fun h5 => ?_) (fun h5 => ?_)
  · skip
    replace h5 := zb0 h5
    refine x_bipush (v := (-2)) dX8_ring_17 (by decide) ?_
    refine x_iret dX8_ring_19 rfl (Nat.le_of_ble_eq_true rfl) (Nat.le_of_ble_eq_true rfl) ?_
    refine zU_of ?_ ?_ ?_
    · first | (simp only [riA, h5]; simp; done) | (rw [riA, if_neg (by rw [h5, h14]; simp), if_pos (Or.inr h43)])
    · intro _ _; rfl
    · exact h33
  · skip
    replace h5 := zb1 h5
    refine x_iload_n dX8_ring_8 rfl ?_
    refine x_iconst (v := 0) dX8_ring_9 (by decide) ?_
    refine x_iconst (v := 1) dX8_ring_10 (by decide) ?_
    refine x_callSi dX8_ring_11 ml_X8_62 mt_X8_isFrom st_X8_isFrom (ct_X8_isFrom) rfl rfl (Nat.le_of_ble_eq_true rfl) ⟨(Nat.le_of_ble_eq_true rfl), (Nat.le_of_ble_eq_true rfl)⟩ ⟨rfl, rfl⟩ ⟨(Nat.le_of_ble_eq_true rfl), (Nat.le_of_ble_eq_true rfl)⟩ ?_
    refine x_if_ne (tgt := 20) dX8_ring_14 (by decide) (fun h14 => ?_) (fun h14 => ?_)
    · skip
      replace h14 := zb1 h14
      refine x_aload_n dX8_ring_20 rfl ?_
      refine x_getR dX8_ring_21 fl_X8_10 (by omega) rfl rfl rfl ?_
      refine x_iload_n dX8_ring_24 rfl ?_
      refine x_iload_n dX8_ring_25 rfl ?_
      refine x_callSi dX8_ring_26 ml_X8_200 mt_X8_hoursFrom st_X8_hoursFrom (ct_X8_hoursFrom) rfl rfl (Nat.le_of_ble_eq_true rfl) ⟨(Nat.le_of_ble_eq_true rfl), (Nat.le_of_ble_eq_true rfl)⟩ ⟨rfl, rfl⟩ ⟨(Nat.le_of_ble_eq_true rfl), (Nat.le_of_ble_eq_true rfl)⟩ ?_
      refine x_pc (pc2 := 29) rfl ?_
      refine x_callVi dX8_ring_29 ml_X8_203 mt_X3_fewestCoatsFor mv_X3_fewestCoatsFor (ct_X3_fewestCoatsFor (Or.inl rfl) (by omega)) (by omega) rfl rfl rfl rfl (Nat.le_of_ble_eq_true rfl) ⟨(Nat.le_of_ble_eq_true rfl), (Nat.le_of_ble_eq_true rfl)⟩ ⟨rfl, rfl⟩ ⟨(Nat.le_of_ble_eq_true rfl), (Nat.le_of_ble_eq_true rfl)⟩ ?_
      refine x_istore (lo2 := [_, _, _, _, _]) dX8_ring_32 (by decide) rfl rfl ?_
      refine x_iload dX8_ring_34 rfl ?_
      refine x_bipush (v := (-6)) dX8_ring_36 (by decide) ?_
      refine x_icmp_eq (tgt := 46) dX8_ring_38 (by decide) (fun h38 => ?_) (fun h38 => ?_)
      · skip
        refine x_iload dX8_ring_46 rfl ?_
        refine x_goto (tgt := 56) dX8_ring_48 (by decide) ?_
        refine x_iret dX8_ring_56 rfl (Nat.le_of_ble_eq_true rfl) (Nat.le_of_ble_eq_true rfl) ?_
        refine zU_of ?_ ?_ ?_
        · first | (simp only [riA, h5, h14, h38]; simp; done) | (rw [riA, if_neg (by rw [h5, h14]; simp), if_pos (Or.inr h43)])
        · intro _ _; rfl
        · exact h33
      · skip
        refine x_iload_n dX8_ring_41 rfl ?_
        refine x_iconst (v := 1) dX8_ring_42 (by decide) ?_
        refine x_icmp_ne (tgt := 51) dX8_ring_43 (by decide) (fun h43 => ?_) (fun h43 => ?_)
        · skip
          refine x_iload dX8_ring_51 rfl ?_
          refine x_callSi dX8_ring_53 ml_X8_81 mt_J6_bitCount_0f7a4 st_J6_bitCount_0f7a4 (ct_J6_bitCount_0f7a4) rfl rfl (Nat.le_of_ble_eq_true rfl) ⟨(Nat.le_of_ble_eq_true rfl), (Nat.le_of_ble_eq_true rfl)⟩ ⟨rfl, rfl⟩ ⟨(Nat.le_of_ble_eq_true rfl), (Nat.le_of_ble_eq_true rfl)⟩ ?_
          refine x_iret dX8_ring_56 rfl (Nat.le_of_ble_eq_true rfl) (Nat.le_of_ble_eq_true rfl) ?_
          refine zU_of ?_ ?_ ?_
          · first | (simp only [riA, h5, h14, h38, h43]; simp; done) | (rw [riA, if_neg (by rw [h5, h14]; simp), if_pos (Or.inr h43)])
          · intro _ _; rfl
          · exact h33
        · skip
          refine x_iload dX8_ring_46 rfl ?_
          refine x_goto (tgt := 56) dX8_ring_48 (by decide) ?_
          refine x_iret dX8_ring_56 rfl (Nat.le_of_ble_eq_true rfl) (Nat.le_of_ble_eq_true rfl) ?_
          refine zU_of ?_ ?_ ?_
          · first | (simp only [riA, h5, h14, h38, h43]; simp; done) | (rw [riA, if_neg (by rw [h5, h14]; simp), if_pos (Or.inr h43)])
          · intro _ _; rfl
          · exact h33
    · skip
      replace h14 := zb0 h14
      refine x_bipush (v := (-2)) dX8_ring_17 (by decide) ?_
      refine x_iret dX8_ring_19 rfl (Nat.le_of_ble_eq_true rfl) (Nat.le_of_ble_eq_true rfl) ?_
      refine zU_of ?_ ?_ ?_
      · first | (simp only [riA, h5, h14]; simp; done) | (rw [riA, if_neg (by rw [h5, h14]; simp), if_pos (Or.inr h43)])
      · intro _ _; rfl
      · exact h33
theorem ct_X8_seen {g : zG} {N : Nat} {I : zI} {L : zL} {q0 q1 : Option Nat} {h : Int32} {b : Bool} {n : Nat} (hN : 58 ≤ N) (h33 : I 33 0 = 0) (hn : n ≤ 8) (hs : I 1 10 = nI n) : Ct g yX8_seen mX8_seen [.ref (g.2.1 + 0), .int h, .int (zb b)] N I L (zRw q0 q1) (zU (seA n h) N (seI I n h b) L (zRw q0 q1)) := by
  refine Ct_of (lo0 := [some (.ref (g.2.1 + 0)), some (.int h), some (.int (zb b))]) rfl rfl rfl rfl (Nat.le_of_ble_eq_true rfl) (fun E => ?_)
  refine x_iload_n dX8_seen_0 rfl ?_
  refine x_callSi dX8_seen_1 ml_X8_87 mt_X8_isHold st_X8_isHold (ct_X8_isHold) rfl rfl (Nat.le_of_ble_eq_true rfl) ⟨(Nat.le_of_ble_eq_true rfl), (Nat.le_of_ble_eq_true rfl)⟩ ⟨rfl, rfl⟩ ⟨(Nat.le_of_ble_eq_true rfl), (Nat.le_of_ble_eq_true rfl)⟩ ?_
  refine x_if_ne (tgt := 9) dX8_seen_4 (by decide) (fun h4 => ?_) (fun h4 => ?_)
  · skip
    replace h4 := zb1 h4
    refine x_aload_n dX8_seen_9 rfl ?_
    refine x_getR dX8_seen_10 fl_X8_10 (by omega) rfl rfl rfl ?_
    refine x_iload_n dX8_seen_13 rfl ?_
    refine x_iload_n dX8_seen_14 rfl ?_
    refine x_callVi dX8_seen_15 ml_X8_206 mt_X3_addSight mv_X3_addSight (ct_X3_addSight hN hn hs) (by omega) rfl rfl rfl rfl (Nat.le_of_ble_eq_true rfl) ⟨(Nat.le_of_ble_eq_true rfl), (Nat.le_of_ble_eq_true rfl)⟩ ⟨rfl, rfl⟩ ⟨(Nat.le_of_ble_eq_true rfl), (Nat.le_of_ble_eq_true rfl)⟩ ?_
    refine x_pc (pc2 := 18) rfl ?_
    refine x_if_eq (tgt := 31) dX8_seen_18 (by decide) (fun h18 => ?_) (fun h18 => ?_)
    · skip
      replace h18 := zb0 h18
      refine x_bipush (v := (-4)) dX8_seen_31 (by decide) ?_
      refine x_iret dX8_seen_33 rfl (Nat.le_of_ble_eq_true rfl) (Nat.le_of_ble_eq_true rfl) ?_
      refine zU_of ?_ ?_ ?_
      · first | (simp [seA, h4, h18]; done) | (simp at h18; simp [seA, h4, h18, zu]; done) | (simp at h18; simp [seA, h4, show ¬ n < 8 by omega])
      · first | (intro _ _; simp [seI, h4]; done) | (simp at h18; intro _ _; simp [seI, h4, h18]; done) | (simp at h18; intro _ _; simp [seI, h4, show ¬ n < 8 by omega])
      · first | exact h33 | (split <;> simp [zu, h33])
    · skip
      replace h18 := zb1 h18
      refine x_aload_n dX8_seen_21 rfl ?_
      refine x_getR dX8_seen_22 fl_X8_10 (by omega) rfl rfl rfl ?_
      refine x_getI dX8_seen_25 fl_X8_210 (by omega) rfl rfl ?_
      refine x_goto (tgt := 33) dX8_seen_28 (by decide) ?_
      refine x_iret dX8_seen_33 rfl (Nat.le_of_ble_eq_true rfl) (Nat.le_of_ble_eq_true rfl) ?_
      refine zU_of ?_ ?_ ?_
      · first | (simp [seA, h4, h18]; done) | (simp at h18; simp [seA, h4, h18, zu]; done) | (simp at h18; simp [seA, h4, show ¬ n < 8 by omega])
      · first | (intro _ _; simp [seI, h4]; done) | (simp at h18; intro _ _; simp [seI, h4, h18]; done) | (simp at h18; intro _ _; simp [seI, h4, show ¬ n < 8 by omega])
      · first | exact h33 | (split <;> simp [zu, h33])
  · skip
    replace h4 := zb0 h4
    refine x_iconst (v := (-1)) dX8_seen_7 (by decide) ?_
    refine x_iret dX8_seen_8 rfl (Nat.le_of_ble_eq_true rfl) (Nat.le_of_ble_eq_true rfl) ?_
    refine zU_of ?_ ?_ ?_
    · first | (simp [seA, h4]; done) | (simp at h18; simp [seA, h4, h18, zu]; done) | (simp at h18; simp [seA, h4, show ¬ n < 8 by omega])
    · first | (intro _ _; simp [seI, h4]; done) | (simp at h18; intro _ _; simp [seI, h4, h18]; done) | (simp at h18; intro _ _; simp [seI, h4, show ¬ n < 8 by omega])
    · first | exact h33 | (split <;> simp [zu, h33])
theorem ct_X8_forget {g : zG} {N : Nat} {I : zI} {L : zL} {q0 q1 : Option Nat} (hN : 58 ≤ N) (h33 : I 33 0 = 0) : Ct g yX8_forget mX8_forget [.ref (g.2.1 + 0)] N I L (zRw q0 q1) (zU (I 1 10) N (zu I 1 10 0) L (zRw q0 q1)) := by
  refine Ct_of (lo0 := [some (.ref (g.2.1 + 0)), none]) rfl rfl rfl rfl (Nat.le_of_ble_eq_true rfl) (fun E => ?_)
  refine x_aload_n dX8_forget_0 rfl ?_
  refine x_getR dX8_forget_1 fl_X8_10 (by omega) rfl rfl rfl ?_
  refine x_getI dX8_forget_4 fl_X8_210 (by omega) rfl rfl ?_
  refine x_istore_n (lo2 := [_, _]) dX8_forget_7 (by decide) rfl rfl ?_
  refine x_aload_n dX8_forget_8 rfl ?_
  refine x_pc (pc2 := 9) rfl ?_
  refine x_getR dX8_forget_9 fl_X8_10 (by omega) rfl rfl rfl ?_
  refine x_iconst (v := 0) dX8_forget_12 (by decide) ?_
  refine x_putI dX8_forget_13 fp_X8_210 (by omega) rfl ?_
  refine x_iload_n dX8_forget_16 rfl ?_
  refine x_iret dX8_forget_17 rfl (Nat.le_of_ble_eq_true rfl) (Nat.le_of_ble_eq_true rfl) ?_
  refine zU_of ?_ ?_ ?_
  · rfl
  · intro _ _; rfl
  · first | exact h33 | (simp [zu, h33]; done)
theorem ct_X8_shape {g : zG} {N : Nat} {I : zI} {L : zL} {q0 q1 : Option Nat} {j : Int32} {n : Nat} (hN : 58 ≤ N) (h33 : I 33 0 = 0) (hn : n ≤ 8) (hs : I 1 10 = nI n) (hh : ∀ i, i < 8 → ∃ k, k < 6 ∧ I 10 i = nI k) : Ct g yX8_shape mX8_shape [.ref (g.2.1 + 0), .int j] N I L (zRw q0 q1) (zU (shA I n j) N I L (zRw q0 q1)) := by
  refine Ct_of (lo0 := [some (.ref (g.2.1 + 0)), some (.int j)]) rfl rfl rfl rfl (Nat.le_of_ble_eq_true rfl) (fun E => ?_)
  refine x_aload_n dX8_shape_0 rfl ?_
  refine x_getR dX8_shape_1 fl_X8_47 (by omega) rfl rfl rfl ?_
  refine x_aload_n dX8_shape_4 rfl ?_
  refine x_getR dX8_shape_5 fl_X8_10 (by omega) rfl rfl rfl ?_
  refine x_callVr dX8_shape_8 ml_X8_213 mt_X7_find mv_X7_find (ct_X7_find hN hn hs hh) (by omega) rfl rfl rfl rfl (Nat.le_of_ble_eq_true rfl) ⟨(Nat.le_of_ble_eq_true rfl), (Nat.le_of_ble_eq_true rfl)⟩ ⟨rfl, rfl⟩ ⟨(Nat.le_of_ble_eq_true rfl), (Nat.le_of_ble_eq_true rfl)⟩ (fun W hW => ?_)
  obtain ⟨w1, w2, w3⟩ : (∀ c, c ≠ 34 → c ≠ 35 → W c = I c) ∧ W 34 1 = nI (cn_ (shp I n) 256) ∧ ∀ s, s < 256 → shp I n s = true → W 35 (cn_ (shp I n) s) = nI s := hW
  have hcn := cn_le (shp I n) 256
  refine x_pc (pc2 := 11) rfl ?_
  refine x_iload_n dX8_shape_11 rfl ?_
  refine x_iconst (v := (-1)) dX8_shape_12 (by decide) ?_
  refine x_icmp_ne (tgt := 26) dX8_shape_13 (by decide) (fun h13 => ?_) (fun h13 => ?_)
  · skip
    refine x_aload_n dX8_shape_26 rfl ?_
    refine x_getR dX8_shape_27 fl_X8_47 (by omega) rfl rfl rfl ?_
    refine x_iload_n dX8_shape_30 rfl ?_
    refine x_callVi dX8_shape_31 ml_X8_217 mt_X7_shapeAt mv_X7_shapeAt (ct_X7_shapeAt hN w2 hcn) (by omega) rfl rfl rfl rfl (Nat.le_of_ble_eq_true rfl) ⟨(Nat.le_of_ble_eq_true rfl), (Nat.le_of_ble_eq_true rfl)⟩ ⟨rfl, rfl⟩ ⟨(Nat.le_of_ble_eq_true rfl), (Nat.le_of_ble_eq_true rfl)⟩ ?_
    refine x_iret dX8_shape_34 rfl (Nat.le_of_ble_eq_true rfl) (Nat.le_of_ble_eq_true rfl) ?_
    refine zU_of ?_ ?_ ?_
    · first | (rw [shA, if_pos h13]; exact w2) | (rw [shA, if_neg h13]; exact shape_at w3)
    · first | (intro _ _; rfl) | (intro c hc2; exact w1 c (by omega) (by omega))
    · first | exact h33 | (rw [w1 33 (by decide) (by decide)]; exact h33)
  · skip
    refine x_aload_n dX8_shape_16 rfl ?_
    refine x_getR dX8_shape_17 fl_X8_47 (by omega) rfl rfl rfl ?_
    refine x_getI dX8_shape_20 fl_X8_216 (by omega) rfl rfl ?_
    refine x_goto (tgt := 34) dX8_shape_23 (by decide) ?_
    refine x_iret dX8_shape_34 rfl (Nat.le_of_ble_eq_true rfl) (Nat.le_of_ble_eq_true rfl) ?_
    refine zU_of ?_ ?_ ?_
    · first | (rw [shA, if_pos h13]; exact w2) | (rw [shA, if_neg h13]; exact shape_at w3)
    · first | (intro _ _; rfl) | (intro c hc2; exact w1 c (by omega) (by omega))
    · first | exact h33 | (rw [w1 33 (by decide) (by decide)]; exact h33)
theorem ct_X8_ask {g : zG} {N : Nat} {I : zI} {L : zL} {q0 q1 : Option Nat} {w : Int32} {n : Nat} (hN : 58 ≤ N) (h33 : I 33 0 = 0) (hn : n ≤ 8) (hs : I 1 10 = nI n) (hh : ∀ i, i < 8 → ∃ k, k < 6 ∧ I 10 i = nI k) : Ct g yX8_ask mX8_ask [.ref (g.2.1 + 0), .int w] N I L (zRw q0 q1) (zU (asA I n w) N I L (zRw q0 q1)) := by
  refine Ct_of (lo0 := [some (.ref (g.2.1 + 0)), some (.int w), none]) rfl rfl rfl rfl (Nat.le_of_ble_eq_true rfl) (fun E => ?_)
  refine x_iload_n dX8_ask_0 rfl ?_
  refine x_iconst (v := 0) dX8_ask_1 (by decide) ?_
  refine x_iconst (v := 1) dX8_ask_2 (by decide) ?_
  refine x_callSi dX8_ask_3 ml_X8_62 mt_X8_isFrom st_X8_isFrom (ct_X8_isFrom) rfl rfl (Nat.le_of_ble_eq_true rfl) ⟨(Nat.le_of_ble_eq_true rfl), (Nat.le_of_ble_eq_true rfl)⟩ ⟨rfl, rfl⟩ ⟨(Nat.le_of_ble_eq_true rfl), (Nat.le_of_ble_eq_true rfl)⟩ ?_
  refine x_if_ne (tgt := 12) dX8_ask_6 (by decide) (fun h6 => ?_) (fun h6 => ?_)
  · skip
    replace h6 := zb1 h6
    refine x_aload_n dX8_ask_12 rfl ?_
    refine x_getR dX8_ask_13 fl_X8_47 (by omega) rfl rfl rfl ?_
    refine x_aload_n dX8_ask_16 rfl ?_
    refine x_getR dX8_ask_17 fl_X8_10 (by omega) rfl rfl rfl ?_
    refine x_callVr dX8_ask_20 ml_X8_213 mt_X7_find mv_X7_find (ct_X7_find hN hn hs hh) (by omega) rfl rfl rfl rfl (Nat.le_of_ble_eq_true rfl) ⟨(Nat.le_of_ble_eq_true rfl), (Nat.le_of_ble_eq_true rfl)⟩ ⟨rfl, rfl⟩ ⟨(Nat.le_of_ble_eq_true rfl), (Nat.le_of_ble_eq_true rfl)⟩ (fun W hW => ?_)
    obtain ⟨w1, w2, w3⟩ : (∀ c, c ≠ 34 → c ≠ 35 → W c = I c) ∧ W 34 1 = nI (cn_ (shp I n) 256) ∧ ∀ s, s < 256 → shp I n s = true → W 35 (cn_ (shp I n) s) = nI s := hW
    have hcn := cn_le (shp I n) 256
    refine x_pc (pc2 := 23) rfl ?_
    refine x_aload_n dX8_ask_23 rfl ?_
    refine x_getR dX8_ask_24 fl_X8_47 (by omega) rfl rfl rfl ?_
    refine x_aload_n dX8_ask_27 rfl ?_
    refine x_getR dX8_ask_28 fl_X8_10 (by omega) rfl rfl rfl ?_
    refine x_callVi dX8_ask_31 ml_X8_220 mt_X7_holdToTry mv_X7_holdToTry (ct_X7_holdToTry hN w2 hcn) (by omega) rfl rfl rfl rfl (Nat.le_of_ble_eq_true rfl) ⟨(Nat.le_of_ble_eq_true rfl), (Nat.le_of_ble_eq_true rfl)⟩ ⟨rfl, rfl⟩ ⟨(Nat.le_of_ble_eq_true rfl), (Nat.le_of_ble_eq_true rfl)⟩ ?_
    rw [bh_N w3, show W 4 = I 4 from w1 4 (by decide) (by decide)]
    have hbh := bhN_le (shp I n) (I 4) 5
    refine x_istore_n (lo2 := [_, _, _]) dX8_ask_34 (by decide) rfl rfl ?_
    refine x_pc (pc2 := 35) rfl ?_
    refine x_iload_n dX8_ask_35 rfl ?_
    refine x_bipush (v := (-6)) dX8_ask_36 (by decide) ?_
    refine x_icmp_eq (tgt := 45) dX8_ask_38 (by decide) (fun h38 => ?_) (fun h38 => ?_)
    · skip
      have hc0 : cn_ (shp I n) 256 = 0 := by
        by_cases q : cn_ (shp I n) 256 = 0
        · exact q
        · rw [if_neg q] at h38; exact absurd h38 (nI_n6 (by omega))
      rw [if_pos hc0]
      refine x_iload_n dX8_ask_45 rfl ?_
      refine x_goto (tgt := 65) dX8_ask_46 (by decide) ?_
      refine x_iret dX8_ask_65 rfl (Nat.le_of_ble_eq_true rfl) (Nat.le_of_ble_eq_true rfl) ?_
      refine zU_of ?_ ?_ ?_
      · first | (rw [asA, if_pos h6]; done) | (rw [asA, if_neg (by rw [h6]; decide), if_pos hc0]; done) | (rw [asA, if_neg (by rw [h6]; decide), if_neg hc0, if_pos h42]; done) | (rw [asA, if_neg (by rw [h6]; decide), if_neg hc0, if_neg h42, mx_N w3])
      · first | (intro _ _; rfl) | (intro c hc2; exact w1 c (by omega) (by omega))
      · first | exact h33 | (rw [w1 33 (by decide) (by decide)]; exact h33)
    · skip
      have hc0 : ¬ cn_ (shp I n) 256 = 0 := fun q => h38 (if_pos q)
      rw [if_neg hc0]
      refine x_iload_n dX8_ask_41 rfl ?_
      refine x_if_ne (tgt := 49) dX8_ask_42 (by decide) (fun h42 => ?_) (fun h42 => ?_)
      · skip
        refine x_aload_n dX8_ask_49 rfl ?_
        refine x_getR dX8_ask_50 fl_X8_47 (by omega) rfl rfl rfl ?_
        refine x_aload_n dX8_ask_53 rfl ?_
        refine x_getR dX8_ask_54 fl_X8_10 (by omega) rfl rfl rfl ?_
        refine x_getR dX8_ask_57 fl_X8_93 (by omega) rfl rfl rfl ?_
        refine x_pc (pc2 := 60) rfl ?_
        refine x_iload_n dX8_ask_60 rfl ?_
        refine x_ialdN dX8_ask_61 (by omega) rfl rfl (by omega) ?_
        rw [show W 4 = I 4 from w1 4 (by decide) (by decide)]
        refine x_callVi dX8_ask_62 ml_X8_223 mt_X7_mostLeftBy mv_X7_mostLeftBy (ct_X7_mostLeftBy hN w2 hcn) (by omega) rfl rfl rfl rfl (Nat.le_of_ble_eq_true rfl) ⟨(Nat.le_of_ble_eq_true rfl), (Nat.le_of_ble_eq_true rfl)⟩ ⟨rfl, rfl⟩ ⟨(Nat.le_of_ble_eq_true rfl), (Nat.le_of_ble_eq_true rfl)⟩ ?_
        refine x_iret dX8_ask_65 rfl (Nat.le_of_ble_eq_true rfl) (Nat.le_of_ble_eq_true rfl) ?_
        refine zU_of ?_ ?_ ?_
        · first | (rw [asA, if_pos h6]; done) | (rw [asA, if_neg (by rw [h6]; decide), if_pos hc0]; done) | (rw [asA, if_neg (by rw [h6]; decide), if_neg hc0, if_pos h42]; done) | (rw [asA, if_neg (by rw [h6]; decide), if_neg hc0, if_neg h42, mx_N w3])
        · first | (intro _ _; rfl) | (intro c hc2; exact w1 c (by omega) (by omega))
        · first | exact h33 | (rw [w1 33 (by decide) (by decide)]; exact h33)
      · skip
        refine x_iload_n dX8_ask_45 rfl ?_
        refine x_goto (tgt := 65) dX8_ask_46 (by decide) ?_
        refine x_iret dX8_ask_65 rfl (Nat.le_of_ble_eq_true rfl) (Nat.le_of_ble_eq_true rfl) ?_
        refine zU_of ?_ ?_ ?_
        · first | (rw [asA, if_pos h6]; done) | (rw [asA, if_neg (by rw [h6]; decide), if_pos hc0]; done) | (rw [asA, if_neg (by rw [h6]; decide), if_neg hc0, if_pos h42]; done) | (rw [asA, if_neg (by rw [h6]; decide), if_neg hc0, if_neg h42, mx_N w3])
        · first | (intro _ _; rfl) | (intro c hc2; exact w1 c (by omega) (by omega))
        · first | exact h33 | (rw [w1 33 (by decide) (by decide)]; exact h33)
  · skip
    replace h6 := zb0 h6
    refine x_bipush (v := (-2)) dX8_ask_9 (by decide) ?_
    refine x_iret dX8_ask_11 rfl (Nat.le_of_ble_eq_true rfl) (Nat.le_of_ble_eq_true rfl) ?_
    refine zU_of ?_ ?_ ?_
    · first | (rw [asA, if_pos h6]; done) | (rw [asA, if_neg (by rw [h6]; decide), if_pos hc0]; done) | (rw [asA, if_neg (by rw [h6]; decide), if_neg hc0, if_pos h42]; done) | (rw [asA, if_neg (by rw [h6]; decide), if_neg hc0, if_neg h42, mx_N w3])
    · first | (intro _ _; rfl) | (intro c hc2; exact w1 c (by omega) (by omega))
    · first | exact h33 | (rw [w1 33 (by decide) (by decide)]; exact h33)
theorem ct_X8_play {g : zG} {N : Nat} {I : zI} {L : zL} {q0 q1 : Option Nat} {a w : Int32} (hN : 58 ≤ N) (h33 : I 33 0 = 0) : Ct g yX8_play mX8_play [.ref (g.2.1 + 0), .int a, .int w] N I L (zRw q0 q1) (zU (plA I a w) N I L (zRw q0 q1)) := by
  refine Ct_of (lo0 := [some (.ref (g.2.1 + 0)), some (.int a), some (.int w)]) rfl rfl rfl rfl (Nat.le_of_ble_eq_true rfl) (fun E => ?_)
  refine x_iload_n dX8_play_0 rfl ?_
  refine x_callSi dX8_play_1 ml_X8_119 mt_X8_isState st_X8_isState (ct_X8_isState) rfl rfl (Nat.le_of_ble_eq_true rfl) ⟨(Nat.le_of_ble_eq_true rfl), (Nat.le_of_ble_eq_true rfl)⟩ ⟨rfl, rfl⟩ ⟨(Nat.le_of_ble_eq_true rfl), (Nat.le_of_ble_eq_true rfl)⟩ ?_
  refine x_if_ne (tgt := 9) dX8_play_4 (by decide) (fun h4 => ?_) (fun h4 => ?_)
  · skip
    replace h4 := zb1 h4
    obtain ⟨i, hi, rfl⟩ := zin_ex (b := 9) (by decide) h4
    have zxi : zx (nI i) = i := zx_nI (by omega)
    refine x_iload_n dX8_play_9 rfl ?_
    refine x_iconst (v := 0) dX8_play_10 (by decide) ?_
    refine x_iconst (v := 2) dX8_play_11 (by decide) ?_
    refine x_callSi dX8_play_12 ml_X8_62 mt_X8_isFrom st_X8_isFrom (ct_X8_isFrom) rfl rfl (Nat.le_of_ble_eq_true rfl) ⟨(Nat.le_of_ble_eq_true rfl), (Nat.le_of_ble_eq_true rfl)⟩ ⟨rfl, rfl⟩ ⟨(Nat.le_of_ble_eq_true rfl), (Nat.le_of_ble_eq_true rfl)⟩ ?_
    refine x_if_ne (tgt := 21) dX8_play_15 (by decide) (fun h15 => ?_) (fun h15 => ?_)
    · skip
      replace h15 := zb1 h15
      refine x_aload_n dX8_play_21 rfl ?_
      refine x_getR dX8_play_22 fl_X8_54 (by omega) rfl rfl rfl ?_
      refine x_aload_n dX8_play_25 rfl ?_
      refine x_getR dX8_play_26 fl_X8_10 (by omega) rfl rfl rfl ?_
      refine x_getR dX8_play_29 fl_X8_122 (by omega) rfl rfl rfl ?_
      refine x_pc (pc2 := 32) rfl ?_
      refine x_callVv dX8_play_32 ml_X8_226 mt_X2_solve mv_X2_solve (ct_X2_solve hN) (by omega) rfl rfl rfl rfl (Nat.le_of_ble_eq_true rfl) ⟨(Nat.le_of_ble_eq_true rfl), (Nat.le_of_ble_eq_true rfl)⟩ ⟨rfl, rfl⟩ ⟨(Nat.le_of_ble_eq_true rfl), (Nat.le_of_ble_eq_true rfl)⟩ ?_
      refine x_iload_n dX8_play_35 rfl ?_
      by_cases hw0 : w = 0
      · skip
        subst hw0
        refine x_lookup (off := 28) (tgt := 64) dX8_play_36 (by decide) (by decide) (by decide) ?_
        refine x_aload_n dX8_play_64 rfl ?_
        refine x_getR dX8_play_65 fl_X8_54 (by omega) rfl rfl rfl ?_
        refine x_getR dX8_play_68 fl_X8_230 (by omega) rfl rfl rfl ?_
        refine x_iload_n dX8_play_71 rfl ?_
        refine x_ialdN dX8_play_72 (by omega) rfl rfl hi ?_
        refine x_pc (pc2 := 73) rfl ?_
        refine x_iret dX8_play_73 rfl (Nat.le_of_ble_eq_true rfl) (Nat.le_of_ble_eq_true rfl) ?_
        refine zU_of ?_ ?_ ?_
        · first | (simp [plA, h4]; done) | (simp [plA, h4, h15]; done) | (simp [plA, h4, h15, zxi, mud, wmI_37, wmI_38, wmI_ne]; done) | (simp [plA, h4, h15, zxi, mud, wmI_37, wmI_38, wmI_ne, hw0, hw1])
        · first | (intro _ _; rfl) | (intro c hc2; exact wmI_ne _ _ (by omega) (by omega))
        · first | exact h33 | (rw [wmI_ne _ _ (by decide) (by decide)]; exact h33)
      by_cases hw1 : w = 1
      · skip
        subst hw1
        refine x_lookup (off := 38) (tgt := 74) dX8_play_36 (by decide) (by decide) (by decide) ?_
        refine x_aload_n dX8_play_74 rfl ?_
        refine x_getR dX8_play_75 fl_X8_54 (by omega) rfl rfl rfl ?_
        refine x_getR dX8_play_78 fl_X8_233 (by omega) rfl rfl rfl ?_
        refine x_iload_n dX8_play_81 rfl ?_
        refine x_ialdN dX8_play_82 (by omega) rfl rfl hi ?_
        refine x_pc (pc2 := 83) rfl ?_
        refine x_iret dX8_play_83 rfl (Nat.le_of_ble_eq_true rfl) (Nat.le_of_ble_eq_true rfl) ?_
        refine zU_of ?_ ?_ ?_
        · first | (simp [plA, h4]; done) | (simp [plA, h4, h15]; done) | (simp [plA, h4, h15, zxi, mud, wmI_37, wmI_38, wmI_ne]; done) | (simp [plA, h4, h15, zxi, mud, wmI_37, wmI_38, wmI_ne, hw0, hw1])
        · first | (intro _ _; rfl) | (intro c hc2; exact wmI_ne _ _ (by omega) (by omega))
        · first | exact h33 | (rw [wmI_ne _ _ (by decide) (by decide)]; exact h33)
      refine x_lookup (off := 48) (tgt := 84) dX8_play_36 (by decide) (by have e0 := zsw_ne hw0; have e1 := zsw_ne hw1; have c0 : (0 : Int32).toInt = 0 := (by decide); have c1 : (1 : Int32).toInt = 1 := (by decide); rw [c0] at e0; rw [c1] at e1; simp [Op.lookupswitch.offset, e0, e1, Ne.symm e0, Ne.symm e1]) (by decide) ?_
      refine x_aload_n dX8_play_84 rfl ?_
      refine x_getR dX8_play_85 fl_X8_54 (by omega) rfl rfl rfl ?_
      refine x_aload_n dX8_play_88 rfl ?_
      refine x_getR dX8_play_89 fl_X8_10 (by omega) rfl rfl rfl ?_
      refine x_getR dX8_play_92 fl_X8_122 (by omega) rfl rfl rfl ?_
      refine x_pc (pc2 := 95) rfl ?_
      refine x_iload_n dX8_play_95 rfl ?_
      refine x_callVi dX8_play_96 ml_X8_236 mt_X2_firstMove mv_X2_firstMove (ct_X2_firstMove hN hi) (by omega) rfl rfl rfl rfl (Nat.le_of_ble_eq_true rfl) ⟨(Nat.le_of_ble_eq_true rfl), (Nat.le_of_ble_eq_true rfl)⟩ ⟨rfl, rfl⟩ ⟨(Nat.le_of_ble_eq_true rfl), (Nat.le_of_ble_eq_true rfl)⟩ ?_
      refine x_iret dX8_play_99 rfl (Nat.le_of_ble_eq_true rfl) (Nat.le_of_ble_eq_true rfl) ?_
      refine zU_of ?_ ?_ ?_
      · first | (simp [plA, h4]; done) | (simp [plA, h4, h15]; done) | (simp [plA, h4, h15, zxi, mud, wmI_37, wmI_38, wmI_ne]; done) | (simp [plA, h4, h15, zxi, mud, wmI_37, wmI_38, wmI_ne, hw0, hw1])
      · first | (intro _ _; rfl) | (intro c hc2; exact wmI_ne _ _ (by omega) (by omega))
      · first | exact h33 | (rw [wmI_ne _ _ (by decide) (by decide)]; exact h33)
    · skip
      replace h15 := zb0 h15
      refine x_bipush (v := (-2)) dX8_play_18 (by decide) ?_
      refine x_iret dX8_play_20 rfl (Nat.le_of_ble_eq_true rfl) (Nat.le_of_ble_eq_true rfl) ?_
      refine zU_of ?_ ?_ ?_
      · first | (simp [plA, h4]; done) | (simp [plA, h4, h15]; done) | (simp [plA, h4, h15, zxi, mud, wmI_37, wmI_38, wmI_ne]; done) | (simp [plA, h4, h15, zxi, mud, wmI_37, wmI_38, wmI_ne, hw0, hw1])
      · first | (intro _ _; rfl) | (intro c hc2; exact wmI_ne _ _ (by omega) (by omega))
      · first | exact h33 | (rw [wmI_ne _ _ (by decide) (by decide)]; exact h33)
  · skip
    replace h4 := zb0 h4
    refine x_iconst (v := (-1)) dX8_play_7 (by decide) ?_
    refine x_iret dX8_play_8 rfl (Nat.le_of_ble_eq_true rfl) (Nat.le_of_ble_eq_true rfl) ?_
    refine zU_of ?_ ?_ ?_
    · first | (simp [plA, h4]; done) | (simp [plA, h4, h15]; done) | (simp [plA, h4, h15, zxi, mud, wmI_37, wmI_38, wmI_ne]; done) | (simp [plA, h4, h15, zxi, mud, wmI_37, wmI_38, wmI_ne, hw0, hw1])
    · first | (intro _ _; rfl) | (intro c hc2; exact wmI_ne _ _ (by omega) (by omega))
    · first | exact h33 | (rw [wmI_ne _ _ (by decide) (by decide)]; exact h33)
theorem ct_X8_year {g : zG} {N : Nat} {I : zI} {L : zL} {q0 q1 : Option Nat} {s m w : Int32} (hN : 58 ≤ N) (h33 : I 33 0 = 0) (hz : ∀ i, i < 8 → I 11 i = 0 ∨ I 11 i = 1) : Ct g yX8_year mX8_year [.ref (g.2.1 + 0), .int s, .int m, .int w] N I L (zRw q0 q1) (zU (yeA I s m w) N I L (zRw q0 q1)) := by
  refine Ct_of (lo0 := [some (.ref (g.2.1 + 0)), some (.int s), some (.int m), some (.int w), none]) rfl rfl rfl rfl (Nat.le_of_ble_eq_true rfl) (fun E => ?_)
  refine x_iload_n dX8_year_0 rfl ?_
  refine x_iconst (v := 0) dX8_year_1 (by decide) ?_
  refine x_sipush (v := 9999) dX8_year_2 (by decide) ?_
  refine x_callSi dX8_year_5 ml_X8_62 mt_X8_isFrom st_X8_isFrom (ct_X8_isFrom) rfl rfl (Nat.le_of_ble_eq_true rfl) ⟨(Nat.le_of_ble_eq_true rfl), (Nat.le_of_ble_eq_true rfl)⟩ ⟨rfl, rfl⟩ ⟨(Nat.le_of_ble_eq_true rfl), (Nat.le_of_ble_eq_true rfl)⟩ ?_
  refine x_if_eq (tgt := 30) dX8_year_8 (by decide) (fun h8 => ?_) (fun h8 => ?_)
  · skip
    replace h8 := zb0 h8
    refine x_bipush (v := (-2)) dX8_year_30 (by decide) ?_
    refine x_iret dX8_year_32 rfl (Nat.le_of_ble_eq_true rfl) (Nat.le_of_ble_eq_true rfl) ?_
    refine zU_of ?_ ?_ ?_
    · first | (simp [yeA, h8]; done) | (rw [yeA, if_neg (by rw [h8, h18]; decide), zxa, zxm]; rfl) | (rw [yeA, if_neg (by rw [h8, h18, h27]; decide), if_neg hw0, if_neg hw1, zxa, zxm]; rfl)
    · first | (intro _ _; rfl) | (intro c hc2; rw [yI_far (by omega) (by omega) (by omega) (by omega), zb_far (by omega)])
    · first | exact h33 | (rw [yI_far (by decide) (by decide) (by decide) (by decide), zb_far (by decide)]; exact h33)
  · skip
    replace h8 := zb1 h8
    refine x_iload_n dX8_year_11 rfl ?_
    refine x_iconst (v := 1) dX8_year_12 (by decide) ?_
    refine x_bipush (v := 99) dX8_year_13 (by decide) ?_
    refine x_callSi dX8_year_15 ml_X8_62 mt_X8_isFrom st_X8_isFrom (ct_X8_isFrom) rfl rfl (Nat.le_of_ble_eq_true rfl) ⟨(Nat.le_of_ble_eq_true rfl), (Nat.le_of_ble_eq_true rfl)⟩ ⟨rfl, rfl⟩ ⟨(Nat.le_of_ble_eq_true rfl), (Nat.le_of_ble_eq_true rfl)⟩ ?_
    refine x_if_eq (tgt := 30) dX8_year_18 (by decide) (fun h18 => ?_) (fun h18 => ?_)
    · skip
      replace h18 := zb0 h18
      refine x_bipush (v := (-2)) dX8_year_30 (by decide) ?_
      refine x_iret dX8_year_32 rfl (Nat.le_of_ble_eq_true rfl) (Nat.le_of_ble_eq_true rfl) ?_
      refine zU_of ?_ ?_ ?_
      · first | (simp [yeA, h8, h18]; done) | (rw [yeA, if_neg (by rw [h8, h18]; decide), zxa, zxm]; rfl) | (rw [yeA, if_neg (by rw [h8, h18, h27]; decide), if_neg hw0, if_neg hw1, zxa, zxm]; rfl)
      · first | (intro _ _; rfl) | (intro c hc2; rw [yI_far (by omega) (by omega) (by omega) (by omega), zb_far (by omega)])
      · first | exact h33 | (rw [yI_far (by decide) (by decide) (by decide) (by decide), zb_far (by decide)]; exact h33)
    · skip
      replace h18 := zb1 h18
      refine x_iload_n dX8_year_21 rfl ?_
      refine x_iconst (v := 0) dX8_year_22 (by decide) ?_
      refine x_iconst (v := 2) dX8_year_23 (by decide) ?_
      refine x_callSi dX8_year_24 ml_X8_62 mt_X8_isFrom st_X8_isFrom (ct_X8_isFrom) rfl rfl (Nat.le_of_ble_eq_true rfl) ⟨(Nat.le_of_ble_eq_true rfl), (Nat.le_of_ble_eq_true rfl)⟩ ⟨rfl, rfl⟩ ⟨(Nat.le_of_ble_eq_true rfl), (Nat.le_of_ble_eq_true rfl)⟩ ?_
      refine x_if_ne (tgt := 33) dX8_year_27 (by decide) (fun h27 => ?_) (fun h27 => ?_)
      · skip
        replace h27 := zb1 h27
        obtain ⟨ss, hss, rfl⟩ := zin_ex (b := 9999) (by decide) h8
        obtain ⟨mm, hm1, hm2, rfl⟩ := zin_ex1 (a := 1) (b := 99) (by decide) (by decide) h18
        have zxa : zx (nI ss) = ss := zx_nI (by omega)
        have zxm : zx (nI mm) = mm := zx_nI (by omega)
        refine x_aload_n dX8_year_33 rfl ?_
        refine x_getR dX8_year_34 fl_X8_26 (by omega) rfl rfl rfl ?_
        refine x_iload_n dX8_year_37 rfl ?_
        refine x_iload_n dX8_year_38 rfl ?_
        refine x_aload_n dX8_year_39 rfl ?_
        refine x_pc (pc2 := 40) rfl ?_
        refine x_getR dX8_year_40 fl_X8_10 (by omega) rfl rfl rfl ?_
        refine x_callVv dX8_year_43 ml_X8_256 mt_X1_runYear mv_X1_runYear (ct_X1_runYear hN (by omega) (by omega) (fun i hi => nb01 (hz i hi))) (by omega) rfl rfl rfl rfl (Nat.le_of_ble_eq_true rfl) ⟨(Nat.le_of_ble_eq_true rfl), (Nat.le_of_ble_eq_true rfl)⟩ ⟨rfl, rfl⟩ ⟨(Nat.le_of_ble_eq_true rfl), (Nat.le_of_ble_eq_true rfl)⟩ ?_
        refine x_aload_n dX8_year_46 rfl ?_
        refine x_getR dX8_year_47 fl_X8_26 (by omega) rfl rfl rfl ?_
        refine x_getR dX8_year_50 fl_X8_151 (by omega) rfl rfl rfl ?_
        refine x_callVi dX8_year_53 ml_X8_77 mt_X3_griefsThere mv_X3_griefsThere (ct_X3_griefsThere (Or.inr (Or.inl rfl)) (by omega)) (by omega) rfl rfl rfl rfl (Nat.le_of_ble_eq_true rfl) ⟨(Nat.le_of_ble_eq_true rfl), (Nat.le_of_ble_eq_true rfl)⟩ ⟨rfl, rfl⟩ ⟨(Nat.le_of_ble_eq_true rfl), (Nat.le_of_ble_eq_true rfl)⟩ ?_
        refine x_pc (pc2 := 56) rfl ?_
        refine x_istore (lo2 := [_, _, _, _, _]) dX8_year_56 (by decide) rfl rfl ?_
        refine x_iload_n dX8_year_58 rfl ?_
        by_cases hw0 : w = 0
        · skip
          subst hw0
          refine x_lookup (off := 25) (tgt := 84) dX8_year_59 (by decide) (by decide) (by decide) ?_
          refine x_iload dX8_year_84 rfl ?_
          refine x_callSi dX8_year_86 ml_X8_81 mt_J6_bitCount_0f7a4 st_J6_bitCount_0f7a4 (ct_J6_bitCount_0f7a4) rfl rfl (Nat.le_of_ble_eq_true rfl) ⟨(Nat.le_of_ble_eq_true rfl), (Nat.le_of_ble_eq_true rfl)⟩ ⟨rfl, rfl⟩ ⟨(Nat.le_of_ble_eq_true rfl), (Nat.le_of_ble_eq_true rfl)⟩ ?_
          refine x_iret dX8_year_89 rfl (Nat.le_of_ble_eq_true rfl) (Nat.le_of_ble_eq_true rfl) ?_
          refine zU_of ?_ ?_ ?_
          · first | (simp [yeA, h8, h18, h27]; done) | (rw [yeA, if_neg (by rw [h8, h18]; decide), zxa, zxm]; rfl) | (rw [yeA, if_neg (by rw [h8, h18, h27]; decide), if_neg hw0, if_neg hw1, zxa, zxm]; rfl)
          · first | (intro _ _; rfl) | (intro c hc2; rw [yI_far (by omega) (by omega) (by omega) (by omega), zb_far (by omega)])
          · first | exact h33 | (rw [yI_far (by decide) (by decide) (by decide) (by decide), zb_far (by decide)]; exact h33)
        by_cases hw1 : w = 1
        · skip
          subst hw1
          refine x_lookup (off := 31) (tgt := 90) dX8_year_59 (by decide) (by decide) (by decide) ?_
          refine x_aload_n dX8_year_90 rfl ?_
          refine x_getR dX8_year_91 fl_X8_26 (by omega) rfl rfl rfl ?_
          refine x_getR dX8_year_94 fl_X8_151 (by omega) rfl rfl rfl ?_
          refine x_getI dX8_year_97 fl_X8_102 (by omega) rfl rfl ?_
          refine x_iret dX8_year_100 rfl (Nat.le_of_ble_eq_true rfl) (Nat.le_of_ble_eq_true rfl) ?_
          refine zU_of ?_ ?_ ?_
          · first | (simp [yeA, h8, h18, h27]; done) | (rw [yeA, if_neg (by rw [h8, h18]; decide), zxa, zxm]; rfl) | (rw [yeA, if_neg (by rw [h8, h18, h27]; decide), if_neg hw0, if_neg hw1, zxa, zxm]; rfl)
          · first | (intro _ _; rfl) | (intro c hc2; rw [yI_far (by omega) (by omega) (by omega) (by omega), zb_far (by omega)])
          · first | exact h33 | (rw [yI_far (by decide) (by decide) (by decide) (by decide), zb_far (by decide)]; exact h33)
        refine x_lookup (off := 42) (tgt := 101) dX8_year_59 (by decide) (by have e0 := zsw_ne hw0; have e1 := zsw_ne hw1; have c0 : (0 : Int32).toInt = 0 := (by decide); have c1 : (1 : Int32).toInt = 1 := (by decide); rw [c0] at e0; rw [c1] at e1; simp [Op.lookupswitch.offset, e0, e1, Ne.symm e0, Ne.symm e1]) (by decide) ?_
        refine x_aload_n dX8_year_101 rfl ?_
        refine x_getR dX8_year_102 fl_X8_26 (by omega) rfl rfl rfl ?_
        refine x_getR dX8_year_105 fl_X8_151 (by omega) rfl rfl rfl ?_
        refine x_iload dX8_year_108 rfl ?_
        refine x_callVi dX8_year_110 ml_X8_197 mt_X3_strengthOf mv_X3_strengthOf (ct_X3_strengthOf (Or.inr (Or.inl rfl)) (by omega)) (by omega) rfl rfl rfl rfl (Nat.le_of_ble_eq_true rfl) ⟨(Nat.le_of_ble_eq_true rfl), (Nat.le_of_ble_eq_true rfl)⟩ ⟨rfl, rfl⟩ ⟨(Nat.le_of_ble_eq_true rfl), (Nat.le_of_ble_eq_true rfl)⟩ ?_
        refine x_pc (pc2 := 113) rfl ?_
        refine x_iret dX8_year_113 rfl (Nat.le_of_ble_eq_true rfl) (Nat.le_of_ble_eq_true rfl) ?_
        refine zU_of ?_ ?_ ?_
        · first | (simp [yeA, h8, h18, h27]; done) | (rw [yeA, if_neg (by rw [h8, h18]; decide), zxa, zxm]; rfl) | (rw [yeA, if_neg (by rw [h8, h18, h27]; decide), if_neg hw0, if_neg hw1, zxa, zxm]; rfl)
        · first | (intro _ _; rfl) | (intro c hc2; rw [yI_far (by omega) (by omega) (by omega) (by omega), zb_far (by omega)])
        · first | exact h33 | (rw [yI_far (by decide) (by decide) (by decide) (by decide), zb_far (by decide)]; exact h33)
      · skip
        replace h27 := zb0 h27
        refine x_bipush (v := (-2)) dX8_year_30 (by decide) ?_
        refine x_iret dX8_year_32 rfl (Nat.le_of_ble_eq_true rfl) (Nat.le_of_ble_eq_true rfl) ?_
        refine zU_of ?_ ?_ ?_
        · first | (simp [yeA, h8, h18, h27]; done) | (rw [yeA, if_neg (by rw [h8, h18]; decide), zxa, zxm]; rfl) | (rw [yeA, if_neg (by rw [h8, h18, h27]; decide), if_neg hw0, if_neg hw1, zxa, zxm]; rfl)
        · first | (intro _ _; rfl) | (intro c hc2; rw [yI_far (by omega) (by omega) (by omega) (by omega), zb_far (by omega)])
        · first | exact h33 | (rw [yI_far (by decide) (by decide) (by decide) (by decide), zb_far (by decide)]; exact h33)
theorem ct_X8_toldOfGrief {g : zG} {N : Nat} {I : zI} {L : zL} {q0 q1 : Option Nat} {a p : Int32} (hN : 58 ≤ N) (h33 : I 33 0 = 0) : Ct g yX8_toldOfGrief mX8_toldOfGrief [.ref (g.2.1 + 0), .int a, .int p] N I L (zRw q0 q1) (zD (some (.int (tgA I a p))) N I L (zRw q0 q1)) := by
  refine Ct_of (lo0 := [some (.ref (g.2.1 + 0)), some (.int a), some (.int p)]) rfl rfl rfl rfl (Nat.le_of_ble_eq_true rfl) (fun E => ?_)
  refine x_aload_n dX8_toldOfGrief_0 rfl ?_
  refine x_getR dX8_toldOfGrief_1 fl_X8_10 (by omega) rfl rfl rfl ?_
  refine x_iload_n dX8_toldOfGrief_4 rfl ?_
  refine x_callVi dX8_toldOfGrief_5 ml_X8_158 mt_X3_isThere mv_X3_isThere (ct_X3_isThere (Or.inl rfl) (by omega)) (by omega) rfl rfl rfl rfl (Nat.le_of_ble_eq_true rfl) ⟨(Nat.le_of_ble_eq_true rfl), (Nat.le_of_ble_eq_true rfl)⟩ ⟨rfl, rfl⟩ ⟨(Nat.le_of_ble_eq_true rfl), (Nat.le_of_ble_eq_true rfl)⟩ ?_
  refine x_if_eq (tgt := 32) dX8_toldOfGrief_8 (by decide) (fun h8 => ?_) (fun h8 => ?_)
  · skip
    replace h8 := zb0 h8
    refine x_bipush (v := (-2)) dX8_toldOfGrief_32 (by decide) ?_
    exact x_iret dX8_toldOfGrief_34 rfl (Nat.le_of_ble_eq_true rfl) (Nat.le_of_ble_eq_true rfl) ⟨congrArg (fun z => some (Value.int z)) (by rw [tgA, if_neg (show ¬ (zth (I 2) a = true ∧ zin p 0 1 = true) from fun q => by rw [show zth (I 2) a = false from h8] at q; exact absurd q.1 (by decide))]), rfl, by rfl, by rfl, rfl⟩
  · skip
    replace h8 := zb1 h8
    refine x_iload_n dX8_toldOfGrief_11 rfl ?_
    refine x_iconst (v := 0) dX8_toldOfGrief_12 (by decide) ?_
    refine x_iconst (v := 1) dX8_toldOfGrief_13 (by decide) ?_
    refine x_callSi dX8_toldOfGrief_14 ml_X8_62 mt_X8_isFrom st_X8_isFrom (ct_X8_isFrom) rfl rfl (Nat.le_of_ble_eq_true rfl) ⟨(Nat.le_of_ble_eq_true rfl), (Nat.le_of_ble_eq_true rfl)⟩ ⟨rfl, rfl⟩ ⟨(Nat.le_of_ble_eq_true rfl), (Nat.le_of_ble_eq_true rfl)⟩ ?_
    refine x_if_eq (tgt := 32) dX8_toldOfGrief_17 (by decide) (fun h17 => ?_) (fun h17 => ?_)
    · skip
      replace h17 := zb0 h17
      refine x_bipush (v := (-2)) dX8_toldOfGrief_32 (by decide) ?_
      exact x_iret dX8_toldOfGrief_34 rfl (Nat.le_of_ble_eq_true rfl) (Nat.le_of_ble_eq_true rfl) ⟨congrArg (fun z => some (Value.int z)) (by rw [tgA, if_neg (show ¬ (zth (I 2) a = true ∧ zin p 0 1 = true) from fun q => by rw [h17] at q; exact absurd q.2 (by decide))]), rfl, by rfl, by rfl, rfl⟩
    · skip
      replace h17 := zb1 h17
      obtain ⟨i, hi, rfl⟩ := zth_ex h8
      refine x_aload_n dX8_toldOfGrief_20 rfl ?_
      refine x_getR dX8_toldOfGrief_21 fl_X8_10 (by omega) rfl rfl rfl ?_
      refine x_iload_n dX8_toldOfGrief_24 rfl ?_
      refine x_iload_n dX8_toldOfGrief_25 rfl ?_
      refine x_callVi dX8_toldOfGrief_26 ml_X8_161 mt_X3_griefPart mv_X3_griefPart (ct_X3_griefPart (m := 1) (Or.inl rfl) (by omega) rfl hi) (by omega) rfl rfl rfl rfl (Nat.le_of_ble_eq_true rfl) ⟨(Nat.le_of_ble_eq_true rfl), (Nat.le_of_ble_eq_true rfl)⟩ ⟨rfl, rfl⟩ ⟨(Nat.le_of_ble_eq_true rfl), (Nat.le_of_ble_eq_true rfl)⟩ ?_
      refine x_pc (pc2 := 29) rfl ?_
      refine x_goto (tgt := 34) dX8_toldOfGrief_29 (by decide) ?_
      exact x_iret dX8_toldOfGrief_34 rfl (Nat.le_of_ble_eq_true rfl) (Nat.le_of_ble_eq_true rfl) ⟨congrArg (fun z => some (Value.int z)) (by rw [tgA, if_pos (show zth (I 2) (nI i) = true ∧ zin p 0 1 = true from ⟨h8, h17⟩), zx_nI (by omega)]), rfl, by rfl, by rfl, rfl⟩
theorem ct_X8_told {g : zG} {N : Nat} {I : zI} {L : zL} {q0 q1 : Option Nat} {w : Int32} {n : Nat} (hN : 58 ≤ N) (h33 : I 33 0 = 0) (hc : I 12 1 = nI n) : Ct g yX8_told mX8_told [.ref (g.2.1 + 0), .int w] N I L (zRw q0 q1) (zU (toA I (nI n) w) N I L (zRw q0 q1)) := by
  refine Ct_of (lo0 := [some (.ref (g.2.1 + 0)), some (.int w)]) rfl rfl rfl rfl (Nat.le_of_ble_eq_true rfl) (fun E => ?_)
  refine x_iload_n dX8_told_0 rfl ?_
  refine x_bipush (v := 10) dX8_told_1 (by decide) ?_
  refine x_bipush (v := 19) dX8_told_3 (by decide) ?_
  refine x_callSi dX8_told_5 ml_X8_62 mt_X8_isFrom st_X8_isFrom (ct_X8_isFrom) rfl rfl (Nat.le_of_ble_eq_true rfl) ⟨(Nat.le_of_ble_eq_true rfl), (Nat.le_of_ble_eq_true rfl)⟩ ⟨rfl, rfl⟩ ⟨(Nat.le_of_ble_eq_true rfl), (Nat.le_of_ble_eq_true rfl)⟩ ?_
  refine x_if_eq (tgt := 24) dX8_told_8 (by decide) (fun h8 => ?_) (fun h8 => ?_)
  · skip
    replace h8 := zb0 h8
    refine x_iload_n dX8_told_24 rfl ?_
    refine x_bipush (v := 20) dX8_told_25 (by decide) ?_
    refine x_bipush (v := 27) dX8_told_27 (by decide) ?_
    refine x_callSi dX8_told_29 ml_X8_62 mt_X8_isFrom st_X8_isFrom (ct_X8_isFrom) rfl rfl (Nat.le_of_ble_eq_true rfl) ⟨(Nat.le_of_ble_eq_true rfl), (Nat.le_of_ble_eq_true rfl)⟩ ⟨rfl, rfl⟩ ⟨(Nat.le_of_ble_eq_true rfl), (Nat.le_of_ble_eq_true rfl)⟩ ?_
    refine x_if_eq (tgt := 47) dX8_told_32 (by decide) (fun h32 => ?_) (fun h32 => ?_)
    · skip
      replace h32 := zb0 h32
      refine x_iload_n dX8_told_47 rfl ?_
      refine x_bipush (v := 30) dX8_told_48 (by decide) ?_
      refine x_bipush (v := 35) dX8_told_50 (by decide) ?_
      refine x_callSi dX8_told_52 ml_X8_62 mt_X8_isFrom st_X8_isFrom (ct_X8_isFrom) rfl rfl (Nat.le_of_ble_eq_true rfl) ⟨(Nat.le_of_ble_eq_true rfl), (Nat.le_of_ble_eq_true rfl)⟩ ⟨rfl, rfl⟩ ⟨(Nat.le_of_ble_eq_true rfl), (Nat.le_of_ble_eq_true rfl)⟩ ?_
      refine x_if_eq (tgt := 70) dX8_told_55 (by decide) (fun h55 => ?_) (fun h55 => ?_)
      · skip
        replace h55 := zb0 h55
        refine x_iload_n dX8_told_70 rfl ?_
        refine x_bipush (v := 100) dX8_told_71 (by decide) ?_
        refine x_icmp_lt (tgt := 95) dX8_told_73 (by decide) (fun h73 => ?_) (fun h73 => ?_)
        · skip
          refine x_iload_n dX8_told_95 rfl ?_
          by_cases hw0 : w = 0
          · skip
            subst hw0
            refine x_tableIn (off := 36) (tgt := 132) dX8_told_96 (by decide) (by decide) rfl (by decide) ?_
            refine x_aload_n dX8_told_132 rfl ?_
            refine x_getR dX8_told_133 fl_X8_19 (by omega) rfl rfl rfl ?_
            refine x_getI dX8_told_136 fl_X8_131 (by omega) rfl rfl ?_
            refine x_iret dX8_told_139 rfl (Nat.le_of_ble_eq_true rfl) (Nat.le_of_ble_eq_true rfl) ?_
            refine zU_of ?_ ?_ ?_
            · first | (rw [toA, if_pos h8, ek, zx_nI (by omega)]; done) | (rw [toA, if_neg (by rw [h8]; decide), if_pos h32, ek, zx_nI (by omega)]; done) | (rw [toA, if_neg (by rw [h8]; decide), if_neg (by rw [h32]; decide), if_pos h55, ek, zx_nI (by omega)]; done) | (rw [toA, if_neg (by rw [h8]; decide), if_neg (by rw [h32]; decide), if_neg (by rw [h55]; decide), if_neg (show ¬ w < 100 from h73)]; rfl) | (rw [toA, if_neg (by decide), if_neg (by decide), if_neg (by decide), if_pos (by decide)]; first | rfl | exact hc) | (rw [toA, if_neg (by rw [h8]; decide), if_neg (by rw [h32]; decide), if_neg (by rw [h55]; decide), if_pos h73, if_neg hw0, if_neg hw1, if_neg hw2, if_neg hw3, if_neg hw4])
            · intro _ _; rfl
            · exact h33
          by_cases hw1 : w = 1
          · skip
            subst hw1
            refine x_tableIn (off := 44) (tgt := 140) dX8_told_96 (by decide) (by decide) rfl (by decide) ?_
            refine x_aload_n dX8_told_140 rfl ?_
            refine x_getR dX8_told_141 fl_X8_10 (by omega) rfl rfl rfl ?_
            refine x_callVi dX8_told_144 ml_X8_77 mt_X3_griefsThere mv_X3_griefsThere (ct_X3_griefsThere (Or.inl rfl) (by omega)) (by omega) rfl rfl rfl rfl (Nat.le_of_ble_eq_true rfl) ⟨(Nat.le_of_ble_eq_true rfl), (Nat.le_of_ble_eq_true rfl)⟩ ⟨rfl, rfl⟩ ⟨(Nat.le_of_ble_eq_true rfl), (Nat.le_of_ble_eq_true rfl)⟩ ?_
            refine x_iret dX8_told_147 rfl (Nat.le_of_ble_eq_true rfl) (Nat.le_of_ble_eq_true rfl) ?_
            refine zU_of ?_ ?_ ?_
            · first | (rw [toA, if_pos h8, ek, zx_nI (by omega)]; done) | (rw [toA, if_neg (by rw [h8]; decide), if_pos h32, ek, zx_nI (by omega)]; done) | (rw [toA, if_neg (by rw [h8]; decide), if_neg (by rw [h32]; decide), if_pos h55, ek, zx_nI (by omega)]; done) | (rw [toA, if_neg (by rw [h8]; decide), if_neg (by rw [h32]; decide), if_neg (by rw [h55]; decide), if_neg (show ¬ w < 100 from h73)]; rfl) | (rw [toA, if_neg (by decide), if_neg (by decide), if_neg (by decide), if_pos (by decide)]; first | rfl | exact hc) | (rw [toA, if_neg (by rw [h8]; decide), if_neg (by rw [h32]; decide), if_neg (by rw [h55]; decide), if_pos h73, if_neg hw0, if_neg hw1, if_neg hw2, if_neg hw3, if_neg hw4])
            · intro _ _; rfl
            · exact h33
          by_cases hw2 : w = 2
          · skip
            subst hw2
            refine x_tableIn (off := 52) (tgt := 148) dX8_told_96 (by decide) (by decide) rfl (by decide) ?_
            refine x_aload_n dX8_told_148 rfl ?_
            refine x_getR dX8_told_149 fl_X8_10 (by omega) rfl rfl rfl ?_
            refine x_getI dX8_told_152 fl_X8_102 (by omega) rfl rfl ?_
            refine x_iret dX8_told_155 rfl (Nat.le_of_ble_eq_true rfl) (Nat.le_of_ble_eq_true rfl) ?_
            refine zU_of ?_ ?_ ?_
            · first | (rw [toA, if_pos h8, ek, zx_nI (by omega)]; done) | (rw [toA, if_neg (by rw [h8]; decide), if_pos h32, ek, zx_nI (by omega)]; done) | (rw [toA, if_neg (by rw [h8]; decide), if_neg (by rw [h32]; decide), if_pos h55, ek, zx_nI (by omega)]; done) | (rw [toA, if_neg (by rw [h8]; decide), if_neg (by rw [h32]; decide), if_neg (by rw [h55]; decide), if_neg (show ¬ w < 100 from h73)]; rfl) | (rw [toA, if_neg (by decide), if_neg (by decide), if_neg (by decide), if_pos (by decide)]; first | rfl | exact hc) | (rw [toA, if_neg (by rw [h8]; decide), if_neg (by rw [h32]; decide), if_neg (by rw [h55]; decide), if_pos h73, if_neg hw0, if_neg hw1, if_neg hw2, if_neg hw3, if_neg hw4])
            · intro _ _; rfl
            · exact h33
          by_cases hw3 : w = 3
          · skip
            subst hw3
            refine x_tableIn (off := 60) (tgt := 156) dX8_told_96 (by decide) (by decide) rfl (by decide) ?_
            refine x_aload_n dX8_told_156 rfl ?_
            refine x_getR dX8_told_157 fl_X8_10 (by omega) rfl rfl rfl ?_
            refine x_getI dX8_told_160 fl_X8_165 (by omega) rfl rfl ?_
            refine x_iret dX8_told_163 rfl (Nat.le_of_ble_eq_true rfl) (Nat.le_of_ble_eq_true rfl) ?_
            refine zU_of ?_ ?_ ?_
            · first | (rw [toA, if_pos h8, ek, zx_nI (by omega)]; done) | (rw [toA, if_neg (by rw [h8]; decide), if_pos h32, ek, zx_nI (by omega)]; done) | (rw [toA, if_neg (by rw [h8]; decide), if_neg (by rw [h32]; decide), if_pos h55, ek, zx_nI (by omega)]; done) | (rw [toA, if_neg (by rw [h8]; decide), if_neg (by rw [h32]; decide), if_neg (by rw [h55]; decide), if_neg (show ¬ w < 100 from h73)]; rfl) | (rw [toA, if_neg (by decide), if_neg (by decide), if_neg (by decide), if_pos (by decide)]; first | rfl | exact hc) | (rw [toA, if_neg (by rw [h8]; decide), if_neg (by rw [h32]; decide), if_neg (by rw [h55]; decide), if_pos h73, if_neg hw0, if_neg hw1, if_neg hw2, if_neg hw3, if_neg hw4])
            · intro _ _; rfl
            · exact h33
          by_cases hw4 : w = 4
          · skip
            subst hw4
            refine x_tableIn (off := 68) (tgt := 164) dX8_told_96 (by decide) (by decide) rfl (by decide) ?_
            refine x_aload_n dX8_told_164 rfl ?_
            refine x_getR dX8_told_165 fl_X8_10 (by omega) rfl rfl rfl ?_
            refine x_getI dX8_told_168 fl_X8_210 (by omega) rfl rfl ?_
            refine x_iret dX8_told_171 rfl (Nat.le_of_ble_eq_true rfl) (Nat.le_of_ble_eq_true rfl) ?_
            refine zU_of ?_ ?_ ?_
            · first | (rw [toA, if_pos h8, ek, zx_nI (by omega)]; done) | (rw [toA, if_neg (by rw [h8]; decide), if_pos h32, ek, zx_nI (by omega)]; done) | (rw [toA, if_neg (by rw [h8]; decide), if_neg (by rw [h32]; decide), if_pos h55, ek, zx_nI (by omega)]; done) | (rw [toA, if_neg (by rw [h8]; decide), if_neg (by rw [h32]; decide), if_neg (by rw [h55]; decide), if_neg (show ¬ w < 100 from h73)]; rfl) | (rw [toA, if_neg (by decide), if_neg (by decide), if_neg (by decide), if_pos (by decide)]; first | rfl | exact hc) | (rw [toA, if_neg (by rw [h8]; decide), if_neg (by rw [h32]; decide), if_neg (by rw [h55]; decide), if_pos h73, if_neg hw0, if_neg hw1, if_neg hw2, if_neg hw3, if_neg hw4])
            · intro _ _; rfl
            · exact h33
          refine x_tableOut (tgt := 172) dX8_told_96 (by have e0 := zsw_ne hw0; have e1 := zsw_ne hw1; have e2 := zsw_ne hw2; have e3 := zsw_ne hw3; have e4 := zsw_ne hw4; have c0 : (0 : Int32).toInt = 0 := (by decide); have c1 : (1 : Int32).toInt = 1 := (by decide); have c2 : (2 : Int32).toInt = 2 := (by decide); have c3 : (3 : Int32).toInt = 3 := (by decide); have c4 : (4 : Int32).toInt = 4 := (by decide); omega) (by decide) ?_
          refine x_bipush (v := (-2)) dX8_told_172 (by decide) ?_
          refine x_iret dX8_told_174 rfl (Nat.le_of_ble_eq_true rfl) (Nat.le_of_ble_eq_true rfl) ?_
          refine zU_of ?_ ?_ ?_
          · first | (rw [toA, if_pos h8, ek, zx_nI (by omega)]; done) | (rw [toA, if_neg (by rw [h8]; decide), if_pos h32, ek, zx_nI (by omega)]; done) | (rw [toA, if_neg (by rw [h8]; decide), if_neg (by rw [h32]; decide), if_pos h55, ek, zx_nI (by omega)]; done) | (rw [toA, if_neg (by rw [h8]; decide), if_neg (by rw [h32]; decide), if_neg (by rw [h55]; decide), if_neg (show ¬ w < 100 from h73)]; rfl) | (rw [toA, if_neg (by decide), if_neg (by decide), if_neg (by decide), if_pos (by decide)]; first | rfl | exact hc) | (rw [toA, if_neg (by rw [h8]; decide), if_neg (by rw [h32]; decide), if_neg (by rw [h55]; decide), if_pos h73, if_neg hw0, if_neg hw1, if_neg hw2, if_neg hw3, if_neg hw4])
          · intro _ _; rfl
          · exact h33
        · skip
          refine x_aload_n dX8_told_76 rfl ?_
          refine x_iload_n dX8_told_77 rfl ?_
          refine x_bipush (v := 100) dX8_told_78 (by decide) ?_
          refine x_isub dX8_told_80 ?_
          refine x_bipush (v := 10) dX8_told_81 (by decide) ?_
          refine x_pc (pc2 := 83) rfl ?_
          refine x_idiv dX8_told_83 (by decide) ?_
          refine x_iload_n dX8_told_84 rfl ?_
          refine x_bipush (v := 100) dX8_told_85 (by decide) ?_
          refine x_isub dX8_told_87 ?_
          refine x_bipush (v := 10) dX8_told_88 (by decide) ?_
          refine x_irem dX8_told_90 (by decide) ?_
          refine x_pc (pc2 := 91) rfl ?_
          refine x_callVi dX8_told_91 ml_X8_260 mt_X8_toldOfGrief mv_X8_toldOfGrief (ct_X8_toldOfGrief hN h33) (by omega) rfl rfl rfl rfl (Nat.le_of_ble_eq_true rfl) ⟨(Nat.le_of_ble_eq_true rfl), (Nat.le_of_ble_eq_true rfl)⟩ ⟨rfl, rfl⟩ ⟨(Nat.le_of_ble_eq_true rfl), (Nat.le_of_ble_eq_true rfl)⟩ ?_
          refine x_iret dX8_told_94 rfl (Nat.le_of_ble_eq_true rfl) (Nat.le_of_ble_eq_true rfl) ?_
          refine zU_of ?_ ?_ ?_
          · first | (rw [toA, if_pos h8, ek, zx_nI (by omega)]; done) | (rw [toA, if_neg (by rw [h8]; decide), if_pos h32, ek, zx_nI (by omega)]; done) | (rw [toA, if_neg (by rw [h8]; decide), if_neg (by rw [h32]; decide), if_pos h55, ek, zx_nI (by omega)]; done) | (rw [toA, if_neg (by rw [h8]; decide), if_neg (by rw [h32]; decide), if_neg (by rw [h55]; decide), if_neg (show ¬ w < 100 from h73)]; rfl) | (rw [toA, if_neg (by decide), if_neg (by decide), if_neg (by decide), if_pos (by decide)]; first | rfl | exact hc) | (rw [toA, if_neg (by rw [h8]; decide), if_neg (by rw [h32]; decide), if_neg (by rw [h55]; decide), if_pos h73, if_neg hw0, if_neg hw1, if_neg hw2, if_neg hw3, if_neg hw4])
          · intro _ _; rfl
          · exact h33
      · skip
        replace h55 := zb1 h55
        obtain ⟨k, hk, ek⟩ := zin_sub (a := 30) (b := 35) (by decide) (by decide) h55
        rw [show nI 30 = 30 from rfl] at ek
        refine x_aload_n dX8_told_58 rfl ?_
        refine x_getR dX8_told_59 fl_X8_10 (by omega) rfl rfl rfl ?_
        refine x_iload_n dX8_told_62 rfl ?_
        refine x_bipush (v := 30) dX8_told_63 (by decide) ?_
        refine x_isub dX8_told_65 ?_
        refine x_pc (pc2 := 66) rfl ?_
        refine x_callVi dX8_told_66 ml_X8_90 mt_X3_holdAsNumber mv_X3_holdAsNumber (ct_X3_holdAsNumber (m := 1) (Or.inl rfl) (by omega) ek (by omega)) (by omega) rfl rfl rfl rfl (Nat.le_of_ble_eq_true rfl) ⟨(Nat.le_of_ble_eq_true rfl), (Nat.le_of_ble_eq_true rfl)⟩ ⟨rfl, rfl⟩ ⟨(Nat.le_of_ble_eq_true rfl), (Nat.le_of_ble_eq_true rfl)⟩ ?_
        refine x_iret dX8_told_69 rfl (Nat.le_of_ble_eq_true rfl) (Nat.le_of_ble_eq_true rfl) ?_
        refine zU_of ?_ ?_ ?_
        · first | (rw [toA, if_pos h8, ek, zx_nI (by omega)]; done) | (rw [toA, if_neg (by rw [h8]; decide), if_pos h32, ek, zx_nI (by omega)]; done) | (rw [toA, if_neg (by rw [h8]; decide), if_neg (by rw [h32]; decide), if_pos h55, ek, zx_nI (by omega)]; done) | (rw [toA, if_neg (by rw [h8]; decide), if_neg (by rw [h32]; decide), if_neg (by rw [h55]; decide), if_neg (show ¬ w < 100 from h73)]; rfl) | (rw [toA, if_neg (by decide), if_neg (by decide), if_neg (by decide), if_pos (by decide)]; first | rfl | exact hc) | (rw [toA, if_neg (by rw [h8]; decide), if_neg (by rw [h32]; decide), if_neg (by rw [h55]; decide), if_pos h73, if_neg hw0, if_neg hw1, if_neg hw2, if_neg hw3, if_neg hw4])
        · intro _ _; rfl
        · exact h33
    · skip
      replace h32 := zb1 h32
      obtain ⟨k, hk, ek⟩ := zin_sub (a := 20) (b := 27) (by decide) (by decide) h32
      rw [show nI 20 = 20 from rfl] at ek
      refine x_aload_n dX8_told_35 rfl ?_
      refine x_getR dX8_told_36 fl_X8_10 (by omega) rfl rfl rfl ?_
      refine x_iload_n dX8_told_39 rfl ?_
      refine x_bipush (v := 20) dX8_told_40 (by decide) ?_
      refine x_isub dX8_told_42 ?_
      refine x_pc (pc2 := 43) rfl ?_
      refine x_callVi dX8_told_43 ml_X8_110 mt_X3_coatAsNumber mv_X3_coatAsNumber (ct_X3_coatAsNumber (m := 1) (Or.inl rfl) (by omega) ek (by omega)) (by omega) rfl rfl rfl rfl (Nat.le_of_ble_eq_true rfl) ⟨(Nat.le_of_ble_eq_true rfl), (Nat.le_of_ble_eq_true rfl)⟩ ⟨rfl, rfl⟩ ⟨(Nat.le_of_ble_eq_true rfl), (Nat.le_of_ble_eq_true rfl)⟩ ?_
      refine x_iret dX8_told_46 rfl (Nat.le_of_ble_eq_true rfl) (Nat.le_of_ble_eq_true rfl) ?_
      refine zU_of ?_ ?_ ?_
      · first | (rw [toA, if_pos h8, ek, zx_nI (by omega)]; done) | (rw [toA, if_neg (by rw [h8]; decide), if_pos h32, ek, zx_nI (by omega)]; done) | (rw [toA, if_neg (by rw [h8]; decide), if_neg (by rw [h32]; decide), if_pos h55, ek, zx_nI (by omega)]; done) | (rw [toA, if_neg (by rw [h8]; decide), if_neg (by rw [h32]; decide), if_neg (by rw [h55]; decide), if_neg (show ¬ w < 100 from h73)]; rfl) | (rw [toA, if_neg (by decide), if_neg (by decide), if_neg (by decide), if_pos (by decide)]; first | rfl | exact hc) | (rw [toA, if_neg (by rw [h8]; decide), if_neg (by rw [h32]; decide), if_neg (by rw [h55]; decide), if_pos h73, if_neg hw0, if_neg hw1, if_neg hw2, if_neg hw3, if_neg hw4])
      · intro _ _; rfl
      · exact h33
  · skip
    replace h8 := zb1 h8
    obtain ⟨k, hk, ek⟩ := zin_sub (a := 10) (b := 19) (by decide) (by decide) h8
    rw [show nI 10 = 10 from rfl] at ek
    refine x_aload_n dX8_told_11 rfl ?_
    refine x_getR dX8_told_12 fl_X8_10 (by omega) rfl rfl rfl ?_
    refine x_getR dX8_told_15 fl_X8_122 (by omega) rfl rfl rfl ?_
    refine x_iload_n dX8_told_18 rfl ?_
    refine x_bipush (v := 10) dX8_told_19 (by decide) ?_
    refine x_pc (pc2 := 21) rfl ?_
    refine x_isub dX8_told_21 ?_
    refine x_ialdN dX8_told_22 (by omega) rfl ek (by omega) ?_
    refine x_iret dX8_told_23 rfl (Nat.le_of_ble_eq_true rfl) (Nat.le_of_ble_eq_true rfl) ?_
    refine zU_of ?_ ?_ ?_
    · first | (rw [toA, if_pos h8, ek, zx_nI (by omega)]; done) | (rw [toA, if_neg (by rw [h8]; decide), if_pos h32, ek, zx_nI (by omega)]; done) | (rw [toA, if_neg (by rw [h8]; decide), if_neg (by rw [h32]; decide), if_pos h55, ek, zx_nI (by omega)]; done) | (rw [toA, if_neg (by rw [h8]; decide), if_neg (by rw [h32]; decide), if_neg (by rw [h55]; decide), if_neg (show ¬ w < 100 from h73)]; rfl) | (rw [toA, if_neg (by decide), if_neg (by decide), if_neg (by decide), if_pos (by decide)]; first | rfl | exact hc) | (rw [toA, if_neg (by rw [h8]; decide), if_neg (by rw [h32]; decide), if_neg (by rw [h55]; decide), if_pos h73, if_neg hw0, if_neg hw1, if_neg hw2, if_neg hw3, if_neg hw4])
    · intro _ _; rfl
    · exact h33
theorem ct_X8_choose {g : zG} {N : Nat} {I : zI} {L : zL} {R : zR} {n k : Nat} (hn : n < 18) (hk : k ≤ n) : Ct g yX8_choose mX8_choose [.int (nI n), .int (nI k)] N I L R (zD (some (.long (lN (cw_ n k k)))) N I L R) := by
  refine Ct_of (lo0 := [some (.int (nI n)), some (.int (nI k)), none, none, none]) rfl rfl rfl rfl (Nat.le_of_ble_eq_true rfl) (fun E => ?_)
  refine x_lconst (v := 1) dX8_choose_0 (by decide) ?_
  refine x_lstore_n (lo2 := [_, _, _, _, _]) dX8_choose_1 (by decide) rfl rfl ?_
  refine x_iconst (v := 1) dX8_choose_2 (by decide) ?_
  refine x_istore (lo2 := [_, _, _, _, _]) dX8_choose_3 (by decide) rfl rfl ?_
  refine x_loop (inv := fun i => True) (fun i => [some (.int (nI n)), some (.int (nI k)), some (.long (lN (cw_ n k (i - 1)))), none, some (.int (nI i))]) (fun i => I) (fun i => L) 1 (k + 1) (by omega) (by trivial) (by rfl) (by rfl) (by rfl) (fun i hloi hhii hinvi Ki => ?_) (fun hinvi => ?_)
  · skip
    refine x_iload dX8_choose_5 rfl ?_
    refine x_iload_n dX8_choose_7 rfl ?_
    refine x_icmp_gt (tgt := 31) dX8_choose_8 (by decide) (fun h8 => ?_) (fun h8 => ?_)
    · skip
      exact absurd h8 (nI_nlt (show i ≤ k by omega) (by omega))
    · skip
      refine x_lload_n dX8_choose_11 rfl ?_
      refine x_iload_n dX8_choose_12 rfl ?_
      refine x_iload_n dX8_choose_13 rfl ?_
      refine x_isub dX8_choose_14 ?_
      refine x_iload dX8_choose_15 rfl ?_
      refine x_pc (pc2 := 17) rfl ?_
      refine x_iadd dX8_choose_17 ?_
      rw [pk_sub hk, nI_add]
      refine x_i2l dX8_choose_18 ?_
      rw [nI_l (by omega)]
      refine x_lmul dX8_choose_19 ?_
      rw [lN_mul]
      refine x_iload dX8_choose_20 rfl ?_
      refine x_i2l dX8_choose_22 ?_
      rw [nI_l (by omega)]
      refine x_ldiv dX8_choose_23 (by intro q; have := (pk_lEQ (a := i) (b := 0) (by omega) (by decide)).mp q; omega) ?_
      obtain ⟨j, rfl⟩ : ∃ j, i = j + 1 := ⟨i - 1, by omega⟩
      have hcw := cw_le n hn k (by omega) j (by omega)
      have hm2 : cw_ n k j * (n - k + (j + 1)) ≤ cw_ n k j * 100 := Nat.mul_le_mul_left _ (by omega)
      rw [Nat.add_sub_cancel, pk_lDiv (show cw_ n k j * (n - k + (j + 1)) < 2 ^ 63 by omega) (by omega) (by omega)]
      refine x_pc (pc2 := 24) rfl ?_
      refine x_lstore_n (lo2 := [_, _, _, _, _]) dX8_choose_24 (by decide) rfl rfl ?_
      refine x_iincN (lo2 := [_, _, _, _, _]) dX8_choose_25 rfl rfl rfl ?_
      refine x_goto (tgt := 5) dX8_choose_28 (by decide) ?_
      exact x_eq (by simp only [Nat.add_sub_cancel]; rfl) (by rfl) (by rfl) (Ki (by trivial))
  · skip
    refine x_iload dX8_choose_5 rfl ?_
    refine x_iload_n dX8_choose_7 rfl ?_
    refine x_icmp_gt (tgt := 31) dX8_choose_8 (by decide) (fun h8 => ?_) (fun h8 => ?_)
    · skip
      refine x_lload_n dX8_choose_31 rfl ?_
      exact x_lret dX8_choose_32 rfl (Nat.le_of_ble_eq_true rfl) (Nat.le_of_ble_eq_true rfl) ⟨congrArg (fun z => some (Value.long z)) (by rfl), rfl, by rfl, by rfl, rfl⟩
    · skip
      exact absurd (nI_lt (Nat.lt_succ_self k) (by omega)) h8
theorem ct_X8_power {g : zG} {N : Nat} {I : zI} {L : zL} {R : zR} {b e : Nat} (he : e < 2 ^ 31) : Ct g yX8_power mX8_power [.long (lN b), .int (nI e)] N I L R (zD (some (.long (lN (b ^ e)))) N I L R) := by
  refine Ct_of (lo0 := [some (.long (lN b)), none, some (.int (nI e)), none, none, none]) rfl rfl rfl rfl (Nat.le_of_ble_eq_true rfl) (fun E => ?_)
  refine x_lconst (v := 1) dX8_power_0 (by decide) ?_
  refine x_lstore_n (lo2 := [_, _, _, _, _, _]) dX8_power_1 (by decide) rfl rfl ?_
  refine x_iconst (v := 0) dX8_power_2 (by decide) ?_
  refine x_istore (lo2 := [_, _, _, _, _, _]) dX8_power_3 (by decide) rfl rfl ?_
  refine x_loop (inv := fun i => True) (fun i => [some (.long (lN b)), none, some (.int (nI e)), some (.long (lN (b ^ i))), none, some (.int (nI i))]) (fun i => I) (fun i => L) 0 e (by omega) (by trivial) (by rfl) (by rfl) (by rfl) (fun i hloi hhii hinvi Ki => ?_) (fun hinvi => ?_)
  · skip
    refine x_iload dX8_power_5 rfl ?_
    refine x_iload_n dX8_power_7 rfl ?_
    refine x_icmp_ge (tgt := 21) dX8_power_8 (by decide) (fun h8 => ?_) (fun h8 => ?_)
    · skip
      exact absurd h8 (nI_ge hhii he)
    · skip
      refine x_lload_n dX8_power_11 rfl ?_
      refine x_lload_n dX8_power_12 rfl ?_
      refine x_lmul dX8_power_13 ?_
      refine x_lstore_n (lo2 := [_, _, _, _, _, _]) dX8_power_14 (by decide) rfl rfl ?_
      refine x_iincN (lo2 := [_, _, _, _, _, _]) dX8_power_15 rfl rfl rfl ?_
      refine x_pc (pc2 := 18) rfl ?_
      refine x_goto (tgt := 5) dX8_power_18 (by decide) ?_
      exact x_eq (by rw [lN_mul, Nat.pow_succ]) (by rfl) (by rfl) (Ki (by trivial))
  · skip
    refine x_iload dX8_power_5 rfl ?_
    refine x_iload_n dX8_power_7 rfl ?_
    refine x_icmp_ge (tgt := 21) dX8_power_8 (by decide) (fun h8 => ?_) (fun h8 => ?_)
    · skip
      refine x_lload_n dX8_power_21 rfl ?_
      exact x_lret dX8_power_22 rfl (Nat.le_of_ble_eq_true rfl) (Nat.le_of_ble_eq_true rfl) ⟨congrArg (fun z => some (Value.long z)) (by rfl), rfl, by rfl, by rfl, rfl⟩
    · skip
      exact absurd (nI_le (Nat.le_refl e) he) h8
theorem ct_X8_themselves {g : zG} {N : Nat} {I : zI} {L : zL} {q0 q1 : Option Nat} {n t k p : Int32} (hN : 58 ≤ N) : Ct g yX8_themselves mX8_themselves [.ref (g.2.1 + 0), .int n, .int t, .int k, .int p] N I L (zRw q0 q1) (zD (some (.long (teA n t k p))) N I L (zRw q0 q1)) := by
  refine Ct_of (lo0 := [some (.ref (g.2.1 + 0)), some (.int n), some (.int t), some (.int k), some (.int p), none, none, none, none, none]) rfl rfl rfl rfl (Nat.le_of_ble_eq_true rfl) (fun E => ?_)
  refine x_iload_n dX8_themselves_0 rfl ?_
  refine x_iconst (v := 0) dX8_themselves_1 (by decide) ?_
  refine x_bipush (v := 17) dX8_themselves_2 (by decide) ?_
  refine x_callSi dX8_themselves_4 ml_X8_62 mt_X8_isFrom st_X8_isFrom (ct_X8_isFrom) rfl rfl (Nat.le_of_ble_eq_true rfl) ⟨(Nat.le_of_ble_eq_true rfl), (Nat.le_of_ble_eq_true rfl)⟩ ⟨rfl, rfl⟩ ⟨(Nat.le_of_ble_eq_true rfl), (Nat.le_of_ble_eq_true rfl)⟩ ?_
  refine x_if_eq (tgt := 39) dX8_themselves_7 (by decide) (fun h7 => ?_) (fun h7 => ?_)
  · skip
    replace h7 := zb0 h7
    refine x_ldc2 dX8_themselves_39 cn_X8_240 ?_
    exact x_lret dX8_themselves_42 rfl (Nat.le_of_ble_eq_true rfl) (Nat.le_of_ble_eq_true rfl) ⟨congrArg (fun z => some (Value.long z)) (by simp [teA, h7]), rfl, by rfl, by rfl, rfl⟩
  · skip
    replace h7 := zb1 h7
    refine x_iload_n dX8_themselves_10 rfl ?_
    refine x_iconst (v := 0) dX8_themselves_11 (by decide) ?_
    refine x_bipush (v := 10) dX8_themselves_12 (by decide) ?_
    refine x_callSi dX8_themselves_14 ml_X8_62 mt_X8_isFrom st_X8_isFrom (ct_X8_isFrom) rfl rfl (Nat.le_of_ble_eq_true rfl) ⟨(Nat.le_of_ble_eq_true rfl), (Nat.le_of_ble_eq_true rfl)⟩ ⟨rfl, rfl⟩ ⟨(Nat.le_of_ble_eq_true rfl), (Nat.le_of_ble_eq_true rfl)⟩ ?_
    refine x_if_eq (tgt := 39) dX8_themselves_17 (by decide) (fun h17 => ?_) (fun h17 => ?_)
    · skip
      replace h17 := zb0 h17
      refine x_ldc2 dX8_themselves_39 cn_X8_240 ?_
      exact x_lret dX8_themselves_42 rfl (Nat.le_of_ble_eq_true rfl) (Nat.le_of_ble_eq_true rfl) ⟨congrArg (fun z => some (Value.long z)) (by simp [teA, h7, h17]), rfl, by rfl, by rfl, rfl⟩
    · skip
      replace h17 := zb1 h17
      refine x_iload_n dX8_themselves_20 rfl ?_
      refine x_iconst (v := 0) dX8_themselves_21 (by decide) ?_
      refine x_iload_n dX8_themselves_22 rfl ?_
      refine x_callSi dX8_themselves_23 ml_X8_62 mt_X8_isFrom st_X8_isFrom (ct_X8_isFrom) rfl rfl (Nat.le_of_ble_eq_true rfl) ⟨(Nat.le_of_ble_eq_true rfl), (Nat.le_of_ble_eq_true rfl)⟩ ⟨rfl, rfl⟩ ⟨(Nat.le_of_ble_eq_true rfl), (Nat.le_of_ble_eq_true rfl)⟩ ?_
      refine x_if_eq (tgt := 39) dX8_themselves_26 (by decide) (fun h26 => ?_) (fun h26 => ?_)
      · skip
        replace h26 := zb0 h26
        refine x_ldc2 dX8_themselves_39 cn_X8_240 ?_
        exact x_lret dX8_themselves_42 rfl (Nat.le_of_ble_eq_true rfl) (Nat.le_of_ble_eq_true rfl) ⟨congrArg (fun z => some (Value.long z)) (by simp [teA, h7, h17, h26]), rfl, by rfl, by rfl, rfl⟩
      · skip
        replace h26 := zb1 h26
        refine x_iload dX8_themselves_29 rfl ?_
        refine x_iconst (v := 0) dX8_themselves_31 (by decide) ?_
        refine x_iconst (v := 1) dX8_themselves_32 (by decide) ?_
        refine x_callSi dX8_themselves_33 ml_X8_62 mt_X8_isFrom st_X8_isFrom (ct_X8_isFrom) rfl rfl (Nat.le_of_ble_eq_true rfl) ⟨(Nat.le_of_ble_eq_true rfl), (Nat.le_of_ble_eq_true rfl)⟩ ⟨rfl, rfl⟩ ⟨(Nat.le_of_ble_eq_true rfl), (Nat.le_of_ble_eq_true rfl)⟩ ?_
        refine x_if_ne (tgt := 43) dX8_themselves_36 (by decide) (fun h36 => ?_) (fun h36 => ?_)
        · skip
          replace h36 := zb1 h36
          obtain ⟨a, ha, rfl⟩ := zin_ex (b := 17) (by decide) h7
          obtain ⟨b, hb, rfl⟩ := zin_ex (b := 10) (by decide) h17
          obtain ⟨c, hc, rfl⟩ := zin_ex (b := a) (by omega) h26
          have hup := upN_lt a ha b hb c hc
          have h10 : 10 ^ a < 2 ^ 63 := Nat.lt_of_le_of_lt (Nat.pow_le_pow_right (by decide) (show a ≤ 17 by omega)) (by decide)
          have zxa : zx (nI a) = a := zx_nI (by omega)
          have zxb : zx (nI b) = b := zx_nI (by omega)
          have zxc : zx (nI c) = c := zx_nI (by omega)
          refine x_iload_n dX8_themselves_43 rfl ?_
          refine x_iload_n dX8_themselves_44 rfl ?_
          refine x_callSi dX8_themselves_45 ml_X8_242 mt_X8_choose st_X8_choose (ct_X8_choose ha (by omega)) rfl rfl (Nat.le_of_ble_eq_true rfl) ⟨(Nat.le_of_ble_eq_true rfl), (Nat.le_of_ble_eq_true rfl)⟩ ⟨rfl, rfl⟩ ⟨(Nat.le_of_ble_eq_true rfl), (Nat.le_of_ble_eq_true rfl)⟩ ?_
          refine x_iload_n dX8_themselves_48 rfl ?_
          refine x_i2l dX8_themselves_49 ?_
          rw [nI_l (by omega)]
          refine x_pc (pc2 := 50) rfl ?_
          refine x_iload_n dX8_themselves_50 rfl ?_
          refine x_callSi dX8_themselves_51 ml_X8_246 mt_X8_power st_X8_power (ct_X8_power (by omega)) rfl rfl (Nat.le_of_ble_eq_true rfl) ⟨(Nat.le_of_ble_eq_true rfl), (Nat.le_of_ble_eq_true rfl)⟩ ⟨rfl, rfl⟩ ⟨(Nat.le_of_ble_eq_true rfl), (Nat.le_of_ble_eq_true rfl)⟩ ?_
          refine x_lmul dX8_themselves_54 ?_
          rw [lN_mul]
          refine x_bipush (v := 10) dX8_themselves_55 (by decide) ?_
          refine x_iload_n dX8_themselves_57 rfl ?_
          refine x_isub dX8_themselves_58 ?_
          refine x_pc (pc2 := 59) rfl ?_
          refine x_i2l dX8_themselves_59 ?_
          rw [show (10 : Int32) - nI b = nI (10 - b) from pk_sub (a := 10) (by omega), nI_l (by omega)]
          refine x_iload_n dX8_themselves_60 rfl ?_
          refine x_iload_n dX8_themselves_61 rfl ?_
          refine x_isub dX8_themselves_62 ?_
          rw [pk_sub (by omega)]
          refine x_callSi dX8_themselves_63 ml_X8_246 mt_X8_power st_X8_power (ct_X8_power (by omega)) rfl rfl (Nat.le_of_ble_eq_true rfl) ⟨(Nat.le_of_ble_eq_true rfl), (Nat.le_of_ble_eq_true rfl)⟩ ⟨rfl, rfl⟩ ⟨(Nat.le_of_ble_eq_true rfl), (Nat.le_of_ble_eq_true rfl)⟩ ?_
          refine x_lmul dX8_themselves_66 ?_
          rw [lN_mul]
          refine x_pc (pc2 := 67) rfl ?_
          refine x_lstore (lo2 := [_, _, _, _, _, _, _, _, _, _]) dX8_themselves_67 (by decide) rfl rfl ?_
          refine x_ldc2 dX8_themselves_69 cn_X8_250 ?_
          refine x_iload_n dX8_themselves_72 rfl ?_
          refine x_callSi dX8_themselves_73 ml_X8_246 mt_X8_power st_X8_power (ct_X8_power (b := 10) (by omega)) rfl rfl (Nat.le_of_ble_eq_true rfl) ⟨(Nat.le_of_ble_eq_true rfl), (Nat.le_of_ble_eq_true rfl)⟩ ⟨rfl, rfl⟩ ⟨(Nat.le_of_ble_eq_true rfl), (Nat.le_of_ble_eq_true rfl)⟩ ?_
          refine x_lstore (lo2 := [_, _, _, _, _, _, _, _, _, _]) dX8_themselves_76 (by decide) rfl rfl ?_
          refine x_iconst (v := 0) dX8_themselves_78 (by decide) ?_
          refine x_pc (pc2 := 79) rfl ?_
          refine x_istore (lo2 := [_, _, _, _, _, _, _, _, _, _]) dX8_themselves_79 (by decide) rfl rfl ?_
          refine x_loop (inv := fun i => True) (fun i => [some (.ref (g.2.1 + 0)), some (.int (nI a)), some (.int (nI b)), some (.int (nI c)), some (.int p), some (.long (lN (rl_ (upN a b c) (10 ^ a) i).1)), none, some (.long (lN (rl_ (upN a b c) (10 ^ a) i).2)), none, some (.int (nI i))]) (fun i => I) (fun i => L) 0 a (by omega) (by trivial) (by rfl) (by rfl) (by rfl) (fun i hloi hhii hinvi Ki => ?_) (fun hinvi => ?_)
          · skip
            refine x_iload dX8_themselves_81 rfl ?_
            refine x_iload_n dX8_themselves_83 rfl ?_
            refine x_icmp_ge (tgt := 169) dX8_themselves_84 (by decide) (fun h84 => ?_) (fun h84 => ?_)
            · skip
              exact absurd h84 (nI_ge hhii (by omega))
            · skip
              refine x_lload dX8_themselves_87 rfl ?_
              have hle := rl_le (upN a b c) (10 ^ a) i
              refine x_ldc2 dX8_themselves_89 cn_X8_252 ?_
              refine x_lrem dX8_themselves_92 (by decide) ?_
              rw [lr_N (d := 2) (e := 2) rfl (by omega) (by decide) (by decide)]
              refine x_lconst (v := 0) dX8_themselves_93 (by decide) ?_
              refine x_lcmp dX8_themselves_94 ?_
              refine x_pc (pc2 := 95) rfl ?_
              refine x_if_ne (tgt := 125) dX8_themselves_95 (by decide) (fun h95 => ?_) (fun h95 => ?_)
              · skip
                rw [lg_0 (by have := Nat.mod_lt ((rl_ (upN a b c) (10 ^ a) i).1) (show 0 < 2 by decide); omega)] at h95
                obtain ⟨q, hq, eq1, eq2, hq1, hq2⟩ : ∃ q : Nat × Nat, q = rh_ (rl_ (upN a b c) (10 ^ a) i) ∧ q.1 = (rl_ (upN a b c) (10 ^ a) i).1 ∧ q.2 = (rl_ (upN a b c) (10 ^ a) i).2 ∧ q.1 < 2 ^ 63 ∧ q.2 < 2 ^ 63 := ⟨((rl_ (upN a b c) (10 ^ a) i).1, (rl_ (upN a b c) (10 ^ a) i).2), by unfold rh_; rw [if_neg (fun q => h95 q.1)], rfl, rfl, by dsimp only; omega, by dsimp only; omega⟩
                rw [← eq1, ← eq2]
                clear eq1 eq2
                refine x_lload dX8_themselves_125 rfl ?_
                refine x_ldc2 dX8_themselves_127 cn_X8_254 ?_
                refine x_lrem dX8_themselves_130 (by decide) ?_
                rw [lr_N (d := 5) (e := 5) rfl (by omega) (by decide) (by decide)]
                refine x_lconst (v := 0) dX8_themselves_131 (by decide) ?_
                refine x_lcmp dX8_themselves_132 ?_
                refine x_pc (pc2 := 133) rfl ?_
                refine x_if_ne (tgt := 163) dX8_themselves_133 (by decide) (fun h133 => ?_) (fun h133 => ?_)
                · skip
                  rw [lg_0 (by have := Nat.mod_lt (q.1) (show 0 < 5 by decide); omega)] at h133
                  refine x_iincN (lo2 := [_, _, _, _, _, _, _, _, _, _]) dX8_themselves_163 rfl rfl rfl ?_
                  refine x_goto (tgt := 81) dX8_themselves_166 (by decide) ?_
                  have es : rl_ (upN a b c) (10 ^ a) (i + 1) = q := by
                    have e1 : rl_ (upN a b c) (10 ^ a) (i + 1) = if q.1 % 5 = 0 ∧ q.2 % 5 = 0 then (q.1 / 5, q.2 / 5) else q := by rw [hq]; rfl
                    rw [e1]
                    rw [if_neg (fun z => h133 z.1)]
                  exact x_eq (by rw [es]) (by rfl) (by rfl) (Ki trivial)
                · skip
                  rw [lg_0 (by have := Nat.mod_lt (q.1) (show 0 < 5 by decide); omega)] at h133
                  refine x_lload dX8_themselves_136 rfl ?_
                  refine x_ldc2 dX8_themselves_138 cn_X8_254 ?_
                  refine x_lrem dX8_themselves_141 (by decide) ?_
                  rw [lr_N (d := 5) (e := 5) rfl (by omega) (by decide) (by decide)]
                  refine x_lconst (v := 0) dX8_themselves_142 (by decide) ?_
                  refine x_lcmp dX8_themselves_143 ?_
                  refine x_pc (pc2 := 144) rfl ?_
                  refine x_if_ne (tgt := 163) dX8_themselves_144 (by decide) (fun h144 => ?_) (fun h144 => ?_)
                  · skip
                    rw [lg_0 (by have := Nat.mod_lt (q.2) (show 0 < 5 by decide); omega)] at h144
                    refine x_iincN (lo2 := [_, _, _, _, _, _, _, _, _, _]) dX8_themselves_163 rfl rfl rfl ?_
                    refine x_goto (tgt := 81) dX8_themselves_166 (by decide) ?_
                    have es : rl_ (upN a b c) (10 ^ a) (i + 1) = q := by
                      have e1 : rl_ (upN a b c) (10 ^ a) (i + 1) = if q.1 % 5 = 0 ∧ q.2 % 5 = 0 then (q.1 / 5, q.2 / 5) else q := by rw [hq]; rfl
                      rw [e1]
                      rw [if_neg (fun z => h144 z.2)]
                    exact x_eq (by rw [es]) (by rfl) (by rfl) (Ki trivial)
                  · skip
                    rw [lg_0 (by have := Nat.mod_lt (q.2) (show 0 < 5 by decide); omega)] at h144
                    refine x_lload dX8_themselves_147 rfl ?_
                    refine x_ldc2 dX8_themselves_149 cn_X8_254 ?_
                    refine x_ldiv dX8_themselves_152 (by decide) ?_
                    rw [ld_N (d := 5) (e := 5) rfl (by omega) (by decide) (by decide)]
                    refine x_lstore (lo2 := [_, _, _, _, _, _, _, _, _, _]) dX8_themselves_153 (by decide) rfl rfl ?_
                    refine x_lload dX8_themselves_155 rfl ?_
                    refine x_pc (pc2 := 157) rfl ?_
                    refine x_ldc2 dX8_themselves_157 cn_X8_254 ?_
                    refine x_ldiv dX8_themselves_160 (by decide) ?_
                    rw [ld_N (d := 5) (e := 5) rfl (by omega) (by decide) (by decide)]
                    refine x_lstore (lo2 := [_, _, _, _, _, _, _, _, _, _]) dX8_themselves_161 (by decide) rfl rfl ?_
                    refine x_iincN (lo2 := [_, _, _, _, _, _, _, _, _, _]) dX8_themselves_163 rfl rfl rfl ?_
                    refine x_goto (tgt := 81) dX8_themselves_166 (by decide) ?_
                    have es : rl_ (upN a b c) (10 ^ a) (i + 1) = (q.1 / 5, q.2 / 5) := by
                      have e1 : rl_ (upN a b c) (10 ^ a) (i + 1) = if q.1 % 5 = 0 ∧ q.2 % 5 = 0 then (q.1 / 5, q.2 / 5) else q := by rw [hq]; rfl
                      rw [e1]
                      rw [if_pos ⟨h133, h144⟩]
                    exact x_eq (by rw [es]) (by rfl) (by rfl) (Ki trivial)
              · skip
                rw [lg_0 (by have := Nat.mod_lt ((rl_ (upN a b c) (10 ^ a) i).1) (show 0 < 2 by decide); omega)] at h95
                refine x_lload dX8_themselves_98 rfl ?_
                refine x_ldc2 dX8_themselves_100 cn_X8_252 ?_
                refine x_lrem dX8_themselves_103 (by decide) ?_
                rw [lr_N (d := 2) (e := 2) rfl (by omega) (by decide) (by decide)]
                refine x_lconst (v := 0) dX8_themselves_104 (by decide) ?_
                refine x_lcmp dX8_themselves_105 ?_
                refine x_pc (pc2 := 106) rfl ?_
                refine x_if_ne (tgt := 125) dX8_themselves_106 (by decide) (fun h106 => ?_) (fun h106 => ?_)
                · skip
                  rw [lg_0 (by have := Nat.mod_lt ((rl_ (upN a b c) (10 ^ a) i).2) (show 0 < 2 by decide); omega)] at h106
                  obtain ⟨q, hq, eq1, eq2, hq1, hq2⟩ : ∃ q : Nat × Nat, q = rh_ (rl_ (upN a b c) (10 ^ a) i) ∧ q.1 = (rl_ (upN a b c) (10 ^ a) i).1 ∧ q.2 = (rl_ (upN a b c) (10 ^ a) i).2 ∧ q.1 < 2 ^ 63 ∧ q.2 < 2 ^ 63 := ⟨((rl_ (upN a b c) (10 ^ a) i).1, (rl_ (upN a b c) (10 ^ a) i).2), by unfold rh_; rw [if_neg (fun q => h106 q.2)], rfl, rfl, by dsimp only; omega, by dsimp only; omega⟩
                  rw [← eq1, ← eq2]
                  clear eq1 eq2
                  refine x_lload dX8_themselves_125 rfl ?_
                  refine x_ldc2 dX8_themselves_127 cn_X8_254 ?_
                  refine x_lrem dX8_themselves_130 (by decide) ?_
                  rw [lr_N (d := 5) (e := 5) rfl (by omega) (by decide) (by decide)]
                  refine x_lconst (v := 0) dX8_themselves_131 (by decide) ?_
                  refine x_lcmp dX8_themselves_132 ?_
                  refine x_pc (pc2 := 133) rfl ?_
                  refine x_if_ne (tgt := 163) dX8_themselves_133 (by decide) (fun h133 => ?_) (fun h133 => ?_)
                  · skip
                    rw [lg_0 (by have := Nat.mod_lt (q.1) (show 0 < 5 by decide); omega)] at h133
                    refine x_iincN (lo2 := [_, _, _, _, _, _, _, _, _, _]) dX8_themselves_163 rfl rfl rfl ?_
                    refine x_goto (tgt := 81) dX8_themselves_166 (by decide) ?_
                    have es : rl_ (upN a b c) (10 ^ a) (i + 1) = q := by
                      have e1 : rl_ (upN a b c) (10 ^ a) (i + 1) = if q.1 % 5 = 0 ∧ q.2 % 5 = 0 then (q.1 / 5, q.2 / 5) else q := by rw [hq]; rfl
                      rw [e1]
                      rw [if_neg (fun z => h133 z.1)]
                    exact x_eq (by rw [es]) (by rfl) (by rfl) (Ki trivial)
                  · skip
                    rw [lg_0 (by have := Nat.mod_lt (q.1) (show 0 < 5 by decide); omega)] at h133
                    refine x_lload dX8_themselves_136 rfl ?_
                    refine x_ldc2 dX8_themselves_138 cn_X8_254 ?_
                    refine x_lrem dX8_themselves_141 (by decide) ?_
                    rw [lr_N (d := 5) (e := 5) rfl (by omega) (by decide) (by decide)]
                    refine x_lconst (v := 0) dX8_themselves_142 (by decide) ?_
                    refine x_lcmp dX8_themselves_143 ?_
                    refine x_pc (pc2 := 144) rfl ?_
                    refine x_if_ne (tgt := 163) dX8_themselves_144 (by decide) (fun h144 => ?_) (fun h144 => ?_)
                    · skip
                      rw [lg_0 (by have := Nat.mod_lt (q.2) (show 0 < 5 by decide); omega)] at h144
                      refine x_iincN (lo2 := [_, _, _, _, _, _, _, _, _, _]) dX8_themselves_163 rfl rfl rfl ?_
                      refine x_goto (tgt := 81) dX8_themselves_166 (by decide) ?_
                      have es : rl_ (upN a b c) (10 ^ a) (i + 1) = q := by
                        have e1 : rl_ (upN a b c) (10 ^ a) (i + 1) = if q.1 % 5 = 0 ∧ q.2 % 5 = 0 then (q.1 / 5, q.2 / 5) else q := by rw [hq]; rfl
                        rw [e1]
                        rw [if_neg (fun z => h144 z.2)]
                      exact x_eq (by rw [es]) (by rfl) (by rfl) (Ki trivial)
                    · skip
                      rw [lg_0 (by have := Nat.mod_lt (q.2) (show 0 < 5 by decide); omega)] at h144
                      refine x_lload dX8_themselves_147 rfl ?_
                      refine x_ldc2 dX8_themselves_149 cn_X8_254 ?_
                      refine x_ldiv dX8_themselves_152 (by decide) ?_
                      rw [ld_N (d := 5) (e := 5) rfl (by omega) (by decide) (by decide)]
                      refine x_lstore (lo2 := [_, _, _, _, _, _, _, _, _, _]) dX8_themselves_153 (by decide) rfl rfl ?_
                      refine x_lload dX8_themselves_155 rfl ?_
                      refine x_pc (pc2 := 157) rfl ?_
                      refine x_ldc2 dX8_themselves_157 cn_X8_254 ?_
                      refine x_ldiv dX8_themselves_160 (by decide) ?_
                      rw [ld_N (d := 5) (e := 5) rfl (by omega) (by decide) (by decide)]
                      refine x_lstore (lo2 := [_, _, _, _, _, _, _, _, _, _]) dX8_themselves_161 (by decide) rfl rfl ?_
                      refine x_iincN (lo2 := [_, _, _, _, _, _, _, _, _, _]) dX8_themselves_163 rfl rfl rfl ?_
                      refine x_goto (tgt := 81) dX8_themselves_166 (by decide) ?_
                      have es : rl_ (upN a b c) (10 ^ a) (i + 1) = (q.1 / 5, q.2 / 5) := by
                        have e1 : rl_ (upN a b c) (10 ^ a) (i + 1) = if q.1 % 5 = 0 ∧ q.2 % 5 = 0 then (q.1 / 5, q.2 / 5) else q := by rw [hq]; rfl
                        rw [e1]
                        rw [if_pos ⟨h133, h144⟩]
                      exact x_eq (by rw [es]) (by rfl) (by rfl) (Ki trivial)
                · skip
                  rw [lg_0 (by have := Nat.mod_lt ((rl_ (upN a b c) (10 ^ a) i).2) (show 0 < 2 by decide); omega)] at h106
                  refine x_lload dX8_themselves_109 rfl ?_
                  refine x_ldc2 dX8_themselves_111 cn_X8_252 ?_
                  refine x_ldiv dX8_themselves_114 (by decide) ?_
                  rw [ld_N (d := 2) (e := 2) rfl (by omega) (by decide) (by decide)]
                  refine x_lstore (lo2 := [_, _, _, _, _, _, _, _, _, _]) dX8_themselves_115 (by decide) rfl rfl ?_
                  refine x_lload dX8_themselves_117 rfl ?_
                  refine x_pc (pc2 := 119) rfl ?_
                  refine x_ldc2 dX8_themselves_119 cn_X8_252 ?_
                  refine x_ldiv dX8_themselves_122 (by decide) ?_
                  rw [ld_N (d := 2) (e := 2) rfl (by omega) (by decide) (by decide)]
                  refine x_lstore (lo2 := [_, _, _, _, _, _, _, _, _, _]) dX8_themselves_123 (by decide) rfl rfl ?_
                  obtain ⟨q, hq, eq1, eq2, hq1, hq2⟩ : ∃ q : Nat × Nat, q = rh_ (rl_ (upN a b c) (10 ^ a) i) ∧ q.1 = (rl_ (upN a b c) (10 ^ a) i).1 / 2 ∧ q.2 = (rl_ (upN a b c) (10 ^ a) i).2 / 2 ∧ q.1 < 2 ^ 63 ∧ q.2 < 2 ^ 63 := ⟨((rl_ (upN a b c) (10 ^ a) i).1 / 2, (rl_ (upN a b c) (10 ^ a) i).2 / 2), by unfold rh_; rw [if_pos ⟨h95, h106⟩], rfl, rfl, by dsimp only; omega, by dsimp only; omega⟩
                  rw [← eq1, ← eq2]
                  clear eq1 eq2
                  refine x_lload dX8_themselves_125 rfl ?_
                  refine x_ldc2 dX8_themselves_127 cn_X8_254 ?_
                  refine x_lrem dX8_themselves_130 (by decide) ?_
                  rw [lr_N (d := 5) (e := 5) rfl (by omega) (by decide) (by decide)]
                  refine x_lconst (v := 0) dX8_themselves_131 (by decide) ?_
                  refine x_lcmp dX8_themselves_132 ?_
                  refine x_pc (pc2 := 133) rfl ?_
                  refine x_if_ne (tgt := 163) dX8_themselves_133 (by decide) (fun h133 => ?_) (fun h133 => ?_)
                  · skip
                    rw [lg_0 (by have := Nat.mod_lt (q.1) (show 0 < 5 by decide); omega)] at h133
                    refine x_iincN (lo2 := [_, _, _, _, _, _, _, _, _, _]) dX8_themselves_163 rfl rfl rfl ?_
                    refine x_goto (tgt := 81) dX8_themselves_166 (by decide) ?_
                    have es : rl_ (upN a b c) (10 ^ a) (i + 1) = q := by
                      have e1 : rl_ (upN a b c) (10 ^ a) (i + 1) = if q.1 % 5 = 0 ∧ q.2 % 5 = 0 then (q.1 / 5, q.2 / 5) else q := by rw [hq]; rfl
                      rw [e1]
                      rw [if_neg (fun z => h133 z.1)]
                    exact x_eq (by rw [es]) (by rfl) (by rfl) (Ki trivial)
                  · skip
                    rw [lg_0 (by have := Nat.mod_lt (q.1) (show 0 < 5 by decide); omega)] at h133
                    refine x_lload dX8_themselves_136 rfl ?_
                    refine x_ldc2 dX8_themselves_138 cn_X8_254 ?_
                    refine x_lrem dX8_themselves_141 (by decide) ?_
                    rw [lr_N (d := 5) (e := 5) rfl (by omega) (by decide) (by decide)]
                    refine x_lconst (v := 0) dX8_themselves_142 (by decide) ?_
                    refine x_lcmp dX8_themselves_143 ?_
                    refine x_pc (pc2 := 144) rfl ?_
                    refine x_if_ne (tgt := 163) dX8_themselves_144 (by decide) (fun h144 => ?_) (fun h144 => ?_)
                    · skip
                      rw [lg_0 (by have := Nat.mod_lt (q.2) (show 0 < 5 by decide); omega)] at h144
                      refine x_iincN (lo2 := [_, _, _, _, _, _, _, _, _, _]) dX8_themselves_163 rfl rfl rfl ?_
                      refine x_goto (tgt := 81) dX8_themselves_166 (by decide) ?_
                      have es : rl_ (upN a b c) (10 ^ a) (i + 1) = q := by
                        have e1 : rl_ (upN a b c) (10 ^ a) (i + 1) = if q.1 % 5 = 0 ∧ q.2 % 5 = 0 then (q.1 / 5, q.2 / 5) else q := by rw [hq]; rfl
                        rw [e1]
                        rw [if_neg (fun z => h144 z.2)]
                      exact x_eq (by rw [es]) (by rfl) (by rfl) (Ki trivial)
                    · skip
                      rw [lg_0 (by have := Nat.mod_lt (q.2) (show 0 < 5 by decide); omega)] at h144
                      refine x_lload dX8_themselves_147 rfl ?_
                      refine x_ldc2 dX8_themselves_149 cn_X8_254 ?_
                      refine x_ldiv dX8_themselves_152 (by decide) ?_
                      rw [ld_N (d := 5) (e := 5) rfl (by omega) (by decide) (by decide)]
                      refine x_lstore (lo2 := [_, _, _, _, _, _, _, _, _, _]) dX8_themselves_153 (by decide) rfl rfl ?_
                      refine x_lload dX8_themselves_155 rfl ?_
                      refine x_pc (pc2 := 157) rfl ?_
                      refine x_ldc2 dX8_themselves_157 cn_X8_254 ?_
                      refine x_ldiv dX8_themselves_160 (by decide) ?_
                      rw [ld_N (d := 5) (e := 5) rfl (by omega) (by decide) (by decide)]
                      refine x_lstore (lo2 := [_, _, _, _, _, _, _, _, _, _]) dX8_themselves_161 (by decide) rfl rfl ?_
                      refine x_iincN (lo2 := [_, _, _, _, _, _, _, _, _, _]) dX8_themselves_163 rfl rfl rfl ?_
                      refine x_goto (tgt := 81) dX8_themselves_166 (by decide) ?_
                      have es : rl_ (upN a b c) (10 ^ a) (i + 1) = (q.1 / 5, q.2 / 5) := by
                        have e1 : rl_ (upN a b c) (10 ^ a) (i + 1) = if q.1 % 5 = 0 ∧ q.2 % 5 = 0 then (q.1 / 5, q.2 / 5) else q := by rw [hq]; rfl
                        rw [e1]
                        rw [if_pos ⟨h133, h144⟩]
                      exact x_eq (by rw [es]) (by rfl) (by rfl) (Ki trivial)
          · skip
            refine x_iload dX8_themselves_81 rfl ?_
            refine x_iload_n dX8_themselves_83 rfl ?_
            refine x_icmp_ge (tgt := 169) dX8_themselves_84 (by decide) (fun h84 => ?_) (fun h84 => ?_)
            · skip
              refine x_iload dX8_themselves_169 rfl ?_
              refine x_if_ne (tgt := 179) dX8_themselves_171 (by decide) (fun h171 => ?_) (fun h171 => ?_)
              · skip
                refine x_lload dX8_themselves_179 rfl ?_
                exact x_lret dX8_themselves_181 rfl (Nat.le_of_ble_eq_true rfl) (Nat.le_of_ble_eq_true rfl) ⟨congrArg (fun z => some (Value.long z)) (by first | (rw [teA, if_neg (by rw [h7, h17, h26, h36]; simp), if_pos h171, zxa, zxb, zxc]; done) | (rw [teA, if_neg (by rw [h7, h17, h26, h36]; simp), if_neg h171, zxa, zxb, zxc])), rfl, by rfl, by rfl, rfl⟩
              · skip
                refine x_lload dX8_themselves_174 rfl ?_
                refine x_goto (tgt := 181) dX8_themselves_176 (by decide) ?_
                exact x_lret dX8_themselves_181 rfl (Nat.le_of_ble_eq_true rfl) (Nat.le_of_ble_eq_true rfl) ⟨congrArg (fun z => some (Value.long z)) (by first | (rw [teA, if_neg (by rw [h7, h17, h26, h36]; simp), if_pos h171, zxa, zxb, zxc]; done) | (rw [teA, if_neg (by rw [h7, h17, h26, h36]; simp), if_neg h171, zxa, zxb, zxc])), rfl, by rfl, by rfl, rfl⟩
            · skip
              exact absurd (nI_le (Nat.le_refl a) (by omega)) h84
        · skip
          replace h36 := zb0 h36
          refine x_ldc2 dX8_themselves_39 cn_X8_240 ?_
          exact x_lret dX8_themselves_42 rfl (Nat.le_of_ble_eq_true rfl) (Nat.le_of_ble_eq_true rfl) ⟨congrArg (fun z => some (Value.long z)) (by simp [teA, h7, h17, h26, h36]), rfl, by rfl, by rfl, rfl⟩
