/-! THE PURE PART: the class answers what the reference answers -/
theorem bc_bt : ∀ n, n < 1024 → bc (nI n) = bt_ (nI n) 10 := by decide +kernel
/-- the griefs that stand, as a number -/
def gN (s : Nat → Int32) : Nat → Nat
  | 0 => 0
  | i + 1 => if s i ≤ 0 then gN s i else gN s i ||| 2 ^ i
theorem gN_lt (s : Nat → Int32) : ∀ i, gN s i < 2 ^ i
  | 0 => by simp [gN]
  | i + 1 => by
    have h := gN_lt s i
    simp only [gN]
    split
    · omega
    · exact Nat.or_lt_two_pow (by omega) (by omega)
theorem gt_N (s : Nat → Int32) : ∀ i, i ≤ 30 → gt_ s i = nI (gN s i)
  | 0, _ => rfl
  | i + 1, h => by
    simp only [gt_, gN, gt_N s i (by omega)]
    split
    · rfl
    · rw [zsh1 i (by omega), nI_or]
theorem gN_bit (s : Nat → Int32) {j : Nat} : ∀ {i}, (gN s i).testBit j = (decide (j < i) && !decide (s j ≤ 0))
  | 0 => by simp [gN]
  | i + 1 => by
    simp only [gN]
    by_cases e : s i ≤ 0
    · rw [if_pos e, gN_bit s (i := i)]
      by_cases q : j = i
      · subst q; simp [e]
      · by_cases q2 : j < i
        · simp [q2, show j < i + 1 by omega]
        · simp [q2, show ¬ j < i + 1 by omega]
    · rw [if_neg e, Nat.testBit_or, gN_bit s (i := i), Nat.testBit_two_pow]
      by_cases q : i = j
      · subst q; simp [e]
      · by_cases q2 : j < i
        · simp [q, q2, show j < i + 1 by omega]
        · simp [q, q2, show ¬ j < i + 1 by omega]
theorem gt_is {s : Nat → Int32} {a : Nat} (h : a < 6) : zis (gt_ s 6) (nI a) = !decide (s a ≤ 0) := by
  have hl := gN_lt s 6
  rw [gt_N s 6 (by decide), zis_nI (by omega) (by omega), gN_bit]
  simp [h]
/-- a block of the class (its Mire: fields, ten rows) is in order, and a row of the reference's 71 numbers tells the same -/
def RelB (C : Nat → Nat → Int32) (F : Nat → Int32) : Prop :=
  (∀ a, a < 6 → C 1 a = nI (zx (C 1 a)) ∧ zx (C 1 a) ≤ 99) ∧
  (∀ a, a < 6 → C 2 a = nI (zx (C 2 a)) ∧ zx (C 2 a) < 256) ∧
  (∀ h, h < 6 → C 3 h = nI (zx (C 3 h)) ∧ zx (C 3 h) < 256) ∧
  (∀ h, h < 6 → C 4 h = nI (zx (C 4 h)) ∧ 1 ≤ zx (C 4 h) ∧ zx (C 4 h) ≤ 20) ∧
  (∀ h, h < 6 → C 5 h = nI (zx (C 5 h)) ∧ 1 ≤ zx (C 5 h) ∧ zx (C 5 h) ≤ 9) ∧
  (∀ c, c < 8 → C 6 c = nI (zx (C 6 c)) ∧ zx (C 6 c) ≤ 23) ∧
  (∀ c, c < 8 → C 7 c = nI (zx (C 7 c)) ∧ zx (C 7 c) ≤ 23 ∧ zx (C 6 c) ≤ zx (C 7 c)) ∧
  (∀ a, a < 10 → C 8 a = nI (zx (C 8 a)) ∧ zx (C 8 a) < 1024) ∧
  (∀ i, i < 8 → ∃ k, k < 6 ∧ C 9 i = nI k) ∧
  (∀ i, i < 8 → C 10 i = 0 ∨ C 10 i = 1) ∧
  (∃ n, n ≤ 8 ∧ C 0 10 = nI n) ∧
  (∃ n, n ≤ 99 ∧ C 0 11 = nI n) ∧
  (∃ n, n ≤ 99 ∧ C 0 12 = nI n) ∧
  (∀ a, a < 6 → ¬ C 1 a ≤ 0 → F a = C 1 a) ∧
  (∀ a, a < 6 → F (6 + a) = C 2 a) ∧
  (F 12 = gt_ (C 1) 6) ∧
  (F 13 = C 0 11) ∧
  (F 14 = C 0 12) ∧
  (∀ h, h < 6 → F (15 + h) = C 3 h) ∧
  (∀ h, h < 6 → F (21 + h) = C 4 h) ∧
  (∀ h, h < 6 → F (27 + h) = C 5 h) ∧
  (∀ c, c < 8 → F (33 + c) = 100 * C 6 c + C 7 c) ∧
  (∀ a, a < 10 → F (41 + a) = C 8 a) ∧
  (∀ i, i < 8 → F (51 + 2 * i) = C 9 i) ∧
  (∀ i, i < 8 → F (51 + (2 * i + 1)) = C 10 i) ∧
  (F 70 = C 0 10)
theorem RelB.st {C : Nat → Nat → Int32} {F : Nat → Int32} (h : RelB C F) : (∀ a, a < 6 → C 1 a = nI (zx (C 1 a)) ∧ zx (C 1 a) ≤ 99) := h.1
theorem RelB.mk {C : Nat → Nat → Int32} {F : Nat → Int32} (h : RelB C F) : (∀ a, a < 6 → C 2 a = nI (zx (C 2 a)) ∧ zx (C 2 a) < 256) := h.2.1
theorem RelB.gr {C : Nat → Nat → Int32} {F : Nat → Int32} (h : RelB C F) : (∀ h, h < 6 → C 3 h = nI (zx (C 3 h)) ∧ zx (C 3 h) < 256) := h.2.2.1
theorem RelB.fo {C : Nat → Nat → Int32} {F : Nat → Int32} (h : RelB C F) : (∀ h, h < 6 → C 4 h = nI (zx (C 4 h)) ∧ 1 ≤ zx (C 4 h) ∧ zx (C 4 h) ≤ 20) := h.2.2.2.1
theorem RelB.tk {C : Nat → Nat → Int32} {F : Nat → Int32} (h : RelB C F) : (∀ h, h < 6 → C 5 h = nI (zx (C 5 h)) ∧ 1 ≤ zx (C 5 h) ∧ zx (C 5 h) ≤ 9) := h.2.2.2.2.1
theorem RelB.cf {C : Nat → Nat → Int32} {F : Nat → Int32} (h : RelB C F) : (∀ c, c < 8 → C 6 c = nI (zx (C 6 c)) ∧ zx (C 6 c) ≤ 23) := h.2.2.2.2.2.1
theorem RelB.cl {C : Nat → Nat → Int32} {F : Nat → Int32} (h : RelB C F) : (∀ c, c < 8 → C 7 c = nI (zx (C 7 c)) ∧ zx (C 7 c) ≤ 23 ∧ zx (C 6 c) ≤ zx (C 7 c)) := h.2.2.2.2.2.2.1
theorem RelB.ld {C : Nat → Nat → Int32} {F : Nat → Int32} (h : RelB C F) : (∀ a, a < 10 → C 8 a = nI (zx (C 8 a)) ∧ zx (C 8 a) < 1024) := h.2.2.2.2.2.2.2.1
theorem RelB.sh {C : Nat → Nat → Int32} {F : Nat → Int32} (h : RelB C F) : (∀ i, i < 8 → ∃ k, k < 6 ∧ C 9 i = nI k) := h.2.2.2.2.2.2.2.2.1
theorem RelB.sf {C : Nat → Nat → Int32} {F : Nat → Int32} (h : RelB C F) : (∀ i, i < 8 → C 10 i = 0 ∨ C 10 i = 1) := h.2.2.2.2.2.2.2.2.2.1
theorem RelB.sn {C : Nat → Nat → Int32} {F : Nat → Int32} (h : RelB C F) : (∃ n, n ≤ 8 ∧ C 0 10 = nI n) := h.2.2.2.2.2.2.2.2.2.2.1
theorem RelB.br {C : Nat → Nat → Int32} {F : Nat → Int32} (h : RelB C F) : (∃ n, n ≤ 99 ∧ C 0 11 = nI n) := h.2.2.2.2.2.2.2.2.2.2.2.1
theorem RelB.ho {C : Nat → Nat → Int32} {F : Nat → Int32} (h : RelB C F) : (∃ n, n ≤ 99 ∧ C 0 12 = nI n) := h.2.2.2.2.2.2.2.2.2.2.2.2.1
theorem RelB.eS {C : Nat → Nat → Int32} {F : Nat → Int32} (h : RelB C F) : (∀ a, a < 6 → ¬ C 1 a ≤ 0 → F a = C 1 a) := h.2.2.2.2.2.2.2.2.2.2.2.2.2.1
theorem RelB.eM {C : Nat → Nat → Int32} {F : Nat → Int32} (h : RelB C F) : (∀ a, a < 6 → F (6 + a) = C 2 a) := h.2.2.2.2.2.2.2.2.2.2.2.2.2.2.1
theorem RelB.eT {C : Nat → Nat → Int32} {F : Nat → Int32} (h : RelB C F) : (F 12 = gt_ (C 1) 6) := h.2.2.2.2.2.2.2.2.2.2.2.2.2.2.2.1
theorem RelB.eB {C : Nat → Nat → Int32} {F : Nat → Int32} (h : RelB C F) : (F 13 = C 0 11) := h.2.2.2.2.2.2.2.2.2.2.2.2.2.2.2.2.1
theorem RelB.eH {C : Nat → Nat → Int32} {F : Nat → Int32} (h : RelB C F) : (F 14 = C 0 12) := h.2.2.2.2.2.2.2.2.2.2.2.2.2.2.2.2.2.1
theorem RelB.eG {C : Nat → Nat → Int32} {F : Nat → Int32} (h : RelB C F) : (∀ h, h < 6 → F (15 + h) = C 3 h) := h.2.2.2.2.2.2.2.2.2.2.2.2.2.2.2.2.2.2.1
theorem RelB.eF {C : Nat → Nat → Int32} {F : Nat → Int32} (h : RelB C F) : (∀ h, h < 6 → F (21 + h) = C 4 h) := h.2.2.2.2.2.2.2.2.2.2.2.2.2.2.2.2.2.2.2.1
theorem RelB.eK {C : Nat → Nat → Int32} {F : Nat → Int32} (h : RelB C F) : (∀ h, h < 6 → F (27 + h) = C 5 h) := h.2.2.2.2.2.2.2.2.2.2.2.2.2.2.2.2.2.2.2.2.1
theorem RelB.eC {C : Nat → Nat → Int32} {F : Nat → Int32} (h : RelB C F) : (∀ c, c < 8 → F (33 + c) = 100 * C 6 c + C 7 c) := h.2.2.2.2.2.2.2.2.2.2.2.2.2.2.2.2.2.2.2.2.2.1
theorem RelB.eL {C : Nat → Nat → Int32} {F : Nat → Int32} (h : RelB C F) : (∀ a, a < 10 → F (41 + a) = C 8 a) := h.2.2.2.2.2.2.2.2.2.2.2.2.2.2.2.2.2.2.2.2.2.2.1
theorem RelB.eX {C : Nat → Nat → Int32} {F : Nat → Int32} (h : RelB C F) : (∀ i, i < 8 → F (51 + 2 * i) = C 9 i) := h.2.2.2.2.2.2.2.2.2.2.2.2.2.2.2.2.2.2.2.2.2.2.2.1
theorem RelB.eY {C : Nat → Nat → Int32} {F : Nat → Int32} (h : RelB C F) : (∀ i, i < 8 → F (51 + (2 * i + 1)) = C 10 i) := h.2.2.2.2.2.2.2.2.2.2.2.2.2.2.2.2.2.2.2.2.2.2.2.2.1
theorem RelB.eN {C : Nat → Nat → Int32} {F : Nat → Int32} (h : RelB C F) : (F 70 = C 0 10) := h.2.2.2.2.2.2.2.2.2.2.2.2.2.2.2.2.2.2.2.2.2.2.2.2.2
def blk (I : zI) (m : Nat) : Nat → Nat → Int32 := fun d => if d ≤ 10 then I (m + d) else fun _ => 0
def Img (q : Option Nat) (N : Nat) (I : zI) (n : Nat) : Prop := (q = none ∧ I 57 n = 0) ∨ ∃ m, q = some m ∧ (m = 58 ∨ m = 69) ∧ m + 11 ≤ N ∧ ¬ I 57 n = 0 ∧ RelB (blk I m) (fun j => I 56 (80 * n + j))
/-- the whole: the class's world and the reference's -/
def Inv (q0 q1 : Option Nat) (N : Nat) (I : zI) : Prop :=
  (RelB (blk I 1) (kig I)) ∧
  (∃ n, n ≤ 60 ∧ I 12 1 = nI n) ∧
  (I 40 9 = I 12 1) ∧
  (∀ i, i < 60 → I 49 i = I 13 i) ∧
  (I 33 0 = 0) ∧
  (Img q0 N I 0) ∧
  (Img q1 N I 1) ∧
  ((q0 = none ∧ q1 = none ∧ N = 58) ∨ (q0 = some 58 ∧ q1 = none ∧ N = 69) ∨ (q0 = none ∧ q1 = some 58 ∧ N = 69) ∨ (q0 = some 58 ∧ q1 = some 69 ∧ N = 80) ∨ (q0 = some 69 ∧ q1 = some 58 ∧ N = 80))
theorem Inv.live {q0 q1 : Option Nat} {N : Nat} {I : zI} (h : Inv q0 q1 N I) : (RelB (blk I 1) (kig I)) := h.1
theorem Inv.cnt {q0 q1 : Option Nat} {N : Nat} {I : zI} (h : Inv q0 q1 N I) : (∃ n, n ≤ 60 ∧ I 12 1 = nI n) := h.2.1
theorem Inv.eCnt {q0 q1 : Option Nat} {N : Nat} {I : zI} (h : Inv q0 q1 N I) : (I 40 9 = I 12 1) := h.2.2.1
theorem Inv.sgn {q0 q1 : Option Nat} {N : Nat} {I : zI} (h : Inv q0 q1 N I) : (∀ i, i < 60 → I 49 i = I 13 i) := h.2.2.2.1
theorem Inv.b0 {q0 q1 : Option Nat} {N : Nat} {I : zI} (h : Inv q0 q1 N I) : (I 33 0 = 0) := h.2.2.2.2.1
theorem Inv.im0 {q0 q1 : Option Nat} {N : Nat} {I : zI} (h : Inv q0 q1 N I) : (Img q0 N I 0) := h.2.2.2.2.2.1
theorem Inv.im1 {q0 q1 : Option Nat} {N : Nat} {I : zI} (h : Inv q0 q1 N I) : (Img q1 N I 1) := h.2.2.2.2.2.2.1
theorem Inv.nn {q0 q1 : Option Nat} {N : Nat} {I : zI} (h : Inv q0 q1 N I) : ((q0 = none ∧ q1 = none ∧ N = 58) ∨ (q0 = some 58 ∧ q1 = none ∧ N = 69) ∨ (q0 = none ∧ q1 = some 58 ∧ N = 69) ∨ (q0 = some 58 ∧ q1 = some 69 ∧ N = 80) ∨ (q0 = some 69 ∧ q1 = some 58 ∧ N = 80)) := h.2.2.2.2.2.2.2
/-- standing, told by both -/
theorem thr_zth {I : zI} (h : RelB (blk I 1) (kig I)) (a : Int32) : thr I a = zth (I 2) a := by
  have e : I 41 12 = gt_ (I 2) 6 := h.eT
  by_cases q : zin a 0 5 = true
  · obtain ⟨i, hi, rfl⟩ := zin_ex (b := 5) (by decide) q
    rw [zth_le hi]
    unfold thr
    rw [q, e, gt_is hi]
    rfl
  · unfold thr zth
    simp [q]
theorem inv_0 : Inv none none 58 zJ0 := by
  refine ⟨⟨?_, ?_, ?_, ?_, ?_, ?_, ?_, ?_, ?_, ?_, ⟨0, by decide, rfl⟩, ⟨50, by decide, by decide⟩, ⟨0, by decide, rfl⟩, ?_, ?_, by decide +kernel, by decide, by decide, ?_, ?_, ?_, ?_, ?_, ?_, ?_, by decide⟩, ⟨0, by decide, rfl⟩, rfl, fun i _ => rfl, rfl, Or.inl ⟨rfl, rfl⟩, Or.inl ⟨rfl, rfl⟩, Or.inl ⟨rfl, rfl, rfl⟩⟩
  · decide
  · decide
  · decide
  · decide
  · decide
  · decide
  · decide
  · decide
  · exact fun i _ => ⟨0, by decide, rfl⟩
  · exact fun i _ => Or.inl rfl
  · decide
  · decide
  · decide
  · decide
  · decide
  · decide
  · decide
  · decide
  · decide
theorem kig_cong {I I' : zI} (h : ∀ c, (c = 41 ∨ (43 ≤ c ∧ c ≤ 48)) → I' c = I c) (h7 : I' 40 7 = I 40 7) : kig I' = kig I := by
  funext j
  simp only [kig]
  rw [h 41 (by decide), h 43 (by decide), h 44 (by decide), h 45 (by decide), h 46 (by decide), h 47 (by decide), h 48 (by decide), h7]
theorem blk_cong {I I' : zI} {m : Nat} (h : ∀ c, m ≤ c → c ≤ m + 10 → I' c = I c) : blk I' m = blk I m := by
  funext d
  simp only [blk]
  split
  · rw [h (m + d) (by omega) (by omega)]
  · rfl
theorem Img_cong {I I' : zI} {q : Option Nat} {N n : Nat} (h : ∀ c, 56 ≤ c → I' c = I c) (hi : Img q N I n) : Img q N I' n := by
  rcases hi with ⟨h1, h2⟩ | ⟨m, h1, h2, h3, h4, h5⟩
  · exact Or.inl ⟨h1, by rw [h 57 (by decide)]; exact h2⟩
  · refine Or.inr ⟨m, h1, h2, h3, by rw [h 57 (by decide)]; exact h4, ?_⟩
    rw [blk_cong (m := m) (I := I) (fun c q1 _ => h c (by omega)), h 56 (by decide)]
    exact h5
/-- what the invariant looks at -/
theorem Inv_cong {I I' : zI} {q0 q1 : Option Nat} {N : Nat} (hc : ∀ c, (c < 14 ∨ (41 ≤ c ∧ c ≠ 42 ∧ ¬ (50 ≤ c ∧ c ≤ 55))) → I' c = I c) (h0 : I' 33 0 = 0) (h7 : I' 40 7 = I 40 7) (h9 : I' 40 9 = I 40 9) (h : Inv q0 q1 N I) : Inv q0 q1 N I' := by
  refine ⟨?_, ?_, ?_, ?_, h0, Img_cong (fun c q => hc c (by omega)) h.im0, Img_cong (fun c q => hc c (by omega)) h.im1, h.nn⟩
  · rw [kig_cong (fun c q => hc c (by omega)) h7, blk_cong (m := 1) (I := I) (fun c _ q => hc c (by omega))]
    exact h.live
  · rw [hc 12 (by decide)]
    exact h.cnt
  · rw [h9, hc 12 (by decide)]
    exact h.eCnt
  · rw [hc 49 (by decide), hc 13 (by decide)]
    exact h.sgn
/-- the hypotheses of the contracts, from the invariant -/
theorem Inv.hc {q0 q1 : Option Nat} {N : Nat} {I : zI} (h : Inv q0 q1 N I) : 58 ≤ N := by
  rcases h.nn with ⟨_, _, rfl⟩ | ⟨_, _, rfl⟩ | ⟨_, _, rfl⟩ | ⟨_, _, rfl⟩ | ⟨_, _, rfl⟩ <;> decide
theorem Inv.hw {q0 q1 : Option Nat} {N : Nat} {I : zI} (h : Inv q0 q1 N I) : (∀ k, k < 6 → I 2 k = nI (zx (I 2 k)) ∧ zx (I 2 k) ≤ 99) ∧ (∀ k, k < 6 → I 5 k = nI (zx (I 5 k)) ∧ 1 ≤ zx (I 5 k) ∧ zx (I 5 k) ≤ 20) ∧ (∀ k, k < 6 → I 6 k = nI (zx (I 6 k)) ∧ zx (I 6 k) ≤ 9) := ⟨h.live.st, h.live.fo, fun k hk => ⟨(h.live.tk k hk).1, (h.live.tk k hk).2.2⟩⟩
theorem Inv.hk {q0 q1 : Option Nat} {N : Nat} {I : zI} (h : Inv q0 q1 N I) : (∀ k, k < 6 → thr I (nI k) = true → I 41 k = nI (zx (I 41 k)) ∧ 1 ≤ zx (I 41 k) ∧ zx (I 41 k) ≤ 99) ∧ (∀ k, k < 6 → I 44 k = nI (zx (I 44 k)) ∧ 1 ≤ zx (I 44 k) ∧ zx (I 44 k) ≤ 20) ∧ (∀ k, k < 6 → I 45 k = nI (zx (I 45 k)) ∧ zx (I 45 k) ≤ 9) := by
  refine ⟨fun k hk ht => ?_, fun k hk => ?_, fun k hk => ?_⟩
  · rw [thr_zth h.live, zth_le hk] at ht
    have ht : ¬ I 2 k ≤ 0 := by simpa using ht
    have e : I 41 k = I 2 k := by
      have e := h.live.eS k hk ht
      unfold kig at e
      rw [if_pos (by omega)] at e
      exact e
    have hs : I 2 k = nI (zx (I 2 k)) ∧ zx (I 2 k) ≤ 99 := h.live.st k hk
    rw [e]
    refine ⟨hs.1, ?_, hs.2⟩
    rcases Nat.eq_zero_or_pos (zx (I 2 k)) with z | z
    · rw [hs.1, z] at ht
      exact absurd (by decide) ht
    · exact z
  · have e : I 44 k = I 5 k := by
      have e := h.live.eF k hk
      unfold kig at e
      rw [if_neg (by omega), if_neg (by omega), if_pos (by omega), show 21 + k - 21 = k by omega] at e
      exact e
    rw [e]
    exact h.live.fo k hk
  · have e : I 45 k = I 6 k := by
      have e := h.live.eK k hk
      unfold kig at e
      rw [if_neg (by omega), if_neg (by omega), if_neg (by omega), if_pos (by omega), show 27 + k - 27 = k by omega] at e
      exact e
    rw [e]
    exact ⟨(h.live.tk k hk).1, (h.live.tk k hk).2.2⟩
