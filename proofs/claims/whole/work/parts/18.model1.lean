/-! THE REFERENCE: its calls; scratch: places 42, 50 to 55, and the fields 11 to 15 of place 40 -/
def zscr (c : Nat) : Prop := c = 40 ∨ c = 42 ∨ (50 ≤ c ∧ c ≤ 55)
def zV (v : Value) (N : Nat) (J : zI) (R : zR) : zPost := fun r' N' I' _ R' => r' = some v ∧ N' = N ∧ R' = R ∧ (∀ c, ¬ zscr c → I' c = J c) ∧ I' 40 7 = J 40 7 ∧ I' 40 9 = J 40 9
theorem zV_of {v v' : Value} {N : Nat} {I J : zI} {L : zL} {R : zR} (h : v = v') (hI : ∀ c, ¬ zscr c → I c = J c) (h7 : I 40 7 = J 40 7) (h9 : I 40 9 = J 40 9) : zV v' N J R (some v) N I L R := ⟨by rw [h], rfl, rfl, hI, h7, h9⟩
def bt_ (s : Int32) : Nat → Int32
  | 0 => 0
  | i + 1 => bt_ s i + ((s >>> (nI i &&& 31)) &&& 1)
def std (I : zI) (a : Int32) : Bool := zin a 0 5 && zis (I 42 12) a
def thr (I : zI) (a : Int32) : Bool := zin a 0 5 && zis (I 41 12) a
theorem zin_5 {i : Nat} (h : i < 6) : zin (nI i) 0 5 = true := by
  rw [show (0 : Int32) = nI 0 from rfl, show (5 : Int32) = nI 5 from rfl, zin_nI (by omega) (by omega) (by omega)]
  simp; omega
theorem std_nI {I : zI} {i : Nat} (h : i < 6) : std I (nI i) = zis (I 42 12) (nI i) := by simp [std, zin_5 h]
def off1 (s b : Int32) : Int32 := s &&& ((1 <<< (b &&& 31)) ^^^ (-1))
/-- the reference's ACTS: why not, and the world behind -/
def gkR (I : zI) (a h : Nat) : Int32 := if zis (I 42 12) (nI a) = false then 1 else if zwi (I 43 h) (I 42 (6 + a)) = true then (if I 45 h ≤ I 42 13 then 0 else 3) else 2
def gkI (I : zI) (a h : Nat) : zI := if gkR I a h = 0 then (if 1 ≤ I 42 a - I 44 h then zu (zu I 42 13 (I 42 13 - I 45 h)) 42 a (I 42 a - I 44 h) else zu (zu (zu (zu I 42 13 (I 42 13 - I 45 h)) 42 a (I 42 a - I 44 h)) 42 12 (off1 (I 42 12) (nI a))) 40 11 (I 40 11 + 1)) else I
def kjR (I : zI) (a b : Nat) : Int32 := if zis (I 42 12) (nI a) = false then 1 else if zis (I 42 12) (nI b) = false then 1 else if a = b then 4 else 0
def kjI (I : zI) (a b : Nat) : zI := if kjR I a b = 0 then zu (zu (zu I 42 a (if I 42 a + I 42 b ≤ 99 then I 42 a + I 42 b else 99)) 42 (6 + a) (I 42 (6 + a) ||| I 42 (6 + b))) 42 12 (off1 (I 42 12) (nI b)) else I
def ksR (I : zI) (a : Nat) : Int32 := if zis (I 42 12) (nI a) = false then 1 else if 10 ≤ I 42 13 then 0 else 3
def ksI (I : zI) (a : Nat) : zI := if ksR I a = 0 then zu (zu I 42 13 (I 42 13 - 10)) 42 a (if 2 ≤ I 42 a then I 42 a / 2 else 1) else I
def krR (I : zI) : Int32 := if I 42 13 = 99 then 5 else 0
def krI (I : zI) : zI := if krR I = 0 then zu I 42 13 (if I 42 13 ≤ 79 then I 42 13 + 20 else 99) else I
def khR (I : zI) : Int32 := if I 42 14 = 99 then 6 else 0
def kh3 (s : Int32) (f : Nat → Int32) (j : Nat) : Int32 := if zis s (nI j) = true then (if f j ≤ 96 then f j + 3 else 99) else f j
def khI (I : zI) : zI := if khR I = 0 then zu (zrow I 42 (zpre 6 (kh3 (I 42 12) (I 42)) (upd (I 42) 14 (I 42 14 + 1)))) 42 13 (if I 42 13 ≤ 94 then I 42 13 + 5 else 99) else I
def kaR (I : zI) (k a b : Nat) : Int32 := if k = 0 then gkR I a b else if k = 1 then kjR I a b else if k = 2 then ksR I a else if k = 3 then krR I else khR I
def kaI (I : zI) (k a b : Nat) : zI := if k = 0 then gkI I a b else if k = 1 then kjI I a b else if k = 2 then ksI I a else if k = 3 then krI I else khI I
def anI (I : zI) : zI := zu (zu (zu (zrow I 42 (zpre 15 (I 41) (I 42))) 40 11 0) 40 12 (-6)) 40 13 (-6)
/-- DAYS by the reference: the world behind, and the answer -/
def kgo (f : Nat → Int32) (n : Nat) : Nat → Nat → zI → zI × Int32
  | 0, _, I => (I, -6)
  | d + 1, p, I => if n ≤ p then (I, -6) else
    let r := kaR I (rdK f n p) (zx (rdA f n p)) (zx (rdB f n p))
    let J := zu (kaI I (rdK f n p) (zx (rdA f n p)) (zx (rdB f n p))) 40 14 r
    if r ≤ 0 then
      let W := if J 40 11 ≤ I 40 11 then J else if 0 ≤ J 40 12 then J else zu (zu J 40 12 (J 40 15)) 40 13 (rdA f n p)
      kgo f n d (p + rdL f n p) (zu W 40 15 (W 40 15 + 1))
    else (J, J 40 15)
theorem zur {I : zI} {k j i : Nat} {v : Int32} (h : i ≠ j) : zu I k j v k i = I k i := zu_ne I v (Or.inr h)
theorem zuu (I : zI) (k j : Nat) (v w : Int32) : zu (zu I k j v) k j w = zu I k j w := by
  funext a i
  by_cases h : a = k
  · subst h
    by_cases e : i = j <;> simp [zu, e]
  · simp [zu, h]

theorem ct_X9_in {g : zG} {N : Nat} {I : zI} {L : zL} {R : zR} {a lo hi : Int32} : Ct g yX9_in mX9_in [.int a, .int lo, .int hi] N I L R (zD (some (.int (zb (zin a lo hi)))) N I L R) := by
  refine Ct_of (lo0 := [some (.int a), some (.int lo), some (.int hi)]) rfl rfl rfl rfl (Nat.le_of_ble_eq_true rfl) (fun E => ?_)
  refine x_iload_n dX9_in_0 rfl ?_
  refine x_iload_n dX9_in_1 rfl ?_
  refine x_icmp_lt (tgt := 14) dX9_in_2 (by decide) (fun h2 => ?_) (fun h2 => ?_)
  · skip
    refine x_iconst (v := 0) dX9_in_14 (by decide) ?_
    exact x_zret dX9_in_15 rfl rfl (Nat.le_of_ble_eq_true rfl) (Nat.le_of_ble_eq_true rfl) ⟨congrArg (fun z => some (Value.int z)) (by first | (rw [zin_1 h2]; rfl) | (rw [zin_2 h7]; rfl) | (rw [zin_3 h2 h7]; rfl)), rfl, by rfl, by rfl, rfl⟩
  · skip
    refine x_iload_n dX9_in_5 rfl ?_
    refine x_iload_n dX9_in_6 rfl ?_
    refine x_icmp_gt (tgt := 14) dX9_in_7 (by decide) (fun h7 => ?_) (fun h7 => ?_)
    · skip
      refine x_iconst (v := 0) dX9_in_14 (by decide) ?_
      exact x_zret dX9_in_15 rfl rfl (Nat.le_of_ble_eq_true rfl) (Nat.le_of_ble_eq_true rfl) ⟨congrArg (fun z => some (Value.int z)) (by first | (rw [zin_1 h2]; rfl) | (rw [zin_2 h7]; rfl) | (rw [zin_3 h2 h7]; rfl)), rfl, by rfl, by rfl, rfl⟩
    · skip
      refine x_iconst (v := 1) dX9_in_10 (by decide) ?_
      refine x_goto (tgt := 15) dX9_in_11 (by decide) ?_
      exact x_zret dX9_in_15 rfl rfl (Nat.le_of_ble_eq_true rfl) (Nat.le_of_ble_eq_true rfl) ⟨congrArg (fun z => some (Value.int z)) (by first | (rw [zin_1 h2]; rfl) | (rw [zin_2 h7]; rfl) | (rw [zin_3 h2 h7]; rfl)), rfl, by rfl, by rfl, rfl⟩
theorem ct_X9_has {g : zG} {N : Nat} {I : zI} {L : zL} {R : zR} {a b : Int32} : Ct g yX9_has mX9_has [.int a, .int b] N I L R (zD (some (.int (zb (zis a b)))) N I L R) := by
  refine Ct_of (lo0 := [some (.int a), some (.int b)]) rfl rfl rfl rfl (Nat.le_of_ble_eq_true rfl) (fun E => ?_)
  refine x_iload_n dX9_has_0 rfl ?_
  refine x_iload_n dX9_has_1 rfl ?_
  refine x_ishr dX9_has_2 ?_
  refine x_iconst (v := 1) dX9_has_3 (by decide) ?_
  refine x_iand dX9_has_4 ?_
  refine x_pc (pc2 := 5) rfl ?_
  refine x_iconst (v := 1) dX9_has_5 (by decide) ?_
  refine x_icmp_ne (tgt := 13) dX9_has_6 (by decide) (fun h6 => ?_) (fun h6 => ?_)
  · skip
    refine x_iconst (v := 0) dX9_has_13 (by decide) ?_
    exact x_zret dX9_has_14 rfl rfl (Nat.le_of_ble_eq_true rfl) (Nat.le_of_ble_eq_true rfl) ⟨congrArg (fun z => some (Value.int z)) (by simp [zis, zb, h6]), rfl, by rfl, by rfl, rfl⟩
  · skip
    refine x_iconst (v := 1) dX9_has_9 (by decide) ?_
    refine x_goto (tgt := 14) dX9_has_10 (by decide) ?_
    exact x_zret dX9_has_14 rfl rfl (Nat.le_of_ble_eq_true rfl) (Nat.le_of_ble_eq_true rfl) ⟨congrArg (fun z => some (Value.int z)) (by simp [zis, zb, h6]), rfl, by rfl, by rfl, rfl⟩
theorem ct_X9_bits {g : zG} {N : Nat} {I : zI} {L : zL} {R : zR} {a : Int32} : Ct g yX9_bits mX9_bits [.int a] N I L R (zD (some (.int (bt_ a 10))) N I L R) := by
  refine Ct_of (lo0 := [some (.int a), none, none]) rfl rfl rfl rfl (Nat.le_of_ble_eq_true rfl) (fun E => ?_)
  refine x_iconst (v := 0) dX9_bits_0 (by decide) ?_
  refine x_istore_n (lo2 := [_, _, _]) dX9_bits_1 (by decide) rfl rfl ?_
  refine x_iconst (v := 0) dX9_bits_2 (by decide) ?_
  refine x_istore_n (lo2 := [_, _, _]) dX9_bits_3 (by decide) rfl rfl ?_
  refine x_loop (inv := fun i => True) (fun i => [some (.int a), some (.int (bt_ a i)), some (.int (nI i))]) (fun i => I) (fun i => L) 0 10 (by omega) (by trivial) (by rfl) (by rfl) (by rfl) (fun i hloi hhii hinvi Ki => ?_) (fun hinvi => ?_)
  · skip
    refine x_iload_n dX9_bits_4 rfl ?_
    refine x_bipush (v := 10) dX9_bits_5 (by decide) ?_
    refine x_icmp_ge (tgt := 24) dX9_bits_7 (by decide) (fun h7 => ?_) (fun h7 => ?_)
    · skip
      exact absurd h7 (nI_ge (b := 10) hhii (by decide))
    · skip
      refine x_iload_n dX9_bits_10 rfl ?_
      refine x_iload_n dX9_bits_11 rfl ?_
      refine x_iload_n dX9_bits_12 rfl ?_
      refine x_ishr dX9_bits_13 ?_
      refine x_iconst (v := 1) dX9_bits_14 (by decide) ?_
      refine x_pc (pc2 := 15) rfl ?_
      refine x_iand dX9_bits_15 ?_
      refine x_iadd dX9_bits_16 ?_
      refine x_istore_n (lo2 := [_, _, _]) dX9_bits_17 (by decide) rfl rfl ?_
      refine x_iincN (lo2 := [_, _, _]) dX9_bits_18 rfl rfl rfl ?_
      refine x_goto (tgt := 4) dX9_bits_21 (by decide) ?_
      exact x_eq (by rfl) (by rfl) (by rfl) (Ki (by trivial))
  · skip
    refine x_iload_n dX9_bits_4 rfl ?_
    refine x_bipush (v := 10) dX9_bits_5 (by decide) ?_
    refine x_icmp_ge (tgt := 24) dX9_bits_7 (by decide) (fun h7 => ?_) (fun h7 => ?_)
    · skip
      refine x_iload_n dX9_bits_24 rfl ?_
      exact x_iret dX9_bits_25 rfl (Nat.le_of_ble_eq_true rfl) (Nat.le_of_ble_eq_true rfl) ⟨congrArg (fun z => some (Value.int z)) (by rfl), rfl, by rfl, by rfl, rfl⟩
    · skip
      exact absurd (nI_le (b := 10) (Nat.le_refl 10) (by decide)) h7
theorem ct_X9_isThere {g : zG} {N : Nat} {I : zI} {L : zL} {q0 q1 : Option Nat} {a : Int32} (hN : 58 ≤ N) : Ct g yX9_isThere mX9_isThere [.ref (g.2.1 + 40), .int a] N I L (zRw q0 q1) (zD (some (.int (zb (thr I a)))) N I L (zRw q0 q1)) := by
  refine Ct_of (lo0 := [some (.ref (g.2.1 + 40)), some (.int a)]) rfl rfl rfl rfl (Nat.le_of_ble_eq_true rfl) (fun E => ?_)
  refine x_iload_n dX9_isThere_0 rfl ?_
  refine x_iconst (v := 0) dX9_isThere_1 (by decide) ?_
  refine x_iconst (v := 5) dX9_isThere_2 (by decide) ?_
  refine x_callSi dX9_isThere_3 ml_X9_63 mt_X9_in st_X9_in (ct_X9_in) rfl rfl (Nat.le_of_ble_eq_true rfl) ⟨(Nat.le_of_ble_eq_true rfl), (Nat.le_of_ble_eq_true rfl)⟩ ⟨rfl, rfl⟩ ⟨(Nat.le_of_ble_eq_true rfl), (Nat.le_of_ble_eq_true rfl)⟩ ?_
  refine x_if_eq (tgt := 27) dX9_isThere_6 (by decide) (fun h6 => ?_) (fun h6 => ?_)
  · skip
    replace h6 := zb0 h6
    refine x_iconst (v := 0) dX9_isThere_27 (by decide) ?_
    exact x_zret dX9_isThere_28 rfl rfl (Nat.le_of_ble_eq_true rfl) (Nat.le_of_ble_eq_true rfl) ⟨congrArg (fun z => some (Value.int z)) (by simp [thr, zb, h6]), rfl, by rfl, by rfl, rfl⟩
  · skip
    replace h6 := zb1 h6
    refine x_aload_n dX9_isThere_9 rfl ?_
    refine x_getR dX9_isThere_10 fl_X9_7 (by omega) rfl rfl rfl ?_
    refine x_bipush (v := 12) dX9_isThere_13 (by decide) ?_
    refine x_ialdN (i := 12) dX9_isThere_15 (by omega) rfl rfl (by decide) ?_
    refine x_iload_n dX9_isThere_16 rfl ?_
    refine x_pc (pc2 := 17) rfl ?_
    refine x_callSi dX9_isThere_17 ml_X9_67 mt_X9_has st_X9_has (ct_X9_has) rfl rfl (Nat.le_of_ble_eq_true rfl) ⟨(Nat.le_of_ble_eq_true rfl), (Nat.le_of_ble_eq_true rfl)⟩ ⟨rfl, rfl⟩ ⟨(Nat.le_of_ble_eq_true rfl), (Nat.le_of_ble_eq_true rfl)⟩ ?_
    refine x_if_eq (tgt := 27) dX9_isThere_20 (by decide) (fun h20 => ?_) (fun h20 => ?_)
    · skip
      replace h20 := zb0 h20
      refine x_iconst (v := 0) dX9_isThere_27 (by decide) ?_
      exact x_zret dX9_isThere_28 rfl rfl (Nat.le_of_ble_eq_true rfl) (Nat.le_of_ble_eq_true rfl) ⟨congrArg (fun z => some (Value.int z)) (by simp [thr, zb, h6, h20]), rfl, by rfl, by rfl, rfl⟩
    · skip
      replace h20 := zb1 h20
      refine x_iconst (v := 1) dX9_isThere_23 (by decide) ?_
      refine x_goto (tgt := 28) dX9_isThere_24 (by decide) ?_
      exact x_zret dX9_isThere_28 rfl rfl (Nat.le_of_ble_eq_true rfl) (Nat.le_of_ble_eq_true rfl) ⟨congrArg (fun z => some (Value.int z)) (by simp [thr, zb, h6, h20]), rfl, by rfl, by rfl, rfl⟩
theorem ct_X9_stands {g : zG} {N : Nat} {I : zI} {L : zL} {q0 q1 : Option Nat} {a : Int32} (hN : 58 ≤ N) : Ct g yX9_stands mX9_stands [.ref (g.2.1 + 40), .int a] N I L (zRw q0 q1) (zD (some (.int (zb (std I a)))) N I L (zRw q0 q1)) := by
  refine Ct_of (lo0 := [some (.ref (g.2.1 + 40)), some (.int a)]) rfl rfl rfl rfl (Nat.le_of_ble_eq_true rfl) (fun E => ?_)
  refine x_iload_n dX9_stands_0 rfl ?_
  refine x_iconst (v := 0) dX9_stands_1 (by decide) ?_
  refine x_iconst (v := 5) dX9_stands_2 (by decide) ?_
  refine x_callSi dX9_stands_3 ml_X9_63 mt_X9_in st_X9_in (ct_X9_in) rfl rfl (Nat.le_of_ble_eq_true rfl) ⟨(Nat.le_of_ble_eq_true rfl), (Nat.le_of_ble_eq_true rfl)⟩ ⟨rfl, rfl⟩ ⟨(Nat.le_of_ble_eq_true rfl), (Nat.le_of_ble_eq_true rfl)⟩ ?_
  refine x_if_eq (tgt := 27) dX9_stands_6 (by decide) (fun h6 => ?_) (fun h6 => ?_)
  · skip
    replace h6 := zb0 h6
    refine x_iconst (v := 0) dX9_stands_27 (by decide) ?_
    exact x_zret dX9_stands_28 rfl rfl (Nat.le_of_ble_eq_true rfl) (Nat.le_of_ble_eq_true rfl) ⟨congrArg (fun z => some (Value.int z)) (by simp [std, zb, h6]), rfl, by rfl, by rfl, rfl⟩
  · skip
    replace h6 := zb1 h6
    refine x_aload_n dX9_stands_9 rfl ?_
    refine x_getR dX9_stands_10 fl_X9_13 (by omega) rfl rfl rfl ?_
    refine x_bipush (v := 12) dX9_stands_13 (by decide) ?_
    refine x_ialdN (i := 12) dX9_stands_15 (by omega) rfl rfl (by decide) ?_
    refine x_iload_n dX9_stands_16 rfl ?_
    refine x_pc (pc2 := 17) rfl ?_
    refine x_callSi dX9_stands_17 ml_X9_67 mt_X9_has st_X9_has (ct_X9_has) rfl rfl (Nat.le_of_ble_eq_true rfl) ⟨(Nat.le_of_ble_eq_true rfl), (Nat.le_of_ble_eq_true rfl)⟩ ⟨rfl, rfl⟩ ⟨(Nat.le_of_ble_eq_true rfl), (Nat.le_of_ble_eq_true rfl)⟩ ?_
    refine x_if_eq (tgt := 27) dX9_stands_20 (by decide) (fun h20 => ?_) (fun h20 => ?_)
    · skip
      replace h20 := zb0 h20
      refine x_iconst (v := 0) dX9_stands_27 (by decide) ?_
      exact x_zret dX9_stands_28 rfl rfl (Nat.le_of_ble_eq_true rfl) (Nat.le_of_ble_eq_true rfl) ⟨congrArg (fun z => some (Value.int z)) (by simp [std, zb, h6, h20]), rfl, by rfl, by rfl, rfl⟩
    · skip
      replace h20 := zb1 h20
      refine x_iconst (v := 1) dX9_stands_23 (by decide) ?_
      refine x_goto (tgt := 28) dX9_stands_24 (by decide) ?_
      exact x_zret dX9_stands_28 rfl rfl (Nat.le_of_ble_eq_true rfl) (Nat.le_of_ble_eq_true rfl) ⟨congrArg (fun z => some (Value.int z)) (by simp [std, zb, h6, h20]), rfl, by rfl, by rfl, rfl⟩
def mgrI (I : zI) (a s h : Int32) : zI := if zin a 0 5 = true ∧ zin s 1 99 = true ∧ zin h 0 255 = true then zu (zu (zu I 41 (zx a) s) 41 (6 + zx a) h) 41 12 (I 41 12 ||| (1 <<< (a &&& 31))) else I
def mgrA (I : zI) (a s h : Int32) : Int32 := if zin a 0 5 = false then -1 else if zin s 1 99 = false ∨ zin h 0 255 = false then -2 else bt_ (I 41 12 ||| (1 <<< (a &&& 31))) 10
def mhdI (I : zI) (a b c d : Int32) : zI := if zin a 0 5 = true ∧ zin b 0 255 = true ∧ zin c 1 20 = true ∧ zin d 1 9 = true then zu (zu (zu I 43 (zx a) b) 44 (zx a) c) 45 (zx a) d else I
def mhdA (I : zI) (a b c d : Int32) : Int32 := if zin a 0 5 = false then -1 else if zin b 0 255 = false ∨ zin c 1 20 = false ∨ zin d 1 9 = false then -2 else 1000 * I 43 (zx a) + 10 * I 44 (zx a) + I 45 (zx a)
def mbrI (I : zI) (v : Int32) : zI := if zin v 0 99 = true then zu I 41 13 v else I
def mbrA (I : zI) (v : Int32) : Int32 := if zin v 0 99 = true then I 41 13 else -2
def mcoI (I : zI) (c a b : Int32) : zI := if zin c 0 7 = true ∧ zin a 0 23 = true ∧ zin b a 23 = true then zu I 46 (zx c) (100 * a + b) else I
def mcoA (I : zI) (c a b : Int32) : Int32 := if zin c 0 7 = false then -1 else if zin a 0 23 = false ∨ zin b a 23 = false then -2 else I 46 (zx c)
def mc_ (f : Nat → Int32) : Nat → Int32
  | 0 => 0
  | i + 1 => mc_ f i + bt_ (f i) 10
def mmvI (I : zI) (a b : Int32) (is : Bool) : zI := if zin a 0 9 = true ∧ zin b 0 9 = true ∧ ¬ a = b then zu I 47 (zx a) (off1 (I 47 (zx a)) b ||| (if is = true then 1 <<< (b &&& 31) else 0)) else I
def mmvA (I : zI) (a b : Int32) (is : Bool) : Int32 := if zin a 0 9 = false ∨ zin b 0 9 = false ∨ a = b then -1 else mc_ (mmvI I a b is 47) 10
def msyI (I : zI) (n : Nat) (s : Int32) : zI := if zin s 33 126 = true ∧ n < 60 then zu (zu I 49 n s) 40 9 (nI (n + 1)) else I

theorem ct_X9_grief {g : zG} {N : Nat} {I : zI} {L : zL} {q0 q1 : Option Nat} {a s h : Int32} (hN : 58 ≤ N) : Ct g yX9_grief mX9_grief [.ref (g.2.1 + 40), .int a, .int s, .int h] N I L (zRw q0 q1) (zV (.int (mgrA I a s h)) N (mgrI I a s h) (zRw q0 q1)) := by
  refine Ct_of (lo0 := [some (.ref (g.2.1 + 40)), some (.int a), some (.int s), some (.int h)]) rfl rfl rfl rfl (Nat.le_of_ble_eq_true rfl) (fun E => ?_)
  refine x_iload_n dX9_grief_0 rfl ?_
  refine x_iconst (v := 0) dX9_grief_1 (by decide) ?_
  refine x_iconst (v := 5) dX9_grief_2 (by decide) ?_
  refine x_callSi dX9_grief_3 ml_X9_63 mt_X9_in st_X9_in (ct_X9_in) rfl rfl (Nat.le_of_ble_eq_true rfl) ⟨(Nat.le_of_ble_eq_true rfl), (Nat.le_of_ble_eq_true rfl)⟩ ⟨rfl, rfl⟩ ⟨(Nat.le_of_ble_eq_true rfl), (Nat.le_of_ble_eq_true rfl)⟩ ?_
  refine x_if_ne (tgt := 11) dX9_grief_6 (by decide) (fun h6 => ?_) (fun h6 => ?_)
  · skip
    replace h6 := zb1 h6
    obtain ⟨i, hi, rfl⟩ := zin_ex (b := 5) (by decide) h6
    have zxi : zx (nI i) = i := zx_nI (by omega)
    have n6 : ¬ 12 = i := by omega
    have n12 : ¬ 12 = 6 + i := by omega
    refine x_iload_n dX9_grief_11 rfl ?_
    refine x_iconst (v := 1) dX9_grief_12 (by decide) ?_
    refine x_bipush (v := 99) dX9_grief_13 (by decide) ?_
    refine x_callSi dX9_grief_15 ml_X9_63 mt_X9_in st_X9_in (ct_X9_in) rfl rfl (Nat.le_of_ble_eq_true rfl) ⟨(Nat.le_of_ble_eq_true rfl), (Nat.le_of_ble_eq_true rfl)⟩ ⟨rfl, rfl⟩ ⟨(Nat.le_of_ble_eq_true rfl), (Nat.le_of_ble_eq_true rfl)⟩ ?_
    refine x_if_eq (tgt := 32) dX9_grief_18 (by decide) (fun h18 => ?_) (fun h18 => ?_)
    · skip
      replace h18 := zb0 h18
      refine x_bipush (v := (-2)) dX9_grief_32 (by decide) ?_
      refine x_iret dX9_grief_34 rfl (Nat.le_of_ble_eq_true rfl) (Nat.le_of_ble_eq_true rfl) ?_
      refine zV_of (congrArg Value.int ?_) ?_ ?_ ?_
      · first | (simp [mgrA, h6, h18]; done) | (simp [mgrA, h6, h18, zu, n6, n12])
      · first | (intro _ _; simp [mgrI, h6, h18]; done) | (intro c _; simp only [mgrI, h6, h18, zxi]; simp [zu, n6, n12])
      · first | (simp [mgrI, h6, h18]; done) | (simp [mgrI, h6, h18, zxi, zu])
      · first | (simp [mgrI, h6, h18]; done) | (simp [mgrI, h6, h18, zxi, zu])
    · skip
      replace h18 := zb1 h18
      refine x_iload_n dX9_grief_21 rfl ?_
      refine x_iconst (v := 0) dX9_grief_22 (by decide) ?_
      refine x_sipush (v := 255) dX9_grief_23 (by decide) ?_
      refine x_callSi dX9_grief_26 ml_X9_63 mt_X9_in st_X9_in (ct_X9_in) rfl rfl (Nat.le_of_ble_eq_true rfl) ⟨(Nat.le_of_ble_eq_true rfl), (Nat.le_of_ble_eq_true rfl)⟩ ⟨rfl, rfl⟩ ⟨(Nat.le_of_ble_eq_true rfl), (Nat.le_of_ble_eq_true rfl)⟩ ?_
      refine x_if_ne (tgt := 35) dX9_grief_29 (by decide) (fun h29 => ?_) (fun h29 => ?_)
      · skip
        replace h29 := zb1 h29
        refine x_aload_n dX9_grief_35 rfl ?_
        refine x_getR dX9_grief_36 fl_X9_7 (by omega) rfl rfl rfl ?_
        refine x_iload_n dX9_grief_39 rfl ?_
        refine x_iload_n dX9_grief_40 rfl ?_
        refine x_iast dX9_grief_41 (by omega) rfl rfl (by omega) ?_
        refine x_pc (pc2 := 42) rfl ?_
        refine x_aload_n dX9_grief_42 rfl ?_
        refine x_getR dX9_grief_43 fl_X9_7 (by omega) rfl rfl rfl ?_
        refine x_bipush (v := 6) dX9_grief_46 (by decide) ?_
        refine x_iload_n dX9_grief_48 rfl ?_
        refine x_iadd dX9_grief_49 ?_
        refine x_iload_n dX9_grief_50 rfl ?_
        refine x_pc (pc2 := 51) rfl ?_
        refine x_iast dX9_grief_51 (by omega) rfl (show nI 6 + nI i = nI (6 + i) from nI_add 6 i) (by omega) ?_
        refine x_aload_n dX9_grief_52 rfl ?_
        refine x_getR dX9_grief_53 fl_X9_7 (by omega) rfl rfl rfl ?_
        refine x_bipush (v := 12) dX9_grief_56 (by decide) ?_
        refine x_dup2 dX9_grief_58 rfl rfl ?_
        refine x_ialdN (i := 12) dX9_grief_59 (by omega) rfl rfl (by decide) ?_
        refine x_pc (pc2 := 60) rfl ?_
        refine x_iconst (v := 1) dX9_grief_60 (by decide) ?_
        refine x_iload_n dX9_grief_61 rfl ?_
        refine x_ishl dX9_grief_62 ?_
        refine x_ior dX9_grief_63 ?_
        refine x_iast (i := 12) dX9_grief_64 (by omega) rfl rfl (by decide) ?_
        refine x_aload_n dX9_grief_65 rfl ?_
        refine x_pc (pc2 := 66) rfl ?_
        refine x_getR dX9_grief_66 fl_X9_7 (by omega) rfl rfl rfl ?_
        refine x_bipush (v := 12) dX9_grief_69 (by decide) ?_
        refine x_ialdN (i := 12) dX9_grief_71 (by omega) rfl rfl (by decide) ?_
        refine x_callSi dX9_grief_72 ml_X9_71 mt_X9_bits st_X9_bits (ct_X9_bits) rfl rfl (Nat.le_of_ble_eq_true rfl) ⟨(Nat.le_of_ble_eq_true rfl), (Nat.le_of_ble_eq_true rfl)⟩ ⟨rfl, rfl⟩ ⟨(Nat.le_of_ble_eq_true rfl), (Nat.le_of_ble_eq_true rfl)⟩ ?_
        refine x_iret dX9_grief_75 rfl (Nat.le_of_ble_eq_true rfl) (Nat.le_of_ble_eq_true rfl) ?_
        refine zV_of (congrArg Value.int ?_) ?_ ?_ ?_
        · first | (simp [mgrA, h6, h18, h29]; done) | (simp [mgrA, h6, h18, h29, zu, n6, n12])
        · first | (intro _ _; simp [mgrI, h6, h18, h29]; done) | (intro c _; simp only [mgrI, h6, h18, h29, zxi]; simp [zu, n6, n12])
        · first | (simp [mgrI, h6, h18, h29]; done) | (simp [mgrI, h6, h18, h29, zxi, zu])
        · first | (simp [mgrI, h6, h18, h29]; done) | (simp [mgrI, h6, h18, h29, zxi, zu])
      · skip
        replace h29 := zb0 h29
        refine x_bipush (v := (-2)) dX9_grief_32 (by decide) ?_
        refine x_iret dX9_grief_34 rfl (Nat.le_of_ble_eq_true rfl) (Nat.le_of_ble_eq_true rfl) ?_
        refine zV_of (congrArg Value.int ?_) ?_ ?_ ?_
        · first | (simp [mgrA, h6, h18, h29]; done) | (simp [mgrA, h6, h18, h29, zu, n6, n12])
        · first | (intro _ _; simp [mgrI, h6, h18, h29]; done) | (intro c _; simp only [mgrI, h6, h18, h29, zxi]; simp [zu, n6, n12])
        · first | (simp [mgrI, h6, h18, h29]; done) | (simp [mgrI, h6, h18, h29, zxi, zu])
        · first | (simp [mgrI, h6, h18, h29]; done) | (simp [mgrI, h6, h18, h29, zxi, zu])
  · skip
    replace h6 := zb0 h6
    have zxi : True := trivial
    refine x_iconst (v := (-1)) dX9_grief_9 (by decide) ?_
    refine x_iret dX9_grief_10 rfl (Nat.le_of_ble_eq_true rfl) (Nat.le_of_ble_eq_true rfl) ?_
    refine zV_of (congrArg Value.int ?_) ?_ ?_ ?_
    · first | (simp [mgrA, h6]; done) | (simp [mgrA, h6, zu, n6, n12])
    · first | (intro _ _; simp [mgrI, h6]; done) | (intro c _; simp only [mgrI, h6, zxi]; simp [zu, n6, n12])
    · first | (simp [mgrI, h6]; done) | (simp [mgrI, h6, zxi, zu])
    · first | (simp [mgrI, h6]; done) | (simp [mgrI, h6, zxi, zu])
theorem ct_X9_hold {g : zG} {N : Nat} {I : zI} {L : zL} {q0 q1 : Option Nat} {a b c d : Int32} (hN : 58 ≤ N) : Ct g yX9_hold mX9_hold [.ref (g.2.1 + 40), .int a, .int b, .int c, .int d] N I L (zRw q0 q1) (zV (.int (mhdA I a b c d)) N (mhdI I a b c d) (zRw q0 q1)) := by
  refine Ct_of (lo0 := [some (.ref (g.2.1 + 40)), some (.int a), some (.int b), some (.int c), some (.int d), none]) rfl rfl rfl rfl (Nat.le_of_ble_eq_true rfl) (fun E => ?_)
  refine x_iload_n dX9_hold_0 rfl ?_
  refine x_iconst (v := 0) dX9_hold_1 (by decide) ?_
  refine x_iconst (v := 5) dX9_hold_2 (by decide) ?_
  refine x_callSi dX9_hold_3 ml_X9_63 mt_X9_in st_X9_in (ct_X9_in) rfl rfl (Nat.le_of_ble_eq_true rfl) ⟨(Nat.le_of_ble_eq_true rfl), (Nat.le_of_ble_eq_true rfl)⟩ ⟨rfl, rfl⟩ ⟨(Nat.le_of_ble_eq_true rfl), (Nat.le_of_ble_eq_true rfl)⟩ ?_
  refine x_if_ne (tgt := 11) dX9_hold_6 (by decide) (fun h6 => ?_) (fun h6 => ?_)
  · skip
    replace h6 := zb1 h6
    obtain ⟨i, hi, rfl⟩ := zin_ex (b := 5) (by decide) h6
    have zxi : zx (nI i) = i := zx_nI (by omega)
    refine x_iload_n dX9_hold_11 rfl ?_
    refine x_iconst (v := 0) dX9_hold_12 (by decide) ?_
    refine x_sipush (v := 255) dX9_hold_13 (by decide) ?_
    refine x_callSi dX9_hold_16 ml_X9_63 mt_X9_in st_X9_in (ct_X9_in) rfl rfl (Nat.le_of_ble_eq_true rfl) ⟨(Nat.le_of_ble_eq_true rfl), (Nat.le_of_ble_eq_true rfl)⟩ ⟨rfl, rfl⟩ ⟨(Nat.le_of_ble_eq_true rfl), (Nat.le_of_ble_eq_true rfl)⟩ ?_
    refine x_if_eq (tgt := 43) dX9_hold_19 (by decide) (fun h19 => ?_) (fun h19 => ?_)
    · skip
      replace h19 := zb0 h19
      refine x_bipush (v := (-2)) dX9_hold_43 (by decide) ?_
      refine x_iret dX9_hold_45 rfl (Nat.le_of_ble_eq_true rfl) (Nat.le_of_ble_eq_true rfl) ?_
      refine zV_of (congrArg Value.int ?_) ?_ ?_ ?_
      · simp [mhdA, h6, h19, zxi]
      · intro _ _; simp [mhdI, h6, h19, zxi]
      · simp [mhdI, h6, h19, zxi, zu]
      · simp [mhdI, h6, h19, zxi, zu]
    · skip
      replace h19 := zb1 h19
      refine x_iload_n dX9_hold_22 rfl ?_
      refine x_iconst (v := 1) dX9_hold_23 (by decide) ?_
      refine x_bipush (v := 20) dX9_hold_24 (by decide) ?_
      refine x_callSi dX9_hold_26 ml_X9_63 mt_X9_in st_X9_in (ct_X9_in) rfl rfl (Nat.le_of_ble_eq_true rfl) ⟨(Nat.le_of_ble_eq_true rfl), (Nat.le_of_ble_eq_true rfl)⟩ ⟨rfl, rfl⟩ ⟨(Nat.le_of_ble_eq_true rfl), (Nat.le_of_ble_eq_true rfl)⟩ ?_
      refine x_if_eq (tgt := 43) dX9_hold_29 (by decide) (fun h29 => ?_) (fun h29 => ?_)
      · skip
        replace h29 := zb0 h29
        refine x_bipush (v := (-2)) dX9_hold_43 (by decide) ?_
        refine x_iret dX9_hold_45 rfl (Nat.le_of_ble_eq_true rfl) (Nat.le_of_ble_eq_true rfl) ?_
        refine zV_of (congrArg Value.int ?_) ?_ ?_ ?_
        · simp [mhdA, h6, h19, h29, zxi]
        · intro _ _; simp [mhdI, h6, h19, h29, zxi]
        · simp [mhdI, h6, h19, h29, zxi, zu]
        · simp [mhdI, h6, h19, h29, zxi, zu]
      · skip
        replace h29 := zb1 h29
        refine x_iload dX9_hold_32 rfl ?_
        refine x_iconst (v := 1) dX9_hold_34 (by decide) ?_
        refine x_bipush (v := 9) dX9_hold_35 (by decide) ?_
        refine x_callSi dX9_hold_37 ml_X9_63 mt_X9_in st_X9_in (ct_X9_in) rfl rfl (Nat.le_of_ble_eq_true rfl) ⟨(Nat.le_of_ble_eq_true rfl), (Nat.le_of_ble_eq_true rfl)⟩ ⟨rfl, rfl⟩ ⟨(Nat.le_of_ble_eq_true rfl), (Nat.le_of_ble_eq_true rfl)⟩ ?_
        refine x_if_ne (tgt := 46) dX9_hold_40 (by decide) (fun h40 => ?_) (fun h40 => ?_)
        · skip
          replace h40 := zb1 h40
          refine x_sipush (v := 1000) dX9_hold_46 (by decide) ?_
          refine x_aload_n dX9_hold_49 rfl ?_
          refine x_getR dX9_hold_50 fl_X9_16 (by omega) rfl rfl rfl ?_
          refine x_iload_n dX9_hold_53 rfl ?_
          refine x_ialdN dX9_hold_54 (by omega) rfl rfl hi ?_
          refine x_pc (pc2 := 55) rfl ?_
          refine x_imul dX9_hold_55 ?_
          refine x_bipush (v := 10) dX9_hold_56 (by decide) ?_
          refine x_aload_n dX9_hold_58 rfl ?_
          refine x_getR dX9_hold_59 fl_X9_19 (by omega) rfl rfl rfl ?_
          refine x_iload_n dX9_hold_62 rfl ?_
          refine x_ialdN dX9_hold_63 (by omega) rfl rfl hi ?_
          refine x_pc (pc2 := 64) rfl ?_
          refine x_imul dX9_hold_64 ?_
          refine x_iadd dX9_hold_65 ?_
          refine x_aload_n dX9_hold_66 rfl ?_
          refine x_getR dX9_hold_67 fl_X9_22 (by omega) rfl rfl rfl ?_
          refine x_iload_n dX9_hold_70 rfl ?_
          refine x_ialdN dX9_hold_71 (by omega) rfl rfl hi ?_
          refine x_pc (pc2 := 72) rfl ?_
          refine x_iadd dX9_hold_72 ?_
          refine x_istore (lo2 := [_, _, _, _, _, _]) dX9_hold_73 (by decide) rfl rfl ?_
          refine x_aload_n dX9_hold_75 rfl ?_
          refine x_getR dX9_hold_76 fl_X9_16 (by omega) rfl rfl rfl ?_
          refine x_iload_n dX9_hold_79 rfl ?_
          refine x_iload_n dX9_hold_80 rfl ?_
          refine x_pc (pc2 := 81) rfl ?_
          refine x_iast dX9_hold_81 (by omega) rfl rfl hi ?_
          refine x_aload_n dX9_hold_82 rfl ?_
          refine x_getR dX9_hold_83 fl_X9_19 (by omega) rfl rfl rfl ?_
          refine x_iload_n dX9_hold_86 rfl ?_
          refine x_iload_n dX9_hold_87 rfl ?_
          refine x_iast dX9_hold_88 (by omega) rfl rfl hi ?_
          refine x_pc (pc2 := 89) rfl ?_
          refine x_aload_n dX9_hold_89 rfl ?_
          refine x_getR dX9_hold_90 fl_X9_22 (by omega) rfl rfl rfl ?_
          refine x_iload_n dX9_hold_93 rfl ?_
          refine x_iload dX9_hold_94 rfl ?_
          refine x_iast dX9_hold_96 (by omega) rfl rfl hi ?_
          refine x_iload dX9_hold_97 rfl ?_
          refine x_pc (pc2 := 99) rfl ?_
          refine x_iret dX9_hold_99 rfl (Nat.le_of_ble_eq_true rfl) (Nat.le_of_ble_eq_true rfl) ?_
          refine zV_of (congrArg Value.int ?_) ?_ ?_ ?_
          · simp [mhdA, h6, h19, h29, h40, zxi]
          · intro _ _; simp [mhdI, h6, h19, h29, h40, zxi]
          · simp [mhdI, h6, h19, h29, h40, zxi, zu]
          · simp [mhdI, h6, h19, h29, h40, zxi, zu]
        · skip
          replace h40 := zb0 h40
          refine x_bipush (v := (-2)) dX9_hold_43 (by decide) ?_
          refine x_iret dX9_hold_45 rfl (Nat.le_of_ble_eq_true rfl) (Nat.le_of_ble_eq_true rfl) ?_
          refine zV_of (congrArg Value.int ?_) ?_ ?_ ?_
          · simp [mhdA, h6, h19, h29, h40, zxi]
          · intro _ _; simp [mhdI, h6, h19, h29, h40, zxi]
          · simp [mhdI, h6, h19, h29, h40, zxi, zu]
          · simp [mhdI, h6, h19, h29, h40, zxi, zu]
  · skip
    replace h6 := zb0 h6
    have zxi : True := trivial
    refine x_iconst (v := (-1)) dX9_hold_9 (by decide) ?_
    refine x_iret dX9_hold_10 rfl (Nat.le_of_ble_eq_true rfl) (Nat.le_of_ble_eq_true rfl) ?_
    refine zV_of (congrArg Value.int ?_) ?_ ?_ ?_
    · simp [mhdA, h6, zxi]
    · intro _ _; simp [mhdI, h6, zxi]
    · simp [mhdI, h6, zxi, zu]
    · simp [mhdI, h6, zxi, zu]
theorem ct_X9_breath {g : zG} {N : Nat} {I : zI} {L : zL} {q0 q1 : Option Nat} {v : Int32} (hN : 58 ≤ N) : Ct g yX9_breath mX9_breath [.ref (g.2.1 + 40), .int v] N I L (zRw q0 q1) (zV (.int (mbrA I v)) N (mbrI I v) (zRw q0 q1)) := by
  refine Ct_of (lo0 := [some (.ref (g.2.1 + 40)), some (.int v), none]) rfl rfl rfl rfl (Nat.le_of_ble_eq_true rfl) (fun E => ?_)
  refine x_iload_n dX9_breath_0 rfl ?_
  refine x_iconst (v := 0) dX9_breath_1 (by decide) ?_
  refine x_bipush (v := 99) dX9_breath_2 (by decide) ?_
  refine x_callSi dX9_breath_4 ml_X9_63 mt_X9_in st_X9_in (ct_X9_in) rfl rfl (Nat.le_of_ble_eq_true rfl) ⟨(Nat.le_of_ble_eq_true rfl), (Nat.le_of_ble_eq_true rfl)⟩ ⟨rfl, rfl⟩ ⟨(Nat.le_of_ble_eq_true rfl), (Nat.le_of_ble_eq_true rfl)⟩ ?_
  refine x_if_ne (tgt := 13) dX9_breath_7 (by decide) (fun h7 => ?_) (fun h7 => ?_)
  · skip
    replace h7 := zb1 h7
    refine x_aload_n dX9_breath_13 rfl ?_
    refine x_getR dX9_breath_14 fl_X9_7 (by omega) rfl rfl rfl ?_
    refine x_bipush (v := 13) dX9_breath_17 (by decide) ?_
    refine x_ialdN (i := 13) dX9_breath_19 (by omega) rfl rfl (by decide) ?_
    refine x_istore_n (lo2 := [_, _, _]) dX9_breath_20 (by decide) rfl rfl ?_
    refine x_pc (pc2 := 21) rfl ?_
    refine x_aload_n dX9_breath_21 rfl ?_
    refine x_getR dX9_breath_22 fl_X9_7 (by omega) rfl rfl rfl ?_
    refine x_bipush (v := 13) dX9_breath_25 (by decide) ?_
    refine x_iload_n dX9_breath_27 rfl ?_
    refine x_iast (i := 13) dX9_breath_28 (by omega) rfl rfl (by decide) ?_
    refine x_iload_n dX9_breath_29 rfl ?_
    refine x_pc (pc2 := 30) rfl ?_
    refine x_iret dX9_breath_30 rfl (Nat.le_of_ble_eq_true rfl) (Nat.le_of_ble_eq_true rfl) ?_
    refine zV_of (congrArg Value.int ?_) ?_ ?_ ?_
    · simp [mbrA, h7]
    · intro _ _; simp [mbrI, h7]
    · simp [mbrI, h7, zu]
    · simp [mbrI, h7, zu]
  · skip
    replace h7 := zb0 h7
    refine x_bipush (v := (-2)) dX9_breath_10 (by decide) ?_
    refine x_iret dX9_breath_12 rfl (Nat.le_of_ble_eq_true rfl) (Nat.le_of_ble_eq_true rfl) ?_
    refine zV_of (congrArg Value.int ?_) ?_ ?_ ?_
    · simp [mbrA, h7]
    · intro _ _; simp [mbrI, h7]
    · simp [mbrI, h7, zu]
    · simp [mbrI, h7, zu]
theorem ct_X9_coat {g : zG} {N : Nat} {I : zI} {L : zL} {q0 q1 : Option Nat} {c a b : Int32} (hN : 58 ≤ N) : Ct g yX9_coat mX9_coat [.ref (g.2.1 + 40), .int c, .int a, .int b] N I L (zRw q0 q1) (zV (.int (mcoA I c a b)) N (mcoI I c a b) (zRw q0 q1)) := by
  refine Ct_of (lo0 := [some (.ref (g.2.1 + 40)), some (.int c), some (.int a), some (.int b), none]) rfl rfl rfl rfl (Nat.le_of_ble_eq_true rfl) (fun E => ?_)
  refine x_iload_n dX9_coat_0 rfl ?_
  refine x_iconst (v := 0) dX9_coat_1 (by decide) ?_
  refine x_bipush (v := 7) dX9_coat_2 (by decide) ?_
  refine x_callSi dX9_coat_4 ml_X9_63 mt_X9_in st_X9_in (ct_X9_in) rfl rfl (Nat.le_of_ble_eq_true rfl) ⟨(Nat.le_of_ble_eq_true rfl), (Nat.le_of_ble_eq_true rfl)⟩ ⟨rfl, rfl⟩ ⟨(Nat.le_of_ble_eq_true rfl), (Nat.le_of_ble_eq_true rfl)⟩ ?_
  refine x_if_ne (tgt := 12) dX9_coat_7 (by decide) (fun h7 => ?_) (fun h7 => ?_)
  · skip
    replace h7 := zb1 h7
    obtain ⟨i, hi, rfl⟩ := zin_ex (b := 7) (by decide) h7
    have zxi : zx (nI i) = i := zx_nI (by omega)
    refine x_iload_n dX9_coat_12 rfl ?_
    refine x_iconst (v := 0) dX9_coat_13 (by decide) ?_
    refine x_bipush (v := 23) dX9_coat_14 (by decide) ?_
    refine x_callSi dX9_coat_16 ml_X9_63 mt_X9_in st_X9_in (ct_X9_in) rfl rfl (Nat.le_of_ble_eq_true rfl) ⟨(Nat.le_of_ble_eq_true rfl), (Nat.le_of_ble_eq_true rfl)⟩ ⟨rfl, rfl⟩ ⟨(Nat.le_of_ble_eq_true rfl), (Nat.le_of_ble_eq_true rfl)⟩ ?_
    refine x_if_eq (tgt := 32) dX9_coat_19 (by decide) (fun h19 => ?_) (fun h19 => ?_)
    · skip
      replace h19 := zb0 h19
      refine x_bipush (v := (-2)) dX9_coat_32 (by decide) ?_
      refine x_iret dX9_coat_34 rfl (Nat.le_of_ble_eq_true rfl) (Nat.le_of_ble_eq_true rfl) ?_
      refine zV_of (congrArg Value.int ?_) ?_ ?_ ?_
      · simp [mcoA, h7, h19, zxi]
      · intro _ _; simp [mcoI, h7, h19, zxi]
      · simp [mcoI, h7, h19, zxi, zu]
      · simp [mcoI, h7, h19, zxi, zu]
    · skip
      replace h19 := zb1 h19
      refine x_iload_n dX9_coat_22 rfl ?_
      refine x_iload_n dX9_coat_23 rfl ?_
      refine x_bipush (v := 23) dX9_coat_24 (by decide) ?_
      refine x_callSi dX9_coat_26 ml_X9_63 mt_X9_in st_X9_in (ct_X9_in) rfl rfl (Nat.le_of_ble_eq_true rfl) ⟨(Nat.le_of_ble_eq_true rfl), (Nat.le_of_ble_eq_true rfl)⟩ ⟨rfl, rfl⟩ ⟨(Nat.le_of_ble_eq_true rfl), (Nat.le_of_ble_eq_true rfl)⟩ ?_
      refine x_if_ne (tgt := 35) dX9_coat_29 (by decide) (fun h29 => ?_) (fun h29 => ?_)
      · skip
        replace h29 := zb1 h29
        refine x_aload_n dX9_coat_35 rfl ?_
        refine x_getR dX9_coat_36 fl_X9_25 (by omega) rfl rfl rfl ?_
        refine x_iload_n dX9_coat_39 rfl ?_
        refine x_ialdN dX9_coat_40 (by omega) rfl rfl hi ?_
        refine x_istore (lo2 := [_, _, _, _, _]) dX9_coat_41 (by decide) rfl rfl ?_
        refine x_pc (pc2 := 43) rfl ?_
        refine x_aload_n dX9_coat_43 rfl ?_
        refine x_getR dX9_coat_44 fl_X9_25 (by omega) rfl rfl rfl ?_
        refine x_iload_n dX9_coat_47 rfl ?_
        refine x_bipush (v := 100) dX9_coat_48 (by decide) ?_
        refine x_iload_n dX9_coat_50 rfl ?_
        refine x_imul dX9_coat_51 ?_
        refine x_pc (pc2 := 52) rfl ?_
        refine x_iload_n dX9_coat_52 rfl ?_
        refine x_iadd dX9_coat_53 ?_
        refine x_iast dX9_coat_54 (by omega) rfl rfl hi ?_
        refine x_iload dX9_coat_55 rfl ?_
        refine x_iret dX9_coat_57 rfl (Nat.le_of_ble_eq_true rfl) (Nat.le_of_ble_eq_true rfl) ?_
        refine zV_of (congrArg Value.int ?_) ?_ ?_ ?_
        · simp [mcoA, h7, h19, h29, zxi]
        · intro _ _; simp [mcoI, h7, h19, h29, zxi]
        · simp [mcoI, h7, h19, h29, zxi, zu]
        · simp [mcoI, h7, h19, h29, zxi, zu]
      · skip
        replace h29 := zb0 h29
        refine x_bipush (v := (-2)) dX9_coat_32 (by decide) ?_
        refine x_iret dX9_coat_34 rfl (Nat.le_of_ble_eq_true rfl) (Nat.le_of_ble_eq_true rfl) ?_
        refine zV_of (congrArg Value.int ?_) ?_ ?_ ?_
        · simp [mcoA, h7, h19, h29, zxi]
        · intro _ _; simp [mcoI, h7, h19, h29, zxi]
        · simp [mcoI, h7, h19, h29, zxi, zu]
        · simp [mcoI, h7, h19, h29, zxi, zu]
  · skip
    replace h7 := zb0 h7
    have zxi : True := trivial
    refine x_iconst (v := (-1)) dX9_coat_10 (by decide) ?_
    refine x_iret dX9_coat_11 rfl (Nat.le_of_ble_eq_true rfl) (Nat.le_of_ble_eq_true rfl) ?_
    refine zV_of (congrArg Value.int ?_) ?_ ?_ ?_
    · simp [mcoA, h7, zxi]
    · intro _ _; simp [mcoI, h7, zxi]
    · simp [mcoI, h7, zxi, zu]
    · simp [mcoI, h7, zxi, zu]
theorem ct_X9_move {g : zG} {N : Nat} {I : zI} {L : zL} {q0 q1 : Option Nat} {a b : Int32} {is : Bool} (hN : 58 ≤ N) : Ct g yX9_move mX9_move [.ref (g.2.1 + 40), .int a, .int b, .int (zb is)] N I L (zRw q0 q1) (zV (.int (mmvA I a b is)) N (mmvI I a b is) (zRw q0 q1)) := by
  refine Ct_of (lo0 := [some (.ref (g.2.1 + 40)), some (.int a), some (.int b), some (.int (zb is)), none, none]) rfl rfl rfl rfl (Nat.le_of_ble_eq_true rfl) (fun E => ?_)
  refine x_iload_n dX9_move_0 rfl ?_
  refine x_iconst (v := 0) dX9_move_1 (by decide) ?_
  refine x_bipush (v := 9) dX9_move_2 (by decide) ?_
  refine x_callSi dX9_move_4 ml_X9_63 mt_X9_in st_X9_in (ct_X9_in) rfl rfl (Nat.le_of_ble_eq_true rfl) ⟨(Nat.le_of_ble_eq_true rfl), (Nat.le_of_ble_eq_true rfl)⟩ ⟨rfl, rfl⟩ ⟨(Nat.le_of_ble_eq_true rfl), (Nat.le_of_ble_eq_true rfl)⟩ ?_
  refine x_if_eq (tgt := 25) dX9_move_7 (by decide) (fun h7 => ?_) (fun h7 => ?_)
  · skip
    replace h7 := zb0 h7
    refine x_iconst (v := (-1)) dX9_move_25 (by decide) ?_
    refine x_iret dX9_move_26 rfl (Nat.le_of_ble_eq_true rfl) (Nat.le_of_ble_eq_true rfl) ?_
    refine zV_of (congrArg Value.int ?_) ?_ ?_ ?_
    · first | (simp [mmvA, h7]; done) | (simp [mmvA, h7, h17]; done) | (simp [mmvA, h7, h17, h22]; done) | (rw [zuu, zu_self]; simp [mmvA, mmvI, h7, h17, h22, zxi, off1, h49])
    · first | (intro _ _; simp [mmvI, h7]; done) | (intro _ _; simp [mmvI, h7, h17]; done) | (intro _ _; simp [mmvI, h7, h17, h22]; done) | (intro c _; rw [zuu, zu_self]; simp [mmvI, h7, h17, h22, zxi, off1, h49])
    · first | (simp [mmvI, h7]; done) | (simp [mmvI, h7, h17]; done) | (simp [mmvI, h7, h17, h22]; done) | (simp [mmvI, h7, h17, h22, zxi, zu])
    · first | (simp [mmvI, h7]; done) | (simp [mmvI, h7, h17]; done) | (simp [mmvI, h7, h17, h22]; done) | (simp [mmvI, h7, h17, h22, zxi, zu])
  · skip
    replace h7 := zb1 h7
    obtain ⟨i, hi, rfl⟩ := zin_ex (b := 9) (by decide) h7
    have zxi : zx (nI i) = i := zx_nI (by omega)
    refine x_iload_n dX9_move_10 rfl ?_
    refine x_iconst (v := 0) dX9_move_11 (by decide) ?_
    refine x_bipush (v := 9) dX9_move_12 (by decide) ?_
    refine x_callSi dX9_move_14 ml_X9_63 mt_X9_in st_X9_in (ct_X9_in) rfl rfl (Nat.le_of_ble_eq_true rfl) ⟨(Nat.le_of_ble_eq_true rfl), (Nat.le_of_ble_eq_true rfl)⟩ ⟨rfl, rfl⟩ ⟨(Nat.le_of_ble_eq_true rfl), (Nat.le_of_ble_eq_true rfl)⟩ ?_
    refine x_if_eq (tgt := 25) dX9_move_17 (by decide) (fun h17 => ?_) (fun h17 => ?_)
    · skip
      replace h17 := zb0 h17
      refine x_iconst (v := (-1)) dX9_move_25 (by decide) ?_
      refine x_iret dX9_move_26 rfl (Nat.le_of_ble_eq_true rfl) (Nat.le_of_ble_eq_true rfl) ?_
      refine zV_of (congrArg Value.int ?_) ?_ ?_ ?_
      · first | (simp [mmvA, h7]; done) | (simp [mmvA, h7, h17]; done) | (simp [mmvA, h7, h17, h22]; done) | (rw [zuu, zu_self]; simp [mmvA, mmvI, h7, h17, h22, zxi, off1, h49])
      · first | (intro _ _; simp [mmvI, h7]; done) | (intro _ _; simp [mmvI, h7, h17]; done) | (intro _ _; simp [mmvI, h7, h17, h22]; done) | (intro c _; rw [zuu, zu_self]; simp [mmvI, h7, h17, h22, zxi, off1, h49])
      · first | (simp [mmvI, h7]; done) | (simp [mmvI, h7, h17]; done) | (simp [mmvI, h7, h17, h22]; done) | (simp [mmvI, h7, h17, h22, zxi, zu])
      · first | (simp [mmvI, h7]; done) | (simp [mmvI, h7, h17]; done) | (simp [mmvI, h7, h17, h22]; done) | (simp [mmvI, h7, h17, h22, zxi, zu])
    · skip
      replace h17 := zb1 h17
      refine x_iload_n dX9_move_20 rfl ?_
      refine x_iload_n dX9_move_21 rfl ?_
      refine x_icmp_ne (tgt := 27) dX9_move_22 (by decide) (fun h22 => ?_) (fun h22 => ?_)
      · skip
        refine x_aload_n dX9_move_27 rfl ?_
        refine x_getR dX9_move_28 fl_X9_28 (by omega) rfl rfl rfl ?_
        refine x_iload_n dX9_move_31 rfl ?_
        refine x_dup2 dX9_move_32 rfl rfl ?_
        refine x_ialdN dX9_move_33 (by omega) rfl rfl hi ?_
        refine x_pc (pc2 := 34) rfl ?_
        refine x_iconst (v := 1) dX9_move_34 (by decide) ?_
        refine x_iload_n dX9_move_35 rfl ?_
        refine x_ishl dX9_move_36 ?_
        refine x_iconst (v := (-1)) dX9_move_37 (by decide) ?_
        refine x_ixor dX9_move_38 ?_
        refine x_iand dX9_move_39 ?_
        refine x_pc (pc2 := 40) rfl ?_
        refine x_iast dX9_move_40 (by omega) rfl rfl hi ?_
        refine x_aload_n dX9_move_41 rfl ?_
        refine x_getR dX9_move_42 fl_X9_28 (by omega) rfl rfl rfl ?_
        refine x_iload_n dX9_move_45 rfl ?_
        refine x_dup2 dX9_move_46 rfl rfl ?_
        refine x_ialdN dX9_move_47 (by omega) rfl rfl hi ?_
        refine x_pc (pc2 := 48) rfl ?_
        refine x_iload_n dX9_move_48 rfl ?_
        refine x_if_eq (tgt := 58) dX9_move_49 (by decide) (fun h49 => ?_) (fun h49 => ?_)
        · skip
          replace h49 := zb0 h49
          refine x_iconst (v := 0) dX9_move_58 (by decide) ?_
          refine x_ior dX9_move_59 ?_
          refine x_iast dX9_move_60 (by omega) rfl rfl hi ?_
          refine x_iconst (v := 0) dX9_move_61 (by decide) ?_
          refine x_istore (lo2 := [_, _, _, _, _, _]) dX9_move_62 (by decide) rfl rfl ?_
          refine x_pc (pc2 := 64) rfl ?_
          refine x_iconst (v := 0) dX9_move_64 (by decide) ?_
          refine x_istore (lo2 := [_, _, _, _, _, _]) dX9_move_65 (by decide) rfl rfl ?_
          refine x_loop (inv := fun k => True) (fun k => [some (.ref (g.2.1 + 40)), some (.int (nI i)), some (.int b), some (.int (zb is)), some (.int (mc_ ((zu (zu I 47 i (I 47 i &&& ((1 <<< (b &&& 31)) ^^^ (-1)))) 47 i (zu I 47 i (I 47 i &&& ((1 <<< (b &&& 31)) ^^^ (-1))) 47 i ||| 0)) 47) k)), some (.int (nI k))]) (fun k => (zu (zu I 47 i (I 47 i &&& ((1 <<< (b &&& 31)) ^^^ (-1)))) 47 i (zu I 47 i (I 47 i &&& ((1 <<< (b &&& 31)) ^^^ (-1))) 47 i ||| 0))) (fun k => L) 0 10 (by omega) (by trivial) (by rfl) (by rfl) (by rfl) (fun k hlok hhik hinvk Kk => ?_) (fun hinvk => ?_)
          · skip
            refine x_iload dX9_move_67 rfl ?_
            refine x_bipush (v := 10) dX9_move_69 (by decide) ?_
            refine x_icmp_ge (tgt := 95) dX9_move_71 (by decide) (fun h71 => ?_) (fun h71 => ?_)
            · skip
              exact absurd h71 (nI_ge (b := 10) hhik (by decide))
            · skip
              refine x_iload dX9_move_74 rfl ?_
              refine x_aload_n dX9_move_76 rfl ?_
              refine x_getR dX9_move_77 fl_X9_28 (by omega) rfl rfl rfl ?_
              refine x_iload dX9_move_80 rfl ?_
              refine x_ialdN dX9_move_82 (by omega) rfl rfl (by omega) ?_
              refine x_pc (pc2 := 83) rfl ?_
              refine x_callSi dX9_move_83 ml_X9_71 mt_X9_bits st_X9_bits (ct_X9_bits) rfl rfl (Nat.le_of_ble_eq_true rfl) ⟨(Nat.le_of_ble_eq_true rfl), (Nat.le_of_ble_eq_true rfl)⟩ ⟨rfl, rfl⟩ ⟨(Nat.le_of_ble_eq_true rfl), (Nat.le_of_ble_eq_true rfl)⟩ ?_
              refine x_iadd dX9_move_86 ?_
              refine x_istore (lo2 := [_, _, _, _, _, _]) dX9_move_87 (by decide) rfl rfl ?_
              refine x_iincN (lo2 := [_, _, _, _, _, _]) dX9_move_89 rfl rfl rfl ?_
              refine x_goto (tgt := 67) dX9_move_92 (by decide) ?_
              exact x_eq (by rfl) (by rfl) (by rfl) (Kk (by trivial))
          · skip
            refine x_iload dX9_move_67 rfl ?_
            refine x_bipush (v := 10) dX9_move_69 (by decide) ?_
            refine x_icmp_ge (tgt := 95) dX9_move_71 (by decide) (fun h71 => ?_) (fun h71 => ?_)
            · skip
              refine x_iload dX9_move_95 rfl ?_
              refine x_iret dX9_move_97 rfl (Nat.le_of_ble_eq_true rfl) (Nat.le_of_ble_eq_true rfl) ?_
              refine zV_of (congrArg Value.int ?_) ?_ ?_ ?_
              · first | (simp [mmvA, h7]; done) | (simp [mmvA, h7, h17]; done) | (simp [mmvA, h7, h17, h22]; done) | (rw [zuu, zu_self]; simp [mmvA, mmvI, h7, h17, h22, zxi, off1, h49])
              · first | (intro _ _; simp [mmvI, h7]; done) | (intro _ _; simp [mmvI, h7, h17]; done) | (intro _ _; simp [mmvI, h7, h17, h22]; done) | (intro c _; rw [zuu, zu_self]; simp [mmvI, h7, h17, h22, zxi, off1, h49])
              · first | (simp [mmvI, h7]; done) | (simp [mmvI, h7, h17]; done) | (simp [mmvI, h7, h17, h22]; done) | (simp [mmvI, h7, h17, h22, zxi, zu])
              · first | (simp [mmvI, h7]; done) | (simp [mmvI, h7, h17]; done) | (simp [mmvI, h7, h17, h22]; done) | (simp [mmvI, h7, h17, h22, zxi, zu])
            · skip
              exact absurd (nI_le (b := 10) (Nat.le_refl 10) (by decide)) h71
        · skip
          replace h49 := zb1 h49
          refine x_iconst (v := 1) dX9_move_52 (by decide) ?_
          refine x_iload_n dX9_move_53 rfl ?_
          refine x_ishl dX9_move_54 ?_
          refine x_goto (tgt := 59) dX9_move_55 (by decide) ?_
          refine x_ior dX9_move_59 ?_
          refine x_iast dX9_move_60 (by omega) rfl rfl hi ?_
          refine x_iconst (v := 0) dX9_move_61 (by decide) ?_
          refine x_istore (lo2 := [_, _, _, _, _, _]) dX9_move_62 (by decide) rfl rfl ?_
          refine x_iconst (v := 0) dX9_move_64 (by decide) ?_
          refine x_pc (pc2 := 65) rfl ?_
          refine x_istore (lo2 := [_, _, _, _, _, _]) dX9_move_65 (by decide) rfl rfl ?_
          refine x_loop (inv := fun k => True) (fun k => [some (.ref (g.2.1 + 40)), some (.int (nI i)), some (.int b), some (.int (zb is)), some (.int (mc_ ((zu (zu I 47 i (I 47 i &&& ((1 <<< (b &&& 31)) ^^^ (-1)))) 47 i (zu I 47 i (I 47 i &&& ((1 <<< (b &&& 31)) ^^^ (-1))) 47 i ||| (1 <<< (b &&& 31)))) 47) k)), some (.int (nI k))]) (fun k => (zu (zu I 47 i (I 47 i &&& ((1 <<< (b &&& 31)) ^^^ (-1)))) 47 i (zu I 47 i (I 47 i &&& ((1 <<< (b &&& 31)) ^^^ (-1))) 47 i ||| (1 <<< (b &&& 31))))) (fun k => L) 0 10 (by omega) (by trivial) (by rfl) (by rfl) (by rfl) (fun k hlok hhik hinvk Kk => ?_) (fun hinvk => ?_)
          · skip
            refine x_iload dX9_move_67 rfl ?_
            refine x_bipush (v := 10) dX9_move_69 (by decide) ?_
            refine x_icmp_ge (tgt := 95) dX9_move_71 (by decide) (fun h71 => ?_) (fun h71 => ?_)
            · skip
              exact absurd h71 (nI_ge (b := 10) hhik (by decide))
            · skip
              refine x_iload dX9_move_74 rfl ?_
              refine x_aload_n dX9_move_76 rfl ?_
              refine x_getR dX9_move_77 fl_X9_28 (by omega) rfl rfl rfl ?_
              refine x_iload dX9_move_80 rfl ?_
              refine x_ialdN dX9_move_82 (by omega) rfl rfl (by omega) ?_
              refine x_pc (pc2 := 83) rfl ?_
              refine x_callSi dX9_move_83 ml_X9_71 mt_X9_bits st_X9_bits (ct_X9_bits) rfl rfl (Nat.le_of_ble_eq_true rfl) ⟨(Nat.le_of_ble_eq_true rfl), (Nat.le_of_ble_eq_true rfl)⟩ ⟨rfl, rfl⟩ ⟨(Nat.le_of_ble_eq_true rfl), (Nat.le_of_ble_eq_true rfl)⟩ ?_
              refine x_iadd dX9_move_86 ?_
              refine x_istore (lo2 := [_, _, _, _, _, _]) dX9_move_87 (by decide) rfl rfl ?_
              refine x_iincN (lo2 := [_, _, _, _, _, _]) dX9_move_89 rfl rfl rfl ?_
              refine x_goto (tgt := 67) dX9_move_92 (by decide) ?_
              exact x_eq (by rfl) (by rfl) (by rfl) (Kk (by trivial))
          · skip
            refine x_iload dX9_move_67 rfl ?_
            refine x_bipush (v := 10) dX9_move_69 (by decide) ?_
            refine x_icmp_ge (tgt := 95) dX9_move_71 (by decide) (fun h71 => ?_) (fun h71 => ?_)
            · skip
              refine x_iload dX9_move_95 rfl ?_
              refine x_iret dX9_move_97 rfl (Nat.le_of_ble_eq_true rfl) (Nat.le_of_ble_eq_true rfl) ?_
              refine zV_of (congrArg Value.int ?_) ?_ ?_ ?_
              · first | (simp [mmvA, h7]; done) | (simp [mmvA, h7, h17]; done) | (simp [mmvA, h7, h17, h22]; done) | (rw [zuu, zu_self]; simp [mmvA, mmvI, h7, h17, h22, zxi, off1, h49])
              · first | (intro _ _; simp [mmvI, h7]; done) | (intro _ _; simp [mmvI, h7, h17]; done) | (intro _ _; simp [mmvI, h7, h17, h22]; done) | (intro c _; rw [zuu, zu_self]; simp [mmvI, h7, h17, h22, zxi, off1, h49])
              · first | (simp [mmvI, h7]; done) | (simp [mmvI, h7, h17]; done) | (simp [mmvI, h7, h17, h22]; done) | (simp [mmvI, h7, h17, h22, zxi, zu])
              · first | (simp [mmvI, h7]; done) | (simp [mmvI, h7, h17]; done) | (simp [mmvI, h7, h17, h22]; done) | (simp [mmvI, h7, h17, h22, zxi, zu])
            · skip
              exact absurd (nI_le (b := 10) (Nat.le_refl 10) (by decide)) h71
      · skip
        refine x_iconst (v := (-1)) dX9_move_25 (by decide) ?_
        refine x_iret dX9_move_26 rfl (Nat.le_of_ble_eq_true rfl) (Nat.le_of_ble_eq_true rfl) ?_
        refine zV_of (congrArg Value.int ?_) ?_ ?_ ?_
        · first | (simp [mmvA, h7]; done) | (simp [mmvA, h7, h17]; done) | (simp [mmvA, h7, h17, h22]; done) | (rw [zuu, zu_self]; simp [mmvA, mmvI, h7, h17, h22, zxi, off1, h49])
        · first | (intro _ _; simp [mmvI, h7]; done) | (intro _ _; simp [mmvI, h7, h17]; done) | (intro _ _; simp [mmvI, h7, h17, h22]; done) | (intro c _; rw [zuu, zu_self]; simp [mmvI, h7, h17, h22, zxi, off1, h49])
        · first | (simp [mmvI, h7]; done) | (simp [mmvI, h7, h17]; done) | (simp [mmvI, h7, h17, h22]; done) | (simp [mmvI, h7, h17, h22, zxi, zu])
        · first | (simp [mmvI, h7]; done) | (simp [mmvI, h7, h17]; done) | (simp [mmvI, h7, h17, h22]; done) | (simp [mmvI, h7, h17, h22, zxi, zu])
theorem ct_X9_say {g : zG} {N : Nat} {I : zI} {L : zL} {q0 q1 : Option Nat} {s : Int32} {n : Nat} (hN : 58 ≤ N) (hc : I 40 9 = nI n) (hn : n ≤ 60) : Ct g yX9_say mX9_say [.ref (g.2.1 + 40), .int s] N I L (zRw q0 q1) (zV (.int (syA n s)) N (msyI I n s) (zRw q0 q1)) := by
  refine Ct_of (lo0 := [some (.ref (g.2.1 + 40)), some (.int s)]) rfl rfl rfl rfl (Nat.le_of_ble_eq_true rfl) (fun E => ?_)
  refine x_iload_n dX9_say_0 rfl ?_
  refine x_bipush (v := 33) dX9_say_1 (by decide) ?_
  refine x_bipush (v := 126) dX9_say_3 (by decide) ?_
  refine x_callSi dX9_say_5 ml_X9_63 mt_X9_in st_X9_in (ct_X9_in) rfl rfl (Nat.le_of_ble_eq_true rfl) ⟨(Nat.le_of_ble_eq_true rfl), (Nat.le_of_ble_eq_true rfl)⟩ ⟨rfl, rfl⟩ ⟨(Nat.le_of_ble_eq_true rfl), (Nat.le_of_ble_eq_true rfl)⟩ ?_
  refine x_if_ne (tgt := 14) dX9_say_8 (by decide) (fun h8 => ?_) (fun h8 => ?_)
  · skip
    replace h8 := zb1 h8
    refine x_aload_n dX9_say_14 rfl ?_
    refine x_getI dX9_say_15 fl_X9_75 (by omega) rfl rfl ?_
    refine x_bipush (v := 60) dX9_say_18 (by decide) ?_
    refine x_icmp_ne (tgt := 26) dX9_say_20 (by decide) (fun h20 => ?_) (fun h20 => ?_)
    · skip
      have hn60 : n < 60 := by rw [hc, show (60 : Int32) = nI 60 from rfl, nI_eq (by omega) (by decide)] at h20; omega
      refine x_aload_n dX9_say_26 rfl ?_
      refine x_getR dX9_say_27 fl_X9_34 (by omega) rfl rfl rfl ?_
      refine x_aload_n dX9_say_30 rfl ?_
      refine x_getI dX9_say_31 fl_X9_75 (by omega) rfl rfl ?_
      refine x_iload_n dX9_say_34 rfl ?_
      refine x_pc (pc2 := 35) rfl ?_
      refine x_iast dX9_say_35 (by omega) rfl hc hn60 ?_
      refine x_aload_n dX9_say_36 rfl ?_
      refine x_dup dX9_say_37 rfl ?_
      refine x_getI dX9_say_38 fl_X9_75 (by omega) rfl rfl ?_
      refine x_iconst (v := 1) dX9_say_41 (by decide) ?_
      refine x_iadd dX9_say_42 ?_
      refine x_pc (pc2 := 43) rfl ?_
      refine x_putI dX9_say_43 fp_X9_75 (by omega) rfl ?_
      refine x_aload_n dX9_say_46 rfl ?_
      refine x_getI dX9_say_47 fl_X9_75 (by omega) rfl rfl ?_
      refine x_iret dX9_say_50 rfl (Nat.le_of_ble_eq_true rfl) (Nat.le_of_ble_eq_true rfl) ?_
      refine zV_of (congrArg Value.int ?_) ?_ ?_ ?_
      · first | (simp [syA, h8, h20]; done) | (simp [syA, h8, hn60]; done) | (simp [syA, h8, hn60, zu, hc, nI_succ])
      · first | (intro _ _; simp [msyI, h8, h20]; done) | (intro _ _; simp [msyI, h8, hn60]; done) | (intro c hq; unfold zscr at hq; simp [msyI, h8, hn60, zrn, show c ≠ 40 by omega])
      · first | (simp [msyI, h8, h20]; done) | (simp [msyI, h8, hn60]; done) | (simp [msyI, h8, hn60, zu])
      · first | (simp [msyI, h8, h20]; done) | (simp [msyI, h8, hn60]; done) | (simp [msyI, h8, hn60, zu, hc, nI_succ])
    · skip
      have hn60 : ¬ n < 60 := by rw [hc, show (60 : Int32) = nI 60 from rfl, nI_eq (by omega) (by decide)] at h20; omega
      refine x_bipush (v := (-4)) dX9_say_23 (by decide) ?_
      refine x_iret dX9_say_25 rfl (Nat.le_of_ble_eq_true rfl) (Nat.le_of_ble_eq_true rfl) ?_
      refine zV_of (congrArg Value.int ?_) ?_ ?_ ?_
      · first | (simp [syA, h8, h20]; done) | (simp [syA, h8, hn60]; done) | (simp [syA, h8, hn60, zu, hc, nI_succ])
      · first | (intro _ _; simp [msyI, h8, h20]; done) | (intro _ _; simp [msyI, h8, hn60]; done) | (intro c hq; unfold zscr at hq; simp [msyI, h8, hn60, zrn, show c ≠ 40 by omega])
      · first | (simp [msyI, h8, h20]; done) | (simp [msyI, h8, hn60]; done) | (simp [msyI, h8, hn60, zu])
      · first | (simp [msyI, h8, h20]; done) | (simp [msyI, h8, hn60]; done) | (simp [msyI, h8, hn60, zu, hc, nI_succ])
  · skip
    replace h8 := zb0 h8
    refine x_bipush (v := (-2)) dX9_say_11 (by decide) ?_
    refine x_iret dX9_say_13 rfl (Nat.le_of_ble_eq_true rfl) (Nat.le_of_ble_eq_true rfl) ?_
    refine zV_of (congrArg Value.int ?_) ?_ ?_ ?_
    · first | (simp [syA, h8]; done) | (simp [syA, h8, hn60]; done) | (simp [syA, h8, hn60, zu, hc, nI_succ])
    · first | (intro _ _; simp [msyI, h8]; done) | (intro _ _; simp [msyI, h8, hn60]; done) | (intro c hq; unfold zscr at hq; simp [msyI, h8, hn60, zrn, show c ≠ 40 by omega])
    · first | (simp [msyI, h8]; done) | (simp [msyI, h8, hn60]; done) | (simp [msyI, h8, hn60, zu])
    · first | (simp [msyI, h8]; done) | (simp [msyI, h8, hn60]; done) | (simp [msyI, h8, hn60, zu, hc, nI_succ])
theorem ct_X9_wipe {g : zG} {N : Nat} {I : zI} {L : zL} {q0 q1 : Option Nat} (hN : 58 ≤ N) : Ct g yX9_wipe mX9_wipe [.ref (g.2.1 + 40)] N I L (zRw q0 q1) (zV (.int (I 40 9)) N (zu I 40 9 0) (zRw q0 q1)) := by
  refine Ct_of (lo0 := [some (.ref (g.2.1 + 40)), none]) rfl rfl rfl rfl (Nat.le_of_ble_eq_true rfl) (fun E => ?_)
  refine x_aload_n dX9_wipe_0 rfl ?_
  refine x_getI dX9_wipe_1 fl_X9_75 (by omega) rfl rfl ?_
  refine x_istore_n (lo2 := [_, _]) dX9_wipe_4 (by decide) rfl rfl ?_
  refine x_aload_n dX9_wipe_5 rfl ?_
  refine x_iconst (v := 0) dX9_wipe_6 (by decide) ?_
  refine x_pc (pc2 := 7) rfl ?_
  refine x_putI dX9_wipe_7 fp_X9_75 (by omega) rfl ?_
  refine x_iload_n dX9_wipe_10 rfl ?_
  refine x_iret dX9_wipe_11 rfl (Nat.le_of_ble_eq_true rfl) (Nat.le_of_ble_eq_true rfl) ?_
  refine zV_of (congrArg Value.int ?_) ?_ ?_ ?_
  · rfl
  · intro _ _; rfl
  · rfl
  · rfl
theorem ct_X9_faultOf {g : zG} {N : Nat} {I : zI} {L : zL} {q0 q1 : Option Nat} {f : Nat → Int32} {n : Nat} (hN : 58 ≤ N) (hc : I 40 9 = nI n) (hn : n ≤ 60) (hf : I 49 = f) : Ct g yX9_faultOf mX9_faultOf [.ref (g.2.1 + 40)] N I L (zRw q0 q1) (zD (some (.int (ff_ f n))) N I L (zRw q0 q1)) := by
  refine Ct_of (lo0 := [some (.ref (g.2.1 + 40)), none, none, none, none, none]) rfl rfl rfl rfl (Nat.le_of_ble_eq_true rfl) (fun E => ?_)
  refine x_iconst (v := 0) dX9_faultOf_0 (by decide) ?_
  refine x_istore_n (lo2 := [_, _, _, _, _, _]) dX9_faultOf_1 (by decide) rfl rfl ?_
  refine x_iconst (v := 0) dX9_faultOf_2 (by decide) ?_
  refine x_istore_n (lo2 := [_, _, _, _, _, _]) dX9_faultOf_3 (by decide) rfl rfl ?_
  refine x_loop (inv := fun i => fp_ f i = none ∧ ds_ f i < 3) (fun i => [some (.ref (g.2.1 + 40)), some (.int (nI (ds_ f i))), some (.int (nI i)), none, none, none]) (fun i => I) (fun i => L) 0 n (by omega) (by exact ⟨rfl, by simp [ds_]⟩) (by rfl) (by rfl) (by rfl) (fun i hloi hhii hinvi Ki => ?_) (fun hinvi => ?_)
  · skip
    refine x_iload_n dX9_faultOf_4 rfl ?_
    refine x_aload_n dX9_faultOf_5 rfl ?_
    refine x_getI dX9_faultOf_6 fl_X9_75 (by omega) rfl rfl ?_
    refine x_icmp_ge (tgt := 145) dX9_faultOf_9 (by decide) (fun h9 => ?_) (fun h9 => ?_)
    · skip
      exact absurd (hc ▸ h9) (nI_ge hhii (by omega))
    · skip
      refine x_aload_n dX9_faultOf_12 rfl ?_
      refine x_getR dX9_faultOf_13 fl_X9_34 (by omega) rfl rfl rfl ?_
      refine x_iload_n dX9_faultOf_16 rfl ?_
      refine x_ialdN dX9_faultOf_17 (by omega) rfl rfl (by omega) ?_
      rw [hf]
      rcases (show ds_ f i = 0 ∨ ds_ f i = 1 ∨ ds_ f i = 2 by have := hinvi.2; omega) with hw | hw | hw
      · skip
        rw [hw]
        refine x_istore_n (lo2 := [_, _, _, _, _, _]) dX9_faultOf_18 (by decide) rfl rfl ?_
        refine x_iload_n dX9_faultOf_19 rfl ?_
        refine x_bipush (v := 65) dX9_faultOf_20 (by decide) ?_
        refine x_bipush (v := 70) dX9_faultOf_22 (by decide) ?_
        refine x_callSi dX9_faultOf_24 ml_X9_63 mt_X9_in st_X9_in (ct_X9_in) rfl rfl (Nat.le_of_ble_eq_true rfl) ⟨(Nat.le_of_ble_eq_true rfl), (Nat.le_of_ble_eq_true rfl)⟩ ⟨rfl, rfl⟩ ⟨(Nat.le_of_ble_eq_true rfl), (Nat.le_of_ble_eq_true rfl)⟩ ?_
        refine x_pc (pc2 := 27) rfl ?_
        refine x_istore (lo2 := [_, _, _, _, _, _]) dX9_faultOf_27 (by decide) rfl rfl ?_
        refine x_iload_n dX9_faultOf_29 rfl ?_
        refine x_if_ne (tgt := 58) dX9_faultOf_30 (by decide) (fun h30 => ?_) (fun h30 => ?_)
        · skip
          exact absurd (by decide) h30
        · skip
          refine x_iload dX9_faultOf_33 rfl ?_
          refine x_if_ne (tgt := 50) dX9_faultOf_35 (by decide) (fun h35 => ?_) (fun h35 => ?_)
          · skip
            replace h35 := zb1 h35
            refine x_iconst (v := 1) dX9_faultOf_50 (by decide) ?_
            refine x_goto (tgt := 96) dX9_faultOf_51 (by decide) ?_
            refine x_istore (lo2 := [_, _, _, _, _, _]) dX9_faultOf_96 (by decide) rfl rfl ?_
            refine x_iload dX9_faultOf_98 rfl ?_
            refine x_if_ne (tgt := 105) dX9_faultOf_100 (by decide) (fun h100 => ?_) (fun h100 => ?_)
            · skip
              refine x_iload_n dX9_faultOf_105 rfl ?_
              refine x_if_ne (tgt := 122) dX9_faultOf_106 (by decide) (fun h106 => ?_) (fun h106 => ?_)
              · skip
                exact absurd (by decide) h106
              · skip
                refine x_iload dX9_faultOf_109 rfl ?_
                refine x_if_eq (tgt := 118) dX9_faultOf_111 (by decide) (fun h111 => ?_) (fun h111 => ?_)
                · skip
                  replace h111 := zb0 h111
                  exact absurd (h35.symm.trans h111) (by decide)
                · skip
                  replace h111 := zb1 h111
                  refine x_iconst (v := 1) dX9_faultOf_114 (by decide) ?_
                  refine x_goto (tgt := 138) dX9_faultOf_115 (by decide) ?_
                  refine x_istore_n (lo2 := [_, _, _, _, _, _]) dX9_faultOf_138 (by decide) rfl rfl ?_
                  refine x_iincN (lo2 := [_, _, _, _, _, _]) dX9_faultOf_139 rfl rfl rfl ?_
                  refine x_goto (tgt := 4) dX9_faultOf_142 (by decide) ?_
                  refine x_drop (i := 3) (lo2 := [_, _, _, _, _, _]) rfl ?_
                  refine x_drop (i := 4) (lo2 := [_, _, _, _, _, _]) rfl ?_
                  refine x_drop (i := 5) (lo2 := [_, _, _, _, _, _]) rfl ?_
                  have ew : ds_ f (i + 1) = 1 := by rw [ds_, hw]; simp [awN, lt_, h9, h30, h35, h100, h106, h111, show zin 126 65 70 = false from by decide, show zin 46 65 70 = false from by decide]
                  exact x_eq (by rw [ew]; rfl) (by rfl) (by rfl) (Ki ⟨by simp [fp_, hinvi.1, ew], by rw [ew]; decide⟩)
            · skip
              exact absurd h100 (by decide)
          · skip
            replace h35 := zb0 h35
            refine x_iload_n dX9_faultOf_38 rfl ?_
            refine x_bipush (v := 126) dX9_faultOf_39 (by decide) ?_
            refine x_icmp_eq (tgt := 50) dX9_faultOf_41 (by decide) (fun h41 => ?_) (fun h41 => ?_)
            · skip
              refine x_iconst (v := 1) dX9_faultOf_50 (by decide) ?_
              refine x_goto (tgt := 96) dX9_faultOf_51 (by decide) ?_
              refine x_istore (lo2 := [_, _, _, _, _, _]) dX9_faultOf_96 (by decide) rfl rfl ?_
              refine x_iload dX9_faultOf_98 rfl ?_
              refine x_if_ne (tgt := 105) dX9_faultOf_100 (by decide) (fun h100 => ?_) (fun h100 => ?_)
              · skip
                refine x_iload_n dX9_faultOf_105 rfl ?_
                refine x_if_ne (tgt := 122) dX9_faultOf_106 (by decide) (fun h106 => ?_) (fun h106 => ?_)
                · skip
                  exact absurd (by decide) h106
                · skip
                  refine x_iload dX9_faultOf_109 rfl ?_
                  refine x_if_eq (tgt := 118) dX9_faultOf_111 (by decide) (fun h111 => ?_) (fun h111 => ?_)
                  · skip
                    replace h111 := zb0 h111
                    refine x_iconst (v := 0) dX9_faultOf_118 (by decide) ?_
                    refine x_goto (tgt := 138) dX9_faultOf_119 (by decide) ?_
                    refine x_istore_n (lo2 := [_, _, _, _, _, _]) dX9_faultOf_138 (by decide) rfl rfl ?_
                    refine x_iincN (lo2 := [_, _, _, _, _, _]) dX9_faultOf_139 rfl rfl rfl ?_
                    refine x_goto (tgt := 4) dX9_faultOf_142 (by decide) ?_
                    refine x_drop (i := 3) (lo2 := [_, _, _, _, _, _]) rfl ?_
                    refine x_drop (i := 4) (lo2 := [_, _, _, _, _, _]) rfl ?_
                    refine x_drop (i := 5) (lo2 := [_, _, _, _, _, _]) rfl ?_
                    have ew : ds_ f (i + 1) = 0 := by rw [ds_, hw]; simp [awN, lt_, h9, h30, h35, h41, h100, h106, h111, show zin 126 65 70 = false from by decide, show zin 46 65 70 = false from by decide]
                    exact x_eq (by rw [ew]; rfl) (by rfl) (by rfl) (Ki ⟨by simp [fp_, hinvi.1, ew], by rw [ew]; decide⟩)
                  · skip
                    replace h111 := zb1 h111
                    exact absurd (h35.symm.trans h111) (by decide)
              · skip
                exact absurd h100 (by decide)
            · skip
              refine x_iload_n dX9_faultOf_44 rfl ?_
              refine x_bipush (v := 46) dX9_faultOf_45 (by decide) ?_
              refine x_icmp_ne (tgt := 54) dX9_faultOf_47 (by decide) (fun h47 => ?_) (fun h47 => ?_)
              · skip
                refine x_iconst (v := 0) dX9_faultOf_54 (by decide) ?_
                refine x_goto (tgt := 96) dX9_faultOf_55 (by decide) ?_
                refine x_istore (lo2 := [_, _, _, _, _, _]) dX9_faultOf_96 (by decide) rfl rfl ?_
                refine x_iload dX9_faultOf_98 rfl ?_
                refine x_if_ne (tgt := 105) dX9_faultOf_100 (by decide) (fun h100 => ?_) (fun h100 => ?_)
                · skip
                  exact absurd rfl h100
                · skip
                  refine x_iload_n dX9_faultOf_103 rfl ?_
                  exact x_iret dX9_faultOf_104 rfl (Nat.le_of_ble_eq_true rfl) (Nat.le_of_ble_eq_true rfl) ⟨congrArg (fun z => some (Value.int z)) (by rw [ff_, fp_some (fp_first hinvi.1 (show ds_ f (i + 1) = 3 by rw [ds_, hw]; simp [awN, lt_, h9, h30, h35, h41, h47, h100])) hhii]), rfl, by rfl, by rfl, rfl⟩
              · skip
                refine x_iconst (v := 1) dX9_faultOf_50 (by decide) ?_
                refine x_goto (tgt := 96) dX9_faultOf_51 (by decide) ?_
                refine x_istore (lo2 := [_, _, _, _, _, _]) dX9_faultOf_96 (by decide) rfl rfl ?_
                refine x_iload dX9_faultOf_98 rfl ?_
                refine x_if_ne (tgt := 105) dX9_faultOf_100 (by decide) (fun h100 => ?_) (fun h100 => ?_)
                · skip
                  refine x_iload_n dX9_faultOf_105 rfl ?_
                  refine x_if_ne (tgt := 122) dX9_faultOf_106 (by decide) (fun h106 => ?_) (fun h106 => ?_)
                  · skip
                    exact absurd (by decide) h106
                  · skip
                    refine x_iload dX9_faultOf_109 rfl ?_
                    refine x_if_eq (tgt := 118) dX9_faultOf_111 (by decide) (fun h111 => ?_) (fun h111 => ?_)
                    · skip
                      replace h111 := zb0 h111
                      refine x_iconst (v := 0) dX9_faultOf_118 (by decide) ?_
                      refine x_goto (tgt := 138) dX9_faultOf_119 (by decide) ?_
                      refine x_istore_n (lo2 := [_, _, _, _, _, _]) dX9_faultOf_138 (by decide) rfl rfl ?_
                      refine x_iincN (lo2 := [_, _, _, _, _, _]) dX9_faultOf_139 rfl rfl rfl ?_
                      refine x_goto (tgt := 4) dX9_faultOf_142 (by decide) ?_
                      refine x_drop (i := 3) (lo2 := [_, _, _, _, _, _]) rfl ?_
                      refine x_drop (i := 4) (lo2 := [_, _, _, _, _, _]) rfl ?_
                      refine x_drop (i := 5) (lo2 := [_, _, _, _, _, _]) rfl ?_
                      have ew : ds_ f (i + 1) = 0 := by rw [ds_, hw]; simp [awN, lt_, h9, h30, h35, h41, h47, h100, h106, h111, show zin 126 65 70 = false from by decide, show zin 46 65 70 = false from by decide]
                      exact x_eq (by rw [ew]; rfl) (by rfl) (by rfl) (Ki ⟨by simp [fp_, hinvi.1, ew], by rw [ew]; decide⟩)
                    · skip
                      replace h111 := zb1 h111
                      exact absurd (h35.symm.trans h111) (by decide)
                · skip
                  exact absurd h100 (by decide)
      · skip
        rw [hw]
        refine x_istore_n (lo2 := [_, _, _, _, _, _]) dX9_faultOf_18 (by decide) rfl rfl ?_
        refine x_iload_n dX9_faultOf_19 rfl ?_
        refine x_bipush (v := 65) dX9_faultOf_20 (by decide) ?_
        refine x_bipush (v := 70) dX9_faultOf_22 (by decide) ?_
        refine x_callSi dX9_faultOf_24 ml_X9_63 mt_X9_in st_X9_in (ct_X9_in) rfl rfl (Nat.le_of_ble_eq_true rfl) ⟨(Nat.le_of_ble_eq_true rfl), (Nat.le_of_ble_eq_true rfl)⟩ ⟨rfl, rfl⟩ ⟨(Nat.le_of_ble_eq_true rfl), (Nat.le_of_ble_eq_true rfl)⟩ ?_
        refine x_pc (pc2 := 27) rfl ?_
        refine x_istore (lo2 := [_, _, _, _, _, _]) dX9_faultOf_27 (by decide) rfl rfl ?_
        refine x_iload_n dX9_faultOf_29 rfl ?_
        refine x_if_ne (tgt := 58) dX9_faultOf_30 (by decide) (fun h30 => ?_) (fun h30 => ?_)
        · skip
          refine x_iload_n dX9_faultOf_58 rfl ?_
          refine x_iconst (v := 1) dX9_faultOf_59 (by decide) ?_
          refine x_icmp_ne (tgt := 94) dX9_faultOf_60 (by decide) (fun h60 => ?_) (fun h60 => ?_)
          · skip
            exact absurd rfl h60
          · skip
            refine x_iload_n dX9_faultOf_63 rfl ?_
            refine x_bipush (v := 48) dX9_faultOf_64 (by decide) ?_
            refine x_bipush (v := 53) dX9_faultOf_66 (by decide) ?_
            refine x_callSi dX9_faultOf_68 ml_X9_63 mt_X9_in st_X9_in (ct_X9_in) rfl rfl (Nat.le_of_ble_eq_true rfl) ⟨(Nat.le_of_ble_eq_true rfl), (Nat.le_of_ble_eq_true rfl)⟩ ⟨rfl, rfl⟩ ⟨(Nat.le_of_ble_eq_true rfl), (Nat.le_of_ble_eq_true rfl)⟩ ?_
            refine x_if_ne (tgt := 86) dX9_faultOf_71 (by decide) (fun h71 => ?_) (fun h71 => ?_)
            · skip
              replace h71 := zb1 h71
              refine x_iconst (v := 1) dX9_faultOf_86 (by decide) ?_
              refine x_goto (tgt := 96) dX9_faultOf_87 (by decide) ?_
              refine x_istore (lo2 := [_, _, _, _, _, _]) dX9_faultOf_96 (by decide) rfl rfl ?_
              refine x_iload dX9_faultOf_98 rfl ?_
              refine x_if_ne (tgt := 105) dX9_faultOf_100 (by decide) (fun h100 => ?_) (fun h100 => ?_)
              · skip
                refine x_iload_n dX9_faultOf_105 rfl ?_
                refine x_if_ne (tgt := 122) dX9_faultOf_106 (by decide) (fun h106 => ?_) (fun h106 => ?_)
                · skip
                  refine x_iload_n dX9_faultOf_122 rfl ?_
                  refine x_iconst (v := 1) dX9_faultOf_123 (by decide) ?_
                  refine x_icmp_ne (tgt := 137) dX9_faultOf_124 (by decide) (fun h124 => ?_) (fun h124 => ?_)
                  · skip
                    exact absurd rfl h124
                  · skip
                    refine x_iload_n dX9_faultOf_127 rfl ?_
                    refine x_bipush (v := 43) dX9_faultOf_128 (by decide) ?_
                    refine x_icmp_ne (tgt := 137) dX9_faultOf_130 (by decide) (fun h130 => ?_) (fun h130 => ?_)
                    · skip
                      refine x_iconst (v := 0) dX9_faultOf_137 (by decide) ?_
                      refine x_istore_n (lo2 := [_, _, _, _, _, _]) dX9_faultOf_138 (by decide) rfl rfl ?_
                      refine x_iincN (lo2 := [_, _, _, _, _, _]) dX9_faultOf_139 rfl rfl rfl ?_
                      refine x_goto (tgt := 4) dX9_faultOf_142 (by decide) ?_
                      refine x_drop (i := 3) (lo2 := [_, _, _, _, _, _]) rfl ?_
                      refine x_drop (i := 4) (lo2 := [_, _, _, _, _, _]) rfl ?_
                      refine x_drop (i := 5) (lo2 := [_, _, _, _, _, _]) rfl ?_
                      have ew : ds_ f (i + 1) = 0 := by rw [ds_, hw]; simp [awN, lt_, h9, h30, h60, h71, h100, h106, h124, h130, show zin 126 65 70 = false from by decide, show zin 46 65 70 = false from by decide]
                      exact x_eq (by rw [ew]; rfl) (by rfl) (by rfl) (Ki ⟨by simp [fp_, hinvi.1, ew], by rw [ew]; decide⟩)
                    · skip
                      exact absurd h71 (by rw [h130]; decide)
                · skip
                  exact absurd h106 (by decide)
              · skip
                exact absurd h100 (by decide)
            · skip
              replace h71 := zb0 h71
              refine x_iload_n dX9_faultOf_74 rfl ?_
              refine x_bipush (v := 43) dX9_faultOf_75 (by decide) ?_
              refine x_icmp_eq (tgt := 86) dX9_faultOf_77 (by decide) (fun h77 => ?_) (fun h77 => ?_)
              · skip
                refine x_iconst (v := 1) dX9_faultOf_86 (by decide) ?_
                refine x_goto (tgt := 96) dX9_faultOf_87 (by decide) ?_
                refine x_istore (lo2 := [_, _, _, _, _, _]) dX9_faultOf_96 (by decide) rfl rfl ?_
                refine x_iload dX9_faultOf_98 rfl ?_
                refine x_if_ne (tgt := 105) dX9_faultOf_100 (by decide) (fun h100 => ?_) (fun h100 => ?_)
                · skip
                  refine x_iload_n dX9_faultOf_105 rfl ?_
                  refine x_if_ne (tgt := 122) dX9_faultOf_106 (by decide) (fun h106 => ?_) (fun h106 => ?_)
                  · skip
                    refine x_iload_n dX9_faultOf_122 rfl ?_
                    refine x_iconst (v := 1) dX9_faultOf_123 (by decide) ?_
                    refine x_icmp_ne (tgt := 137) dX9_faultOf_124 (by decide) (fun h124 => ?_) (fun h124 => ?_)
                    · skip
                      exact absurd rfl h124
                    · skip
                      refine x_iload_n dX9_faultOf_127 rfl ?_
                      refine x_bipush (v := 43) dX9_faultOf_128 (by decide) ?_
                      refine x_icmp_ne (tgt := 137) dX9_faultOf_130 (by decide) (fun h130 => ?_) (fun h130 => ?_)
                      · skip
                        exact absurd h77 h130
                      · skip
                        refine x_iconst (v := 2) dX9_faultOf_133 (by decide) ?_
                        refine x_goto (tgt := 138) dX9_faultOf_134 (by decide) ?_
                        refine x_istore_n (lo2 := [_, _, _, _, _, _]) dX9_faultOf_138 (by decide) rfl rfl ?_
                        refine x_iincN (lo2 := [_, _, _, _, _, _]) dX9_faultOf_139 rfl rfl rfl ?_
                        refine x_goto (tgt := 4) dX9_faultOf_142 (by decide) ?_
                        refine x_drop (i := 3) (lo2 := [_, _, _, _, _, _]) rfl ?_
                        refine x_drop (i := 4) (lo2 := [_, _, _, _, _, _]) rfl ?_
                        refine x_drop (i := 5) (lo2 := [_, _, _, _, _, _]) rfl ?_
                        have ew : ds_ f (i + 1) = 2 := by rw [ds_, hw]; simp [awN, lt_, h9, h30, h60, h71, h77, h100, h106, h124, h130, show zin 126 65 70 = false from by decide, show zin 46 65 70 = false from by decide]
                        exact x_eq (by rw [ew]; rfl) (by rfl) (by rfl) (Ki ⟨by simp [fp_, hinvi.1, ew], by rw [ew]; decide⟩)
                  · skip
                    exact absurd h106 (by decide)
                · skip
                  exact absurd h100 (by decide)
              · skip
                refine x_iload_n dX9_faultOf_80 rfl ?_
                refine x_bipush (v := 95) dX9_faultOf_81 (by decide) ?_
                refine x_icmp_ne (tgt := 90) dX9_faultOf_83 (by decide) (fun h83 => ?_) (fun h83 => ?_)
                · skip
                  refine x_iconst (v := 0) dX9_faultOf_90 (by decide) ?_
                  refine x_goto (tgt := 96) dX9_faultOf_91 (by decide) ?_
                  refine x_istore (lo2 := [_, _, _, _, _, _]) dX9_faultOf_96 (by decide) rfl rfl ?_
                  refine x_iload dX9_faultOf_98 rfl ?_
                  refine x_if_ne (tgt := 105) dX9_faultOf_100 (by decide) (fun h100 => ?_) (fun h100 => ?_)
                  · skip
                    exact absurd rfl h100
                  · skip
                    refine x_iload_n dX9_faultOf_103 rfl ?_
                    exact x_iret dX9_faultOf_104 rfl (Nat.le_of_ble_eq_true rfl) (Nat.le_of_ble_eq_true rfl) ⟨congrArg (fun z => some (Value.int z)) (by rw [ff_, fp_some (fp_first hinvi.1 (show ds_ f (i + 1) = 3 by rw [ds_, hw]; simp [awN, lt_, h9, h30, h60, h71, h77, h83, h100])) hhii]), rfl, by rfl, by rfl, rfl⟩
                · skip
                  refine x_iconst (v := 1) dX9_faultOf_86 (by decide) ?_
                  refine x_goto (tgt := 96) dX9_faultOf_87 (by decide) ?_
                  refine x_istore (lo2 := [_, _, _, _, _, _]) dX9_faultOf_96 (by decide) rfl rfl ?_
                  refine x_iload dX9_faultOf_98 rfl ?_
                  refine x_if_ne (tgt := 105) dX9_faultOf_100 (by decide) (fun h100 => ?_) (fun h100 => ?_)
                  · skip
                    refine x_iload_n dX9_faultOf_105 rfl ?_
                    refine x_if_ne (tgt := 122) dX9_faultOf_106 (by decide) (fun h106 => ?_) (fun h106 => ?_)
                    · skip
                      refine x_iload_n dX9_faultOf_122 rfl ?_
                      refine x_iconst (v := 1) dX9_faultOf_123 (by decide) ?_
                      refine x_icmp_ne (tgt := 137) dX9_faultOf_124 (by decide) (fun h124 => ?_) (fun h124 => ?_)
                      · skip
                        exact absurd rfl h124
                      · skip
                        refine x_iload_n dX9_faultOf_127 rfl ?_
                        refine x_bipush (v := 43) dX9_faultOf_128 (by decide) ?_
                        refine x_icmp_ne (tgt := 137) dX9_faultOf_130 (by decide) (fun h130 => ?_) (fun h130 => ?_)
                        · skip
                          refine x_iconst (v := 0) dX9_faultOf_137 (by decide) ?_
                          refine x_istore_n (lo2 := [_, _, _, _, _, _]) dX9_faultOf_138 (by decide) rfl rfl ?_
                          refine x_iincN (lo2 := [_, _, _, _, _, _]) dX9_faultOf_139 rfl rfl rfl ?_
                          refine x_goto (tgt := 4) dX9_faultOf_142 (by decide) ?_
                          refine x_drop (i := 3) (lo2 := [_, _, _, _, _, _]) rfl ?_
                          refine x_drop (i := 4) (lo2 := [_, _, _, _, _, _]) rfl ?_
                          refine x_drop (i := 5) (lo2 := [_, _, _, _, _, _]) rfl ?_
                          have ew : ds_ f (i + 1) = 0 := by rw [ds_, hw]; simp [awN, lt_, h9, h30, h60, h71, h77, h83, h100, h106, h124, h130, show zin 126 65 70 = false from by decide, show zin 46 65 70 = false from by decide]
                          exact x_eq (by rw [ew]; rfl) (by rfl) (by rfl) (Ki ⟨by simp [fp_, hinvi.1, ew], by rw [ew]; decide⟩)
                        · skip
                          exact absurd h130 h77
                    · skip
                      exact absurd h106 (by decide)
                  · skip
                    exact absurd h100 (by decide)
        · skip
          exact absurd h30 (by decide)
      · skip
        rw [hw]
        refine x_istore_n (lo2 := [_, _, _, _, _, _]) dX9_faultOf_18 (by decide) rfl rfl ?_
        refine x_iload_n dX9_faultOf_19 rfl ?_
        refine x_bipush (v := 65) dX9_faultOf_20 (by decide) ?_
        refine x_bipush (v := 70) dX9_faultOf_22 (by decide) ?_
        refine x_callSi dX9_faultOf_24 ml_X9_63 mt_X9_in st_X9_in (ct_X9_in) rfl rfl (Nat.le_of_ble_eq_true rfl) ⟨(Nat.le_of_ble_eq_true rfl), (Nat.le_of_ble_eq_true rfl)⟩ ⟨rfl, rfl⟩ ⟨(Nat.le_of_ble_eq_true rfl), (Nat.le_of_ble_eq_true rfl)⟩ ?_
        refine x_pc (pc2 := 27) rfl ?_
        refine x_istore (lo2 := [_, _, _, _, _, _]) dX9_faultOf_27 (by decide) rfl rfl ?_
        refine x_iload_n dX9_faultOf_29 rfl ?_
        refine x_if_ne (tgt := 58) dX9_faultOf_30 (by decide) (fun h30 => ?_) (fun h30 => ?_)
        · skip
          refine x_iload_n dX9_faultOf_58 rfl ?_
          refine x_iconst (v := 1) dX9_faultOf_59 (by decide) ?_
          refine x_icmp_ne (tgt := 94) dX9_faultOf_60 (by decide) (fun h60 => ?_) (fun h60 => ?_)
          · skip
            refine x_iload dX9_faultOf_94 rfl ?_
            refine x_istore (lo2 := [_, _, _, _, _, _]) dX9_faultOf_96 (by decide) rfl rfl ?_
            refine x_iload dX9_faultOf_98 rfl ?_
            refine x_if_ne (tgt := 105) dX9_faultOf_100 (by decide) (fun h100 => ?_) (fun h100 => ?_)
            · skip
              replace h100 := zb1 h100
              refine x_iload_n dX9_faultOf_105 rfl ?_
              refine x_if_ne (tgt := 122) dX9_faultOf_106 (by decide) (fun h106 => ?_) (fun h106 => ?_)
              · skip
                refine x_iload_n dX9_faultOf_122 rfl ?_
                refine x_iconst (v := 1) dX9_faultOf_123 (by decide) ?_
                refine x_icmp_ne (tgt := 137) dX9_faultOf_124 (by decide) (fun h124 => ?_) (fun h124 => ?_)
                · skip
                  refine x_iconst (v := 0) dX9_faultOf_137 (by decide) ?_
                  refine x_istore_n (lo2 := [_, _, _, _, _, _]) dX9_faultOf_138 (by decide) rfl rfl ?_
                  refine x_iincN (lo2 := [_, _, _, _, _, _]) dX9_faultOf_139 rfl rfl rfl ?_
                  refine x_goto (tgt := 4) dX9_faultOf_142 (by decide) ?_
                  refine x_drop (i := 3) (lo2 := [_, _, _, _, _, _]) rfl ?_
                  refine x_drop (i := 4) (lo2 := [_, _, _, _, _, _]) rfl ?_
                  refine x_drop (i := 5) (lo2 := [_, _, _, _, _, _]) rfl ?_
                  have ew : ds_ f (i + 1) = 0 := by rw [ds_, hw]; simp [awN, lt_, h9, h30, h60, h100, h106, h124, show zin 126 65 70 = false from by decide, show zin 46 65 70 = false from by decide]
                  exact x_eq (by rw [ew]; rfl) (by rfl) (by rfl) (Ki ⟨by simp [fp_, hinvi.1, ew], by rw [ew]; decide⟩)
                · skip
                  exact absurd h124 (by decide)
              · skip
                exact absurd h106 (by decide)
            · skip
              replace h100 := zb0 h100
              refine x_iload_n dX9_faultOf_103 rfl ?_
              exact x_iret dX9_faultOf_104 rfl (Nat.le_of_ble_eq_true rfl) (Nat.le_of_ble_eq_true rfl) ⟨congrArg (fun z => some (Value.int z)) (by rw [ff_, fp_some (fp_first hinvi.1 (show ds_ f (i + 1) = 3 by rw [ds_, hw]; simp [awN, lt_, h9, h30, h60, h100])) hhii]), rfl, by rfl, by rfl, rfl⟩
          · skip
            exact absurd h60 (by decide)
        · skip
          exact absurd h30 (by decide)
  · skip
    refine x_iload_n dX9_faultOf_4 rfl ?_
    refine x_aload_n dX9_faultOf_5 rfl ?_
    refine x_getI dX9_faultOf_6 fl_X9_75 (by omega) rfl rfl ?_
    refine x_icmp_ge (tgt := 145) dX9_faultOf_9 (by decide) (fun h9 => ?_) (fun h9 => ?_)
    · skip
      refine x_iload_n dX9_faultOf_145 rfl ?_
      refine x_if_ne (tgt := 154) dX9_faultOf_146 (by decide) (fun h146 => ?_) (fun h146 => ?_)
      · skip
        refine x_aload_n dX9_faultOf_154 rfl ?_
        refine x_getI dX9_faultOf_155 fl_X9_75 (by omega) rfl rfl ?_
        exact x_iret dX9_faultOf_158 rfl (Nat.le_of_ble_eq_true rfl) (Nat.le_of_ble_eq_true rfl) ⟨congrArg (fun z => some (Value.int z)) (by first | (rw [ff_, hinvi.1]; rw [nI_z (by omega)] at h146; simp [h146]; done) | (rw [ff_, hinvi.1]; rw [nI_z (by omega)] at h146; simp [h146, hc])), rfl, by rfl, by rfl, rfl⟩
      · skip
        refine x_bipush (v := (-6)) dX9_faultOf_149 (by decide) ?_
        refine x_goto (tgt := 158) dX9_faultOf_151 (by decide) ?_
        exact x_iret dX9_faultOf_158 rfl (Nat.le_of_ble_eq_true rfl) (Nat.le_of_ble_eq_true rfl) ⟨congrArg (fun z => some (Value.int z)) (by first | (rw [ff_, hinvi.1]; rw [nI_z (by omega)] at h146; simp [h146]; done) | (rw [ff_, hinvi.1]; rw [nI_z (by omega)] at h146; simp [h146, hc])), rfl, by rfl, by rfl, rfl⟩
    · skip
      exact absurd (hc ▸ nI_le (Nat.le_refl n) (by omega)) h9
theorem ct_X9_fault {g : zG} {N : Nat} {I : zI} {L : zL} {q0 q1 : Option Nat} {n : Nat} (hN : 58 ≤ N) (hc : I 40 9 = nI n) (hn : n ≤ 60) : Ct g yX9_fault mX9_fault [.ref (g.2.1 + 40)] N I L (zRw q0 q1) (zV (.int (ff_ (I 49) n)) N I (zRw q0 q1)) := by
  refine Ct_of (lo0 := [some (.ref (g.2.1 + 40))]) rfl rfl rfl rfl (Nat.le_of_ble_eq_true rfl) (fun E => ?_)
  refine x_aload_n dX9_fault_0 rfl ?_
  refine x_callVi dX9_fault_1 ml_X9_79 mt_X9_faultOf mv_X9_faultOf (ct_X9_faultOf hN hc hn rfl) (by omega) rfl rfl rfl rfl (Nat.le_of_ble_eq_true rfl) ⟨(Nat.le_of_ble_eq_true rfl), (Nat.le_of_ble_eq_true rfl)⟩ ⟨rfl, rfl⟩ ⟨(Nat.le_of_ble_eq_true rfl), (Nat.le_of_ble_eq_true rfl)⟩ ?_
  refine x_iret dX9_fault_4 rfl (Nat.le_of_ble_eq_true rfl) (Nat.le_of_ble_eq_true rfl) ?_
  refine zV_of (congrArg Value.int ?_) ?_ ?_ ?_
  · rfl
  · intro _ _; rfl
  · rfl
  · rfl
