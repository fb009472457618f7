/-! what the class's small methods answer -/
theorem zin_1 {a lo hi : Int32} (h : a < lo) : zin a lo hi = false := by simp [zin, Int32.not_le.mpr h]
theorem zin_2 {a lo hi : Int32} (h : hi < a) : zin a lo hi = false := by simp [zin, Int32.not_le.mpr h]
theorem zin_3 {a lo hi : Int32} (h : ¬ a < lo) (h2 : ¬ hi < a) : zin a lo hi = true := by simp [zin, Int32.not_lt.mp h, Int32.not_lt.mp h2]
def zis (s k : Int32) : Bool := decide ((s >>> (k &&& 31)) &&& 1 = 1)
def zwi (p w : Int32) : Bool := decide (p &&& (w ^^^ (-1)) = 0)
theorem zwi_t {p w : Int32} (h : p &&& (w ^^^ (-1)) = 0) : zwi p w = true := decide_eq_true h
theorem zwi_f {p w : Int32} (h : ¬ p &&& (w ^^^ (-1)) = 0) : zwi p w = false := decide_eq_false h
def hfr (a b : Int32) : Int32 := (1 <<< ((b + 1) &&& 31)) - (1 <<< (a &&& 31))
def zth (s : Nat → Int32) (j : Int32) : Bool := zin j 0 5 && decide (0 < s j.toNatClampNeg)
theorem zth_nI {s : Nat → Int32} {i : Nat} (h : i < 6) : zth s (nI i) = decide (0 < s i) := by
  have h1 : zin (nI i) 0 5 = true := by
    have := zin_nI (a := 0) (b := 5) (n := i) (by omega) (by omega) (by omega)
    rw [show (0 : Int32) = nI 0 from rfl, show (5 : Int32) = nI 5 from rfl, this]
    simp; omega
  simp [zth, h1, nI_clamp (show i < 2 ^ 31 by omega)]
theorem zth_le {s : Nat → Int32} {i : Nat} (h : i < 6) : zth s (nI i) = !decide (s i ≤ 0) := by
  rw [zth_nI h]
  by_cases q : s i ≤ 0
  · simp [q, Int32.not_lt.mpr q]
  · simp [q, Int32.not_le.mp q]
def gt_ (s : Nat → Int32) : Nat → Int32
  | 0 => 0
  | i + 1 => if s i ≤ 0 then gt_ s i else gt_ s i ||| (1 <<< (nI i &&& 31))
def bc (x : Int32) : Int32 :=
  let a := x - ((x.toUInt32 >>> ((1 : Int32).toUInt32 &&& Int32.toUInt32 31)).toInt32 &&& 1431655765)
  let b := (a &&& 858993459) + ((a.toUInt32 >>> ((2 : Int32).toUInt32 &&& Int32.toUInt32 31)).toInt32 &&& 858993459)
  let c := (b + (b.toUInt32 >>> ((4 : Int32).toUInt32 &&& Int32.toUInt32 31)).toInt32) &&& 252645135
  let d := c + (c.toUInt32 >>> ((8 : Int32).toUInt32 &&& Int32.toUInt32 31)).toInt32
  let e := d + (d.toUInt32 >>> ((16 : Int32).toUInt32 &&& Int32.toUInt32 31)).toInt32
  e &&& 63
def cm_ (f : Nat → Int32) : Nat → Int32
  | 0 => 0
  | i + 1 => cm_ f i + bc (f i)
def hf_ (gr : Nat → Int32) (mk : Int32) : Nat → Int32
  | 0 => 0
  | i + 1 => if zwi (gr i) mk = true then hf_ gr mk i ||| (1 <<< (nI i &&& 31)) else hf_ gr mk i
def so_ (s : Nat → Int32) (set : Int32) : Nat → Int32
  | 0 => 0
  | i + 1 => if zis set (nI i) = true then so_ s set i + s i else so_ s set i
def mo_ (s : Nat → Int32) (set : Int32) : Nat → Int32
  | 0 => 0
  | i + 1 => if zis set (nI i) = true then mo_ s set i ||| s i else mo_ s set i
def ls_ (s mk : Nat → Int32) (wanted : Int32) : Nat → Int32
  | 0 => -6
  | i + 1 => if zwi (nI i) (gt_ s 6) = true ∧ mo_ mk (nI i) 6 = wanted ∧ (ls_ s mk wanted i = -6 ∨ so_ s (nI i) 6 < so_ s (ls_ s mk wanted i) 6) then nI i else ls_ s mk wanted i
def ho_ (a b : Nat → Int32) (set : Int32) : Nat → Int32
  | 0 => 0
  | i + 1 => if zis set (nI i) = true then ho_ a b set i ||| hfr (a i) (b i) else ho_ a b set i
def fc_ (a b : Nat → Int32) (hours : Int32) : Nat → Int32
  | 0 => -6
  | i + 1 => if (fc_ a b hours i = -6 ∨ bc (nI i) < bc (fc_ a b hours i)) ∧ zwi hours (ho_ a b (nI i) 8) = true then nI i else fc_ a b hours i
def has_ (gr sh sf : Nat → Int32) (shape : Int32) : Nat → Bool
  | 0 => true
  | i + 1 => has_ gr sh sf shape i && decide (zb (zwi (gr (sh i).toNatClampNeg) shape) = sf i)
theorem has_no {gr sh sf : Nat → Int32} {shape : Int32} {i n : Nat} (h : has_ gr sh sf shape (i + 1) = false) (hn : i < n) : has_ gr sh sf shape n = false := by
  induction n with
  | zero => omega
  | succ n ih =>
    by_cases e : i = n
    · rw [← e]; exact h
    · simp [has_, ih (by omega)]
def zmax (u v : Int32) : Int32 := if u < v then v else u
def zmin (u v : Int32) : Int32 := if v < u then v else u
/-- ACTS on the copy (the Mire at 15): why not, and the world behind -/
def tkR (I : zI) (a h : Nat) : Int32 := if I 16 a ≤ 0 then 1 else if zwi (I 18 h) (I 17 a) = false then 2 else if I 20 h ≤ I 15 11 then 0 else 3
def tkI (I : zI) (a h : Nat) : zI := if tkR I a h = 0 then zu (zu I 15 11 (I 15 11 - I 20 h)) 16 a (zmax (I 16 a - I 19 h) 0) else I
def jnR (I : zI) (a b : Nat) : Int32 := if I 16 a ≤ 0 then 1 else if I 16 b ≤ 0 then 1 else if a = b then 4 else 0
def jnI (I : zI) (a b : Nat) : zI := if jnR I a b = 0 then zu (zu (zu I 16 a (zmin (I 16 a + I 16 b) 99)) 17 a (I 17 a ||| I 17 b)) 16 b 0 else I
def siR (I : zI) (a : Nat) : Int32 := if I 16 a ≤ 0 then 1 else if 10 ≤ I 15 11 then 0 else 3
def siI (I : zI) (a : Nat) : zI := if siR I a = 0 then zu (zu I 15 11 (I 15 11 - 10)) 16 a (zmax (I 16 a / 2) 1) else I
def reR (I : zI) : Int32 := if I 15 11 = 99 then 5 else 0
def reI (I : zI) : zI := if reR I = 0 then zu I 15 11 (zmin (I 15 11 + 20) 99) else I
def ph3 (x : Int32) : Int32 := if x ≤ 0 then x else zmin (x + 3) 99
def phR (I : zI) : Int32 := if I 15 12 = 99 then 6 else 0
def phI (I : zI) : zI := if phR I = 0 then zrow (zu (zu I 15 12 (I 15 12 + 1)) 15 11 (zmin (I 15 11 + 5) 99)) 16 (zpre 6 (fun j => ph3 (I 16 j)) (I 16)) else I
def atR (I : zI) (k a b : Nat) : Int32 := if k = 0 then tkR I a b else if k = 1 then jnR I a b else if k = 2 then siR I a else if k = 3 then reR I else phR I
def atI (I : zI) (k a b : Nat) : zI := if k = 0 then tkI I a b else if k = 1 then jnI I a b else if k = 2 then siI I a else if k = 3 then reI I else phI I

theorem ct_X8_isFrom {g : zG} {N : Nat} {I : zI} {L : zL} {R : zR} {a lo hi : Int32} : Ct g yX8_isFrom mX8_isFrom [.int a, .int lo, .int hi] N I L R (zD (some (.int (zb (zin a lo hi)))) N I L R) := by
  refine Ct_of (lo0 := [some (.int a), some (.int lo), some (.int hi)]) rfl rfl rfl rfl (Nat.le_of_ble_eq_true rfl) (fun E => ?_)
  refine x_iload_n dX8_isFrom_0 rfl ?_
  refine x_iload_n dX8_isFrom_1 rfl ?_
  refine x_icmp_lt (tgt := 14) dX8_isFrom_2 (by decide) (fun h2 => ?_) (fun h2 => ?_)
  · skip
    refine x_iconst (v := 0) dX8_isFrom_14 (by decide) ?_
    exact x_zret dX8_isFrom_15 rfl rfl (Nat.le_of_ble_eq_true rfl) (Nat.le_of_ble_eq_true rfl) ⟨congrArg (fun z => some (Value.int z)) (by first | (rw [zin_1 h2]; rfl) | (rw [zin_2 h7]; rfl) | (rw [zin_3 h2 h7]; rfl)), rfl, by rfl, by rfl, rfl⟩
  · skip
    refine x_iload_n dX8_isFrom_5 rfl ?_
    refine x_iload_n dX8_isFrom_6 rfl ?_
    refine x_icmp_gt (tgt := 14) dX8_isFrom_7 (by decide) (fun h7 => ?_) (fun h7 => ?_)
    · skip
      refine x_iconst (v := 0) dX8_isFrom_14 (by decide) ?_
      exact x_zret dX8_isFrom_15 rfl rfl (Nat.le_of_ble_eq_true rfl) (Nat.le_of_ble_eq_true rfl) ⟨congrArg (fun z => some (Value.int z)) (by first | (rw [zin_1 h2]; rfl) | (rw [zin_2 h7]; rfl) | (rw [zin_3 h2 h7]; rfl)), rfl, by rfl, by rfl, rfl⟩
    · skip
      refine x_iconst (v := 1) dX8_isFrom_10 (by decide) ?_
      refine x_goto (tgt := 15) dX8_isFrom_11 (by decide) ?_
      exact x_zret dX8_isFrom_15 rfl rfl (Nat.le_of_ble_eq_true rfl) (Nat.le_of_ble_eq_true rfl) ⟨congrArg (fun z => some (Value.int z)) (by first | (rw [zin_1 h2]; rfl) | (rw [zin_2 h7]; rfl) | (rw [zin_3 h2 h7]; rfl)), rfl, by rfl, by rfl, rfl⟩
theorem ct_X8_isHold {g : zG} {N : Nat} {I : zI} {L : zL} {R : zR} {a : Int32} : Ct g yX8_isHold mX8_isHold [.int a] N I L R (zD (some (.int (zb (zin a 0 5)))) N I L R) := by
  refine Ct_of (lo0 := [some (.int a)]) rfl rfl rfl rfl (Nat.le_of_ble_eq_true rfl) (fun E => ?_)
  refine x_iload_n dX8_isHold_0 rfl ?_
  refine x_iconst (v := 0) dX8_isHold_1 (by decide) ?_
  refine x_iconst (v := 5) dX8_isHold_2 (by decide) ?_
  refine x_callSi dX8_isHold_3 ml_X8_62 mt_X8_isFrom st_X8_isFrom (ct_X8_isFrom) rfl rfl (Nat.le_of_ble_eq_true rfl) ⟨(Nat.le_of_ble_eq_true rfl), (Nat.le_of_ble_eq_true rfl)⟩ ⟨rfl, rfl⟩ ⟨(Nat.le_of_ble_eq_true rfl), (Nat.le_of_ble_eq_true rfl)⟩ ?_
  exact x_zretb dX8_isHold_6 rfl (Nat.le_of_ble_eq_true rfl) (Nat.le_of_ble_eq_true rfl) ⟨congrArg (fun z => some (Value.int z)) (by rfl), rfl, by rfl, by rfl, rfl⟩
theorem ct_X8_isState {g : zG} {N : Nat} {I : zI} {L : zL} {R : zR} {a : Int32} : Ct g yX8_isState mX8_isState [.int a] N I L R (zD (some (.int (zb (zin a 0 9)))) N I L R) := by
  refine Ct_of (lo0 := [some (.int a)]) rfl rfl rfl rfl (Nat.le_of_ble_eq_true rfl) (fun E => ?_)
  refine x_iload_n dX8_isState_0 rfl ?_
  refine x_iconst (v := 0) dX8_isState_1 (by decide) ?_
  refine x_bipush (v := 9) dX8_isState_2 (by decide) ?_
  refine x_callSi dX8_isState_4 ml_X8_62 mt_X8_isFrom st_X8_isFrom (ct_X8_isFrom) rfl rfl (Nat.le_of_ble_eq_true rfl) ⟨(Nat.le_of_ble_eq_true rfl), (Nat.le_of_ble_eq_true rfl)⟩ ⟨rfl, rfl⟩ ⟨(Nat.le_of_ble_eq_true rfl), (Nat.le_of_ble_eq_true rfl)⟩ ?_
  exact x_zretb dX8_isState_7 rfl (Nat.le_of_ble_eq_true rfl) (Nat.le_of_ble_eq_true rfl) ⟨congrArg (fun z => some (Value.int z)) (by rfl), rfl, by rfl, by rfl, rfl⟩
theorem ct_X8_isSetOfMarks {g : zG} {N : Nat} {I : zI} {L : zL} {R : zR} {a : Int32} : Ct g yX8_isSetOfMarks mX8_isSetOfMarks [.int a] N I L R (zD (some (.int (zb (zin a 0 255)))) N I L R) := by
  refine Ct_of (lo0 := [some (.int a)]) rfl rfl rfl rfl (Nat.le_of_ble_eq_true rfl) (fun E => ?_)
  refine x_iload_n dX8_isSetOfMarks_0 rfl ?_
  refine x_iconst (v := 0) dX8_isSetOfMarks_1 (by decide) ?_
  refine x_sipush (v := 255) dX8_isSetOfMarks_2 (by decide) ?_
  refine x_callSi dX8_isSetOfMarks_5 ml_X8_62 mt_X8_isFrom st_X8_isFrom (ct_X8_isFrom) rfl rfl (Nat.le_of_ble_eq_true rfl) ⟨(Nat.le_of_ble_eq_true rfl), (Nat.le_of_ble_eq_true rfl)⟩ ⟨rfl, rfl⟩ ⟨(Nat.le_of_ble_eq_true rfl), (Nat.le_of_ble_eq_true rfl)⟩ ?_
  exact x_zretb dX8_isSetOfMarks_8 rfl (Nat.le_of_ble_eq_true rfl) (Nat.le_of_ble_eq_true rfl) ⟨congrArg (fun z => some (Value.int z)) (by rfl), rfl, by rfl, by rfl, rfl⟩
theorem ct_X8_areHours {g : zG} {N : Nat} {I : zI} {L : zL} {R : zR} {a b : Int32} : Ct g yX8_areHours mX8_areHours [.int a, .int b] N I L R (zD (some (.int (zb (zin a 0 23 && zin b a 23)))) N I L R) := by
  refine Ct_of (lo0 := [some (.int a), some (.int b)]) rfl rfl rfl rfl (Nat.le_of_ble_eq_true rfl) (fun E => ?_)
  refine x_iload_n dX8_areHours_0 rfl ?_
  refine x_iconst (v := 0) dX8_areHours_1 (by decide) ?_
  refine x_bipush (v := 23) dX8_areHours_2 (by decide) ?_
  refine x_callSi dX8_areHours_4 ml_X8_62 mt_X8_isFrom st_X8_isFrom (ct_X8_isFrom) rfl rfl (Nat.le_of_ble_eq_true rfl) ⟨(Nat.le_of_ble_eq_true rfl), (Nat.le_of_ble_eq_true rfl)⟩ ⟨rfl, rfl⟩ ⟨(Nat.le_of_ble_eq_true rfl), (Nat.le_of_ble_eq_true rfl)⟩ ?_
  refine x_if_eq (tgt := 24) dX8_areHours_7 (by decide) (fun h7 => ?_) (fun h7 => ?_)
  · skip
    replace h7 := zb0 h7
    refine x_iconst (v := 0) dX8_areHours_24 (by decide) ?_
    exact x_zret dX8_areHours_25 rfl rfl (Nat.le_of_ble_eq_true rfl) (Nat.le_of_ble_eq_true rfl) ⟨congrArg (fun z => some (Value.int z)) (by first | (rw [h7, h17]; rfl) | (rw [h7]; rfl)), rfl, by rfl, by rfl, rfl⟩
  · skip
    replace h7 := zb1 h7
    refine x_iload_n dX8_areHours_10 rfl ?_
    refine x_iload_n dX8_areHours_11 rfl ?_
    refine x_bipush (v := 23) dX8_areHours_12 (by decide) ?_
    refine x_callSi dX8_areHours_14 ml_X8_62 mt_X8_isFrom st_X8_isFrom (ct_X8_isFrom) rfl rfl (Nat.le_of_ble_eq_true rfl) ⟨(Nat.le_of_ble_eq_true rfl), (Nat.le_of_ble_eq_true rfl)⟩ ⟨rfl, rfl⟩ ⟨(Nat.le_of_ble_eq_true rfl), (Nat.le_of_ble_eq_true rfl)⟩ ?_
    refine x_if_eq (tgt := 24) dX8_areHours_17 (by decide) (fun h17 => ?_) (fun h17 => ?_)
    · skip
      replace h17 := zb0 h17
      refine x_iconst (v := 0) dX8_areHours_24 (by decide) ?_
      exact x_zret dX8_areHours_25 rfl rfl (Nat.le_of_ble_eq_true rfl) (Nat.le_of_ble_eq_true rfl) ⟨congrArg (fun z => some (Value.int z)) (by first | (rw [h7, h17]; rfl) | (rw [h7]; rfl)), rfl, by rfl, by rfl, rfl⟩
    · skip
      replace h17 := zb1 h17
      refine x_iconst (v := 1) dX8_areHours_20 (by decide) ?_
      refine x_goto (tgt := 25) dX8_areHours_21 (by decide) ?_
      exact x_zret dX8_areHours_25 rfl rfl (Nat.le_of_ble_eq_true rfl) (Nat.le_of_ble_eq_true rfl) ⟨congrArg (fun z => some (Value.int z)) (by first | (rw [h7, h17]; rfl) | (rw [h7]; rfl)), rfl, by rfl, by rfl, rfl⟩
theorem ct_X8_isIn {g : zG} {N : Nat} {I : zI} {L : zL} {R : zR} {a b : Int32} : Ct g yX8_isIn mX8_isIn [.int a, .int b] N I L R (zD (some (.int (zb (zis a b)))) N I L R) := by
  refine Ct_of (lo0 := [some (.int a), some (.int b)]) rfl rfl rfl rfl (Nat.le_of_ble_eq_true rfl) (fun E => ?_)
  refine x_iload_n dX8_isIn_0 rfl ?_
  refine x_iload_n dX8_isIn_1 rfl ?_
  refine x_ishr dX8_isIn_2 ?_
  refine x_iconst (v := 1) dX8_isIn_3 (by decide) ?_
  refine x_iand dX8_isIn_4 ?_
  refine x_pc (pc2 := 5) rfl ?_
  refine x_iconst (v := 1) dX8_isIn_5 (by decide) ?_
  refine x_icmp_ne (tgt := 13) dX8_isIn_6 (by decide) (fun h6 => ?_) (fun h6 => ?_)
  · skip
    refine x_iconst (v := 0) dX8_isIn_13 (by decide) ?_
    exact x_zret dX8_isIn_14 rfl rfl (Nat.le_of_ble_eq_true rfl) (Nat.le_of_ble_eq_true rfl) ⟨congrArg (fun z => some (Value.int z)) (by simp [zis, zb, h6]), rfl, by rfl, by rfl, rfl⟩
  · skip
    refine x_iconst (v := 1) dX8_isIn_9 (by decide) ?_
    refine x_goto (tgt := 14) dX8_isIn_10 (by decide) ?_
    exact x_zret dX8_isIn_14 rfl rfl (Nat.le_of_ble_eq_true rfl) (Nat.le_of_ble_eq_true rfl) ⟨congrArg (fun z => some (Value.int z)) (by simp [zis, zb, h6]), rfl, by rfl, by rfl, rfl⟩
theorem ct_X8_isWithin {g : zG} {N : Nat} {I : zI} {L : zL} {R : zR} {a b : Int32} : Ct g yX8_isWithin mX8_isWithin [.int a, .int b] N I L R (zD (some (.int (zb (zwi a b)))) N I L R) := by
  refine Ct_of (lo0 := [some (.int a), some (.int b)]) rfl rfl rfl rfl (Nat.le_of_ble_eq_true rfl) (fun E => ?_)
  refine x_iload_n dX8_isWithin_0 rfl ?_
  refine x_iload_n dX8_isWithin_1 rfl ?_
  refine x_iconst (v := (-1)) dX8_isWithin_2 (by decide) ?_
  refine x_ixor dX8_isWithin_3 ?_
  refine x_iand dX8_isWithin_4 ?_
  refine x_pc (pc2 := 5) rfl ?_
  refine x_if_ne (tgt := 12) dX8_isWithin_5 (by decide) (fun h5 => ?_) (fun h5 => ?_)
  · skip
    refine x_iconst (v := 0) dX8_isWithin_12 (by decide) ?_
    exact x_zret dX8_isWithin_13 rfl rfl (Nat.le_of_ble_eq_true rfl) (Nat.le_of_ble_eq_true rfl) ⟨congrArg (fun z => some (Value.int z)) (by first | (rw [zwi_t h5]; rfl) | (rw [zwi_f h5]; rfl)), rfl, by rfl, by rfl, rfl⟩
  · skip
    refine x_iconst (v := 1) dX8_isWithin_8 (by decide) ?_
    refine x_goto (tgt := 13) dX8_isWithin_9 (by decide) ?_
    exact x_zret dX8_isWithin_13 rfl rfl (Nat.le_of_ble_eq_true rfl) (Nat.le_of_ble_eq_true rfl) ⟨congrArg (fun z => some (Value.int z)) (by first | (rw [zwi_t h5]; rfl) | (rw [zwi_f h5]; rfl)), rfl, by rfl, by rfl, rfl⟩
theorem ct_X8_hoursFrom {g : zG} {N : Nat} {I : zI} {L : zL} {R : zR} {a b : Int32} : Ct g yX8_hoursFrom mX8_hoursFrom [.int a, .int b] N I L R (zD (some (.int (hfr a b))) N I L R) := by
  refine Ct_of (lo0 := [some (.int a), some (.int b)]) rfl rfl rfl rfl (Nat.le_of_ble_eq_true rfl) (fun E => ?_)
  refine x_iconst (v := 1) dX8_hoursFrom_0 (by decide) ?_
  refine x_iload_n dX8_hoursFrom_1 rfl ?_
  refine x_iconst (v := 1) dX8_hoursFrom_2 (by decide) ?_
  refine x_iadd dX8_hoursFrom_3 ?_
  refine x_ishl dX8_hoursFrom_4 ?_
  refine x_pc (pc2 := 5) rfl ?_
  refine x_iconst (v := 1) dX8_hoursFrom_5 (by decide) ?_
  refine x_iload_n dX8_hoursFrom_6 rfl ?_
  refine x_ishl dX8_hoursFrom_7 ?_
  refine x_isub dX8_hoursFrom_8 ?_
  exact x_iret dX8_hoursFrom_9 rfl (Nat.le_of_ble_eq_true rfl) (Nat.le_of_ble_eq_true rfl) ⟨congrArg (fun z => some (Value.int z)) (by rfl), rfl, by rfl, by rfl, rfl⟩
theorem ct_J6_bitCount_0f7a4 {g : zG} {N : Nat} {I : zI} {L : zL} {R : zR} {a : Int32} : Ct g yJ6_bitCount_0f7a4 mJ6_bitCount_0f7a4 [.int a] N I L R (zD (some (.int (bc a))) N I L R) := by
  refine Ct_of (lo0 := [some (.int a)]) rfl rfl rfl rfl (Nat.le_of_ble_eq_true rfl) (fun E => ?_)
  refine x_iload_n dJ6_bitCount_0f7a4_0 rfl ?_
  refine x_iload_n dJ6_bitCount_0f7a4_1 rfl ?_
  refine x_iconst (v := 1) dJ6_bitCount_0f7a4_2 (by decide) ?_
  refine x_iushr dJ6_bitCount_0f7a4_3 ?_
  refine x_ldcw dJ6_bitCount_0f7a4_4 cn_J6_265 ?_
  refine x_pc (pc2 := 7) rfl ?_
  refine x_iand dJ6_bitCount_0f7a4_7 ?_
  refine x_isub dJ6_bitCount_0f7a4_8 ?_
  refine x_istore_n (lo2 := [_]) dJ6_bitCount_0f7a4_9 (by decide) rfl rfl ?_
  refine x_iload_n dJ6_bitCount_0f7a4_10 rfl ?_
  refine x_ldcw dJ6_bitCount_0f7a4_11 cn_J6_266 ?_
  refine x_iand dJ6_bitCount_0f7a4_14 ?_
  refine x_pc (pc2 := 15) rfl ?_
  refine x_iload_n dJ6_bitCount_0f7a4_15 rfl ?_
  refine x_iconst (v := 2) dJ6_bitCount_0f7a4_16 (by decide) ?_
  refine x_iushr dJ6_bitCount_0f7a4_17 ?_
  refine x_ldcw dJ6_bitCount_0f7a4_18 cn_J6_266 ?_
  refine x_iand dJ6_bitCount_0f7a4_21 ?_
  refine x_iadd dJ6_bitCount_0f7a4_22 ?_
  refine x_pc (pc2 := 23) rfl ?_
  refine x_istore_n (lo2 := [_]) dJ6_bitCount_0f7a4_23 (by decide) rfl rfl ?_
  refine x_iload_n dJ6_bitCount_0f7a4_24 rfl ?_
  refine x_iload_n dJ6_bitCount_0f7a4_25 rfl ?_
  refine x_iconst (v := 4) dJ6_bitCount_0f7a4_26 (by decide) ?_
  refine x_iushr dJ6_bitCount_0f7a4_27 ?_
  refine x_iadd dJ6_bitCount_0f7a4_28 ?_
  refine x_pc (pc2 := 29) rfl ?_
  refine x_ldcw dJ6_bitCount_0f7a4_29 cn_J6_267 ?_
  refine x_iand dJ6_bitCount_0f7a4_32 ?_
  refine x_istore_n (lo2 := [_]) dJ6_bitCount_0f7a4_33 (by decide) rfl rfl ?_
  refine x_iload_n dJ6_bitCount_0f7a4_34 rfl ?_
  refine x_iload_n dJ6_bitCount_0f7a4_35 rfl ?_
  refine x_bipush (v := 8) dJ6_bitCount_0f7a4_36 (by decide) ?_
  refine x_pc (pc2 := 38) rfl ?_
  refine x_iushr dJ6_bitCount_0f7a4_38 ?_
  refine x_iadd dJ6_bitCount_0f7a4_39 ?_
  refine x_istore_n (lo2 := [_]) dJ6_bitCount_0f7a4_40 (by decide) rfl rfl ?_
  refine x_iload_n dJ6_bitCount_0f7a4_41 rfl ?_
  refine x_iload_n dJ6_bitCount_0f7a4_42 rfl ?_
  refine x_bipush (v := 16) dJ6_bitCount_0f7a4_43 (by decide) ?_
  refine x_pc (pc2 := 45) rfl ?_
  refine x_iushr dJ6_bitCount_0f7a4_45 ?_
  refine x_iadd dJ6_bitCount_0f7a4_46 ?_
  refine x_istore_n (lo2 := [_]) dJ6_bitCount_0f7a4_47 (by decide) rfl rfl ?_
  refine x_iload_n dJ6_bitCount_0f7a4_48 rfl ?_
  refine x_bipush (v := 63) dJ6_bitCount_0f7a4_49 (by decide) ?_
  refine x_iand dJ6_bitCount_0f7a4_51 ?_
  refine x_pc (pc2 := 52) rfl ?_
  exact x_iret dJ6_bitCount_0f7a4_52 rfl (Nat.le_of_ble_eq_true rfl) (Nat.le_of_ble_eq_true rfl) ⟨congrArg (fun z => some (Value.int z)) (by rfl), rfl, by rfl, by rfl, rfl⟩
theorem ct_X3_isThere {g : zG} {N : Nat} {I : zI} {L : zL} {q0 q1 : Option Nat} {m : Nat} {j : Int32} (hm : zMi m) (hN : m + 11 ≤ N) : Ct g yX3_isThere mX3_isThere [.ref (g.2.1 + m), .int j] N I L (zRw q0 q1) (zD (some (.int (zb (zth (I (m + 1)) j)))) N I L (zRw q0 q1)) := by
  refine Ct_of (lo0 := [some (.ref (g.2.1 + m)), some (.int j)]) rfl rfl rfl rfl (Nat.le_of_ble_eq_true rfl) (fun E => ?_)
  refine x_iload_n dX3_isThere_0 rfl ?_
  refine x_iconst (v := 0) dX3_isThere_1 (by decide) ?_
  refine x_iconst (v := 5) dX3_isThere_2 (by decide) ?_
  refine x_callNi dX3_isThere_3 nn_X3_57 mt_X8_isFrom st_X8_isFrom (ct_X8_isFrom) rfl rfl (Nat.le_of_ble_eq_true rfl) ⟨(Nat.le_of_ble_eq_true rfl), (Nat.le_of_ble_eq_true rfl)⟩ ⟨rfl, rfl⟩ ⟨(Nat.le_of_ble_eq_true rfl), (Nat.le_of_ble_eq_true rfl)⟩ ?_
  refine x_if_eq (tgt := 22) dX3_isThere_6 (by decide) (fun h6 => ?_) (fun h6 => ?_)
  · skip
    replace h6 := zb0 h6
    refine x_iconst (v := 0) dX3_isThere_22 (by decide) ?_
    exact x_zret dX3_isThere_23 rfl rfl (Nat.le_of_ble_eq_true rfl) (Nat.le_of_ble_eq_true rfl) ⟨congrArg (fun z => some (Value.int z)) (by first | (simp [zth, zb, h6]; done) | (rw [zth_le hi]; simp [zb, h15])), rfl, by rfl, by rfl, rfl⟩
  · skip
    replace h6 := zb1 h6
    obtain ⟨i, hi, rfl⟩ := zin_ex (b := 5) (by decide) h6
    refine x_aload_n dX3_isThere_9 rfl ?_
    refine x_getR dX3_isThere_10 fl_X3_9 (by omega) (zM_t0 hm) rfl (zM_R0 hm) ?_
    refine x_iload_n dX3_isThere_13 rfl ?_
    refine x_ialdN dX3_isThere_14 (by omega) (zM_t1 hm) rfl (by omega) ?_
    refine x_if_le (tgt := 22) dX3_isThere_15 (by decide) (fun h15 => ?_) (fun h15 => ?_)
    · skip
      refine x_iconst (v := 0) dX3_isThere_22 (by decide) ?_
      exact x_zret dX3_isThere_23 rfl rfl (Nat.le_of_ble_eq_true rfl) (Nat.le_of_ble_eq_true rfl) ⟨congrArg (fun z => some (Value.int z)) (by first | (simp [zth, zb, h6]; done) | (rw [zth_le hi]; simp [zb, h15])), rfl, by rfl, by rfl, rfl⟩
    · skip
      refine x_iconst (v := 1) dX3_isThere_18 (by decide) ?_
      refine x_goto (tgt := 23) dX3_isThere_19 (by decide) ?_
      exact x_zret dX3_isThere_23 rfl rfl (Nat.le_of_ble_eq_true rfl) (Nat.le_of_ble_eq_true rfl) ⟨congrArg (fun z => some (Value.int z)) (by first | (simp [zth, zb, h6]; done) | (rw [zth_le hi]; simp [zb, h15])), rfl, by rfl, by rfl, rfl⟩
theorem ct_X3_griefsThere {g : zG} {N : Nat} {I : zI} {L : zL} {q0 q1 : Option Nat} {m : Nat} (hm : zMi m) (hN : m + 11 ≤ N) : Ct g yX3_griefsThere mX3_griefsThere [.ref (g.2.1 + m)] N I L (zRw q0 q1) (zD (some (.int (gt_ (I (m + 1)) 6))) N I L (zRw q0 q1)) := by
  refine Ct_of (lo0 := [some (.ref (g.2.1 + m)), none, none]) rfl rfl rfl rfl (Nat.le_of_ble_eq_true rfl) (fun E => ?_)
  refine x_iconst (v := 0) dX3_griefsThere_0 (by decide) ?_
  refine x_istore_n (lo2 := [_, _, _]) dX3_griefsThere_1 (by decide) rfl rfl ?_
  refine x_iconst (v := 0) dX3_griefsThere_2 (by decide) ?_
  refine x_istore_n (lo2 := [_, _, _]) dX3_griefsThere_3 (by decide) rfl rfl ?_
  refine x_loop (inv := fun i => True) (fun i => [some (.ref (g.2.1 + m)), some (.int (gt_ (I (m + 1)) i)), some (.int (nI i))]) (fun i => I) (fun i => L) 0 6 (by omega) (by trivial) (by rfl) (by rfl) (by rfl) (fun i hloi hhii hinvi Ki => ?_) (fun hinvi => ?_)
  · skip
    refine x_iload_n dX3_griefsThere_4 rfl ?_
    refine x_bipush (v := 6) dX3_griefsThere_5 (by decide) ?_
    refine x_icmp_ge (tgt := 31) dX3_griefsThere_7 (by decide) (fun h7 => ?_) (fun h7 => ?_)
    · skip
      exact absurd h7 (nI_ge (b := 6) hhii (by decide))
    · skip
      refine x_aload_n dX3_griefsThere_10 rfl ?_
      refine x_getR dX3_griefsThere_11 fl_X3_9 (by omega) (zM_t0 hm) rfl (zM_R0 hm) ?_
      refine x_iload_n dX3_griefsThere_14 rfl ?_
      refine x_ialdN dX3_griefsThere_15 (by omega) (zM_t1 hm) rfl (by omega) ?_
      refine x_if_le (tgt := 25) dX3_griefsThere_16 (by decide) (fun h16 => ?_) (fun h16 => ?_)
      · skip
        refine x_iincN (lo2 := [_, _, _]) dX3_griefsThere_25 rfl rfl rfl ?_
        refine x_goto (tgt := 4) dX3_griefsThere_28 (by decide) ?_
        exact x_eq (by simp [gt_, h7, h16]) (by rfl) (by rfl) (Ki (by trivial))
      · skip
        refine x_iload_n dX3_griefsThere_19 rfl ?_
        refine x_iconst (v := 1) dX3_griefsThere_20 (by decide) ?_
        refine x_iload_n dX3_griefsThere_21 rfl ?_
        refine x_ishl dX3_griefsThere_22 ?_
        refine x_ior dX3_griefsThere_23 ?_
        refine x_pc (pc2 := 24) rfl ?_
        refine x_istore_n (lo2 := [_, _, _]) dX3_griefsThere_24 (by decide) rfl rfl ?_
        refine x_iincN (lo2 := [_, _, _]) dX3_griefsThere_25 rfl rfl rfl ?_
        refine x_goto (tgt := 4) dX3_griefsThere_28 (by decide) ?_
        exact x_eq (by simp [gt_, h7, h16]) (by rfl) (by rfl) (Ki (by trivial))
  · skip
    refine x_iload_n dX3_griefsThere_4 rfl ?_
    refine x_bipush (v := 6) dX3_griefsThere_5 (by decide) ?_
    refine x_icmp_ge (tgt := 31) dX3_griefsThere_7 (by decide) (fun h7 => ?_) (fun h7 => ?_)
    · skip
      refine x_iload_n dX3_griefsThere_31 rfl ?_
      exact x_iret dX3_griefsThere_32 rfl (Nat.le_of_ble_eq_true rfl) (Nat.le_of_ble_eq_true rfl) ⟨congrArg (fun z => some (Value.int z)) (by rfl), rfl, by rfl, by rfl, rfl⟩
    · skip
      exact absurd (nI_le (b := 6) (Nat.le_refl 6) (by decide)) h7
theorem ct_X3_griefPart {g : zG} {N : Nat} {I : zI} {L : zL} {q0 q1 : Option Nat} {m : Nat} {j p : Int32} {i : Nat} (hm : zMi m) (hN : m + 11 ≤ N) (hj : j = nI i) (hi : i < 6) : Ct g yX3_griefPart mX3_griefPart [.ref (g.2.1 + m), .int j, .int p] N I L (zRw q0 q1) (zD (some (.int (if p = 0 then I (m + 1) i else I (m + 2) i))) N I L (zRw q0 q1)) := by
  refine Ct_of (lo0 := [some (.ref (g.2.1 + m)), some (.int j), some (.int p)]) rfl rfl rfl rfl (Nat.le_of_ble_eq_true rfl) (fun E => ?_)
  refine x_iload_n dX3_griefPart_0 rfl ?_
  refine x_if_ne (tgt := 13) dX3_griefPart_1 (by decide) (fun h1 => ?_) (fun h1 => ?_)
  · skip
    refine x_aload_n dX3_griefPart_13 rfl ?_
    refine x_getR dX3_griefPart_14 fl_X3_15 (by omega) (zM_t0 hm) rfl (zM_R1 hm) ?_
    refine x_iload_n dX3_griefPart_17 rfl ?_
    refine x_ialdN dX3_griefPart_18 (by omega) (zM_t2 hm) hj hi ?_
    exact x_iret dX3_griefPart_19 rfl (Nat.le_of_ble_eq_true rfl) (Nat.le_of_ble_eq_true rfl) ⟨congrArg (fun z => some (Value.int z)) (by simp [h1]), rfl, by rfl, by rfl, rfl⟩
  · skip
    refine x_aload_n dX3_griefPart_4 rfl ?_
    refine x_getR dX3_griefPart_5 fl_X3_9 (by omega) (zM_t0 hm) rfl (zM_R0 hm) ?_
    refine x_iload_n dX3_griefPart_8 rfl ?_
    refine x_ialdN dX3_griefPart_9 (by omega) (zM_t1 hm) hj hi ?_
    refine x_goto (tgt := 19) dX3_griefPart_10 (by decide) ?_
    exact x_iret dX3_griefPart_19 rfl (Nat.le_of_ble_eq_true rfl) (Nat.le_of_ble_eq_true rfl) ⟨congrArg (fun z => some (Value.int z)) (by simp [h1]), rfl, by rfl, by rfl, rfl⟩
theorem ct_X3_holdAsNumber {g : zG} {N : Nat} {I : zI} {L : zL} {q0 q1 : Option Nat} {m : Nat} {j : Int32} {i : Nat} (hm : zMi m) (hN : m + 11 ≤ N) (hj : j = nI i) (hi : i < 6) : Ct g yX3_holdAsNumber mX3_holdAsNumber [.ref (g.2.1 + m), .int j] N I L (zRw q0 q1) (zD (some (.int (1000 * I (m + 3) i + 10 * I (m + 4) i + I (m + 5) i))) N I L (zRw q0 q1)) := by
  refine Ct_of (lo0 := [some (.ref (g.2.1 + m)), some (.int j)]) rfl rfl rfl rfl (Nat.le_of_ble_eq_true rfl) (fun E => ?_)
  refine x_sipush (v := 1000) dX3_holdAsNumber_0 (by decide) ?_
  refine x_aload_n dX3_holdAsNumber_3 rfl ?_
  refine x_getR dX3_holdAsNumber_4 fl_X3_18 (by omega) (zM_t0 hm) rfl (zM_R2 hm) ?_
  refine x_iload_n dX3_holdAsNumber_7 rfl ?_
  refine x_ialdN dX3_holdAsNumber_8 (by omega) (zM_t3 hm) hj hi ?_
  refine x_pc (pc2 := 9) rfl ?_
  refine x_imul dX3_holdAsNumber_9 ?_
  refine x_bipush (v := 10) dX3_holdAsNumber_10 (by decide) ?_
  refine x_aload_n dX3_holdAsNumber_12 rfl ?_
  refine x_getR dX3_holdAsNumber_13 fl_X3_21 (by omega) (zM_t0 hm) rfl (zM_R3 hm) ?_
  refine x_iload_n dX3_holdAsNumber_16 rfl ?_
  refine x_ialdN dX3_holdAsNumber_17 (by omega) (zM_t4 hm) hj hi ?_
  refine x_pc (pc2 := 18) rfl ?_
  refine x_imul dX3_holdAsNumber_18 ?_
  refine x_iadd dX3_holdAsNumber_19 ?_
  refine x_aload_n dX3_holdAsNumber_20 rfl ?_
  refine x_getR dX3_holdAsNumber_21 fl_X3_24 (by omega) (zM_t0 hm) rfl (zM_R4 hm) ?_
  refine x_iload_n dX3_holdAsNumber_24 rfl ?_
  refine x_ialdN dX3_holdAsNumber_25 (by omega) (zM_t5 hm) hj hi ?_
  refine x_pc (pc2 := 26) rfl ?_
  refine x_iadd dX3_holdAsNumber_26 ?_
  exact x_iret dX3_holdAsNumber_27 rfl (Nat.le_of_ble_eq_true rfl) (Nat.le_of_ble_eq_true rfl) ⟨congrArg (fun z => some (Value.int z)) (by rfl), rfl, by rfl, by rfl, rfl⟩
theorem ct_X3_coatAsNumber {g : zG} {N : Nat} {I : zI} {L : zL} {q0 q1 : Option Nat} {m : Nat} {j : Int32} {i : Nat} (hm : zMi m) (hN : m + 11 ≤ N) (hj : j = nI i) (hi : i < 8) : Ct g yX3_coatAsNumber mX3_coatAsNumber [.ref (g.2.1 + m), .int j] N I L (zRw q0 q1) (zD (some (.int (100 * I (m + 6) i + I (m + 7) i))) N I L (zRw q0 q1)) := by
  refine Ct_of (lo0 := [some (.ref (g.2.1 + m)), some (.int j)]) rfl rfl rfl rfl (Nat.le_of_ble_eq_true rfl) (fun E => ?_)
  refine x_bipush (v := 100) dX3_coatAsNumber_0 (by decide) ?_
  refine x_aload_n dX3_coatAsNumber_2 rfl ?_
  refine x_getR dX3_coatAsNumber_3 fl_X3_27 (by omega) (zM_t0 hm) rfl (zM_R5 hm) ?_
  refine x_iload_n dX3_coatAsNumber_6 rfl ?_
  refine x_ialdN dX3_coatAsNumber_7 (by omega) (zM_t6 hm) hj hi ?_
  refine x_pc (pc2 := 8) rfl ?_
  refine x_imul dX3_coatAsNumber_8 ?_
  refine x_aload_n dX3_coatAsNumber_9 rfl ?_
  refine x_getR dX3_coatAsNumber_10 fl_X3_30 (by omega) (zM_t0 hm) rfl (zM_R6 hm) ?_
  refine x_iload_n dX3_coatAsNumber_13 rfl ?_
  refine x_ialdN dX3_coatAsNumber_14 (by omega) (zM_t7 hm) hj hi ?_
  refine x_iadd dX3_coatAsNumber_15 ?_
  refine x_pc (pc2 := 16) rfl ?_
  exact x_iret dX3_coatAsNumber_16 rfl (Nat.le_of_ble_eq_true rfl) (Nat.le_of_ble_eq_true rfl) ⟨congrArg (fun z => some (Value.int z)) (by rfl), rfl, by rfl, by rfl, rfl⟩
theorem ct_X3_countMoves {g : zG} {N : Nat} {I : zI} {L : zL} {q0 q1 : Option Nat} {m : Nat} (hm : zMi m) (hN : m + 11 ≤ N) : Ct g yX3_countMoves mX3_countMoves [.ref (g.2.1 + m)] N I L (zRw q0 q1) (zD (some (.int (cm_ (I (m + 8)) 10))) N I L (zRw q0 q1)) := by
  refine Ct_of (lo0 := [some (.ref (g.2.1 + m)), none, none]) rfl rfl rfl rfl (Nat.le_of_ble_eq_true rfl) (fun E => ?_)
  refine x_iconst (v := 0) dX3_countMoves_0 (by decide) ?_
  refine x_istore_n (lo2 := [_, _, _]) dX3_countMoves_1 (by decide) rfl rfl ?_
  refine x_iconst (v := 0) dX3_countMoves_2 (by decide) ?_
  refine x_istore_n (lo2 := [_, _, _]) dX3_countMoves_3 (by decide) rfl rfl ?_
  refine x_loop (inv := fun i => True) (fun i => [some (.ref (g.2.1 + m)), some (.int (cm_ (I (m + 8)) i)), some (.int (nI i))]) (fun i => I) (fun i => L) 0 10 (by omega) (by trivial) (by rfl) (by rfl) (by rfl) (fun i hloi hhii hinvi Ki => ?_) (fun hinvi => ?_)
  · skip
    refine x_iload_n dX3_countMoves_4 rfl ?_
    refine x_bipush (v := 10) dX3_countMoves_5 (by decide) ?_
    refine x_icmp_ge (tgt := 28) dX3_countMoves_7 (by decide) (fun h7 => ?_) (fun h7 => ?_)
    · skip
      exact absurd h7 (nI_ge (b := 10) hhii (by decide))
    · skip
      refine x_iload_n dX3_countMoves_10 rfl ?_
      refine x_aload_n dX3_countMoves_11 rfl ?_
      refine x_getR dX3_countMoves_12 fl_X3_33 (by omega) (zM_t0 hm) rfl (zM_R7 hm) ?_
      refine x_iload_n dX3_countMoves_15 rfl ?_
      refine x_ialdN dX3_countMoves_16 (by omega) (zM_t8 hm) rfl (by omega) ?_
      refine x_pc (pc2 := 17) rfl ?_
      refine x_callSi dX3_countMoves_17 ml_X3_61 mt_J6_bitCount_0f7a4 st_J6_bitCount_0f7a4 (ct_J6_bitCount_0f7a4) rfl rfl (Nat.le_of_ble_eq_true rfl) ⟨(Nat.le_of_ble_eq_true rfl), (Nat.le_of_ble_eq_true rfl)⟩ ⟨rfl, rfl⟩ ⟨(Nat.le_of_ble_eq_true rfl), (Nat.le_of_ble_eq_true rfl)⟩ ?_
      refine x_iadd dX3_countMoves_20 ?_
      refine x_istore_n (lo2 := [_, _, _]) dX3_countMoves_21 (by decide) rfl rfl ?_
      refine x_iincN (lo2 := [_, _, _]) dX3_countMoves_22 rfl rfl rfl ?_
      refine x_goto (tgt := 4) dX3_countMoves_25 (by decide) ?_
      exact x_eq (by rfl) (by rfl) (by rfl) (Ki (by trivial))
  · skip
    refine x_iload_n dX3_countMoves_4 rfl ?_
    refine x_bipush (v := 10) dX3_countMoves_5 (by decide) ?_
    refine x_icmp_ge (tgt := 28) dX3_countMoves_7 (by decide) (fun h7 => ?_) (fun h7 => ?_)
    · skip
      refine x_iload_n dX3_countMoves_28 rfl ?_
      exact x_iret dX3_countMoves_29 rfl (Nat.le_of_ble_eq_true rfl) (Nat.le_of_ble_eq_true rfl) ⟨congrArg (fun z => some (Value.int z)) (by rfl), rfl, by rfl, by rfl, rfl⟩
    · skip
      exact absurd (nI_le (b := 10) (Nat.le_refl 10) (by decide)) h7
theorem ct_X3_holdsThatFit {g : zG} {N : Nat} {I : zI} {L : zL} {q0 q1 : Option Nat} {m : Nat} {j : Int32} {k : Nat} (hm : zMi m) (hN : m + 11 ≤ N) (hj : j = nI k) (hk : k < 6) : Ct g yX3_holdsThatFit mX3_holdsThatFit [.ref (g.2.1 + m), .int j] N I L (zRw q0 q1) (zD (some (.int (hf_ (I (m + 3)) (I (m + 2) k) 6))) N I L (zRw q0 q1)) := by
  refine Ct_of (lo0 := [some (.ref (g.2.1 + m)), some (.int j), none, none]) rfl rfl rfl rfl (Nat.le_of_ble_eq_true rfl) (fun E => ?_)
  refine x_iconst (v := 0) dX3_holdsThatFit_0 (by decide) ?_
  refine x_istore_n (lo2 := [_, _, _, _]) dX3_holdsThatFit_1 (by decide) rfl rfl ?_
  refine x_iconst (v := 0) dX3_holdsThatFit_2 (by decide) ?_
  refine x_istore_n (lo2 := [_, _, _, _]) dX3_holdsThatFit_3 (by decide) rfl rfl ?_
  refine x_loop (inv := fun i => True) (fun i => [some (.ref (g.2.1 + m)), some (.int j), some (.int (hf_ (I (m + 3)) (I (m + 2) k) i)), some (.int (nI i))]) (fun i => I) (fun i => L) 0 6 (by omega) (by trivial) (by rfl) (by rfl) (by rfl) (fun i hloi hhii hinvi Ki => ?_) (fun hinvi => ?_)
  · skip
    refine x_iload_n dX3_holdsThatFit_4 rfl ?_
    refine x_bipush (v := 6) dX3_holdsThatFit_5 (by decide) ?_
    refine x_icmp_ge (tgt := 40) dX3_holdsThatFit_7 (by decide) (fun h7 => ?_) (fun h7 => ?_)
    · skip
      exact absurd h7 (nI_ge (b := 6) hhii (by decide))
    · skip
      refine x_aload_n dX3_holdsThatFit_10 rfl ?_
      refine x_getR dX3_holdsThatFit_11 fl_X3_18 (by omega) (zM_t0 hm) rfl (zM_R2 hm) ?_
      refine x_iload_n dX3_holdsThatFit_14 rfl ?_
      refine x_ialdN dX3_holdsThatFit_15 (by omega) (zM_t3 hm) rfl (by omega) ?_
      refine x_aload_n dX3_holdsThatFit_16 rfl ?_
      refine x_pc (pc2 := 17) rfl ?_
      refine x_getR dX3_holdsThatFit_17 fl_X3_15 (by omega) (zM_t0 hm) rfl (zM_R1 hm) ?_
      refine x_iload_n dX3_holdsThatFit_20 rfl ?_
      refine x_ialdN dX3_holdsThatFit_21 (by omega) (zM_t2 hm) hj hk ?_
      refine x_callNi dX3_holdsThatFit_22 nn_X3_67 mt_X8_isWithin st_X8_isWithin (ct_X8_isWithin) rfl rfl (Nat.le_of_ble_eq_true rfl) ⟨(Nat.le_of_ble_eq_true rfl), (Nat.le_of_ble_eq_true rfl)⟩ ⟨rfl, rfl⟩ ⟨(Nat.le_of_ble_eq_true rfl), (Nat.le_of_ble_eq_true rfl)⟩ ?_
      refine x_if_eq (tgt := 34) dX3_holdsThatFit_25 (by decide) (fun h25 => ?_) (fun h25 => ?_)
      · skip
        replace h25 := zb0 h25
        refine x_iincN (lo2 := [_, _, _, _]) dX3_holdsThatFit_34 rfl rfl rfl ?_
        refine x_goto (tgt := 4) dX3_holdsThatFit_37 (by decide) ?_
        exact x_eq (by simp [hf_, h7, h25]) (by rfl) (by rfl) (Ki (by trivial))
      · skip
        replace h25 := zb1 h25
        refine x_iload_n dX3_holdsThatFit_28 rfl ?_
        refine x_iconst (v := 1) dX3_holdsThatFit_29 (by decide) ?_
        refine x_iload_n dX3_holdsThatFit_30 rfl ?_
        refine x_ishl dX3_holdsThatFit_31 ?_
        refine x_ior dX3_holdsThatFit_32 ?_
        refine x_pc (pc2 := 33) rfl ?_
        refine x_istore_n (lo2 := [_, _, _, _]) dX3_holdsThatFit_33 (by decide) rfl rfl ?_
        refine x_iincN (lo2 := [_, _, _, _]) dX3_holdsThatFit_34 rfl rfl rfl ?_
        refine x_goto (tgt := 4) dX3_holdsThatFit_37 (by decide) ?_
        exact x_eq (by simp [hf_, h7, h25]) (by rfl) (by rfl) (Ki (by trivial))
  · skip
    refine x_iload_n dX3_holdsThatFit_4 rfl ?_
    refine x_bipush (v := 6) dX3_holdsThatFit_5 (by decide) ?_
    refine x_icmp_ge (tgt := 40) dX3_holdsThatFit_7 (by decide) (fun h7 => ?_) (fun h7 => ?_)
    · skip
      refine x_iload_n dX3_holdsThatFit_40 rfl ?_
      exact x_iret dX3_holdsThatFit_41 rfl (Nat.le_of_ble_eq_true rfl) (Nat.le_of_ble_eq_true rfl) ⟨congrArg (fun z => some (Value.int z)) (by rfl), rfl, by rfl, by rfl, rfl⟩
    · skip
      exact absurd (nI_le (b := 6) (Nat.le_refl 6) (by decide)) h7
theorem ct_X3_strengthOf {g : zG} {N : Nat} {I : zI} {L : zL} {q0 q1 : Option Nat} {m : Nat} {a : Int32} (hm : zMi m) (hN : m + 11 ≤ N) : Ct g yX3_strengthOf mX3_strengthOf [.ref (g.2.1 + m), .int a] N I L (zRw q0 q1) (zD (some (.int (so_ (I (m + 1)) a 6))) N I L (zRw q0 q1)) := by
  refine Ct_of (lo0 := [some (.ref (g.2.1 + m)), some (.int a), none, none]) rfl rfl rfl rfl (Nat.le_of_ble_eq_true rfl) (fun E => ?_)
  refine x_iconst (v := 0) dX3_strengthOf_0 (by decide) ?_
  refine x_istore_n (lo2 := [_, _, _, _]) dX3_strengthOf_1 (by decide) rfl rfl ?_
  refine x_iconst (v := 0) dX3_strengthOf_2 (by decide) ?_
  refine x_istore_n (lo2 := [_, _, _, _]) dX3_strengthOf_3 (by decide) rfl rfl ?_
  refine x_loop (inv := fun i => True) (fun i => [some (.ref (g.2.1 + m)), some (.int a), some (.int (so_ (I (m + 1)) a i)), some (.int (nI i))]) (fun i => I) (fun i => L) 0 6 (by omega) (by trivial) (by rfl) (by rfl) (by rfl) (fun i hloi hhii hinvi Ki => ?_) (fun hinvi => ?_)
  · skip
    refine x_iload_n dX3_strengthOf_4 rfl ?_
    refine x_bipush (v := 6) dX3_strengthOf_5 (by decide) ?_
    refine x_icmp_ge (tgt := 33) dX3_strengthOf_7 (by decide) (fun h7 => ?_) (fun h7 => ?_)
    · skip
      exact absurd h7 (nI_ge (b := 6) hhii (by decide))
    · skip
      refine x_iload_n dX3_strengthOf_10 rfl ?_
      refine x_iload_n dX3_strengthOf_11 rfl ?_
      refine x_callNi dX3_strengthOf_12 nn_X3_114 mt_X8_isIn st_X8_isIn (ct_X8_isIn) rfl rfl (Nat.le_of_ble_eq_true rfl) ⟨(Nat.le_of_ble_eq_true rfl), (Nat.le_of_ble_eq_true rfl)⟩ ⟨rfl, rfl⟩ ⟨(Nat.le_of_ble_eq_true rfl), (Nat.le_of_ble_eq_true rfl)⟩ ?_
      refine x_if_eq (tgt := 27) dX3_strengthOf_15 (by decide) (fun h15 => ?_) (fun h15 => ?_)
      · skip
        replace h15 := zb0 h15
        refine x_iincN (lo2 := [_, _, _, _]) dX3_strengthOf_27 rfl rfl rfl ?_
        refine x_goto (tgt := 4) dX3_strengthOf_30 (by decide) ?_
        exact x_eq (by simp [so_, h7, h15]) (by rfl) (by rfl) (Ki (by trivial))
      · skip
        replace h15 := zb1 h15
        refine x_iload_n dX3_strengthOf_18 rfl ?_
        refine x_aload_n dX3_strengthOf_19 rfl ?_
        refine x_getR dX3_strengthOf_20 fl_X3_9 (by omega) (zM_t0 hm) rfl (zM_R0 hm) ?_
        refine x_iload_n dX3_strengthOf_23 rfl ?_
        refine x_ialdN dX3_strengthOf_24 (by omega) (zM_t1 hm) rfl (by omega) ?_
        refine x_pc (pc2 := 25) rfl ?_
        refine x_iadd dX3_strengthOf_25 ?_
        refine x_istore_n (lo2 := [_, _, _, _]) dX3_strengthOf_26 (by decide) rfl rfl ?_
        refine x_iincN (lo2 := [_, _, _, _]) dX3_strengthOf_27 rfl rfl rfl ?_
        refine x_goto (tgt := 4) dX3_strengthOf_30 (by decide) ?_
        exact x_eq (by simp [so_, h7, h15]) (by rfl) (by rfl) (Ki (by trivial))
  · skip
    refine x_iload_n dX3_strengthOf_4 rfl ?_
    refine x_bipush (v := 6) dX3_strengthOf_5 (by decide) ?_
    refine x_icmp_ge (tgt := 33) dX3_strengthOf_7 (by decide) (fun h7 => ?_) (fun h7 => ?_)
    · skip
      refine x_iload_n dX3_strengthOf_33 rfl ?_
      exact x_iret dX3_strengthOf_34 rfl (Nat.le_of_ble_eq_true rfl) (Nat.le_of_ble_eq_true rfl) ⟨congrArg (fun z => some (Value.int z)) (by rfl), rfl, by rfl, by rfl, rfl⟩
    · skip
      exact absurd (nI_le (b := 6) (Nat.le_refl 6) (by decide)) h7
theorem ct_X3_marksOf {g : zG} {N : Nat} {I : zI} {L : zL} {q0 q1 : Option Nat} {m : Nat} {a : Int32} (hm : zMi m) (hN : m + 11 ≤ N) : Ct g yX3_marksOf mX3_marksOf [.ref (g.2.1 + m), .int a] N I L (zRw q0 q1) (zD (some (.int (mo_ (I (m + 2)) a 6))) N I L (zRw q0 q1)) := by
  refine Ct_of (lo0 := [some (.ref (g.2.1 + m)), some (.int a), none, none]) rfl rfl rfl rfl (Nat.le_of_ble_eq_true rfl) (fun E => ?_)
  refine x_iconst (v := 0) dX3_marksOf_0 (by decide) ?_
  refine x_istore_n (lo2 := [_, _, _, _]) dX3_marksOf_1 (by decide) rfl rfl ?_
  refine x_iconst (v := 0) dX3_marksOf_2 (by decide) ?_
  refine x_istore_n (lo2 := [_, _, _, _]) dX3_marksOf_3 (by decide) rfl rfl ?_
  refine x_loop (inv := fun i => True) (fun i => [some (.ref (g.2.1 + m)), some (.int a), some (.int (mo_ (I (m + 2)) a i)), some (.int (nI i))]) (fun i => I) (fun i => L) 0 6 (by omega) (by trivial) (by rfl) (by rfl) (by rfl) (fun i hloi hhii hinvi Ki => ?_) (fun hinvi => ?_)
  · skip
    refine x_iload_n dX3_marksOf_4 rfl ?_
    refine x_bipush (v := 6) dX3_marksOf_5 (by decide) ?_
    refine x_icmp_ge (tgt := 33) dX3_marksOf_7 (by decide) (fun h7 => ?_) (fun h7 => ?_)
    · skip
      exact absurd h7 (nI_ge (b := 6) hhii (by decide))
    · skip
      refine x_iload_n dX3_marksOf_10 rfl ?_
      refine x_iload_n dX3_marksOf_11 rfl ?_
      refine x_callNi dX3_marksOf_12 nn_X3_114 mt_X8_isIn st_X8_isIn (ct_X8_isIn) rfl rfl (Nat.le_of_ble_eq_true rfl) ⟨(Nat.le_of_ble_eq_true rfl), (Nat.le_of_ble_eq_true rfl)⟩ ⟨rfl, rfl⟩ ⟨(Nat.le_of_ble_eq_true rfl), (Nat.le_of_ble_eq_true rfl)⟩ ?_
      refine x_if_eq (tgt := 27) dX3_marksOf_15 (by decide) (fun h15 => ?_) (fun h15 => ?_)
      · skip
        replace h15 := zb0 h15
        refine x_iincN (lo2 := [_, _, _, _]) dX3_marksOf_27 rfl rfl rfl ?_
        refine x_goto (tgt := 4) dX3_marksOf_30 (by decide) ?_
        exact x_eq (by simp [mo_, h7, h15]) (by rfl) (by rfl) (Ki (by trivial))
      · skip
        replace h15 := zb1 h15
        refine x_iload_n dX3_marksOf_18 rfl ?_
        refine x_aload_n dX3_marksOf_19 rfl ?_
        refine x_getR dX3_marksOf_20 fl_X3_15 (by omega) (zM_t0 hm) rfl (zM_R1 hm) ?_
        refine x_iload_n dX3_marksOf_23 rfl ?_
        refine x_ialdN dX3_marksOf_24 (by omega) (zM_t2 hm) rfl (by omega) ?_
        refine x_pc (pc2 := 25) rfl ?_
        refine x_ior dX3_marksOf_25 ?_
        refine x_istore_n (lo2 := [_, _, _, _]) dX3_marksOf_26 (by decide) rfl rfl ?_
        refine x_iincN (lo2 := [_, _, _, _]) dX3_marksOf_27 rfl rfl rfl ?_
        refine x_goto (tgt := 4) dX3_marksOf_30 (by decide) ?_
        exact x_eq (by simp [mo_, h7, h15]) (by rfl) (by rfl) (Ki (by trivial))
  · skip
    refine x_iload_n dX3_marksOf_4 rfl ?_
    refine x_bipush (v := 6) dX3_marksOf_5 (by decide) ?_
    refine x_icmp_ge (tgt := 33) dX3_marksOf_7 (by decide) (fun h7 => ?_) (fun h7 => ?_)
    · skip
      refine x_iload_n dX3_marksOf_33 rfl ?_
      exact x_iret dX3_marksOf_34 rfl (Nat.le_of_ble_eq_true rfl) (Nat.le_of_ble_eq_true rfl) ⟨congrArg (fun z => some (Value.int z)) (by rfl), rfl, by rfl, by rfl, rfl⟩
    · skip
      exact absurd (nI_le (b := 6) (Nat.le_refl 6) (by decide)) h7
theorem ct_X3_leastSetWith {g : zG} {N : Nat} {I : zI} {L : zL} {q0 q1 : Option Nat} {m : Nat} {a : Int32} (hm : zMi m) (hN : m + 11 ≤ N) : Ct g yX3_leastSetWith mX3_leastSetWith [.ref (g.2.1 + m), .int a] N I L (zRw q0 q1) (zD (some (.int (ls_ (I (m + 1)) (I (m + 2)) a 64))) N I L (zRw q0 q1)) := by
  refine Ct_of (lo0 := [some (.ref (g.2.1 + m)), some (.int a), none, none, none]) rfl rfl rfl rfl (Nat.le_of_ble_eq_true rfl) (fun E => ?_)
  refine x_aload_n dX3_leastSetWith_0 rfl ?_
  refine x_callVi dX3_leastSetWith_1 ml_X3_117 mt_X3_griefsThere mv_X3_griefsThere (ct_X3_griefsThere hm hN) (by omega) (zM_t0 hm) rfl rfl rfl (Nat.le_of_ble_eq_true rfl) ⟨(Nat.le_of_ble_eq_true rfl), (Nat.le_of_ble_eq_true rfl)⟩ ⟨rfl, rfl⟩ ⟨(Nat.le_of_ble_eq_true rfl), (Nat.le_of_ble_eq_true rfl)⟩ ?_
  refine x_istore_n (lo2 := [_, _, _, _, _]) dX3_leastSetWith_4 (by decide) rfl rfl ?_
  refine x_bipush (v := (-6)) dX3_leastSetWith_5 (by decide) ?_
  refine x_istore_n (lo2 := [_, _, _, _, _]) dX3_leastSetWith_7 (by decide) rfl rfl ?_
  refine x_pc (pc2 := 8) rfl ?_
  refine x_iconst (v := 0) dX3_leastSetWith_8 (by decide) ?_
  refine x_istore (lo2 := [_, _, _, _, _]) dX3_leastSetWith_9 (by decide) rfl rfl ?_
  refine x_loop (inv := fun i => True) (fun i => [some (.ref (g.2.1 + m)), some (.int a), some (.int (gt_ (I (m + 1)) 6)), some (.int (ls_ (I (m + 1)) (I (m + 2)) a i)), some (.int (nI i))]) (fun i => I) (fun i => L) 0 64 (by omega) (by trivial) (by rfl) (by rfl) (by rfl) (fun i hloi hhii hinvi Ki => ?_) (fun hinvi => ?_)
  · skip
    refine x_iload dX3_leastSetWith_11 rfl ?_
    refine x_bipush (v := 64) dX3_leastSetWith_13 (by decide) ?_
    refine x_icmp_ge (tgt := 66) dX3_leastSetWith_15 (by decide) (fun h15 => ?_) (fun h15 => ?_)
    · skip
      exact absurd h15 (nI_ge (b := 64) hhii (by decide))
    · skip
      refine x_iload dX3_leastSetWith_18 rfl ?_
      refine x_iload_n dX3_leastSetWith_20 rfl ?_
      refine x_callNi dX3_leastSetWith_21 nn_X3_67 mt_X8_isWithin st_X8_isWithin (ct_X8_isWithin) rfl rfl (Nat.le_of_ble_eq_true rfl) ⟨(Nat.le_of_ble_eq_true rfl), (Nat.le_of_ble_eq_true rfl)⟩ ⟨rfl, rfl⟩ ⟨(Nat.le_of_ble_eq_true rfl), (Nat.le_of_ble_eq_true rfl)⟩ ?_
      refine x_if_eq (tgt := 60) dX3_leastSetWith_24 (by decide) (fun h24 => ?_) (fun h24 => ?_)
      · skip
        replace h24 := zb0 h24
        refine x_iincN (lo2 := [_, _, _, _, _]) dX3_leastSetWith_60 rfl rfl rfl ?_
        refine x_goto (tgt := 11) dX3_leastSetWith_63 (by decide) ?_
        exact x_eq (by first | (simp [ls_, h15, h24]; done) | (simp [ls_, h15, h24, Int32.not_lt.mpr h54])) (by rfl) (by rfl) (Ki (by trivial))
      · skip
        replace h24 := zb1 h24
        refine x_aload_n dX3_leastSetWith_27 rfl ?_
        refine x_iload dX3_leastSetWith_28 rfl ?_
        refine x_callVi dX3_leastSetWith_30 ml_X3_120 mt_X3_marksOf mv_X3_marksOf (ct_X3_marksOf hm hN) (by omega) (zM_t0 hm) rfl rfl rfl (Nat.le_of_ble_eq_true rfl) ⟨(Nat.le_of_ble_eq_true rfl), (Nat.le_of_ble_eq_true rfl)⟩ ⟨rfl, rfl⟩ ⟨(Nat.le_of_ble_eq_true rfl), (Nat.le_of_ble_eq_true rfl)⟩ ?_
        refine x_iload_n dX3_leastSetWith_33 rfl ?_
        refine x_icmp_ne (tgt := 60) dX3_leastSetWith_34 (by decide) (fun h34 => ?_) (fun h34 => ?_)
        · skip
          refine x_iincN (lo2 := [_, _, _, _, _]) dX3_leastSetWith_60 rfl rfl rfl ?_
          refine x_goto (tgt := 11) dX3_leastSetWith_63 (by decide) ?_
          exact x_eq (by first | (simp [ls_, h15, h24, h34]; done) | (simp [ls_, h15, h24, h34, Int32.not_lt.mpr h54])) (by rfl) (by rfl) (Ki (by trivial))
        · skip
          refine x_iload_n dX3_leastSetWith_37 rfl ?_
          refine x_bipush (v := (-6)) dX3_leastSetWith_38 (by decide) ?_
          refine x_icmp_eq (tgt := 57) dX3_leastSetWith_40 (by decide) (fun h40 => ?_) (fun h40 => ?_)
          · skip
            refine x_iload dX3_leastSetWith_57 rfl ?_
            refine x_istore_n (lo2 := [_, _, _, _, _]) dX3_leastSetWith_59 (by decide) rfl rfl ?_
            refine x_iincN (lo2 := [_, _, _, _, _]) dX3_leastSetWith_60 rfl rfl rfl ?_
            refine x_goto (tgt := 11) dX3_leastSetWith_63 (by decide) ?_
            exact x_eq (by first | (simp [ls_, h15, h24, h34, h40]; done) | (simp [ls_, h15, h24, h34, h40, Int32.not_lt.mpr h54])) (by rfl) (by rfl) (Ki (by trivial))
          · skip
            refine x_aload_n dX3_leastSetWith_43 rfl ?_
            refine x_iload dX3_leastSetWith_44 rfl ?_
            refine x_callVi dX3_leastSetWith_46 ml_X3_123 mt_X3_strengthOf mv_X3_strengthOf (ct_X3_strengthOf hm hN) (by omega) (zM_t0 hm) rfl rfl rfl (Nat.le_of_ble_eq_true rfl) ⟨(Nat.le_of_ble_eq_true rfl), (Nat.le_of_ble_eq_true rfl)⟩ ⟨rfl, rfl⟩ ⟨(Nat.le_of_ble_eq_true rfl), (Nat.le_of_ble_eq_true rfl)⟩ ?_
            refine x_aload_n dX3_leastSetWith_49 rfl ?_
            refine x_iload_n dX3_leastSetWith_50 rfl ?_
            refine x_pc (pc2 := 51) rfl ?_
            refine x_callVi dX3_leastSetWith_51 ml_X3_123 mt_X3_strengthOf mv_X3_strengthOf (ct_X3_strengthOf hm hN) (by omega) (zM_t0 hm) rfl rfl rfl (Nat.le_of_ble_eq_true rfl) ⟨(Nat.le_of_ble_eq_true rfl), (Nat.le_of_ble_eq_true rfl)⟩ ⟨rfl, rfl⟩ ⟨(Nat.le_of_ble_eq_true rfl), (Nat.le_of_ble_eq_true rfl)⟩ ?_
            refine x_icmp_ge (tgt := 60) dX3_leastSetWith_54 (by decide) (fun h54 => ?_) (fun h54 => ?_)
            · skip
              refine x_iincN (lo2 := [_, _, _, _, _]) dX3_leastSetWith_60 rfl rfl rfl ?_
              refine x_goto (tgt := 11) dX3_leastSetWith_63 (by decide) ?_
              exact x_eq (by first | (simp [ls_, h15, h24, h34, h40, h54]; done) | (simp [ls_, h15, h24, h34, h40, h54, Int32.not_lt.mpr h54])) (by rfl) (by rfl) (Ki (by trivial))
            · skip
              refine x_iload dX3_leastSetWith_57 rfl ?_
              refine x_istore_n (lo2 := [_, _, _, _, _]) dX3_leastSetWith_59 (by decide) rfl rfl ?_
              refine x_iincN (lo2 := [_, _, _, _, _]) dX3_leastSetWith_60 rfl rfl rfl ?_
              refine x_goto (tgt := 11) dX3_leastSetWith_63 (by decide) ?_
              exact x_eq (by first | (simp [ls_, h15, h24, h34, h40, h54]; done) | (simp [ls_, h15, h24, h34, h40, h54, Int32.not_lt.mpr h54])) (by rfl) (by rfl) (Ki (by trivial))
  · skip
    refine x_iload dX3_leastSetWith_11 rfl ?_
    refine x_bipush (v := 64) dX3_leastSetWith_13 (by decide) ?_
    refine x_icmp_ge (tgt := 66) dX3_leastSetWith_15 (by decide) (fun h15 => ?_) (fun h15 => ?_)
    · skip
      refine x_iload_n dX3_leastSetWith_66 rfl ?_
      exact x_iret dX3_leastSetWith_67 rfl (Nat.le_of_ble_eq_true rfl) (Nat.le_of_ble_eq_true rfl) ⟨congrArg (fun z => some (Value.int z)) (by rfl), rfl, by rfl, by rfl, rfl⟩
    · skip
      exact absurd (nI_le (b := 64) (Nat.le_refl 64) (by decide)) h15
theorem ct_X3_hoursOf {g : zG} {N : Nat} {I : zI} {L : zL} {q0 q1 : Option Nat} {m : Nat} {a : Int32} (hm : zMi m) (hN : m + 11 ≤ N) : Ct g yX3_hoursOf mX3_hoursOf [.ref (g.2.1 + m), .int a] N I L (zRw q0 q1) (zD (some (.int (ho_ (I (m + 6)) (I (m + 7)) a 8))) N I L (zRw q0 q1)) := by
  refine Ct_of (lo0 := [some (.ref (g.2.1 + m)), some (.int a), none, none]) rfl rfl rfl rfl (Nat.le_of_ble_eq_true rfl) (fun E => ?_)
  refine x_iconst (v := 0) dX3_hoursOf_0 (by decide) ?_
  refine x_istore_n (lo2 := [_, _, _, _]) dX3_hoursOf_1 (by decide) rfl rfl ?_
  refine x_iconst (v := 0) dX3_hoursOf_2 (by decide) ?_
  refine x_istore_n (lo2 := [_, _, _, _]) dX3_hoursOf_3 (by decide) rfl rfl ?_
  refine x_loop (inv := fun i => True) (fun i => [some (.ref (g.2.1 + m)), some (.int a), some (.int (ho_ (I (m + 6)) (I (m + 7)) a i)), some (.int (nI i))]) (fun i => I) (fun i => L) 0 8 (by omega) (by trivial) (by rfl) (by rfl) (by rfl) (fun i hloi hhii hinvi Ki => ?_) (fun hinvi => ?_)
  · skip
    refine x_iload_n dX3_hoursOf_4 rfl ?_
    refine x_bipush (v := 8) dX3_hoursOf_5 (by decide) ?_
    refine x_icmp_ge (tgt := 42) dX3_hoursOf_7 (by decide) (fun h7 => ?_) (fun h7 => ?_)
    · skip
      exact absurd h7 (nI_ge (b := 8) hhii (by decide))
    · skip
      refine x_iload_n dX3_hoursOf_10 rfl ?_
      refine x_iload_n dX3_hoursOf_11 rfl ?_
      refine x_callNi dX3_hoursOf_12 nn_X3_114 mt_X8_isIn st_X8_isIn (ct_X8_isIn) rfl rfl (Nat.le_of_ble_eq_true rfl) ⟨(Nat.le_of_ble_eq_true rfl), (Nat.le_of_ble_eq_true rfl)⟩ ⟨rfl, rfl⟩ ⟨(Nat.le_of_ble_eq_true rfl), (Nat.le_of_ble_eq_true rfl)⟩ ?_
      refine x_if_eq (tgt := 36) dX3_hoursOf_15 (by decide) (fun h15 => ?_) (fun h15 => ?_)
      · skip
        replace h15 := zb0 h15
        refine x_iincN (lo2 := [_, _, _, _]) dX3_hoursOf_36 rfl rfl rfl ?_
        refine x_goto (tgt := 4) dX3_hoursOf_39 (by decide) ?_
        exact x_eq (by simp [ho_, h7, h15]) (by rfl) (by rfl) (Ki (by trivial))
      · skip
        replace h15 := zb1 h15
        refine x_iload_n dX3_hoursOf_18 rfl ?_
        refine x_aload_n dX3_hoursOf_19 rfl ?_
        refine x_getR dX3_hoursOf_20 fl_X3_27 (by omega) (zM_t0 hm) rfl (zM_R5 hm) ?_
        refine x_iload_n dX3_hoursOf_23 rfl ?_
        refine x_ialdN dX3_hoursOf_24 (by omega) (zM_t6 hm) rfl (by omega) ?_
        refine x_pc (pc2 := 25) rfl ?_
        refine x_aload_n dX3_hoursOf_25 rfl ?_
        refine x_getR dX3_hoursOf_26 fl_X3_30 (by omega) (zM_t0 hm) rfl (zM_R6 hm) ?_
        refine x_iload_n dX3_hoursOf_29 rfl ?_
        refine x_ialdN dX3_hoursOf_30 (by omega) (zM_t7 hm) rfl (by omega) ?_
        refine x_callNi dX3_hoursOf_31 nn_X3_126 mt_X8_hoursFrom st_X8_hoursFrom (ct_X8_hoursFrom) rfl rfl (Nat.le_of_ble_eq_true rfl) ⟨(Nat.le_of_ble_eq_true rfl), (Nat.le_of_ble_eq_true rfl)⟩ ⟨rfl, rfl⟩ ⟨(Nat.le_of_ble_eq_true rfl), (Nat.le_of_ble_eq_true rfl)⟩ ?_
        refine x_ior dX3_hoursOf_34 ?_
        refine x_pc (pc2 := 35) rfl ?_
        refine x_istore_n (lo2 := [_, _, _, _]) dX3_hoursOf_35 (by decide) rfl rfl ?_
        refine x_iincN (lo2 := [_, _, _, _]) dX3_hoursOf_36 rfl rfl rfl ?_
        refine x_goto (tgt := 4) dX3_hoursOf_39 (by decide) ?_
        exact x_eq (by simp [ho_, h7, h15]) (by rfl) (by rfl) (Ki (by trivial))
  · skip
    refine x_iload_n dX3_hoursOf_4 rfl ?_
    refine x_bipush (v := 8) dX3_hoursOf_5 (by decide) ?_
    refine x_icmp_ge (tgt := 42) dX3_hoursOf_7 (by decide) (fun h7 => ?_) (fun h7 => ?_)
    · skip
      refine x_iload_n dX3_hoursOf_42 rfl ?_
      exact x_iret dX3_hoursOf_43 rfl (Nat.le_of_ble_eq_true rfl) (Nat.le_of_ble_eq_true rfl) ⟨congrArg (fun z => some (Value.int z)) (by rfl), rfl, by rfl, by rfl, rfl⟩
    · skip
      exact absurd (nI_le (b := 8) (Nat.le_refl 8) (by decide)) h7
theorem ct_X3_fewestCoatsFor {g : zG} {N : Nat} {I : zI} {L : zL} {q0 q1 : Option Nat} {m : Nat} {a : Int32} (hm : zMi m) (hN : m + 11 ≤ N) : Ct g yX3_fewestCoatsFor mX3_fewestCoatsFor [.ref (g.2.1 + m), .int a] N I L (zRw q0 q1) (zD (some (.int (fc_ (I (m + 6)) (I (m + 7)) a 256))) N I L (zRw q0 q1)) := by
  refine Ct_of (lo0 := [some (.ref (g.2.1 + m)), some (.int a), none, none]) rfl rfl rfl rfl (Nat.le_of_ble_eq_true rfl) (fun E => ?_)
  refine x_bipush (v := (-6)) dX3_fewestCoatsFor_0 (by decide) ?_
  refine x_istore_n (lo2 := [_, _, _, _]) dX3_fewestCoatsFor_2 (by decide) rfl rfl ?_
  refine x_iconst (v := 0) dX3_fewestCoatsFor_3 (by decide) ?_
  refine x_istore_n (lo2 := [_, _, _, _]) dX3_fewestCoatsFor_4 (by decide) rfl rfl ?_
  refine x_loop (inv := fun i => True) (fun i => [some (.ref (g.2.1 + m)), some (.int a), some (.int (fc_ (I (m + 6)) (I (m + 7)) a i)), some (.int (nI i))]) (fun i => I) (fun i => L) 0 256 (by omega) (by trivial) (by rfl) (by rfl) (by rfl) (fun i hloi hhii hinvi Ki => ?_) (fun hinvi => ?_)
  · skip
    refine x_iload_n dX3_fewestCoatsFor_5 rfl ?_
    refine x_sipush (v := 256) dX3_fewestCoatsFor_6 (by decide) ?_
    refine x_icmp_ge (tgt := 49) dX3_fewestCoatsFor_9 (by decide) (fun h9 => ?_) (fun h9 => ?_)
    · skip
      exact absurd h9 (nI_ge (b := 256) hhii (by decide))
    · skip
      refine x_iload_n dX3_fewestCoatsFor_12 rfl ?_
      refine x_bipush (v := (-6)) dX3_fewestCoatsFor_13 (by decide) ?_
      refine x_icmp_eq (tgt := 29) dX3_fewestCoatsFor_15 (by decide) (fun h15 => ?_) (fun h15 => ?_)
      · skip
        refine x_iload_n dX3_fewestCoatsFor_29 rfl ?_
        refine x_aload_n dX3_fewestCoatsFor_30 rfl ?_
        refine x_iload_n dX3_fewestCoatsFor_31 rfl ?_
        refine x_callVi dX3_fewestCoatsFor_32 ml_X3_129 mt_X3_hoursOf mv_X3_hoursOf (ct_X3_hoursOf hm hN) (by omega) (zM_t0 hm) rfl rfl rfl (Nat.le_of_ble_eq_true rfl) ⟨(Nat.le_of_ble_eq_true rfl), (Nat.le_of_ble_eq_true rfl)⟩ ⟨rfl, rfl⟩ ⟨(Nat.le_of_ble_eq_true rfl), (Nat.le_of_ble_eq_true rfl)⟩ ?_
        refine x_callNi dX3_fewestCoatsFor_35 nn_X3_67 mt_X8_isWithin st_X8_isWithin (ct_X8_isWithin) rfl rfl (Nat.le_of_ble_eq_true rfl) ⟨(Nat.le_of_ble_eq_true rfl), (Nat.le_of_ble_eq_true rfl)⟩ ⟨rfl, rfl⟩ ⟨(Nat.le_of_ble_eq_true rfl), (Nat.le_of_ble_eq_true rfl)⟩ ?_
        refine x_pc (pc2 := 38) rfl ?_
        refine x_if_eq (tgt := 43) dX3_fewestCoatsFor_38 (by decide) (fun h38 => ?_) (fun h38 => ?_)
        · skip
          replace h38 := zb0 h38
          refine x_iincN (lo2 := [_, _, _, _]) dX3_fewestCoatsFor_43 rfl rfl rfl ?_
          refine x_goto (tgt := 5) dX3_fewestCoatsFor_46 (by decide) ?_
          exact x_eq (by first | (simp [fc_, h9, h15, h38]; done) | (simp [fc_, h9, h15, h38, Int32.not_lt.mpr h26])) (by rfl) (by rfl) (Ki (by trivial))
        · skip
          replace h38 := zb1 h38
          refine x_iload_n dX3_fewestCoatsFor_41 rfl ?_
          refine x_istore_n (lo2 := [_, _, _, _]) dX3_fewestCoatsFor_42 (by decide) rfl rfl ?_
          refine x_iincN (lo2 := [_, _, _, _]) dX3_fewestCoatsFor_43 rfl rfl rfl ?_
          refine x_goto (tgt := 5) dX3_fewestCoatsFor_46 (by decide) ?_
          exact x_eq (by first | (simp [fc_, h9, h15, h38]; done) | (simp [fc_, h9, h15, h38, Int32.not_lt.mpr h26])) (by rfl) (by rfl) (Ki (by trivial))
      · skip
        refine x_iload_n dX3_fewestCoatsFor_18 rfl ?_
        refine x_callSi dX3_fewestCoatsFor_19 ml_X3_61 mt_J6_bitCount_0f7a4 st_J6_bitCount_0f7a4 (ct_J6_bitCount_0f7a4) rfl rfl (Nat.le_of_ble_eq_true rfl) ⟨(Nat.le_of_ble_eq_true rfl), (Nat.le_of_ble_eq_true rfl)⟩ ⟨rfl, rfl⟩ ⟨(Nat.le_of_ble_eq_true rfl), (Nat.le_of_ble_eq_true rfl)⟩ ?_
        refine x_iload_n dX3_fewestCoatsFor_22 rfl ?_
        refine x_callSi dX3_fewestCoatsFor_23 ml_X3_61 mt_J6_bitCount_0f7a4 st_J6_bitCount_0f7a4 (ct_J6_bitCount_0f7a4) rfl rfl (Nat.le_of_ble_eq_true rfl) ⟨(Nat.le_of_ble_eq_true rfl), (Nat.le_of_ble_eq_true rfl)⟩ ⟨rfl, rfl⟩ ⟨(Nat.le_of_ble_eq_true rfl), (Nat.le_of_ble_eq_true rfl)⟩ ?_
        refine x_icmp_ge (tgt := 43) dX3_fewestCoatsFor_26 (by decide) (fun h26 => ?_) (fun h26 => ?_)
        · skip
          refine x_iincN (lo2 := [_, _, _, _]) dX3_fewestCoatsFor_43 rfl rfl rfl ?_
          refine x_goto (tgt := 5) dX3_fewestCoatsFor_46 (by decide) ?_
          exact x_eq (by first | (simp [fc_, h9, h15, h26]; done) | (simp [fc_, h9, h15, h26, Int32.not_lt.mpr h26])) (by rfl) (by rfl) (Ki (by trivial))
        · skip
          refine x_iload_n dX3_fewestCoatsFor_29 rfl ?_
          refine x_aload_n dX3_fewestCoatsFor_30 rfl ?_
          refine x_iload_n dX3_fewestCoatsFor_31 rfl ?_
          refine x_callVi dX3_fewestCoatsFor_32 ml_X3_129 mt_X3_hoursOf mv_X3_hoursOf (ct_X3_hoursOf hm hN) (by omega) (zM_t0 hm) rfl rfl rfl (Nat.le_of_ble_eq_true rfl) ⟨(Nat.le_of_ble_eq_true rfl), (Nat.le_of_ble_eq_true rfl)⟩ ⟨rfl, rfl⟩ ⟨(Nat.le_of_ble_eq_true rfl), (Nat.le_of_ble_eq_true rfl)⟩ ?_
          refine x_callNi dX3_fewestCoatsFor_35 nn_X3_67 mt_X8_isWithin st_X8_isWithin (ct_X8_isWithin) rfl rfl (Nat.le_of_ble_eq_true rfl) ⟨(Nat.le_of_ble_eq_true rfl), (Nat.le_of_ble_eq_true rfl)⟩ ⟨rfl, rfl⟩ ⟨(Nat.le_of_ble_eq_true rfl), (Nat.le_of_ble_eq_true rfl)⟩ ?_
          refine x_pc (pc2 := 38) rfl ?_
          refine x_if_eq (tgt := 43) dX3_fewestCoatsFor_38 (by decide) (fun h38 => ?_) (fun h38 => ?_)
          · skip
            replace h38 := zb0 h38
            refine x_iincN (lo2 := [_, _, _, _]) dX3_fewestCoatsFor_43 rfl rfl rfl ?_
            refine x_goto (tgt := 5) dX3_fewestCoatsFor_46 (by decide) ?_
            exact x_eq (by first | (simp [fc_, h9, h15, h26, h38]; done) | (simp [fc_, h9, h15, h26, h38, Int32.not_lt.mpr h26])) (by rfl) (by rfl) (Ki (by trivial))
          · skip
            replace h38 := zb1 h38
            refine x_iload_n dX3_fewestCoatsFor_41 rfl ?_
            refine x_istore_n (lo2 := [_, _, _, _]) dX3_fewestCoatsFor_42 (by decide) rfl rfl ?_
            refine x_iincN (lo2 := [_, _, _, _]) dX3_fewestCoatsFor_43 rfl rfl rfl ?_
            refine x_goto (tgt := 5) dX3_fewestCoatsFor_46 (by decide) ?_
            exact x_eq (by first | (simp [fc_, h9, h15, h26, h38]; done) | (simp [fc_, h9, h15, h26, h38, Int32.not_lt.mpr h26])) (by rfl) (by rfl) (Ki (by trivial))
  · skip
    refine x_iload_n dX3_fewestCoatsFor_5 rfl ?_
    refine x_sipush (v := 256) dX3_fewestCoatsFor_6 (by decide) ?_
    refine x_icmp_ge (tgt := 49) dX3_fewestCoatsFor_9 (by decide) (fun h9 => ?_) (fun h9 => ?_)
    · skip
      refine x_iload_n dX3_fewestCoatsFor_49 rfl ?_
      exact x_iret dX3_fewestCoatsFor_50 rfl (Nat.le_of_ble_eq_true rfl) (Nat.le_of_ble_eq_true rfl) ⟨congrArg (fun z => some (Value.int z)) (by rfl), rfl, by rfl, by rfl, rfl⟩
    · skip
      exact absurd (nI_le (b := 256) (Nat.le_refl 256) (by decide)) h9
theorem ct_X3_addSight {g : zG} {N : Nat} {I : zI} {L : zL} {q0 q1 : Option Nat} {j : Int32} {b : Bool} {n : Nat} (hN : 58 ≤ N) (hn : n ≤ 8) (hs : I 1 10 = nI n) : Ct g yX3_addSight mX3_addSight [.ref (g.2.1 + 1), .int j, .int (zb b)] N I L (zRw q0 q1) (zD (some (.int (zb (decide (n < 8))))) N (if n < 8 then zu (zu (zu I 10 n j) 11 n (zb b)) 1 10 (nI (n + 1)) else I) L (zRw q0 q1)) := by
  refine Ct_of (lo0 := [some (.ref (g.2.1 + 1)), some (.int j), some (.int (zb b))]) rfl rfl rfl rfl (Nat.le_of_ble_eq_true rfl) (fun E => ?_)
  refine x_aload_n dX3_addSight_0 rfl ?_
  refine x_getI dX3_addSight_1 fl_X3_43 (by omega) rfl rfl ?_
  refine x_bipush (v := 8) dX3_addSight_4 (by decide) ?_
  refine x_icmp_lt (tgt := 11) dX3_addSight_6 (by decide) (fun h6 => ?_) (fun h6 => ?_)
  · skip
    have hn8 : n < 8 := by rw [hs] at h6; exact (nI_ltI (b := 8) (by omega) (by decide)).mp h6
    refine x_aload_n dX3_addSight_11 rfl ?_
    refine x_getR dX3_addSight_12 fl_X3_36 (by omega) rfl rfl rfl ?_
    refine x_aload_n dX3_addSight_15 rfl ?_
    refine x_getI dX3_addSight_16 fl_X3_43 (by omega) rfl rfl ?_
    refine x_iload_n dX3_addSight_19 rfl ?_
    refine x_pc (pc2 := 20) rfl ?_
    refine x_iast dX3_addSight_20 (by omega) rfl hs hn8 ?_
    refine x_aload_n dX3_addSight_21 rfl ?_
    refine x_getR dX3_addSight_22 fl_X3_39 (by omega) rfl rfl rfl ?_
    refine x_aload_n dX3_addSight_25 rfl ?_
    refine x_getI dX3_addSight_26 fl_X3_43 (by omega) rfl rfl ?_
    refine x_iload_n dX3_addSight_29 rfl ?_
    refine x_pc (pc2 := 30) rfl ?_
    refine x_zast dX3_addSight_30 (by omega) rfl hs hn8 (zb_nar _) ?_
    refine x_aload_n dX3_addSight_31 rfl ?_
    refine x_dup dX3_addSight_32 rfl ?_
    refine x_getI dX3_addSight_33 fl_X3_43 (by omega) rfl rfl ?_
    refine x_iconst (v := 1) dX3_addSight_36 (by decide) ?_
    refine x_iadd dX3_addSight_37 ?_
    refine x_pc (pc2 := 38) rfl ?_
    refine x_putI dX3_addSight_38 fp_X3_43 (by omega) rfl ?_
    refine x_iconst (v := 1) dX3_addSight_41 (by decide) ?_
    exact x_zret dX3_addSight_42 rfl rfl (Nat.le_of_ble_eq_true rfl) (Nat.le_of_ble_eq_true rfl) ⟨congrArg (fun z => some (Value.int z)) (by first | (simp [hn8, zb]; done) | (rw [hs] at h6; have h6 := mt (nI_ltI (b := 8) (show n < 2 ^ 31 by omega) (by decide)).mpr h6; simp [h6, zb])), rfl, by first | (simp [hn8, zu, hs, nI_succ]; done) | (rw [hs] at h6; have h6 := mt (nI_ltI (b := 8) (show n < 2 ^ 31 by omega) (by decide)).mpr h6; simp [h6]), by rfl, rfl⟩
  · skip
    refine x_iconst (v := 0) dX3_addSight_9 (by decide) ?_
    exact x_zret dX3_addSight_10 rfl rfl (Nat.le_of_ble_eq_true rfl) (Nat.le_of_ble_eq_true rfl) ⟨congrArg (fun z => some (Value.int z)) (by first | (simp [hn8, zb]; done) | (rw [hs] at h6; have h6 := mt (nI_ltI (b := 8) (show n < 2 ^ 31 by omega) (by decide)).mpr h6; simp [h6, zb])), rfl, by first | (simp [hn8, zu, hs, nI_succ]; done) | (rw [hs] at h6; have h6 := mt (nI_ltI (b := 8) (show n < 2 ^ 31 by omega) (by decide)).mpr h6; simp [h6]), by rfl, rfl⟩
theorem ct_X3_isAsSeen {g : zG} {N : Nat} {I : zI} {L : zL} {q0 q1 : Option Nat} {a : Int32} {n : Nat} (hN : 58 ≤ N) (hn : n ≤ 8) (hs : I 1 10 = nI n) (hh : ∀ i, i < 8 → ∃ k, k < 6 ∧ I 10 i = nI k) : Ct g yX3_isAsSeen mX3_isAsSeen [.ref (g.2.1 + 1), .int a] N I L (zRw q0 q1) (zD (some (.int (zb (has_ (I 4) (I 10) (I 11) a n)))) N I L (zRw q0 q1)) := by
  refine Ct_of (lo0 := [some (.ref (g.2.1 + 1)), some (.int a), none]) rfl rfl rfl rfl (Nat.le_of_ble_eq_true rfl) (fun E => ?_)
  refine x_iconst (v := 0) dX3_isAsSeen_0 (by decide) ?_
  refine x_istore_n (lo2 := [_, _, _]) dX3_isAsSeen_1 (by decide) rfl rfl ?_
  refine x_loop (inv := fun i => has_ (I 4) (I 10) (I 11) a i = true) (fun i => [some (.ref (g.2.1 + 1)), some (.int a), some (.int (nI i))]) (fun i => I) (fun i => L) 0 n (by omega) (by rfl) (by rfl) (by rfl) (by rfl) (fun i hloi hhii hinvi Ki => ?_) (fun hinvi => ?_)
  · skip
    refine x_iload_n dX3_isAsSeen_2 rfl ?_
    refine x_aload_n dX3_isAsSeen_3 rfl ?_
    refine x_getI dX3_isAsSeen_4 fl_X3_43 (by omega) rfl rfl ?_
    refine x_icmp_ge (tgt := 48) dX3_isAsSeen_7 (by decide) (fun h7 => ?_) (fun h7 => ?_)
    · skip
      exact absurd (hs ▸ h7) (nI_ge hhii (by omega))
    · skip
      refine x_iload_n dX3_isAsSeen_10 rfl ?_
      refine x_bipush (v := 8) dX3_isAsSeen_11 (by decide) ?_
      refine x_icmp_ge (tgt := 48) dX3_isAsSeen_13 (by decide) (fun h13 => ?_) (fun h13 => ?_)
      · skip
        exact absurd h13 (nI_ge (b := 8) (show i < 8 by omega) (by decide))
      · skip
        obtain ⟨k, hk, hk2⟩ := hh i (by omega)
        refine x_aload_n dX3_isAsSeen_16 rfl ?_
        refine x_getR dX3_isAsSeen_17 fl_X3_18 (by omega) rfl rfl rfl ?_
        refine x_aload_n dX3_isAsSeen_20 rfl ?_
        refine x_getR dX3_isAsSeen_21 fl_X3_36 (by omega) rfl rfl rfl ?_
        refine x_iload_n dX3_isAsSeen_24 rfl ?_
        refine x_pc (pc2 := 25) rfl ?_
        refine x_ialdN dX3_isAsSeen_25 (by omega) rfl rfl (by omega) ?_
        refine x_ialdN dX3_isAsSeen_26 (by omega) rfl hk2 hk ?_
        refine x_iload_n dX3_isAsSeen_27 rfl ?_
        refine x_callNi dX3_isAsSeen_28 nn_X3_67 mt_X8_isWithin st_X8_isWithin (ct_X8_isWithin) rfl rfl (Nat.le_of_ble_eq_true rfl) ⟨(Nat.le_of_ble_eq_true rfl), (Nat.le_of_ble_eq_true rfl)⟩ ⟨rfl, rfl⟩ ⟨(Nat.le_of_ble_eq_true rfl), (Nat.le_of_ble_eq_true rfl)⟩ ?_
        refine x_aload_n dX3_isAsSeen_31 rfl ?_
        refine x_getR dX3_isAsSeen_32 fl_X3_39 (by omega) rfl rfl rfl ?_
        refine x_pc (pc2 := 35) rfl ?_
        refine x_iload_n dX3_isAsSeen_35 rfl ?_
        refine x_zald dX3_isAsSeen_36 (by omega) rfl rfl (by omega) ?_
        refine x_icmp_eq (tgt := 42) dX3_isAsSeen_37 (by decide) (fun h37 => ?_) (fun h37 => ?_)
        · skip
          refine x_iincN (lo2 := [_, _, _]) dX3_isAsSeen_42 rfl rfl rfl ?_
          refine x_goto (tgt := 2) dX3_isAsSeen_45 (by decide) ?_
          exact x_eq (by rfl) (by rfl) (by rfl) (Ki (by simp [has_, hinvi, h37, nI_clamp (show k < 2 ^ 31 by omega), hk2]))
        · skip
          refine x_iconst (v := 0) dX3_isAsSeen_40 (by decide) ?_
          exact x_zret dX3_isAsSeen_41 rfl rfl (Nat.le_of_ble_eq_true rfl) (Nat.le_of_ble_eq_true rfl) ⟨congrArg (fun z => some (Value.int z)) (by rw [has_no (i := i) (by simp [has_, h37, nI_clamp (show k < 2 ^ 31 by omega), hk2]) hhii]; rfl), rfl, by rfl, by rfl, rfl⟩
  · skip
    refine x_iload_n dX3_isAsSeen_2 rfl ?_
    refine x_aload_n dX3_isAsSeen_3 rfl ?_
    refine x_getI dX3_isAsSeen_4 fl_X3_43 (by omega) rfl rfl ?_
    refine x_icmp_ge (tgt := 48) dX3_isAsSeen_7 (by decide) (fun h7 => ?_) (fun h7 => ?_)
    · skip
      refine x_iconst (v := 1) dX3_isAsSeen_48 (by decide) ?_
      exact x_zret dX3_isAsSeen_49 rfl rfl (Nat.le_of_ble_eq_true rfl) (Nat.le_of_ble_eq_true rfl) ⟨congrArg (fun z => some (Value.int z)) (by rw [hinvi]; rfl), rfl, by rfl, by rfl, rfl⟩
    · skip
      exact absurd (hs ▸ nI_le (Nat.le_refl n) (by omega)) h7
