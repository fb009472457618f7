/-! THE Z LAYER: one world for all methods. Every cell that the law makes has a place k, counted from the first (address b + k); what kind of cell stands at a place is fixed ahead (zts); what the cells hold are three functions: ints, longs, references (places). -/
abbrev zI : Type := Nat → Nat → Int32
abbrev zL : Type := Nat → Nat → Int64
abbrev zR : Type := Nat → Nat → Option Nat
abbrev zcl : List vw_C := [(RX0, TX0, 3), (RX1, TX1, 7), (RX2, TX2, 2), (RX3, TX3, 13), (RX4, TX4, 4), (RX5, TX5, 2), (RX6, TX6, 1), (RX7, TX7, 2), (RX8, TX8, 8), (RX9, TX9, 24)]
/-- fields of a class -/
def zcn (c : Nat) : Nat := [3, 7, 2, 13, 4, 2, 1, 2, 8, 24].getD c 0
/-- which fields are references -/
def zrfs : List (List Bool) := [[false, false, false], [true, true, false, false, false, false, false], [true, true], [true, true, true, true, true, true, true, true, true, true, false, false, false], [true, true, true, false], [true, false], [true], [true, false], [true, true, true, true, true, true, true, true], [true, true, true, true, true, true, true, false, true, false, true, false, false, false, false, false, true, true, true, true, true, true, true, true]]
def zrf (c j : Nat) : Bool := (zrfs.getD c []).getD j false
/-- kind and length of the cell at a place: 0 int rows, 1 long rows, 2 boolean rows, 3 rows of Mires, 4 + c objects of class c -/
def zmire : List (Nat × Nat) := [(7, 13), (0, 6), (0, 6), (0, 6), (0, 6), (0, 6), (0, 8), (0, 8), (0, 10), (0, 8), (2, 8)]
def zts : List (Nat × Nat) := (12, 8) :: (zmire ++ ([(9, 2), (0, 60), (5, 7)] ++ (zmire ++ ([(4, 3), (10, 1), (0, 100), (8, 4), (10, 1), (0, 100), (0, 6), (0, 64), (11, 2), (0, 256), (6, 2), (0, 10), (0, 10), (3, 2), (13, 24), (0, 15), (0, 15), (0, 6), (0, 6), (0, 6), (0, 8), (0, 10), (0, 16), (0, 60), (0, 100), (0, 6), (0, 64), (0, 10), (0, 10), (1, 19), (0, 160), (2, 2)] ++ (zmire ++ zmire)))))
def zt (k : Nat) : Nat × Nat := zts.getD k (0, 0)
/-- the private members of nest mates that are called: caller's class, pool entry, method, host -/
def zNW : List (String × Nat × MethodName × String) := [(RX8, 18, yX5_init, RX8), (RX8, 25, yX1_init, RX8), (RX1, 20, yX0_init, RX8), (RX8, 32, yX6_init, RX8), (RX8, 39, yX4_init, RX8), (RX4, 11, yX6_init, RX8), (RX8, 46, yX7_init, RX8), (RX8, 53, yX2_init, RX8), (RX5, 31, yX8_isFrom, RX8), (RX3, 53, yX8_copyRow, RX8), (RX3, 57, yX8_isFrom, RX8), (RX3, 103, yX8_isHold, RX8), (RX3, 67, yX8_isWithin, RX8), (RX6, 24, yX8_isFrom, RX8), (RX6, 33, yX8_isIn, RX8), (RX4, 39, yX8_isWithin, RX8), (RX4, 47, yX8_isIn, RX8), (RX3, 114, yX8_isIn, RX8), (RX3, 126, yX8_hoursFrom, RX8), (RX7, 25, yX8_isFrom, RX8), (RX7, 36, yX8_isWithin, RX8), (RX2, 30, yX8_isIn, RX8)]
/-- launch, base address, array classes, object classes -/
abbrev zG : Type := Launch × Nat × (Nat → ClassId) × va_G
def zvr (b : Nat) (r : Option Nat) : Option Nat := r.map (fun q => b + q)
def zc (b : Nat) (D : Nat → ClassId) (I : zI) (L : zL) (R : zR) (k : Nat) : va_E := match (zt k).1 with
  | 0 => .inl (D 0, (zt k).2, .inl (I k))
  | 1 => .inl (D 1, (zt k).2, .inr (.inl (L k)))
  | 2 => .inl (D 2, (zt k).2, .inl (I k))
  | 3 => .inl (D 3, (zt k).2, .inr (.inr (.inr (.inr (fun j => zvr b (R k j))))))
  | c + 4 => .inr (c, (List.range (zcn c)).map (fun j => if zrf c j = true then va_rf (zvr b (R k j)) else .int (I k j)))
def zw (b : Nat) (D : Nat → ClassId) (N : Nat) (I : zI) (L : zL) (R : zR) : va_W := (List.range N).map (fun k => (b + k, zc b D I L R k))
def ztys (D : Nat → ClassId) : List (ClassId × FieldType) := [(D 0, .int), (D 1, .long), (D 2, .boolean), (D 3, .object "MireWrestle$Mire")]
def zP (g : zG) (N : Nat) (I : zI) (L : zL) (R : zR) (H : Heap) : Prop := H.size = g.2.1 + N ∧ va_P g.2.2.2 zcl (zw g.2.1 g.2.2.1 N I L R) H
def zS (g : zG) (U : State) : Prop := va_K g.2.2.2 zcl (ztys g.2.2.1) U ∧ (∀ q ∈ zNW, va_Nw (.methodLinkNest q.1 q.2.1 q.2.2.1 q.2.2.2) U) ∧ va_AO "MireWrestle$Mire" U
theorem zS.warm {g : zG} {s U : State} (hW : s.WarmedH U.vm) (h : zS g s) : zS g U := ⟨va_K.moved hW.alike h.1, fun q hq => va_Nw.warmM hW (h.2.1 q hq), va_AO.moved hW.alike h.2.2⟩
theorem zS.same {g : zG} {u U : State} (e : u.vm = U.vm) (h : zS g u) : zS g U := ⟨va_K.moved (by rw [← e]; exact Vm.Alike.refl u.vm) h.1, fun q hq => va_Nw.same rfl e (h.2.1 q hq), va_AO.moved (by rw [← e]; exact Vm.Alike.refl u.vm) h.2.2⟩
theorem zw_at {b : Nat} {D : Nat → ClassId} {N : Nat} {I : zI} {L : zL} {R : zR} {k : Nat} (hk : k < N) : (zw b D N I L R)[k]? = some (b + k, zc b D I L R k) := by
  simp [zw, List.getElem?_map, List.getElem?_range hk]
theorem zw_some {b : Nat} {D : Nat → ClassId} {N : Nat} {I : zI} {L : zL} {R : zR} {k : Nat} {q : Nat × va_E} (h : (zw b D N I L R)[k]? = some q) : k < N ∧ q = (b + k, zc b D I L R k) := by
  have hl := (List.getElem?_eq_some_iff.mp h).1
  have hk : k < N := by simpa [zw] using hl
  rw [zw_at hk] at h
  exact ⟨hk, (Option.some.inj h).symm⟩
theorem zw_D {b : Nat} {D : Nat → ClassId} {N : Nat} {I : zI} {L : zL} {R : zR} : va_D (fun q => b ≤ q) (zw b D N I L R) := by
  refine ⟨fun i j p q hi hj e => ?_, fun k q h => ?_⟩
  · obtain ⟨-, rfl⟩ := zw_some hi
    obtain ⟨-, rfl⟩ := zw_some hj
    have e : b + i = b + j := e
    omega
  · obtain ⟨-, rfl⟩ := zw_some h
    exact Nat.le_add_right b k
/-- two worlds that agree on every place but k, where the new cell is e -/
theorem zw_set {b : Nat} {D : Nat → ClassId} {N : Nat} {I I' : zI} {L L' : zL} {R R' : zR} {k : Nat} {e : va_E} (he : zc b D I' L' R' k = e) (ho : ∀ j, j ≠ k → zc b D I' L' R' j = zc b D I L R j) : (zw b D N I L R).set k (b + k, e) = zw b D N I' L' R' := by
  apply List.ext_getElem?
  intro i
  by_cases hi : i < N
  · rw [zw_at hi]
    by_cases hk : i = k
    · subst hk
      rw [List.getElem?_set_self (by simpa [zw] using hi), he]
    · rw [List.getElem?_set_ne (Ne.symm hk), zw_at hi, ho i hk]
  · rw [List.getElem?_eq_none (by simp [zw]; omega), List.getElem?_eq_none (by simp [zw]; omega)]
theorem zw_push {b : Nat} {D : Nat → ClassId} {N : Nat} {I I' : zI} {L L' : zL} {R R' : zR} {e : va_E} (he : zc b D I' L' R' N = e) (ho : ∀ j, j < N → zc b D I' L' R' j = zc b D I L R j) : zw b D N I L R ++ [(b + N, e)] = zw b D (N + 1) I' L' R' := by
  apply List.ext_getElem?
  intro i
  by_cases hi : i < N
  · rw [List.getElem?_append_left (by simpa [zw] using hi), zw_at hi, zw_at (by omega), ho i hi]
  · rw [List.getElem?_append_right (by simp [zw]; omega)]
    by_cases hN : i = N
    · subst hN
      rw [zw_at (by omega), he]
      simp [zw]
    · rw [List.getElem?_eq_none (by simp [zw]; omega), List.getElem?_eq_none (by simp [zw]; omega)]
theorem zc_int {b : Nat} {D : Nat → ClassId} {I : zI} {L : zL} {R : zR} {k n : Nat} (h : zt k = (0, n)) : zc b D I L R k = .inl (D 0, n, .inl (I k)) := by simp [zc, h]
theorem zc_long {b : Nat} {D : Nat → ClassId} {I : zI} {L : zL} {R : zR} {k n : Nat} (h : zt k = (1, n)) : zc b D I L R k = .inl (D 1, n, .inr (.inl (L k))) := by simp [zc, h]
theorem zc_bool {b : Nat} {D : Nat → ClassId} {I : zI} {L : zL} {R : zR} {k n : Nat} (h : zt k = (2, n)) : zc b D I L R k = .inl (D 2, n, .inl (I k)) := by simp [zc, h]
theorem zc_ref {b : Nat} {D : Nat → ClassId} {I : zI} {L : zL} {R : zR} {k n : Nat} (h : zt k = (3, n)) : zc b D I L R k = .inl (D 3, n, .inr (.inr (.inr (.inr (fun j => zvr b (R k j)))))) := by simp [zc, h]
theorem zc_obj {b : Nat} {D : Nat → ClassId} {I : zI} {L : zL} {R : zR} {k c n : Nat} (h : zt k = (c + 4, n)) : zc b D I L R k = .inr (c, (List.range (zcn c)).map (fun j => if zrf c j = true then va_rf (zvr b (R k j)) else .int (I k j))) := by simp [zc, h]
/-- the worlds that are told by what is seen of them: a place's cell hangs on what stands at that place alone -/
theorem zc_congr {b : Nat} {D : Nat → ClassId} {I I' : zI} {L L' : zL} {R R' : zR} {k : Nat} (hI : ∀ j, I' k j = I k j) (hL : ∀ j, L' k j = L k j) (hR : ∀ j, R' k j = R k j) : zc b D I' L' R' k = zc b D I L R k := by
  have e1 : I' k = I k := funext hI
  have e2 : L' k = L k := funext hL
  have e3 : R' k = R k := funext hR
  simp only [zc, e1, e2, e3]
/-- a new int at one place -/
def zu (I : zI) (k j : Nat) (v : Int32) : zI := fun a i => if a = k then (if i = j then v else I k i) else I a i
def zuL (L : zL) (k j : Nat) (v : Int64) : zL := fun a i => if a = k then (if i = j then v else L k i) else L a i
def zuR (R : zR) (k j : Nat) (v : Option Nat) : zR := fun a i => if a = k then (if i = j then v else R k i) else R a i
theorem zu_row (I : zI) (k j : Nat) (v : Int32) : zu I k j v k = upd (I k) j v := by funext i; simp [zu, upd]
theorem zu_self (I : zI) (k j : Nat) (v : Int32) : zu I k j v k j = v := by simp [zu]
theorem zu_ne (I : zI) {k j a i : Nat} (v : Int32) (h : a ≠ k ∨ i ≠ j) : zu I k j v a i = I a i := by
  unfold zu
  by_cases h1 : a = k
  · subst h1
    rw [if_pos rfl, if_neg]
    rcases h with h | h
    · exact absurd rfl h
    · exact h
  · rw [if_neg h1]
theorem zu_same {I : zI} {k j : Nat} {v : Int32} (h : I k j = v) : zu I k j v = I := by
  funext a i
  unfold zu
  by_cases h1 : a = k
  · subst h1
    rw [if_pos rfl]
    by_cases h2 : i = j
    · subst h2; rw [if_pos rfl, h]
    · rw [if_neg h2]
  · rw [if_neg h1]
/-- fresh cells: zeros, no references -/
def z0 (I : zI) (k : Nat) : zI := fun a i => if a = k then 0 else I a i
def z0L (L : zL) (k : Nat) : zL := fun a i => if a = k then 0 else L a i
def z0R (R : zR) (k : Nat) : zR := fun a i => if a = k then none else R a i
