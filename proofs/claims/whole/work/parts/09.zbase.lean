/-! what the walks use: truth values as ints, the places of Mires, the references of the finished world -/
def zb : Bool → Int32
  | true => 1
  | false => 0
theorem zb0 {p : Bool} (h : zb p = 0) : p = false := by
  cases p
  · rfl
  · exact absurd h (by decide)
theorem zb1 {p : Bool} (h : ¬ zb p = 0) : p = true := by
  cases p
  · exact absurd rfl h
  · rfl
theorem zb_nar (p : Bool) : narrow .boolean (.int (zb p)) = .int (zb p) := by cases p <;> rfl
def zin (n lo hi : Int32) : Bool := decide (lo ≤ n) && decide (n ≤ hi)
theorem zin_t {n lo hi : Int32} (h : zin n lo hi = true) : lo ≤ n ∧ n ≤ hi := by simpa [zin] using h
theorem zin_nI {a b n : Nat} (ha : a < 2 ^ 31) (hb : b < 2 ^ 31) (hn : n < 2 ^ 31) : zin (nI n) (nI a) (nI b) = (decide (a ≤ n) && decide (n ≤ b)) := by
  simp [zin, nI_leI ha hn, nI_leI hn hb]
/-- an int from 0 to b is a number below b + 1 -/
theorem zin_ex {x : Int32} {b : Nat} (hb : b < 2 ^ 30) (h : zin x 0 (nI b) = true) : ∃ i : Nat, i < b + 1 ∧ x = nI i := by
  obtain ⟨h1, h2⟩ := zin_t h
  have hx : ¬ x < 0 := Int32.not_lt.mpr h1
  obtain ⟨j, hj, rfl⟩ := nI_of hx
  refine ⟨j, ?_, rfl⟩
  have := (nI_leI hj (by omega)).mp h2
  omega
def zMi (m : Nat) : Prop := m = 1 ∨ m = 15 ∨ m = 58 ∨ m = 69
theorem zM_t0 {m : Nat} (h : zMi m) : (zt m).1 = 3 + 4 := by rcases h with rfl | rfl | rfl | rfl <;> rfl
theorem zM_t1 {m : Nat} (h : zMi m) : zt (m + 1) = (0, 6) := by rcases h with rfl | rfl | rfl | rfl <;> rfl
theorem zM_t2 {m : Nat} (h : zMi m) : zt (m + 2) = (0, 6) := by rcases h with rfl | rfl | rfl | rfl <;> rfl
theorem zM_t3 {m : Nat} (h : zMi m) : zt (m + 3) = (0, 6) := by rcases h with rfl | rfl | rfl | rfl <;> rfl
theorem zM_t4 {m : Nat} (h : zMi m) : zt (m + 4) = (0, 6) := by rcases h with rfl | rfl | rfl | rfl <;> rfl
theorem zM_t5 {m : Nat} (h : zMi m) : zt (m + 5) = (0, 6) := by rcases h with rfl | rfl | rfl | rfl <;> rfl
theorem zM_t6 {m : Nat} (h : zMi m) : zt (m + 6) = (0, 8) := by rcases h with rfl | rfl | rfl | rfl <;> rfl
theorem zM_t7 {m : Nat} (h : zMi m) : zt (m + 7) = (0, 8) := by rcases h with rfl | rfl | rfl | rfl <;> rfl
theorem zM_t8 {m : Nat} (h : zMi m) : zt (m + 8) = (0, 10) := by rcases h with rfl | rfl | rfl | rfl <;> rfl
theorem zM_t9 {m : Nat} (h : zMi m) : zt (m + 9) = (0, 8) := by rcases h with rfl | rfl | rfl | rfl <;> rfl
theorem zM_t10 {m : Nat} (h : zMi m) : zt (m + 10) = (2, 8) := by rcases h with rfl | rfl | rfl | rfl <;> rfl
def zrl (q0 q1 : Option Nat) : List (List (Option Nat)) := [[some 1, some 12, some 14, some 27, some 29, some 34, some 36, some 39], [some 2, some 3, some 4, some 5, some 6, some 7, some 8, some 9, some 10, some 11], [], [], [], [], [], [], [], [], [], [], [some 13], [], [some 15, some 26], [some 16, some 17, some 18, some 19, some 20, some 21, some 22, some 23, some 24, some 25], [], [], [], [], [], [], [], [], [], [], [], [some 28], [], [some 30, some 32, some 33], [some 31], [], [], [], [some 35], [], [some 37, some 38], [], [], [q0, q1], [some 41, some 42, some 43, some 44, some 45, some 46, some 47, none, some 48, none, some 49, none, none, none, none, none, some 50, some 51, some 52, some 53, some 54, some 55, some 56, some 57], [], [], [], [], [], [], [], [], [], [], [], [], [], [], [], [], [], [some 59, some 60, some 61, some 62, some 63, some 64, some 65, some 66, some 67, some 68], [], [], [], [], [], [], [], [], [], [], [some 70, some 71, some 72, some 73, some 74, some 75, some 76, some 77, some 78, some 79], [], [], [], [], [], [], [], [], [], []]
def zRw (q0 q1 : Option Nat) : zR := fun k j => ((zrl q0 q1).getD k []).getD j none
theorem zM_R0 {m : Nat} {q0 q1 : Option Nat} (h : zMi m) : zRw q0 q1 m 0 = some (m + 1) := by rcases h with rfl | rfl | rfl | rfl <;> rfl
theorem zM_R1 {m : Nat} {q0 q1 : Option Nat} (h : zMi m) : zRw q0 q1 m 1 = some (m + 2) := by rcases h with rfl | rfl | rfl | rfl <;> rfl
theorem zM_R2 {m : Nat} {q0 q1 : Option Nat} (h : zMi m) : zRw q0 q1 m 2 = some (m + 3) := by rcases h with rfl | rfl | rfl | rfl <;> rfl
theorem zM_R3 {m : Nat} {q0 q1 : Option Nat} (h : zMi m) : zRw q0 q1 m 3 = some (m + 4) := by rcases h with rfl | rfl | rfl | rfl <;> rfl
theorem zM_R4 {m : Nat} {q0 q1 : Option Nat} (h : zMi m) : zRw q0 q1 m 4 = some (m + 5) := by rcases h with rfl | rfl | rfl | rfl <;> rfl
theorem zM_R5 {m : Nat} {q0 q1 : Option Nat} (h : zMi m) : zRw q0 q1 m 5 = some (m + 6) := by rcases h with rfl | rfl | rfl | rfl <;> rfl
theorem zM_R6 {m : Nat} {q0 q1 : Option Nat} (h : zMi m) : zRw q0 q1 m 6 = some (m + 7) := by rcases h with rfl | rfl | rfl | rfl <;> rfl
theorem zM_R7 {m : Nat} {q0 q1 : Option Nat} (h : zMi m) : zRw q0 q1 m 7 = some (m + 8) := by rcases h with rfl | rfl | rfl | rfl <;> rfl
theorem zM_R8 {m : Nat} {q0 q1 : Option Nat} (h : zMi m) : zRw q0 q1 m 8 = some (m + 9) := by rcases h with rfl | rfl | rfl | rfl <;> rfl
theorem zM_R9 {m : Nat} {q0 q1 : Option Nat} (h : zMi m) : zRw q0 q1 m 9 = some (m + 10) := by rcases h with rfl | rfl | rfl | rfl <;> rfl
section ZB
variable {g : zG} {M : zM} {E : zE} {Q : State → Prop} {kc ks pc pc2 : Nat} {lo : List (Option Value)} {rest st : List Value} {N : Nat} {I : zI} {L : zL} {R : zR} {P : zPost}
theorem x_pc (e : pc = pc2) (k : X g M E Q kc ks pc2 lo st N I L R) : X g M E Q kc ks pc lo st N I L R := by
  subst e
  exact k
theorem x_iinc1 {i : Nat} {x : Int32} {lo2 : List (Option Value)} (hd : decode M.1 pc = .ok (.iinc i 1, 3)) (hv : lo[i]? = some (some (.int x))) (hf : zfree lo i = true) (hl2 : lo.set i (some (.int (x + 1))) = lo2) (k : X g M E Q kc ks (pc + 3) lo2 rest N I L R) : X g M E Q kc ks pc lo rest N I L R := x_iinc hd hv (by rw [show Int32.ofInt 1 = 1 from by decide]) hf hl2 k
theorem x_iincN {i n : Nat} {lo2 : List (Option Value)} (hd : decode M.1 pc = .ok (.iinc i 1, 3)) (hv : lo[i]? = some (some (.int (nI n)))) (hf : zfree lo i = true) (hl2 : lo.set i (some (.int (nI (n + 1)))) = lo2) (k : X g M E Q kc ks (pc + 3) lo2 rest N I L R) : X g M E Q kc ks pc lo rest N I L R := x_iinc hd hv (by rw [show Int32.ofInt 1 = 1 from by decide, nI_succ]) hf hl2 k
theorem x_iincm {i : Nat} {x : Int32} {lo2 : List (Option Value)} (hd : decode M.1 pc = .ok (.iinc i (-1), 3)) (hv : lo[i]? = some (some (.int x))) (hf : zfree lo i = true) (hl2 : lo.set i (some (.int (x + (-1)))) = lo2) (k : X g M E Q kc ks (pc + 3) lo2 rest N I L R) : X g M E Q kc ks pc lo rest N I L R := x_iinc hd hv (by rw [show Int32.ofInt (-1) = -1 from by decide]) hf hl2 k
theorem x_zretb {p : Bool} (hd : decode M.1 pc = .ok (.ireturn, 1)) (hr : M.2.2.2.1 = some .boolean) (hc : kc ≤ M.2.2.2.2.1.cells) (hs : ks ≤ M.2.2.2.2.1.slots) (h : P (some (.int (zb p))) N I L R) : X g M E (zMQ g M E P) kc ks pc lo [.int (zb p)] N I L R := x_zret hd hr (zb_nar p) hc hs h
theorem zN_0 {i n : Nat} (h : i < n) (hn : n < 2 ^ 31) : ¬ nI n ≤ nI i := nI_ge h hn
theorem zN_1 {n : Nat} (hn : n < 2 ^ 31) : nI n ≤ nI n := nI_le (Nat.le_refl n) hn
end ZB
