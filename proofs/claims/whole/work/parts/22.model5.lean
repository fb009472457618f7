/-! the reference's MUD, THEMSELVES, YEAR, IMAGES, TOLD -/
def ksl (q : zWM) (r : Int32) (b : Nat) : Bool := decide (¬ q.1 b = 2 ∧ q.2 b < r)
def klo (ld r : Int32) (q : zWM) : Nat → Bool
  | 0 => false
  | b + 1 => klo ld r q b || (zis ld (nI b) && ksl q r b && decide (q.1 b = 0))
def kal (ld r : Int32) (q : zWM) : Nat → Bool
  | 0 => true
  | b + 1 => kal ld r q b && (!zis ld (nI b) || (zis ld (nI b) && ksl q r b && decide (q.1 b = 1)))
def kss (ld : Nat → Int32) (r : Int32) (a : Nat) (q : zWM) : zWM :=
  if q.1 a = 2 then (if klo (ld a) r q 10 = true then (upd q.1 a 1, upd q.2 a r) else if kal (ld a) r q 10 = true then (upd q.1 a 0, upd q.2 a r) else q) else q
def krd (ld : Nat → Int32) (r : Int32) (q : zWM) : Nat → zWM
  | 0 => q
  | i + 1 => kss ld r i (krd ld r q i)
def krs (ld : Nat → Int32) (q : zWM) : Nat → zWM
  | 0 => q
  | r + 1 => krd ld (nI (r + 1)) (krs ld q r) 10
def kwm (I : zI) (q : zWM) : zI := zrow (zrow I 53 q.1) 54 q.2
def kw0 (I : zI) (i : Nat) : zWM := (fun k => if k < i then (if I 47 k = 0 then 0 else 2) else I 53 k, fun k => if k < i then 0 else I 54 k)
theorem kwm_53 (I : zI) (q : zWM) : kwm I q 53 = q.1 := by simp [kwm, zrow]
theorem kwm_54 (I : zI) (q : zWM) : kwm I q 54 = q.2 := by simp [kwm, zrow]
theorem kwm_ne (I : zI) (q : zWM) {a : Nat} (h : a ≠ 53) (h2 : a ≠ 54) : kwm I q a = I a := by simp [kwm, zrow, h, h2]
theorem kwm_kwm (I : zI) (q q' : zWM) : kwm (kwm I q) q' = kwm I q' := by
  funext a
  by_cases h : a = 54
  · subst h; simp [kwm, zrow]
  · by_cases h2 : a = 53
    · subst h2; simp [kwm, zrow]
    · simp [kwm, zrow, h, h2]
theorem kwm_same (I : zI) : kwm I (I 53, I 54) = I := by
  unfold kwm
  rw [zrow_same, zrow_same]
theorem kwm_u (I : zI) (i : Nat) (v w : Int32) : zu (zu I 53 i v) 54 i w = kwm I (upd (I 53) i v, upd (I 54) i w) := by
  funext a j
  by_cases h : a = 54
  · subst h; simp [kwm, zrow, zu, upd]
  · by_cases h2 : a = 53
    · subst h2; simp [kwm, zrow, zu, upd]
    · simp [kwm, zrow, zu, h, h2]
def kmd (I : zI) : zWM := krs (I 47) (kw0 I 10) 23
def kfm (q : zWM) (ld : Int32) (a : Nat) : Nat → Int32
  | 0 => -6
  | j + 1 => if q.1 a = 1 ∧ zis ld (nI (9 - j)) = true ∧ q.1 (9 - j) = 0 ∧ q.2 (9 - j) = q.2 a - 1 then nI (9 - j) else kfm q ld a j
def kplA (I : zI) (a w : Int32) : Int32 := if zin a 0 9 = false then -1 else if zin w 0 2 = false then -2 else if w = 0 then (kmd I).1 (zx a) else if w = 1 then (if (kmd I).1 (zx a) = 2 then -6 else (kmd I).2 (zx a)) else kfm (kmd I) (I 47 (zx a)) (zx a) 10
/-- YEAR -/
def kk_ (x : Nat) : Nat := if x % 8 < 4 then 0 else if x % 8 = 4 then 2 else if x % 8 = 5 then 3 else 4
def kaa (x : Nat) : Nat := if x % 8 < 4 then x / 8 / 6 % 6 else x / 8 % 6
def kyI (s : Nat) (I : zI) : Nat → zI
  | 0 => I
  | i + 1 => zu (kaI (kyI s I i) (kk_ (yx_ s (i + 1))) (kaa (yx_ s (i + 1))) (yx_ s (i + 1) / 8 % 6)) 40 14 (kaR (kyI s I i) (kk_ (yx_ s (i + 1))) (kaa (yx_ s (i + 1))) (yx_ s (i + 1) / 8 % 6))
def kso (J : zI) : Nat → Int32
  | 0 => 0
  | i + 1 => if std J (nI i) = true then kso J i + J 42 i else kso J i
def kyeA (I : zI) (s m w : Int32) : Int32 := if zin s 0 9999 = false ∨ zin m 1 99 = false ∨ zin w 0 2 = false then -2 else if w = 0 then bt_ (kyI (zx s) (anI I) (zx m) 42 12) 10 else if w = 1 then kyI (zx s) (anI I) (zx m) 42 13 else kso (kyI (zx s) (anI I) (zx m)) 6
theorem kyI_far {s : Nat} {I : zI} {c : Nat} (h : c ≠ 40) (h2 : c ≠ 42) : ∀ i, kyI s I i c = I c
  | 0 => rfl
  | i + 1 => by simp only [kyI]; rw [zrn _ _ h, kaI_far h h2, kyI_far h h2 i]
theorem kyI_40 {s : Nat} {I : zI} {j : Nat} (h : j < 11) : ∀ i, kyI s I i 40 j = I 40 j
  | 0 => rfl
  | i + 1 => by simp only [kyI]; rw [zur (by omega), kaI_40 (by omega), kyI_40 h i]
/-- THEMSELVES -/
def kwa (t : Nat) : Nat → Nat → Nat
  | 0 => fun k => if k = 0 then 1 else 0
  | i + 1 => fun k => kwa t i k * (10 - t) + (if 0 < k then kwa t i (k - 1) * t else 0)
theorem kwa_le {t : Nat} (ht : t ≤ 10) : ∀ i k, kwa t i k ≤ 10 ^ i
  | 0, k => by simp only [kwa]; split <;> omega
  | i + 1, k => by
    have h1 := Nat.mul_le_mul_right (10 - t) (kwa_le ht i k)
    have h2 : (if 0 < k then kwa t i (k - 1) * t else 0) ≤ 10 ^ i * t := by
      split
      · exact Nat.mul_le_mul_right t (kwa_le ht i (k - 1))
      · exact Nat.zero_le _
    have h3 : 10 ^ i * (10 - t) + 10 ^ i * t = 10 ^ (i + 1) := by rw [← Nat.mul_add, show 10 - t + t = 10 by omega, Nat.pow_succ]
    simp only [kwa]
    omega
/-- the row as far as it is made anew from the top down -/
def kwr (t i : Nat) (base : Nat → Int64) (j : Nat) : Nat → Int64 := fun k => if 19 ≤ k then base k else if 19 - j ≤ k then lN (kwa t (i + 1) k) else lN (kwa t i k)
def kteA (n t k p : Int32) : Int64 := if zin n 0 17 = false ∨ zin t 0 10 = false ∨ zin k 0 n = false ∨ zin p 0 1 = false then -1000000000000000002 else if p = 0 then lN (kwa (zx t) (zx n) (zx k) / Nat.gcd (kwa (zx t) (zx n) (zx k)) (10 ^ zx n)) else lN (10 ^ zx n / Nat.gcd (kwa (zx t) (zx n) (zx k)) (10 ^ zx n))
/-- IMAGES -/
def kig (I : zI) (j : Nat) : Int32 := if j < 15 then I 41 j else if j < 21 then I 43 (j - 15) else if j < 27 then I 44 (j - 21) else if j < 33 then I 45 (j - 27) else if j < 41 then I 46 (j - 33) else if j < 51 then I 47 (j - 41) else if j < 67 then I 48 (j - 51) else I 40 7
def kim (I : zI) (n : Nat) (P : Nat → Bool) : Nat → Int32 := fun k => if 80 * n ≤ k ∧ P (k - 80 * n) = true then kig I (k - 80 * n) else I 56 k
theorem kim_u {I : zI} {n j : Nat} {P Q : Nat → Bool} {v : Int32} (hv : v = kig I j) (hQ : ∀ k, Q k = (P k || decide (k = j))) : upd (kim I n P) (80 * n + j) v = kim I n Q := by
  funext k
  by_cases e : k = 80 * n + j
  · subst e
    simp only [upd, if_true, kim]
    rw [if_pos ⟨by omega, by rw [show 80 * n + j - 80 * n = j by omega, hQ]; simp⟩, show 80 * n + j - 80 * n = j by omega, hv]
  · simp only [upd, if_neg e, kim]
    by_cases q : 80 * n ≤ k
    · rw [hQ, decide_eq_false (show ¬ k - 80 * n = j by omega), Bool.or_false]
    · rw [if_neg (fun z => q z.1), if_neg (fun z => q z.1)]
theorem kim_0 (I : zI) (n : Nat) : kim I n (fun _ => false) = I 56 := by funext k; simp [kim]
def kmgI (I : zI) (w : Int32) : zI := if zin w 0 1 = true then zu (zrow I 56 (kim I (zx w) (fun j => decide (j < 67 ∨ j = 70)))) 57 (zx w) 1 else I
def kmgA (w : Int32) : Int32 := if zin w 0 1 = true then 1 else -2
def krk (I : zI) (n o l : Nat) (c : Nat) : Nat → Int32 := zpre l (fun k => I 56 (80 * n + (o + k))) (I c)
def krsI (I : zI) (n : Nat) : zI := zu (zrow (zrow (zrow (zrow (zrow (zrow (zrow I 41 (krk I n 0 15 41)) 43 (krk I n 15 6 43)) 44 (krk I n 21 6 44)) 45 (krk I n 27 6 45)) 46 (krk I n 33 8 46)) 47 (krk I n 41 10 47)) 48 (krk I n 51 16 48)) 40 7 (I 56 (80 * n + 70))
def krsJ (I : zI) (w : Int32) : zI := if zin w 0 1 = true ∧ ¬ I 57 (zx w) = 0 then krsI I (zx w) else I
def krsA (I : zI) (w : Int32) : Int32 := if zin w 0 1 = false then -2 else if I 57 (zx w) = 0 then -3 else 1
def ktoA (I : zI) (w : Int32) : Int32 :=
  if 100 ≤ w then (if thr I (w / 10 - 10) = true ∧ w - w / 10 * 10 < 2 then I 41 (zx (6 * (w - w / 10 * 10) + (w / 10 - 10))) else -2)
  else if 30 ≤ w then (if w - 30 < 6 then 1000 * I 43 (zx (w - 30)) + 10 * I 44 (zx (w - 30)) + I 45 (zx (w - 30)) else -2)
  else if 20 ≤ w then (if w < 28 then I 46 (zx (w - 20)) else -2)
  else if 10 ≤ w then I 47 (zx (w - 10))
  else if w = 0 then I 40 9 else if w = 1 then I 41 12 else if w = 2 then I 41 13 else if w = 3 then I 41 14 else if w = 4 then I 40 7 else -2
def zlr (L : zL) (f : Nat → Int64) : zL := fun c => if c = 55 then f else L c
theorem zlr_55 (L : zL) (f : Nat → Int64) : zlr L f 55 = f := by simp [zlr]
def updL (f : Nat → Int64) (i : Nat) (v : Int64) : Nat → Int64 := fun k => if k = i then v else f k
theorem zuL_zlr (L : zL) (f : Nat → Int64) (i : Nat) (v : Int64) : zuL (zlr L f) 55 i v = zlr L (updL f i v) := by
  funext a k
  by_cases h : a = 55
  · subst h; simp [zuL, zlr, updL]
  · simp [zuL, zlr, h]
theorem zlr_same (L : zL) : zlr L (L 55) = L := by
  funext a
  by_cases h : a = 55
  · subst h; simp [zlr]
  · simp [zlr, h]
def kwb (base : Nat → Int64) (i : Nat) : Nat → Int64 := fun k => if k < i then lN (kwa 0 0 k) else base k
theorem kwb_s {base : Nat → Int64} {i : Nat} {v : Int64} (h : v = lN (if i = 0 then 1 else 0)) : updL (kwb base i) i v = kwb base (i + 1) := by
  funext k
  by_cases e : k = i
  · subst e
    simp only [updL, if_true, kwb]
    rw [if_pos (by omega), h]
    rfl
  · simp only [updL, if_neg e, kwb]
    by_cases q : k < i
    · rw [if_pos q, if_pos (by omega)]
    · rw [if_neg q, if_neg (by omega)]
theorem kwr_0 {t i : Nat} {base : Nat → Int64} : kwr t i base 19 = kwr t (i + 1) base 0 := by
  funext k
  simp only [kwr]
  by_cases q : 19 ≤ k
  · rw [if_pos q, if_pos q]
  · rw [if_neg q, if_neg q, if_pos (by omega), if_neg (by omega)]
theorem kwb_r {t : Nat} {base : Nat → Int64} : kwb base 19 = kwr t 0 base 0 := by
  funext k
  simp only [kwb, kwr]
  by_cases q : 19 ≤ k
  · rw [if_neg (by omega), if_pos q]
  · rw [if_pos (by omega), if_neg q, if_neg (by omega)]
    rfl
theorem kwr_s {t i j : Nat} {base : Nat → Int64} {v : Int64} (hj : j < 19) (h : v = lN (kwa t (i + 1) (18 - j))) : updL (kwr t i base j) (18 - j) v = kwr t i base (j + 1) := by
  funext k
  by_cases e : k = 18 - j
  · subst e
    simp only [updL, if_true, kwr]
    rw [if_neg (by omega), if_pos (by omega), h]
  · simp only [updL, if_neg e, kwr]
    by_cases q : 19 ≤ k
    · rw [if_pos q, if_pos q]
    · rw [if_neg q, if_neg q]
      by_cases z : 19 - j ≤ k
      · rw [if_pos z, if_pos (by omega)]
      · rw [if_neg z, if_neg (by omega)]
theorem kwr_at {t i j k : Nat} {base : Nat → Int64} (hj : j < 19) (h : k ≤ 18 - j) : kwr t i base j k = lN (kwa t i k) := by
  simp only [kwr]
  rw [if_neg (by omega), if_neg (by omega)]
theorem zrow_z (I : zI) (k : Nat) {f : Nat → Int32} (h : f = I k) : zrow I k f = I := by subst h; exact zrow_same I k
theorem upd_zp {i : Nat} {f h : Nat → Int32} {v : Int32} (e : v = f i) : upd (zpre i f h) i v = zpre (i + 1) f h := by subst e; exact zpre_s i f h
theorem zr3 {W : zI} {a b c i : Nat} {f1 f2 f3 h1 h2 h3 : Nat → Int32} {v1 v2 v3 : Int32} (n1 : a ≠ b) (n2 : a ≠ c) (n3 : b ≠ c) (e1 : v1 = f1 i) (e2 : v2 = f2 i) (e3 : v3 = f3 i) : zu (zu (zu (zrow (zrow (zrow W a (zpre i f1 h1)) b (zpre i f2 h2)) c (zpre i f3 h3)) a i v1) b i v2) c i v3 = zrow (zrow (zrow W a (zpre (i + 1) f1 h1)) b (zpre (i + 1) f2 h2)) c (zpre (i + 1) f3 h3) := by
  subst e1 e2 e3
  rw [← zpre_s i f1 h1, ← zpre_s i f2 h2, ← zpre_s i f3 h3]
  funext x j
  simp only [zu, zrow, upd]
  by_cases q3 : x = c
  · subst q3
    by_cases z : j = i <;> simp [z, upd, Ne.symm n2, Ne.symm n3]
  · by_cases q2 : x = b
    · subst q2
      by_cases z : j = i <;> simp [z, upd, Ne.symm n1, n3]
    · by_cases q1 : x = a
      · subst q1
        by_cases z : j = i <;> simp [z, upd, n1, n2]
      · simp [q1, q2, q3]

theorem ct_X9_layMud {g : zG} {N : Nat} {I : zI} {L : zL} {q0 q1 : Option Nat} (hN : 58 ≤ N) : Ct g yX9_layMud mX9_layMud [.ref (g.2.1 + 40)] N I L (zRw q0 q1) (zD none N (kwm I (kmd I)) L (zRw q0 q1)) := by
  refine Ct_of (lo0 := [some (.ref (g.2.1 + 40)), none, none, none, none, none, none]) rfl rfl rfl rfl (Nat.le_of_ble_eq_true rfl) (fun E => ?_)
  refine x_iconst (v := 0) dX9_layMud_0 (by decide) ?_
  refine x_istore_n (lo2 := [_, _, _, _, _, _, _]) dX9_layMud_1 (by decide) rfl rfl ?_
  refine x_loop (inv := fun i => True) (fun i => [some (.ref (g.2.1 + 40)), some (.int (nI i)), none, none, none, none, none]) (fun i => kwm I (kw0 I i)) (fun i => L) 0 10 (by omega) (by trivial) (by rfl) (by rw [show kw0 I 0 = (I 53, I 54) from by simp [kw0]]; exact (kwm_same I).symm) (by rfl) (fun i hloi hhii hinvi Ki => ?_) (fun hinvi => ?_)
  · skip
    refine x_iload_n dX9_layMud_2 rfl ?_
    refine x_bipush (v := 10) dX9_layMud_3 (by decide) ?_
    refine x_icmp_ge (tgt := 41) dX9_layMud_5 (by decide) (fun h5 => ?_) (fun h5 => ?_)
    · skip
      exact absurd h5 (nI_ge (b := 10) hhii (by decide))
    · skip
      refine x_aload_n dX9_layMud_8 rfl ?_
      refine x_getR dX9_layMud_9 fl_X9_46 (by omega) rfl rfl rfl ?_
      refine x_iload_n dX9_layMud_12 rfl ?_
      refine x_aload_n dX9_layMud_13 rfl ?_
      refine x_getR dX9_layMud_14 fl_X9_28 (by omega) rfl rfl rfl ?_
      refine x_pc (pc2 := 17) rfl ?_
      refine x_iload_n dX9_layMud_17 rfl ?_
      refine x_ialdN dX9_layMud_18 (by omega) rfl rfl hhii ?_
      refine x_if_ne (tgt := 26) dX9_layMud_19 (by decide) (fun h19 => ?_) (fun h19 => ?_)
      · skip
        rw [kwm_ne _ _ (by decide) (by decide)] at h19
        refine x_iconst (v := 2) dX9_layMud_26 (by decide) ?_
        refine x_iast dX9_layMud_27 (by omega) rfl rfl hhii ?_
        refine x_aload_n dX9_layMud_28 rfl ?_
        refine x_getR dX9_layMud_29 fl_X9_49 (by omega) rfl rfl rfl ?_
        refine x_iload_n dX9_layMud_32 rfl ?_
        refine x_pc (pc2 := 33) rfl ?_
        refine x_iconst (v := 0) dX9_layMud_33 (by decide) ?_
        refine x_iast dX9_layMud_34 (by omega) rfl rfl hhii ?_
        refine x_iincN (lo2 := [_, _, _, _, _, _, _]) dX9_layMud_35 rfl rfl rfl ?_
        refine x_goto (tgt := 2) dX9_layMud_38 (by decide) ?_
        exact x_eq (by rfl) (by rw [kwm_u, kwm_53, kwm_54, kwm_kwm]; congr 1; simp only [kw0]; congr 1 <;> (funext k; by_cases e : k = i <;> simp [upd, e, h19] <;> (by_cases q : k < i <;> simp [q] <;> omega))) (by rfl) (Ki (by trivial))
      · skip
        rw [kwm_ne _ _ (by decide) (by decide)] at h19
        refine x_iconst (v := 0) dX9_layMud_22 (by decide) ?_
        refine x_goto (tgt := 27) dX9_layMud_23 (by decide) ?_
        refine x_iast dX9_layMud_27 (by omega) rfl rfl hhii ?_
        refine x_aload_n dX9_layMud_28 rfl ?_
        refine x_getR dX9_layMud_29 fl_X9_49 (by omega) rfl rfl rfl ?_
        refine x_iload_n dX9_layMud_32 rfl ?_
        refine x_iconst (v := 0) dX9_layMud_33 (by decide) ?_
        refine x_pc (pc2 := 34) rfl ?_
        refine x_iast dX9_layMud_34 (by omega) rfl rfl hhii ?_
        refine x_iincN (lo2 := [_, _, _, _, _, _, _]) dX9_layMud_35 rfl rfl rfl ?_
        refine x_goto (tgt := 2) dX9_layMud_38 (by decide) ?_
        exact x_eq (by rfl) (by rw [kwm_u, kwm_53, kwm_54, kwm_kwm]; congr 1; simp only [kw0]; congr 1 <;> (funext k; by_cases e : k = i <;> simp [upd, e, h19] <;> (by_cases q : k < i <;> simp [q] <;> omega))) (by rfl) (Ki (by trivial))
  · skip
    refine x_iload_n dX9_layMud_2 rfl ?_
    refine x_bipush (v := 10) dX9_layMud_3 (by decide) ?_
    refine x_icmp_ge (tgt := 41) dX9_layMud_5 (by decide) (fun h5 => ?_) (fun h5 => ?_)
    · skip
      refine x_iconst (v := 1) dX9_layMud_41 (by decide) ?_
      refine x_istore_n (lo2 := [_, _, _, _, _, _, _]) dX9_layMud_42 (by decide) rfl rfl ?_
      refine x_loop (inv := fun r => True) (fun r => [some (.ref (g.2.1 + 40)), some (.int (nI r)), none, none, none, none, none]) (fun r => kwm I (krs (I 47) (kw0 I 10) (r - 1))) (fun r => L) 1 24 (by omega) (by trivial) (by rfl) (by rfl) (by rfl) (fun r hlor hhir hinvr Kr => ?_) (fun hinvr => ?_)
      · skip
        obtain ⟨z, rfl⟩ : ∃ z, r = z + 1 := ⟨r - 1, by omega⟩
        rw [show z + 1 - 1 = z from rfl]
        refine x_iload_n dX9_layMud_43 rfl ?_
        refine x_bipush (v := 24) dX9_layMud_44 (by decide) ?_
        refine x_icmp_ge (tgt := 241) dX9_layMud_46 (by decide) (fun h46 => ?_) (fun h46 => ?_)
        · skip
          exact absurd h46 (nI_ge (b := 24) hhir (by decide))
        · skip
          refine x_iconst (v := 0) dX9_layMud_49 (by decide) ?_
          refine x_istore_n (lo2 := [_, _, _, _, _, _, _]) dX9_layMud_50 (by decide) rfl rfl ?_
          refine x_loop (inv := fun i => True) (fun i => [some (.ref (g.2.1 + 40)), some (.int (nI (z + 1))), some (.int (nI i)), none, none, none, none]) (fun i => kwm I (krd (I 47) (nI (z + 1)) (krs (I 47) (kw0 I 10) z) i)) (fun i => L) 0 10 (by omega) (by trivial) (by rfl) (by rfl) (by rfl) (fun i hloi hhii hinvi Ki => ?_) (fun hinvi => ?_)
          · skip
            generalize hq : krd (I 47) (nI (z + 1)) (krs (I 47) (kw0 I 10) z) i = q
            refine x_iload_n dX9_layMud_51 rfl ?_
            refine x_bipush (v := 10) dX9_layMud_52 (by decide) ?_
            refine x_icmp_ge (tgt := 235) dX9_layMud_54 (by decide) (fun h54 => ?_) (fun h54 => ?_)
            · skip
              exact absurd h54 (nI_ge (b := 10) hhii (by decide))
            · skip
              refine x_aload_n dX9_layMud_57 rfl ?_
              refine x_getR dX9_layMud_58 fl_X9_46 (by omega) rfl rfl rfl ?_
              refine x_iload_n dX9_layMud_61 rfl ?_
              refine x_ialdN dX9_layMud_62 (by omega) rfl rfl hhii ?_
              refine x_iconst (v := 2) dX9_layMud_63 (by decide) ?_
              refine x_pc (pc2 := 64) rfl ?_
              refine x_icmp_ne (tgt := 229) dX9_layMud_64 (by decide) (fun h64 => ?_) (fun h64 => ?_)
              · skip
                rw [kwm_53] at h64
                refine x_iincN (lo2 := [_, _, _, _, _, _, _]) dX9_layMud_229 rfl rfl rfl ?_
                refine x_goto (tgt := 51) dX9_layMud_232 (by decide) ?_
                have ek : krd (I 47) (nI (z + 1)) (krs (I 47) (kw0 I 10) z) (i + 1) = q := by simp only [krd]; rw [hq]; simp [kss, h64]
                exact x_eq (by rfl) (by rw [ek]) (by rfl) (Ki trivial)
              · skip
                rw [kwm_53] at h64
                refine x_iconst (v := 0) dX9_layMud_67 (by decide) ?_
                refine x_istore_n (lo2 := [_, _, _, _, _, _, _]) dX9_layMud_68 (by decide) rfl rfl ?_
                refine x_iconst (v := 1) dX9_layMud_69 (by decide) ?_
                refine x_istore (lo2 := [_, _, _, _, _, _, _]) dX9_layMud_70 (by decide) rfl rfl ?_
                refine x_iconst (v := 0) dX9_layMud_72 (by decide) ?_
                refine x_pc (pc2 := 73) rfl ?_
                refine x_istore (lo2 := [_, _, _, _, _, _, _]) dX9_layMud_73 (by decide) rfl rfl ?_
                refine x_loop (inv := fun b => True) (fun b => [some (.ref (g.2.1 + 40)), some (.int (nI (z + 1))), some (.int (nI i)), some (.int (zb (klo (I 47 i) (nI (z + 1)) q b))), some (.int (zb (kal (I 47 i) (nI (z + 1)) q b))), some (.int (nI b)), none]) (fun b => kwm I q) (fun b => L) 0 10 (by omega) (by trivial) (by rfl) (by rfl) (by rfl) (fun b hlob hhib hinvb Kb => ?_) (fun hinvb => ?_)
                · skip
                  refine x_iload dX9_layMud_75 rfl ?_
                  refine x_bipush (v := 10) dX9_layMud_77 (by decide) ?_
                  refine x_icmp_ge (tgt := 198) dX9_layMud_79 (by decide) (fun h79 => ?_) (fun h79 => ?_)
                  · skip
                    exact absurd h79 (nI_ge (b := 10) hhib (by decide))
                  · skip
                    refine x_aload_n dX9_layMud_82 rfl ?_
                    refine x_getR dX9_layMud_83 fl_X9_28 (by omega) rfl rfl rfl ?_
                    refine x_iload_n dX9_layMud_86 rfl ?_
                    refine x_ialdN dX9_layMud_87 (by omega) rfl rfl hhii ?_
                    rw [kwm_ne I q (show 47 ≠ 53 by decide) (show 47 ≠ 54 by decide)]
                    refine x_iload dX9_layMud_88 rfl ?_
                    refine x_pc (pc2 := 90) rfl ?_
                    refine x_callSi dX9_layMud_90 ml_X9_67 mt_X9_has st_X9_has (ct_X9_has) rfl rfl (Nat.le_of_ble_eq_true rfl) ⟨(Nat.le_of_ble_eq_true rfl), (Nat.le_of_ble_eq_true rfl)⟩ ⟨rfl, rfl⟩ ⟨(Nat.le_of_ble_eq_true rfl), (Nat.le_of_ble_eq_true rfl)⟩ ?_
                    refine x_if_eq (tgt := 122) dX9_layMud_93 (by decide) (fun h93 => ?_) (fun h93 => ?_)
                    · skip
                      replace h93 := zb0 h93
                      refine x_iconst (v := 0) dX9_layMud_122 (by decide) ?_
                      refine x_istore (lo2 := [_, _, _, _, _, _, _]) dX9_layMud_123 (by decide) rfl rfl ?_
                      refine x_iload_n dX9_layMud_125 rfl ?_
                      refine x_if_ne (tgt := 144) dX9_layMud_126 (by decide) (fun h126 => ?_) (fun h126 => ?_)
                      · skip
                        replace h126 := zb1 h126
                        refine x_iconst (v := 1) dX9_layMud_144 (by decide) ?_
                        refine x_goto (tgt := 149) dX9_layMud_145 (by decide) ?_
                        refine x_istore_n (lo2 := [_, _, _, _, _, _, _]) dX9_layMud_149 (by decide) rfl rfl ?_
                        refine x_iload dX9_layMud_150 rfl ?_
                        refine x_if_eq (tgt := 189) dX9_layMud_152 (by decide) (fun h152 => ?_) (fun h152 => ?_)
                        · skip
                          replace h152 := zb0 h152
                          refine x_iconst (v := 0) dX9_layMud_189 (by decide) ?_
                          refine x_istore (lo2 := [_, _, _, _, _, _, _]) dX9_layMud_190 (by decide) rfl rfl ?_
                          refine x_iincN (lo2 := [_, _, _, _, _, _, _]) dX9_layMud_192 rfl rfl rfl ?_
                          refine x_goto (tgt := 75) dX9_layMud_195 (by decide) ?_
                          refine x_drop (i := 6) (lo2 := [_, _, _, _, _, _, _]) rfl ?_
                          exact x_eq (by simp only [klo, kal, ksl]; simp [zb, h5, h46, h54, h64, h79, h93, h126, h152]) (by rfl) (by rfl) (Kb trivial)
                        · skip
                          replace h152 := zb1 h152
                          refine x_aload_n dX9_layMud_155 rfl ?_
                          refine x_getR dX9_layMud_156 fl_X9_28 (by omega) rfl rfl rfl ?_
                          refine x_iload_n dX9_layMud_159 rfl ?_
                          refine x_ialdN dX9_layMud_160 (by omega) rfl rfl (by omega) ?_
                          rw [kwm_ne I q (show 47 ≠ 53 by decide) (show 47 ≠ 54 by decide)]
                          refine x_iload dX9_layMud_161 rfl ?_
                          refine x_pc (pc2 := 163) rfl ?_
                          refine x_callSi dX9_layMud_163 ml_X9_67 mt_X9_has st_X9_has (ct_X9_has) rfl rfl (Nat.le_of_ble_eq_true rfl) ⟨(Nat.le_of_ble_eq_true rfl), (Nat.le_of_ble_eq_true rfl)⟩ ⟨rfl, rfl⟩ ⟨(Nat.le_of_ble_eq_true rfl), (Nat.le_of_ble_eq_true rfl)⟩ ?_
                          refine x_if_eq (tgt := 185) dX9_layMud_166 (by decide) (fun h166 => ?_) (fun h166 => ?_)
                          · skip
                            replace h166 := zb0 h166
                            refine x_iconst (v := 1) dX9_layMud_185 (by decide) ?_
                            refine x_goto (tgt := 190) dX9_layMud_186 (by decide) ?_
                            refine x_istore (lo2 := [_, _, _, _, _, _, _]) dX9_layMud_190 (by decide) rfl rfl ?_
                            refine x_iincN (lo2 := [_, _, _, _, _, _, _]) dX9_layMud_192 rfl rfl rfl ?_
                            refine x_goto (tgt := 75) dX9_layMud_195 (by decide) ?_
                            refine x_drop (i := 6) (lo2 := [_, _, _, _, _, _, _]) rfl ?_
                            exact x_eq (by simp only [klo, kal, ksl]; simp [zb, h5, h46, h54, h64, h79, h93, h126, h152, h166]) (by rfl) (by rfl) (Kb trivial)
                          · skip
                            replace h166 := zb1 h166
                            exact absurd (h93.symm.trans h166) (by decide)
                      · skip
                        replace h126 := zb0 h126
                        refine x_iload dX9_layMud_129 rfl ?_
                        refine x_if_eq (tgt := 148) dX9_layMud_131 (by decide) (fun h131 => ?_) (fun h131 => ?_)
                        · skip
                          refine x_iconst (v := 0) dX9_layMud_148 (by decide) ?_
                          refine x_istore_n (lo2 := [_, _, _, _, _, _, _]) dX9_layMud_149 (by decide) rfl rfl ?_
                          refine x_iload dX9_layMud_150 rfl ?_
                          refine x_if_eq (tgt := 189) dX9_layMud_152 (by decide) (fun h152 => ?_) (fun h152 => ?_)
                          · skip
                            replace h152 := zb0 h152
                            refine x_iconst (v := 0) dX9_layMud_189 (by decide) ?_
                            refine x_istore (lo2 := [_, _, _, _, _, _, _]) dX9_layMud_190 (by decide) rfl rfl ?_
                            refine x_iincN (lo2 := [_, _, _, _, _, _, _]) dX9_layMud_192 rfl rfl rfl ?_
                            refine x_goto (tgt := 75) dX9_layMud_195 (by decide) ?_
                            refine x_drop (i := 6) (lo2 := [_, _, _, _, _, _, _]) rfl ?_
                            exact x_eq (by simp only [klo, kal, ksl]; simp [zb, h5, h46, h54, h64, h79, h93, h126, h131, h152]) (by rfl) (by rfl) (Kb trivial)
                          · skip
                            replace h152 := zb1 h152
                            refine x_aload_n dX9_layMud_155 rfl ?_
                            refine x_getR dX9_layMud_156 fl_X9_28 (by omega) rfl rfl rfl ?_
                            refine x_iload_n dX9_layMud_159 rfl ?_
                            refine x_ialdN dX9_layMud_160 (by omega) rfl rfl (by omega) ?_
                            rw [kwm_ne I q (show 47 ≠ 53 by decide) (show 47 ≠ 54 by decide)]
                            refine x_iload dX9_layMud_161 rfl ?_
                            refine x_pc (pc2 := 163) rfl ?_
                            refine x_callSi dX9_layMud_163 ml_X9_67 mt_X9_has st_X9_has (ct_X9_has) rfl rfl (Nat.le_of_ble_eq_true rfl) ⟨(Nat.le_of_ble_eq_true rfl), (Nat.le_of_ble_eq_true rfl)⟩ ⟨rfl, rfl⟩ ⟨(Nat.le_of_ble_eq_true rfl), (Nat.le_of_ble_eq_true rfl)⟩ ?_
                            refine x_if_eq (tgt := 185) dX9_layMud_166 (by decide) (fun h166 => ?_) (fun h166 => ?_)
                            · skip
                              replace h166 := zb0 h166
                              refine x_iconst (v := 1) dX9_layMud_185 (by decide) ?_
                              refine x_goto (tgt := 190) dX9_layMud_186 (by decide) ?_
                              refine x_istore (lo2 := [_, _, _, _, _, _, _]) dX9_layMud_190 (by decide) rfl rfl ?_
                              refine x_iincN (lo2 := [_, _, _, _, _, _, _]) dX9_layMud_192 rfl rfl rfl ?_
                              refine x_goto (tgt := 75) dX9_layMud_195 (by decide) ?_
                              refine x_drop (i := 6) (lo2 := [_, _, _, _, _, _, _]) rfl ?_
                              exact x_eq (by simp only [klo, kal, ksl]; simp [zb, h5, h46, h54, h64, h79, h93, h126, h131, h152, h166]) (by rfl) (by rfl) (Kb trivial)
                            · skip
                              replace h166 := zb1 h166
                              exact absurd (h93.symm.trans h166) (by decide)
                        · skip
                          exact absurd rfl h131
                    · skip
                      replace h93 := zb1 h93
                      refine x_aload_n dX9_layMud_96 rfl ?_
                      refine x_getR dX9_layMud_97 fl_X9_46 (by omega) rfl rfl rfl ?_
                      refine x_iload dX9_layMud_100 rfl ?_
                      refine x_ialdN dX9_layMud_102 (by omega) rfl rfl hhib ?_
                      refine x_iconst (v := 2) dX9_layMud_103 (by decide) ?_
                      refine x_pc (pc2 := 104) rfl ?_
                      refine x_icmp_eq (tgt := 122) dX9_layMud_104 (by decide) (fun h104 => ?_) (fun h104 => ?_)
                      · skip
                        rw [kwm_53] at h104
                        refine x_iconst (v := 0) dX9_layMud_122 (by decide) ?_
                        refine x_istore (lo2 := [_, _, _, _, _, _, _]) dX9_layMud_123 (by decide) rfl rfl ?_
                        refine x_iload_n dX9_layMud_125 rfl ?_
                        refine x_if_ne (tgt := 144) dX9_layMud_126 (by decide) (fun h126 => ?_) (fun h126 => ?_)
                        · skip
                          replace h126 := zb1 h126
                          refine x_iconst (v := 1) dX9_layMud_144 (by decide) ?_
                          refine x_goto (tgt := 149) dX9_layMud_145 (by decide) ?_
                          refine x_istore_n (lo2 := [_, _, _, _, _, _, _]) dX9_layMud_149 (by decide) rfl rfl ?_
                          refine x_iload dX9_layMud_150 rfl ?_
                          refine x_if_eq (tgt := 189) dX9_layMud_152 (by decide) (fun h152 => ?_) (fun h152 => ?_)
                          · skip
                            replace h152 := zb0 h152
                            refine x_iconst (v := 0) dX9_layMud_189 (by decide) ?_
                            refine x_istore (lo2 := [_, _, _, _, _, _, _]) dX9_layMud_190 (by decide) rfl rfl ?_
                            refine x_iincN (lo2 := [_, _, _, _, _, _, _]) dX9_layMud_192 rfl rfl rfl ?_
                            refine x_goto (tgt := 75) dX9_layMud_195 (by decide) ?_
                            refine x_drop (i := 6) (lo2 := [_, _, _, _, _, _, _]) rfl ?_
                            exact x_eq (by simp only [klo, kal, ksl]; simp [zb, h5, h46, h54, h64, h79, h93, h104, h126, h152]) (by rfl) (by rfl) (Kb trivial)
                          · skip
                            replace h152 := zb1 h152
                            refine x_aload_n dX9_layMud_155 rfl ?_
                            refine x_getR dX9_layMud_156 fl_X9_28 (by omega) rfl rfl rfl ?_
                            refine x_iload_n dX9_layMud_159 rfl ?_
                            refine x_ialdN dX9_layMud_160 (by omega) rfl rfl (by omega) ?_
                            rw [kwm_ne I q (show 47 ≠ 53 by decide) (show 47 ≠ 54 by decide)]
                            refine x_iload dX9_layMud_161 rfl ?_
                            refine x_pc (pc2 := 163) rfl ?_
                            refine x_callSi dX9_layMud_163 ml_X9_67 mt_X9_has st_X9_has (ct_X9_has) rfl rfl (Nat.le_of_ble_eq_true rfl) ⟨(Nat.le_of_ble_eq_true rfl), (Nat.le_of_ble_eq_true rfl)⟩ ⟨rfl, rfl⟩ ⟨(Nat.le_of_ble_eq_true rfl), (Nat.le_of_ble_eq_true rfl)⟩ ?_
                            refine x_if_eq (tgt := 185) dX9_layMud_166 (by decide) (fun h166 => ?_) (fun h166 => ?_)
                            · skip
                              replace h166 := zb0 h166
                              exact absurd (h93.symm.trans h166) (by decide)
                            · skip
                              replace h166 := zb1 h166
                              refine x_iload dX9_layMud_169 rfl ?_
                              refine x_if_eq (tgt := 189) dX9_layMud_171 (by decide) (fun h171 => ?_) (fun h171 => ?_)
                              · skip
                                refine x_iconst (v := 0) dX9_layMud_189 (by decide) ?_
                                refine x_istore (lo2 := [_, _, _, _, _, _, _]) dX9_layMud_190 (by decide) rfl rfl ?_
                                refine x_iincN (lo2 := [_, _, _, _, _, _, _]) dX9_layMud_192 rfl rfl rfl ?_
                                refine x_goto (tgt := 75) dX9_layMud_195 (by decide) ?_
                                refine x_drop (i := 6) (lo2 := [_, _, _, _, _, _, _]) rfl ?_
                                exact x_eq (by simp only [klo, kal, ksl]; simp [zb, h5, h46, h54, h64, h79, h93, h104, h126, h152, h166, h171]) (by rfl) (by rfl) (Kb trivial)
                              · skip
                                exact absurd rfl h171
                        · skip
                          replace h126 := zb0 h126
                          refine x_iload dX9_layMud_129 rfl ?_
                          refine x_if_eq (tgt := 148) dX9_layMud_131 (by decide) (fun h131 => ?_) (fun h131 => ?_)
                          · skip
                            refine x_iconst (v := 0) dX9_layMud_148 (by decide) ?_
                            refine x_istore_n (lo2 := [_, _, _, _, _, _, _]) dX9_layMud_149 (by decide) rfl rfl ?_
                            refine x_iload dX9_layMud_150 rfl ?_
                            refine x_if_eq (tgt := 189) dX9_layMud_152 (by decide) (fun h152 => ?_) (fun h152 => ?_)
                            · skip
                              replace h152 := zb0 h152
                              refine x_iconst (v := 0) dX9_layMud_189 (by decide) ?_
                              refine x_istore (lo2 := [_, _, _, _, _, _, _]) dX9_layMud_190 (by decide) rfl rfl ?_
                              refine x_iincN (lo2 := [_, _, _, _, _, _, _]) dX9_layMud_192 rfl rfl rfl ?_
                              refine x_goto (tgt := 75) dX9_layMud_195 (by decide) ?_
                              refine x_drop (i := 6) (lo2 := [_, _, _, _, _, _, _]) rfl ?_
                              exact x_eq (by simp only [klo, kal, ksl]; simp [zb, h5, h46, h54, h64, h79, h93, h104, h126, h131, h152]) (by rfl) (by rfl) (Kb trivial)
                            · skip
                              replace h152 := zb1 h152
                              refine x_aload_n dX9_layMud_155 rfl ?_
                              refine x_getR dX9_layMud_156 fl_X9_28 (by omega) rfl rfl rfl ?_
                              refine x_iload_n dX9_layMud_159 rfl ?_
                              refine x_ialdN dX9_layMud_160 (by omega) rfl rfl (by omega) ?_
                              rw [kwm_ne I q (show 47 ≠ 53 by decide) (show 47 ≠ 54 by decide)]
                              refine x_iload dX9_layMud_161 rfl ?_
                              refine x_pc (pc2 := 163) rfl ?_
                              refine x_callSi dX9_layMud_163 ml_X9_67 mt_X9_has st_X9_has (ct_X9_has) rfl rfl (Nat.le_of_ble_eq_true rfl) ⟨(Nat.le_of_ble_eq_true rfl), (Nat.le_of_ble_eq_true rfl)⟩ ⟨rfl, rfl⟩ ⟨(Nat.le_of_ble_eq_true rfl), (Nat.le_of_ble_eq_true rfl)⟩ ?_
                              refine x_if_eq (tgt := 185) dX9_layMud_166 (by decide) (fun h166 => ?_) (fun h166 => ?_)
                              · skip
                                replace h166 := zb0 h166
                                exact absurd (h93.symm.trans h166) (by decide)
                              · skip
                                replace h166 := zb1 h166
                                refine x_iload dX9_layMud_169 rfl ?_
                                refine x_if_eq (tgt := 189) dX9_layMud_171 (by decide) (fun h171 => ?_) (fun h171 => ?_)
                                · skip
                                  refine x_iconst (v := 0) dX9_layMud_189 (by decide) ?_
                                  refine x_istore (lo2 := [_, _, _, _, _, _, _]) dX9_layMud_190 (by decide) rfl rfl ?_
                                  refine x_iincN (lo2 := [_, _, _, _, _, _, _]) dX9_layMud_192 rfl rfl rfl ?_
                                  refine x_goto (tgt := 75) dX9_layMud_195 (by decide) ?_
                                  refine x_drop (i := 6) (lo2 := [_, _, _, _, _, _, _]) rfl ?_
                                  exact x_eq (by simp only [klo, kal, ksl]; simp [zb, h5, h46, h54, h64, h79, h93, h104, h126, h131, h152, h166, h171]) (by rfl) (by rfl) (Kb trivial)
                                · skip
                                  exact absurd rfl h171
                          · skip
                            exact absurd rfl h131
                      · skip
                        rw [kwm_53] at h104
                        refine x_aload_n dX9_layMud_107 rfl ?_
                        refine x_getR dX9_layMud_108 fl_X9_49 (by omega) rfl rfl rfl ?_
                        refine x_iload dX9_layMud_111 rfl ?_
                        refine x_ialdN dX9_layMud_113 (by omega) rfl rfl hhib ?_
                        refine x_iload_n dX9_layMud_114 rfl ?_
                        refine x_pc (pc2 := 115) rfl ?_
                        refine x_icmp_ge (tgt := 122) dX9_layMud_115 (by decide) (fun h115 => ?_) (fun h115 => ?_)
                        · skip
                          rw [kwm_54] at h115
                          have hlt := Int32.not_lt.mpr h115
                          refine x_iconst (v := 0) dX9_layMud_122 (by decide) ?_
                          refine x_istore (lo2 := [_, _, _, _, _, _, _]) dX9_layMud_123 (by decide) rfl rfl ?_
                          refine x_iload_n dX9_layMud_125 rfl ?_
                          refine x_if_ne (tgt := 144) dX9_layMud_126 (by decide) (fun h126 => ?_) (fun h126 => ?_)
                          · skip
                            replace h126 := zb1 h126
                            refine x_iconst (v := 1) dX9_layMud_144 (by decide) ?_
                            refine x_goto (tgt := 149) dX9_layMud_145 (by decide) ?_
                            refine x_istore_n (lo2 := [_, _, _, _, _, _, _]) dX9_layMud_149 (by decide) rfl rfl ?_
                            refine x_iload dX9_layMud_150 rfl ?_
                            refine x_if_eq (tgt := 189) dX9_layMud_152 (by decide) (fun h152 => ?_) (fun h152 => ?_)
                            · skip
                              replace h152 := zb0 h152
                              refine x_iconst (v := 0) dX9_layMud_189 (by decide) ?_
                              refine x_istore (lo2 := [_, _, _, _, _, _, _]) dX9_layMud_190 (by decide) rfl rfl ?_
                              refine x_iincN (lo2 := [_, _, _, _, _, _, _]) dX9_layMud_192 rfl rfl rfl ?_
                              refine x_goto (tgt := 75) dX9_layMud_195 (by decide) ?_
                              refine x_drop (i := 6) (lo2 := [_, _, _, _, _, _, _]) rfl ?_
                              exact x_eq (by simp only [klo, kal, ksl]; simp [zb, h5, h46, h54, h64, h79, h93, h104, hlt, h126, h152]) (by rfl) (by rfl) (Kb trivial)
                            · skip
                              replace h152 := zb1 h152
                              refine x_aload_n dX9_layMud_155 rfl ?_
                              refine x_getR dX9_layMud_156 fl_X9_28 (by omega) rfl rfl rfl ?_
                              refine x_iload_n dX9_layMud_159 rfl ?_
                              refine x_ialdN dX9_layMud_160 (by omega) rfl rfl (by omega) ?_
                              rw [kwm_ne I q (show 47 ≠ 53 by decide) (show 47 ≠ 54 by decide)]
                              refine x_iload dX9_layMud_161 rfl ?_
                              refine x_pc (pc2 := 163) rfl ?_
                              refine x_callSi dX9_layMud_163 ml_X9_67 mt_X9_has st_X9_has (ct_X9_has) rfl rfl (Nat.le_of_ble_eq_true rfl) ⟨(Nat.le_of_ble_eq_true rfl), (Nat.le_of_ble_eq_true rfl)⟩ ⟨rfl, rfl⟩ ⟨(Nat.le_of_ble_eq_true rfl), (Nat.le_of_ble_eq_true rfl)⟩ ?_
                              refine x_if_eq (tgt := 185) dX9_layMud_166 (by decide) (fun h166 => ?_) (fun h166 => ?_)
                              · skip
                                replace h166 := zb0 h166
                                exact absurd (h93.symm.trans h166) (by decide)
                              · skip
                                replace h166 := zb1 h166
                                refine x_iload dX9_layMud_169 rfl ?_
                                refine x_if_eq (tgt := 189) dX9_layMud_171 (by decide) (fun h171 => ?_) (fun h171 => ?_)
                                · skip
                                  refine x_iconst (v := 0) dX9_layMud_189 (by decide) ?_
                                  refine x_istore (lo2 := [_, _, _, _, _, _, _]) dX9_layMud_190 (by decide) rfl rfl ?_
                                  refine x_iincN (lo2 := [_, _, _, _, _, _, _]) dX9_layMud_192 rfl rfl rfl ?_
                                  refine x_goto (tgt := 75) dX9_layMud_195 (by decide) ?_
                                  refine x_drop (i := 6) (lo2 := [_, _, _, _, _, _, _]) rfl ?_
                                  exact x_eq (by simp only [klo, kal, ksl]; simp [zb, h5, h46, h54, h64, h79, h93, h104, hlt, h126, h152, h166, h171]) (by rfl) (by rfl) (Kb trivial)
                                · skip
                                  exact absurd rfl h171
                          · skip
                            replace h126 := zb0 h126
                            refine x_iload dX9_layMud_129 rfl ?_
                            refine x_if_eq (tgt := 148) dX9_layMud_131 (by decide) (fun h131 => ?_) (fun h131 => ?_)
                            · skip
                              refine x_iconst (v := 0) dX9_layMud_148 (by decide) ?_
                              refine x_istore_n (lo2 := [_, _, _, _, _, _, _]) dX9_layMud_149 (by decide) rfl rfl ?_
                              refine x_iload dX9_layMud_150 rfl ?_
                              refine x_if_eq (tgt := 189) dX9_layMud_152 (by decide) (fun h152 => ?_) (fun h152 => ?_)
                              · skip
                                replace h152 := zb0 h152
                                refine x_iconst (v := 0) dX9_layMud_189 (by decide) ?_
                                refine x_istore (lo2 := [_, _, _, _, _, _, _]) dX9_layMud_190 (by decide) rfl rfl ?_
                                refine x_iincN (lo2 := [_, _, _, _, _, _, _]) dX9_layMud_192 rfl rfl rfl ?_
                                refine x_goto (tgt := 75) dX9_layMud_195 (by decide) ?_
                                refine x_drop (i := 6) (lo2 := [_, _, _, _, _, _, _]) rfl ?_
                                exact x_eq (by simp only [klo, kal, ksl]; simp [zb, h5, h46, h54, h64, h79, h93, h104, hlt, h126, h131, h152]) (by rfl) (by rfl) (Kb trivial)
                              · skip
                                replace h152 := zb1 h152
                                refine x_aload_n dX9_layMud_155 rfl ?_
                                refine x_getR dX9_layMud_156 fl_X9_28 (by omega) rfl rfl rfl ?_
                                refine x_iload_n dX9_layMud_159 rfl ?_
                                refine x_ialdN dX9_layMud_160 (by omega) rfl rfl (by omega) ?_
                                rw [kwm_ne I q (show 47 ≠ 53 by decide) (show 47 ≠ 54 by decide)]
                                refine x_iload dX9_layMud_161 rfl ?_
                                refine x_pc (pc2 := 163) rfl ?_
                                refine x_callSi dX9_layMud_163 ml_X9_67 mt_X9_has st_X9_has (ct_X9_has) rfl rfl (Nat.le_of_ble_eq_true rfl) ⟨(Nat.le_of_ble_eq_true rfl), (Nat.le_of_ble_eq_true rfl)⟩ ⟨rfl, rfl⟩ ⟨(Nat.le_of_ble_eq_true rfl), (Nat.le_of_ble_eq_true rfl)⟩ ?_
                                refine x_if_eq (tgt := 185) dX9_layMud_166 (by decide) (fun h166 => ?_) (fun h166 => ?_)
                                · skip
                                  replace h166 := zb0 h166
                                  exact absurd (h93.symm.trans h166) (by decide)
                                · skip
                                  replace h166 := zb1 h166
                                  refine x_iload dX9_layMud_169 rfl ?_
                                  refine x_if_eq (tgt := 189) dX9_layMud_171 (by decide) (fun h171 => ?_) (fun h171 => ?_)
                                  · skip
                                    refine x_iconst (v := 0) dX9_layMud_189 (by decide) ?_
                                    refine x_istore (lo2 := [_, _, _, _, _, _, _]) dX9_layMud_190 (by decide) rfl rfl ?_
                                    refine x_iincN (lo2 := [_, _, _, _, _, _, _]) dX9_layMud_192 rfl rfl rfl ?_
                                    refine x_goto (tgt := 75) dX9_layMud_195 (by decide) ?_
                                    refine x_drop (i := 6) (lo2 := [_, _, _, _, _, _, _]) rfl ?_
                                    exact x_eq (by simp only [klo, kal, ksl]; simp [zb, h5, h46, h54, h64, h79, h93, h104, hlt, h126, h131, h152, h166, h171]) (by rfl) (by rfl) (Kb trivial)
                                  · skip
                                    exact absurd rfl h171
                            · skip
                              exact absurd rfl h131
                        · skip
                          rw [kwm_54] at h115
                          have hlt := Int32.not_le.mp h115
                          refine x_iconst (v := 1) dX9_layMud_118 (by decide) ?_
                          refine x_goto (tgt := 123) dX9_layMud_119 (by decide) ?_
                          refine x_istore (lo2 := [_, _, _, _, _, _, _]) dX9_layMud_123 (by decide) rfl rfl ?_
                          refine x_iload_n dX9_layMud_125 rfl ?_
                          refine x_if_ne (tgt := 144) dX9_layMud_126 (by decide) (fun h126 => ?_) (fun h126 => ?_)
                          · skip
                            replace h126 := zb1 h126
                            refine x_iconst (v := 1) dX9_layMud_144 (by decide) ?_
                            refine x_goto (tgt := 149) dX9_layMud_145 (by decide) ?_
                            refine x_istore_n (lo2 := [_, _, _, _, _, _, _]) dX9_layMud_149 (by decide) rfl rfl ?_
                            refine x_iload dX9_layMud_150 rfl ?_
                            refine x_if_eq (tgt := 189) dX9_layMud_152 (by decide) (fun h152 => ?_) (fun h152 => ?_)
                            · skip
                              replace h152 := zb0 h152
                              refine x_iconst (v := 0) dX9_layMud_189 (by decide) ?_
                              refine x_istore (lo2 := [_, _, _, _, _, _, _]) dX9_layMud_190 (by decide) rfl rfl ?_
                              refine x_iincN (lo2 := [_, _, _, _, _, _, _]) dX9_layMud_192 rfl rfl rfl ?_
                              refine x_goto (tgt := 75) dX9_layMud_195 (by decide) ?_
                              refine x_drop (i := 6) (lo2 := [_, _, _, _, _, _, _]) rfl ?_
                              exact x_eq (by simp only [klo, kal, ksl]; simp [zb, h5, h46, h54, h64, h79, h93, h104, hlt, h126, h152]) (by rfl) (by rfl) (Kb trivial)
                            · skip
                              replace h152 := zb1 h152
                              refine x_aload_n dX9_layMud_155 rfl ?_
                              refine x_getR dX9_layMud_156 fl_X9_28 (by omega) rfl rfl rfl ?_
                              refine x_iload_n dX9_layMud_159 rfl ?_
                              refine x_ialdN dX9_layMud_160 (by omega) rfl rfl (by omega) ?_
                              rw [kwm_ne I q (show 47 ≠ 53 by decide) (show 47 ≠ 54 by decide)]
                              refine x_iload dX9_layMud_161 rfl ?_
                              refine x_pc (pc2 := 163) rfl ?_
                              refine x_callSi dX9_layMud_163 ml_X9_67 mt_X9_has st_X9_has (ct_X9_has) rfl rfl (Nat.le_of_ble_eq_true rfl) ⟨(Nat.le_of_ble_eq_true rfl), (Nat.le_of_ble_eq_true rfl)⟩ ⟨rfl, rfl⟩ ⟨(Nat.le_of_ble_eq_true rfl), (Nat.le_of_ble_eq_true rfl)⟩ ?_
                              refine x_if_eq (tgt := 185) dX9_layMud_166 (by decide) (fun h166 => ?_) (fun h166 => ?_)
                              · skip
                                replace h166 := zb0 h166
                                exact absurd (h93.symm.trans h166) (by decide)
                              · skip
                                replace h166 := zb1 h166
                                refine x_iload dX9_layMud_169 rfl ?_
                                refine x_if_eq (tgt := 189) dX9_layMud_171 (by decide) (fun h171 => ?_) (fun h171 => ?_)
                                · skip
                                  exact absurd h171 (by decide)
                                · skip
                                  refine x_aload_n dX9_layMud_174 rfl ?_
                                  refine x_getR dX9_layMud_175 fl_X9_46 (by omega) rfl rfl rfl ?_
                                  refine x_iload dX9_layMud_178 rfl ?_
                                  refine x_ialdN dX9_layMud_180 (by omega) rfl rfl hhib ?_
                                  refine x_iconst (v := 1) dX9_layMud_181 (by decide) ?_
                                  refine x_pc (pc2 := 182) rfl ?_
                                  refine x_icmp_ne (tgt := 189) dX9_layMud_182 (by decide) (fun h182 => ?_) (fun h182 => ?_)
                                  · skip
                                    rw [kwm_53] at h182
                                    refine x_iconst (v := 0) dX9_layMud_189 (by decide) ?_
                                    refine x_istore (lo2 := [_, _, _, _, _, _, _]) dX9_layMud_190 (by decide) rfl rfl ?_
                                    refine x_iincN (lo2 := [_, _, _, _, _, _, _]) dX9_layMud_192 rfl rfl rfl ?_
                                    refine x_goto (tgt := 75) dX9_layMud_195 (by decide) ?_
                                    refine x_drop (i := 6) (lo2 := [_, _, _, _, _, _, _]) rfl ?_
                                    exact x_eq (by simp only [klo, kal, ksl]; simp [zb, h5, h46, h54, h64, h79, h93, h104, hlt, h126, h152, h166, h171, h182]) (by rfl) (by rfl) (Kb trivial)
                                  · skip
                                    rw [kwm_53] at h182
                                    refine x_iconst (v := 1) dX9_layMud_185 (by decide) ?_
                                    refine x_goto (tgt := 190) dX9_layMud_186 (by decide) ?_
                                    refine x_istore (lo2 := [_, _, _, _, _, _, _]) dX9_layMud_190 (by decide) rfl rfl ?_
                                    refine x_iincN (lo2 := [_, _, _, _, _, _, _]) dX9_layMud_192 rfl rfl rfl ?_
                                    refine x_goto (tgt := 75) dX9_layMud_195 (by decide) ?_
                                    refine x_drop (i := 6) (lo2 := [_, _, _, _, _, _, _]) rfl ?_
                                    exact x_eq (by simp only [klo, kal, ksl]; simp [zb, h5, h46, h54, h64, h79, h93, h104, hlt, h126, h152, h166, h171, h182]) (by rfl) (by rfl) (Kb trivial)
                          · skip
                            replace h126 := zb0 h126
                            refine x_iload dX9_layMud_129 rfl ?_
                            refine x_if_eq (tgt := 148) dX9_layMud_131 (by decide) (fun h131 => ?_) (fun h131 => ?_)
                            · skip
                              exact absurd h131 (by decide)
                            · skip
                              refine x_aload_n dX9_layMud_134 rfl ?_
                              refine x_getR dX9_layMud_135 fl_X9_46 (by omega) rfl rfl rfl ?_
                              refine x_iload dX9_layMud_138 rfl ?_
                              refine x_ialdN dX9_layMud_140 (by omega) rfl rfl hhib ?_
                              refine x_if_ne (tgt := 148) dX9_layMud_141 (by decide) (fun h141 => ?_) (fun h141 => ?_)
                              · skip
                                rw [kwm_53] at h141
                                refine x_iconst (v := 0) dX9_layMud_148 (by decide) ?_
                                refine x_istore_n (lo2 := [_, _, _, _, _, _, _]) dX9_layMud_149 (by decide) rfl rfl ?_
                                refine x_iload dX9_layMud_150 rfl ?_
                                refine x_if_eq (tgt := 189) dX9_layMud_152 (by decide) (fun h152 => ?_) (fun h152 => ?_)
                                · skip
                                  replace h152 := zb0 h152
                                  refine x_iconst (v := 0) dX9_layMud_189 (by decide) ?_
                                  refine x_istore (lo2 := [_, _, _, _, _, _, _]) dX9_layMud_190 (by decide) rfl rfl ?_
                                  refine x_iincN (lo2 := [_, _, _, _, _, _, _]) dX9_layMud_192 rfl rfl rfl ?_
                                  refine x_goto (tgt := 75) dX9_layMud_195 (by decide) ?_
                                  refine x_drop (i := 6) (lo2 := [_, _, _, _, _, _, _]) rfl ?_
                                  exact x_eq (by simp only [klo, kal, ksl]; simp [zb, h5, h46, h54, h64, h79, h93, h104, hlt, h126, h131, h141, h152]) (by rfl) (by rfl) (Kb trivial)
                                · skip
                                  replace h152 := zb1 h152
                                  refine x_aload_n dX9_layMud_155 rfl ?_
                                  refine x_getR dX9_layMud_156 fl_X9_28 (by omega) rfl rfl rfl ?_
                                  refine x_iload_n dX9_layMud_159 rfl ?_
                                  refine x_ialdN dX9_layMud_160 (by omega) rfl rfl (by omega) ?_
                                  rw [kwm_ne I q (show 47 ≠ 53 by decide) (show 47 ≠ 54 by decide)]
                                  refine x_iload dX9_layMud_161 rfl ?_
                                  refine x_pc (pc2 := 163) rfl ?_
                                  refine x_callSi dX9_layMud_163 ml_X9_67 mt_X9_has st_X9_has (ct_X9_has) rfl rfl (Nat.le_of_ble_eq_true rfl) ⟨(Nat.le_of_ble_eq_true rfl), (Nat.le_of_ble_eq_true rfl)⟩ ⟨rfl, rfl⟩ ⟨(Nat.le_of_ble_eq_true rfl), (Nat.le_of_ble_eq_true rfl)⟩ ?_
                                  refine x_if_eq (tgt := 185) dX9_layMud_166 (by decide) (fun h166 => ?_) (fun h166 => ?_)
                                  · skip
                                    replace h166 := zb0 h166
                                    exact absurd (h93.symm.trans h166) (by decide)
                                  · skip
                                    replace h166 := zb1 h166
                                    refine x_iload dX9_layMud_169 rfl ?_
                                    refine x_if_eq (tgt := 189) dX9_layMud_171 (by decide) (fun h171 => ?_) (fun h171 => ?_)
                                    · skip
                                      exact absurd h171 (by decide)
                                    · skip
                                      refine x_aload_n dX9_layMud_174 rfl ?_
                                      refine x_getR dX9_layMud_175 fl_X9_46 (by omega) rfl rfl rfl ?_
                                      refine x_iload dX9_layMud_178 rfl ?_
                                      refine x_ialdN dX9_layMud_180 (by omega) rfl rfl hhib ?_
                                      refine x_iconst (v := 1) dX9_layMud_181 (by decide) ?_
                                      refine x_pc (pc2 := 182) rfl ?_
                                      refine x_icmp_ne (tgt := 189) dX9_layMud_182 (by decide) (fun h182 => ?_) (fun h182 => ?_)
                                      · skip
                                        rw [kwm_53] at h182
                                        refine x_iconst (v := 0) dX9_layMud_189 (by decide) ?_
                                        refine x_istore (lo2 := [_, _, _, _, _, _, _]) dX9_layMud_190 (by decide) rfl rfl ?_
                                        refine x_iincN (lo2 := [_, _, _, _, _, _, _]) dX9_layMud_192 rfl rfl rfl ?_
                                        refine x_goto (tgt := 75) dX9_layMud_195 (by decide) ?_
                                        refine x_drop (i := 6) (lo2 := [_, _, _, _, _, _, _]) rfl ?_
                                        exact x_eq (by simp only [klo, kal, ksl]; simp [zb, h5, h46, h54, h64, h79, h93, h104, hlt, h126, h131, h141, h152, h166, h171, h182]) (by rfl) (by rfl) (Kb trivial)
                                      · skip
                                        rw [kwm_53] at h182
                                        refine x_iconst (v := 1) dX9_layMud_185 (by decide) ?_
                                        refine x_goto (tgt := 190) dX9_layMud_186 (by decide) ?_
                                        refine x_istore (lo2 := [_, _, _, _, _, _, _]) dX9_layMud_190 (by decide) rfl rfl ?_
                                        refine x_iincN (lo2 := [_, _, _, _, _, _, _]) dX9_layMud_192 rfl rfl rfl ?_
                                        refine x_goto (tgt := 75) dX9_layMud_195 (by decide) ?_
                                        refine x_drop (i := 6) (lo2 := [_, _, _, _, _, _, _]) rfl ?_
                                        exact x_eq (by simp only [klo, kal, ksl]; simp [zb, h5, h46, h54, h64, h79, h93, h104, hlt, h126, h131, h141, h152, h166, h171, h182]) (by rfl) (by rfl) (Kb trivial)
                              · skip
                                rw [kwm_53] at h141
                                refine x_iconst (v := 1) dX9_layMud_144 (by decide) ?_
                                refine x_goto (tgt := 149) dX9_layMud_145 (by decide) ?_
                                refine x_istore_n (lo2 := [_, _, _, _, _, _, _]) dX9_layMud_149 (by decide) rfl rfl ?_
                                refine x_iload dX9_layMud_150 rfl ?_
                                refine x_if_eq (tgt := 189) dX9_layMud_152 (by decide) (fun h152 => ?_) (fun h152 => ?_)
                                · skip
                                  replace h152 := zb0 h152
                                  refine x_iconst (v := 0) dX9_layMud_189 (by decide) ?_
                                  refine x_istore (lo2 := [_, _, _, _, _, _, _]) dX9_layMud_190 (by decide) rfl rfl ?_
                                  refine x_iincN (lo2 := [_, _, _, _, _, _, _]) dX9_layMud_192 rfl rfl rfl ?_
                                  refine x_goto (tgt := 75) dX9_layMud_195 (by decide) ?_
                                  refine x_drop (i := 6) (lo2 := [_, _, _, _, _, _, _]) rfl ?_
                                  exact x_eq (by simp only [klo, kal, ksl]; simp [zb, h5, h46, h54, h64, h79, h93, h104, hlt, h126, h131, h141, h152]) (by rfl) (by rfl) (Kb trivial)
                                · skip
                                  replace h152 := zb1 h152
                                  refine x_aload_n dX9_layMud_155 rfl ?_
                                  refine x_getR dX9_layMud_156 fl_X9_28 (by omega) rfl rfl rfl ?_
                                  refine x_iload_n dX9_layMud_159 rfl ?_
                                  refine x_ialdN dX9_layMud_160 (by omega) rfl rfl (by omega) ?_
                                  rw [kwm_ne I q (show 47 ≠ 53 by decide) (show 47 ≠ 54 by decide)]
                                  refine x_iload dX9_layMud_161 rfl ?_
                                  refine x_pc (pc2 := 163) rfl ?_
                                  refine x_callSi dX9_layMud_163 ml_X9_67 mt_X9_has st_X9_has (ct_X9_has) rfl rfl (Nat.le_of_ble_eq_true rfl) ⟨(Nat.le_of_ble_eq_true rfl), (Nat.le_of_ble_eq_true rfl)⟩ ⟨rfl, rfl⟩ ⟨(Nat.le_of_ble_eq_true rfl), (Nat.le_of_ble_eq_true rfl)⟩ ?_
                                  refine x_if_eq (tgt := 185) dX9_layMud_166 (by decide) (fun h166 => ?_) (fun h166 => ?_)
                                  · skip
                                    replace h166 := zb0 h166
                                    exact absurd (h93.symm.trans h166) (by decide)
                                  · skip
                                    replace h166 := zb1 h166
                                    refine x_iload dX9_layMud_169 rfl ?_
                                    refine x_if_eq (tgt := 189) dX9_layMud_171 (by decide) (fun h171 => ?_) (fun h171 => ?_)
                                    · skip
                                      exact absurd h171 (by decide)
                                    · skip
                                      refine x_aload_n dX9_layMud_174 rfl ?_
                                      refine x_getR dX9_layMud_175 fl_X9_46 (by omega) rfl rfl rfl ?_
                                      refine x_iload dX9_layMud_178 rfl ?_
                                      refine x_ialdN dX9_layMud_180 (by omega) rfl rfl hhib ?_
                                      refine x_iconst (v := 1) dX9_layMud_181 (by decide) ?_
                                      refine x_pc (pc2 := 182) rfl ?_
                                      refine x_icmp_ne (tgt := 189) dX9_layMud_182 (by decide) (fun h182 => ?_) (fun h182 => ?_)
                                      · skip
                                        rw [kwm_53] at h182
                                        refine x_iconst (v := 0) dX9_layMud_189 (by decide) ?_
                                        refine x_istore (lo2 := [_, _, _, _, _, _, _]) dX9_layMud_190 (by decide) rfl rfl ?_
                                        refine x_iincN (lo2 := [_, _, _, _, _, _, _]) dX9_layMud_192 rfl rfl rfl ?_
                                        refine x_goto (tgt := 75) dX9_layMud_195 (by decide) ?_
                                        refine x_drop (i := 6) (lo2 := [_, _, _, _, _, _, _]) rfl ?_
                                        exact x_eq (by simp only [klo, kal, ksl]; simp [zb, h5, h46, h54, h64, h79, h93, h104, hlt, h126, h131, h141, h152, h166, h171, h182]) (by rfl) (by rfl) (Kb trivial)
                                      · skip
                                        rw [kwm_53] at h182
                                        rw [h141] at h182
                                        exact absurd h182 (by decide)
                · skip
                  refine x_iload dX9_layMud_75 rfl ?_
                  refine x_bipush (v := 10) dX9_layMud_77 (by decide) ?_
                  refine x_icmp_ge (tgt := 198) dX9_layMud_79 (by decide) (fun h79 => ?_) (fun h79 => ?_)
                  · skip
                    refine x_iload_n dX9_layMud_198 rfl ?_
                    refine x_if_ne (tgt := 207) dX9_layMud_199 (by decide) (fun h199 => ?_) (fun h199 => ?_)
                    · skip
                      replace h199 := zb1 h199
                      refine x_aload_n dX9_layMud_207 rfl ?_
                      refine x_getR dX9_layMud_208 fl_X9_46 (by omega) rfl rfl rfl ?_
                      refine x_iload_n dX9_layMud_211 rfl ?_
                      refine x_iload_n dX9_layMud_212 rfl ?_
                      refine x_if_eq (tgt := 220) dX9_layMud_213 (by decide) (fun h213 => ?_) (fun h213 => ?_)
                      · skip
                        replace h213 := zb0 h213
                        exact absurd (h199.symm.trans h213) (by decide)
                      · skip
                        replace h213 := zb1 h213
                        refine x_iconst (v := 1) dX9_layMud_216 (by decide) ?_
                        refine x_goto (tgt := 221) dX9_layMud_217 (by decide) ?_
                        refine x_iast dX9_layMud_221 (by omega) rfl rfl hhii ?_
                        refine x_aload_n dX9_layMud_222 rfl ?_
                        refine x_getR dX9_layMud_223 fl_X9_49 (by omega) rfl rfl rfl ?_
                        refine x_iload_n dX9_layMud_226 rfl ?_
                        refine x_iload_n dX9_layMud_227 rfl ?_
                        refine x_pc (pc2 := 228) rfl ?_
                        refine x_iast dX9_layMud_228 (by omega) rfl rfl hhii ?_
                        refine x_iincN (lo2 := [_, _, _, _, _, _, _]) dX9_layMud_229 rfl rfl rfl ?_
                        refine x_goto (tgt := 51) dX9_layMud_232 (by decide) ?_
                        refine x_drop (i := 3) (lo2 := [_, _, _, _, _, _, _]) rfl ?_
                        refine x_drop (i := 4) (lo2 := [_, _, _, _, _, _, _]) rfl ?_
                        refine x_drop (i := 5) (lo2 := [_, _, _, _, _, _, _]) rfl ?_
                        have ek : krd (I 47) (nI (z + 1)) (krs (I 47) (kw0 I 10) z) (i + 1) = (upd q.1 i 1, upd q.2 i (nI (z + 1))) := by simp only [krd]; rw [hq]; simp [kss, h64, h199]
                        exact x_eq (by rfl) (by rw [ek, kwm_u, kwm_53, kwm_54, kwm_kwm]) (by rfl) (Ki trivial)
                    · skip
                      replace h199 := zb0 h199
                      refine x_iload dX9_layMud_202 rfl ?_
                      refine x_if_eq (tgt := 229) dX9_layMud_204 (by decide) (fun h204 => ?_) (fun h204 => ?_)
                      · skip
                        replace h204 := zb0 h204
                        refine x_iincN (lo2 := [_, _, _, _, _, _, _]) dX9_layMud_229 rfl rfl rfl ?_
                        refine x_goto (tgt := 51) dX9_layMud_232 (by decide) ?_
                        refine x_drop (i := 3) (lo2 := [_, _, _, _, _, _, _]) rfl ?_
                        refine x_drop (i := 4) (lo2 := [_, _, _, _, _, _, _]) rfl ?_
                        refine x_drop (i := 5) (lo2 := [_, _, _, _, _, _, _]) rfl ?_
                        have ek : krd (I 47) (nI (z + 1)) (krs (I 47) (kw0 I 10) z) (i + 1) = q := by simp only [krd]; rw [hq]; simp [kss, h64, h199, h204]
                        exact x_eq (by rfl) (by rw [ek]) (by rfl) (Ki trivial)
                      · skip
                        replace h204 := zb1 h204
                        refine x_aload_n dX9_layMud_207 rfl ?_
                        refine x_getR dX9_layMud_208 fl_X9_46 (by omega) rfl rfl rfl ?_
                        refine x_iload_n dX9_layMud_211 rfl ?_
                        refine x_iload_n dX9_layMud_212 rfl ?_
                        refine x_if_eq (tgt := 220) dX9_layMud_213 (by decide) (fun h213 => ?_) (fun h213 => ?_)
                        · skip
                          replace h213 := zb0 h213
                          refine x_iconst (v := 0) dX9_layMud_220 (by decide) ?_
                          refine x_iast dX9_layMud_221 (by omega) rfl rfl hhii ?_
                          refine x_aload_n dX9_layMud_222 rfl ?_
                          refine x_getR dX9_layMud_223 fl_X9_49 (by omega) rfl rfl rfl ?_
                          refine x_iload_n dX9_layMud_226 rfl ?_
                          refine x_pc (pc2 := 227) rfl ?_
                          refine x_iload_n dX9_layMud_227 rfl ?_
                          refine x_iast dX9_layMud_228 (by omega) rfl rfl hhii ?_
                          refine x_iincN (lo2 := [_, _, _, _, _, _, _]) dX9_layMud_229 rfl rfl rfl ?_
                          refine x_goto (tgt := 51) dX9_layMud_232 (by decide) ?_
                          refine x_drop (i := 3) (lo2 := [_, _, _, _, _, _, _]) rfl ?_
                          refine x_drop (i := 4) (lo2 := [_, _, _, _, _, _, _]) rfl ?_
                          refine x_drop (i := 5) (lo2 := [_, _, _, _, _, _, _]) rfl ?_
                          have ek : krd (I 47) (nI (z + 1)) (krs (I 47) (kw0 I 10) z) (i + 1) = (upd q.1 i 0, upd q.2 i (nI (z + 1))) := by simp only [krd]; rw [hq]; simp [kss, h64, h199, h204]
                          exact x_eq (by rfl) (by rw [ek, kwm_u, kwm_53, kwm_54, kwm_kwm]) (by rfl) (Ki trivial)
                        · skip
                          replace h213 := zb1 h213
                          exact absurd (h199.symm.trans h213) (by decide)
                  · skip
                    exact absurd (nI_le (b := 10) (Nat.le_refl 10) (by decide)) h79
          · skip
            refine x_iload_n dX9_layMud_51 rfl ?_
            refine x_bipush (v := 10) dX9_layMud_52 (by decide) ?_
            refine x_icmp_ge (tgt := 235) dX9_layMud_54 (by decide) (fun h54 => ?_) (fun h54 => ?_)
            · skip
              refine x_iincN (lo2 := [_, _, _, _, _, _, _]) dX9_layMud_235 rfl rfl rfl ?_
              refine x_goto (tgt := 43) dX9_layMud_238 (by decide) ?_
              refine x_drop (i := 2) (lo2 := [_, _, _, _, _, _, _]) rfl ?_
              exact x_eq (by rfl) (by rfl) (by rfl) (Kr trivial)
            · skip
              exact absurd (nI_le (b := 10) (Nat.le_refl 10) (by decide)) h54
      · skip
        refine x_iload_n dX9_layMud_43 rfl ?_
        refine x_bipush (v := 24) dX9_layMud_44 (by decide) ?_
        refine x_icmp_ge (tgt := 241) dX9_layMud_46 (by decide) (fun h46 => ?_) (fun h46 => ?_)
        · skip
          exact x_vret dX9_layMud_241 rfl (Nat.le_of_ble_eq_true rfl) (Nat.le_of_ble_eq_true rfl) ⟨rfl, rfl, by rfl, by rfl, rfl⟩
        · skip
          exact absurd (nI_le (b := 24) (Nat.le_refl 24) (by decide)) h46
    · skip
      exact absurd (nI_le (b := 10) (Nat.le_refl 10) (by decide)) h5
theorem ct_X9_play {g : zG} {N : Nat} {I : zI} {L : zL} {q0 q1 : Option Nat} {a w : Int32} (hN : 58 ≤ N) : Ct g yX9_play mX9_play [.ref (g.2.1 + 40), .int a, .int w] N I L (zRw q0 q1) (zV (.int (kplA I a w)) N I (zRw q0 q1)) := by
  refine Ct_of (lo0 := [some (.ref (g.2.1 + 40)), some (.int a), some (.int w), none, none]) rfl rfl rfl rfl (Nat.le_of_ble_eq_true rfl) (fun E => ?_)
  refine x_iload_n dX9_play_0 rfl ?_
  refine x_iconst (v := 0) dX9_play_1 (by decide) ?_
  refine x_bipush (v := 9) dX9_play_2 (by decide) ?_
  refine x_callSi dX9_play_4 ml_X9_63 mt_X9_in st_X9_in (ct_X9_in) rfl rfl (Nat.le_of_ble_eq_true rfl) ⟨(Nat.le_of_ble_eq_true rfl), (Nat.le_of_ble_eq_true rfl)⟩ ⟨rfl, rfl⟩ ⟨(Nat.le_of_ble_eq_true rfl), (Nat.le_of_ble_eq_true rfl)⟩ ?_
  refine x_if_ne (tgt := 12) dX9_play_7 (by decide) (fun h7 => ?_) (fun h7 => ?_)
  · skip
    replace h7 := zb1 h7
    obtain ⟨a, ha, rfl⟩ := zin_ex (b := 9) (by decide) h7
    have zxi : zx (nI a) = a := zx_nI (by omega)
    refine x_iload_n dX9_play_12 rfl ?_
    refine x_iconst (v := 0) dX9_play_13 (by decide) ?_
    refine x_iconst (v := 2) dX9_play_14 (by decide) ?_
    refine x_callSi dX9_play_15 ml_X9_63 mt_X9_in st_X9_in (ct_X9_in) rfl rfl (Nat.le_of_ble_eq_true rfl) ⟨(Nat.le_of_ble_eq_true rfl), (Nat.le_of_ble_eq_true rfl)⟩ ⟨rfl, rfl⟩ ⟨(Nat.le_of_ble_eq_true rfl), (Nat.le_of_ble_eq_true rfl)⟩ ?_
    refine x_if_ne (tgt := 24) dX9_play_18 (by decide) (fun h18 => ?_) (fun h18 => ?_)
    · skip
      replace h18 := zb1 h18
      refine x_aload_n dX9_play_24 rfl ?_
      refine x_callVv dX9_play_25 ml_X9_147 mt_X9_layMud mv_X9_layMud (ct_X9_layMud hN) (by omega) rfl rfl rfl rfl (Nat.le_of_ble_eq_true rfl) ⟨(Nat.le_of_ble_eq_true rfl), (Nat.le_of_ble_eq_true rfl)⟩ ⟨rfl, rfl⟩ ⟨(Nat.le_of_ble_eq_true rfl), (Nat.le_of_ble_eq_true rfl)⟩ ?_
      refine x_iload_n dX9_play_28 rfl ?_
      refine x_if_ne (tgt := 39) dX9_play_29 (by decide) (fun h29 => ?_) (fun h29 => ?_)
      · skip
        refine x_iload_n dX9_play_39 rfl ?_
        refine x_iconst (v := 1) dX9_play_40 (by decide) ?_
        refine x_icmp_ne (tgt := 66) dX9_play_41 (by decide) (fun h41 => ?_) (fun h41 => ?_)
        · skip
          refine x_bipush (v := (-6)) dX9_play_66 (by decide) ?_
          refine x_istore_n (lo2 := [_, _, _, _, _]) dX9_play_68 (by decide) rfl rfl ?_
          refine x_bipush (v := 9) dX9_play_69 (by decide) ?_
          refine x_istore (lo2 := [_, _, _, _, _]) dX9_play_71 (by decide) rfl rfl ?_
          refine x_while (σ := Nat) (fun j => j ≤ 10) (fun j => 10 - j) (fun j => [some (.ref (g.2.1 + 40)), some (.int (nI a)), some (.int w), some (.int (kfm (kmd I) (I 47 a) a j)), some (.int (nI (10 - j) + (-1)))]) (fun _ => kwm I (kmd I)) (fun _ => L) 0 (Nat.zero_le _) (by show (_ : List (Option Value)) = [some (.ref (g.2.1 + 40)), some (.int (nI a)), some (.int w), some (.int (-6)), some (.int (nI 10 + (-1)))]; rw [show nI 10 + (-1) = (9 : Int32) from by decide]) rfl rfl (fun j hj K => ?_)
          refine x_iload dX9_play_73 rfl ?_
          refine x_if_lt (tgt := 143) dX9_play_75 (by decide) (fun h75 => ?_) (fun h75 => ?_)
          · skip
            have hj10 : j = 10 := by
              rcases Nat.lt_or_ge j 10 with q | q
              · obtain ⟨z, hz⟩ : ∃ z, 10 - j = z + 1 := ⟨9 - j, by omega⟩
                rw [hz, nI_m1] at h75; exact absurd h75 (nI_pos (by omega))
              · omega
            refine x_iload_n dX9_play_143 rfl ?_
            refine x_iret dX9_play_144 rfl (Nat.le_of_ble_eq_true rfl) (Nat.le_of_ble_eq_true rfl) ?_
            refine zV_of (congrArg Value.int ?_) ?_ ?_ ?_
            · first | (rw [kplA, if_pos h7]; done) | (rw [kplA, if_neg (by rw [h7]; decide), if_pos h18]; done) | (rw [kplA, if_neg (by rw [h7]; decide), if_neg (by rw [h18]; decide), zxi, if_pos h29, kwm_53]; done) | (rw [kplA, if_neg (by rw [h7]; decide), if_neg (by rw [h18]; decide), zxi, if_neg h29, if_pos h41, if_pos h51]; done) | (rw [kplA, if_neg (by rw [h7]; decide), if_neg (by rw [h18]; decide), zxi, if_neg h29, if_pos h41, if_neg h51, kwm_54]; done) | (rw [kplA, if_neg (by rw [h7]; decide), if_neg (by rw [h18]; decide), zxi, if_neg h29, if_neg h41, hj10])
            · first | (intro _ _; rfl) | (intro c hc2; unfold zscr at hc2; exact kwm_ne _ _ (by omega) (by omega))
            · first | rfl | (rw [kwm_ne _ _ (by decide) (by decide)])
            · first | rfl | (rw [kwm_ne _ _ (by decide) (by decide)])
          · skip
            have hjl : j < 10 := by
              rcases Nat.lt_or_ge j 10 with q | q
              · exact q
              · rw [show 10 - j = 0 by omega] at h75; exact absurd (by decide) h75
            obtain ⟨b, hb⟩ : ∃ b, b + j = 9 := ⟨9 - j, by omega⟩
            have hb9 : 9 - j = b := by omega
            rw [show nI (10 - j) + (-1) = nI b from by rw [show 10 - j = b + 1 by omega, nI_m1]]
            refine x_aload_n dX9_play_78 rfl ?_
            refine x_getR dX9_play_79 fl_X9_46 (by omega) rfl rfl rfl ?_
            refine x_iload_n dX9_play_82 rfl ?_
            refine x_ialdN dX9_play_83 (by omega) rfl rfl ha ?_
            refine x_iconst (v := 1) dX9_play_84 (by decide) ?_
            refine x_pc (pc2 := 85) rfl ?_
            refine x_icmp_ne (tgt := 135) dX9_play_85 (by decide) (fun h85 => ?_) (fun h85 => ?_)
            · skip
              rw [kwm_53] at h85
              refine x_iload_n dX9_play_135 rfl ?_
              refine x_istore_n (lo2 := [_, _, _, _, _]) dX9_play_136 (by decide) rfl rfl ?_
              refine x_iincm (lo2 := [_, _, _, _, _]) dX9_play_137 rfl rfl rfl ?_
              refine x_goto (tgt := 73) dX9_play_140 (by decide) ?_
              have ek : kfm (kmd I) (I 47 a) a (j + 1) = kfm (kmd I) (I 47 a) a j := by simp only [kfm]; rw [hb9, if_neg (fun q => h85 q.1)]
              exact x_eq (by rw [ek, show 10 - (j + 1) = b by omega]) (by rfl) (by rfl) (K (j + 1) (by omega) (by omega))
            · skip
              rw [kwm_53] at h85
              refine x_aload_n dX9_play_88 rfl ?_
              refine x_getR dX9_play_89 fl_X9_28 (by omega) rfl rfl rfl ?_
              refine x_iload_n dX9_play_92 rfl ?_
              refine x_ialdN dX9_play_93 (by omega) rfl rfl ha ?_
              refine x_iload dX9_play_94 rfl ?_
              refine x_pc (pc2 := 96) rfl ?_
              refine x_callSi dX9_play_96 ml_X9_67 mt_X9_has st_X9_has (ct_X9_has) rfl rfl (Nat.le_of_ble_eq_true rfl) ⟨(Nat.le_of_ble_eq_true rfl), (Nat.le_of_ble_eq_true rfl)⟩ ⟨rfl, rfl⟩ ⟨(Nat.le_of_ble_eq_true rfl), (Nat.le_of_ble_eq_true rfl)⟩ ?_
              refine x_if_eq (tgt := 135) dX9_play_99 (by decide) (fun h99 => ?_) (fun h99 => ?_)
              · skip
                replace h99 := zb0 h99
                rw [kwm_ne I (kmd I) (show 47 ≠ 53 by decide) (show 47 ≠ 54 by decide)] at h99
                refine x_iload_n dX9_play_135 rfl ?_
                refine x_istore_n (lo2 := [_, _, _, _, _]) dX9_play_136 (by decide) rfl rfl ?_
                refine x_iincm (lo2 := [_, _, _, _, _]) dX9_play_137 rfl rfl rfl ?_
                refine x_goto (tgt := 73) dX9_play_140 (by decide) ?_
                have ek : kfm (kmd I) (I 47 a) a (j + 1) = kfm (kmd I) (I 47 a) a j := by simp only [kfm]; rw [hb9, if_neg (fun q => absurd (h99.symm.trans q.2.1) (by decide))]
                exact x_eq (by rw [ek, show 10 - (j + 1) = b by omega]) (by rfl) (by rfl) (K (j + 1) (by omega) (by omega))
              · skip
                replace h99 := zb1 h99
                rw [kwm_ne I (kmd I) (show 47 ≠ 53 by decide) (show 47 ≠ 54 by decide)] at h99
                refine x_aload_n dX9_play_102 rfl ?_
                refine x_getR dX9_play_103 fl_X9_46 (by omega) rfl rfl rfl ?_
                refine x_iload dX9_play_106 rfl ?_
                refine x_ialdN dX9_play_108 (by omega) rfl rfl (by omega) ?_
                refine x_if_ne (tgt := 135) dX9_play_109 (by decide) (fun h109 => ?_) (fun h109 => ?_)
                · skip
                  rw [kwm_53] at h109
                  refine x_iload_n dX9_play_135 rfl ?_
                  refine x_istore_n (lo2 := [_, _, _, _, _]) dX9_play_136 (by decide) rfl rfl ?_
                  refine x_iincm (lo2 := [_, _, _, _, _]) dX9_play_137 rfl rfl rfl ?_
                  refine x_goto (tgt := 73) dX9_play_140 (by decide) ?_
                  have ek : kfm (kmd I) (I 47 a) a (j + 1) = kfm (kmd I) (I 47 a) a j := by simp only [kfm]; rw [hb9, if_neg (fun q => h109 q.2.2.1)]
                  exact x_eq (by rw [ek, show 10 - (j + 1) = b by omega]) (by rfl) (by rfl) (K (j + 1) (by omega) (by omega))
                · skip
                  rw [kwm_53] at h109
                  refine x_aload_n dX9_play_112 rfl ?_
                  refine x_getR dX9_play_113 fl_X9_49 (by omega) rfl rfl rfl ?_
                  refine x_iload dX9_play_116 rfl ?_
                  refine x_ialdN dX9_play_118 (by omega) rfl rfl (by omega) ?_
                  refine x_aload_n dX9_play_119 rfl ?_
                  refine x_pc (pc2 := 120) rfl ?_
                  refine x_getR dX9_play_120 fl_X9_49 (by omega) rfl rfl rfl ?_
                  refine x_iload_n dX9_play_123 rfl ?_
                  refine x_ialdN dX9_play_124 (by omega) rfl rfl ha ?_
                  refine x_iconst (v := 1) dX9_play_125 (by decide) ?_
                  refine x_isub dX9_play_126 ?_
                  refine x_icmp_ne (tgt := 135) dX9_play_127 (by decide) (fun h127 => ?_) (fun h127 => ?_)
                  · skip
                    rw [kwm_54] at h127
                    refine x_iload_n dX9_play_135 rfl ?_
                    refine x_istore_n (lo2 := [_, _, _, _, _]) dX9_play_136 (by decide) rfl rfl ?_
                    refine x_iincm (lo2 := [_, _, _, _, _]) dX9_play_137 rfl rfl rfl ?_
                    refine x_goto (tgt := 73) dX9_play_140 (by decide) ?_
                    have ek : kfm (kmd I) (I 47 a) a (j + 1) = kfm (kmd I) (I 47 a) a j := by simp only [kfm]; rw [hb9, if_neg (fun q => h127 q.2.2.2)]
                    exact x_eq (by rw [ek, show 10 - (j + 1) = b by omega]) (by rfl) (by rfl) (K (j + 1) (by omega) (by omega))
                  · skip
                    rw [kwm_54] at h127
                    refine x_iload dX9_play_130 rfl ?_
                    refine x_goto (tgt := 136) dX9_play_132 (by decide) ?_
                    refine x_istore_n (lo2 := [_, _, _, _, _]) dX9_play_136 (by decide) rfl rfl ?_
                    refine x_iincm (lo2 := [_, _, _, _, _]) dX9_play_137 rfl rfl rfl ?_
                    refine x_goto (tgt := 73) dX9_play_140 (by decide) ?_
                    have ek : kfm (kmd I) (I 47 a) a (j + 1) = nI b := by simp only [kfm]; rw [hb9, if_pos ⟨h85, h99, h109, h127⟩]
                    exact x_eq (by rw [ek, show 10 - (j + 1) = b by omega]) (by rfl) (by rfl) (K (j + 1) (by omega) (by omega))
        · skip
          refine x_aload_n dX9_play_44 rfl ?_
          refine x_getR dX9_play_45 fl_X9_46 (by omega) rfl rfl rfl ?_
          refine x_iload_n dX9_play_48 rfl ?_
          refine x_ialdN dX9_play_49 (by omega) rfl rfl ha ?_
          refine x_iconst (v := 2) dX9_play_50 (by decide) ?_
          refine x_pc (pc2 := 51) rfl ?_
          refine x_icmp_ne (tgt := 59) dX9_play_51 (by decide) (fun h51 => ?_) (fun h51 => ?_)
          · skip
            rw [kwm_53] at h51
            refine x_aload_n dX9_play_59 rfl ?_
            refine x_getR dX9_play_60 fl_X9_49 (by omega) rfl rfl rfl ?_
            refine x_iload_n dX9_play_63 rfl ?_
            refine x_ialdN dX9_play_64 (by omega) rfl rfl ha ?_
            refine x_iret dX9_play_65 rfl (Nat.le_of_ble_eq_true rfl) (Nat.le_of_ble_eq_true rfl) ?_
            refine zV_of (congrArg Value.int ?_) ?_ ?_ ?_
            · first | (rw [kplA, if_pos h7]; done) | (rw [kplA, if_neg (by rw [h7]; decide), if_pos h18]; done) | (rw [kplA, if_neg (by rw [h7]; decide), if_neg (by rw [h18]; decide), zxi, if_pos h29, kwm_53]; done) | (rw [kplA, if_neg (by rw [h7]; decide), if_neg (by rw [h18]; decide), zxi, if_neg h29, if_pos h41, if_pos h51]; done) | (rw [kplA, if_neg (by rw [h7]; decide), if_neg (by rw [h18]; decide), zxi, if_neg h29, if_pos h41, if_neg h51, kwm_54]; done) | (rw [kplA, if_neg (by rw [h7]; decide), if_neg (by rw [h18]; decide), zxi, if_neg h29, if_neg h41, hj10])
            · first | (intro _ _; rfl) | (intro c hc2; unfold zscr at hc2; exact kwm_ne _ _ (by omega) (by omega))
            · first | rfl | (rw [kwm_ne _ _ (by decide) (by decide)])
            · first | rfl | (rw [kwm_ne _ _ (by decide) (by decide)])
          · skip
            rw [kwm_53] at h51
            refine x_bipush (v := (-6)) dX9_play_54 (by decide) ?_
            refine x_goto (tgt := 65) dX9_play_56 (by decide) ?_
            refine x_iret dX9_play_65 rfl (Nat.le_of_ble_eq_true rfl) (Nat.le_of_ble_eq_true rfl) ?_
            refine zV_of (congrArg Value.int ?_) ?_ ?_ ?_
            · first | (rw [kplA, if_pos h7]; done) | (rw [kplA, if_neg (by rw [h7]; decide), if_pos h18]; done) | (rw [kplA, if_neg (by rw [h7]; decide), if_neg (by rw [h18]; decide), zxi, if_pos h29, kwm_53]; done) | (rw [kplA, if_neg (by rw [h7]; decide), if_neg (by rw [h18]; decide), zxi, if_neg h29, if_pos h41, if_pos h51]; done) | (rw [kplA, if_neg (by rw [h7]; decide), if_neg (by rw [h18]; decide), zxi, if_neg h29, if_pos h41, if_neg h51, kwm_54]; done) | (rw [kplA, if_neg (by rw [h7]; decide), if_neg (by rw [h18]; decide), zxi, if_neg h29, if_neg h41, hj10])
            · first | (intro _ _; rfl) | (intro c hc2; unfold zscr at hc2; exact kwm_ne _ _ (by omega) (by omega))
            · first | rfl | (rw [kwm_ne _ _ (by decide) (by decide)])
            · first | rfl | (rw [kwm_ne _ _ (by decide) (by decide)])
      · skip
        refine x_aload_n dX9_play_32 rfl ?_
        refine x_getR dX9_play_33 fl_X9_46 (by omega) rfl rfl rfl ?_
        refine x_iload_n dX9_play_36 rfl ?_
        refine x_ialdN dX9_play_37 (by omega) rfl rfl ha ?_
        refine x_iret dX9_play_38 rfl (Nat.le_of_ble_eq_true rfl) (Nat.le_of_ble_eq_true rfl) ?_
        refine zV_of (congrArg Value.int ?_) ?_ ?_ ?_
        · first | (rw [kplA, if_pos h7]; done) | (rw [kplA, if_neg (by rw [h7]; decide), if_pos h18]; done) | (rw [kplA, if_neg (by rw [h7]; decide), if_neg (by rw [h18]; decide), zxi, if_pos h29, kwm_53]; done) | (rw [kplA, if_neg (by rw [h7]; decide), if_neg (by rw [h18]; decide), zxi, if_neg h29, if_pos h41, if_pos h51]; done) | (rw [kplA, if_neg (by rw [h7]; decide), if_neg (by rw [h18]; decide), zxi, if_neg h29, if_pos h41, if_neg h51, kwm_54]; done) | (rw [kplA, if_neg (by rw [h7]; decide), if_neg (by rw [h18]; decide), zxi, if_neg h29, if_neg h41, hj10])
        · first | (intro _ _; rfl) | (intro c hc2; unfold zscr at hc2; exact kwm_ne _ _ (by omega) (by omega))
        · first | rfl | (rw [kwm_ne _ _ (by decide) (by decide)])
        · first | rfl | (rw [kwm_ne _ _ (by decide) (by decide)])
    · skip
      replace h18 := zb0 h18
      refine x_bipush (v := (-2)) dX9_play_21 (by decide) ?_
      refine x_iret dX9_play_23 rfl (Nat.le_of_ble_eq_true rfl) (Nat.le_of_ble_eq_true rfl) ?_
      refine zV_of (congrArg Value.int ?_) ?_ ?_ ?_
      · first | (rw [kplA, if_pos h7]; done) | (rw [kplA, if_neg (by rw [h7]; decide), if_pos h18]; done) | (rw [kplA, if_neg (by rw [h7]; decide), if_neg (by rw [h18]; decide), zxi, if_pos h29, kwm_53]; done) | (rw [kplA, if_neg (by rw [h7]; decide), if_neg (by rw [h18]; decide), zxi, if_neg h29, if_pos h41, if_pos h51]; done) | (rw [kplA, if_neg (by rw [h7]; decide), if_neg (by rw [h18]; decide), zxi, if_neg h29, if_pos h41, if_neg h51, kwm_54]; done) | (rw [kplA, if_neg (by rw [h7]; decide), if_neg (by rw [h18]; decide), zxi, if_neg h29, if_neg h41, hj10])
      · first | (intro _ _; rfl) | (intro c hc2; unfold zscr at hc2; exact kwm_ne _ _ (by omega) (by omega))
      · first | rfl | (rw [kwm_ne _ _ (by decide) (by decide)])
      · first | rfl | (rw [kwm_ne _ _ (by decide) (by decide)])
  · skip
    replace h7 := zb0 h7
    refine x_iconst (v := (-1)) dX9_play_10 (by decide) ?_
    refine x_iret dX9_play_11 rfl (Nat.le_of_ble_eq_true rfl) (Nat.le_of_ble_eq_true rfl) ?_
    refine zV_of (congrArg Value.int ?_) ?_ ?_ ?_
    · first | (rw [kplA, if_pos h7]; done) | (rw [kplA, if_neg (by rw [h7]; decide), if_pos h18]; done) | (rw [kplA, if_neg (by rw [h7]; decide), if_neg (by rw [h18]; decide), zxi, if_pos h29, kwm_53]; done) | (rw [kplA, if_neg (by rw [h7]; decide), if_neg (by rw [h18]; decide), zxi, if_neg h29, if_pos h41, if_pos h51]; done) | (rw [kplA, if_neg (by rw [h7]; decide), if_neg (by rw [h18]; decide), zxi, if_neg h29, if_pos h41, if_neg h51, kwm_54]; done) | (rw [kplA, if_neg (by rw [h7]; decide), if_neg (by rw [h18]; decide), zxi, if_neg h29, if_neg h41, hj10])
    · first | (intro _ _; rfl) | (intro c hc2; unfold zscr at hc2; exact kwm_ne _ _ (by omega) (by omega))
    · first | rfl | (rw [kwm_ne _ _ (by decide) (by decide)])
    · first | rfl | (rw [kwm_ne _ _ (by decide) (by decide)])
theorem ct_X9_year {g : zG} {N : Nat} {I : zI} {L : zL} {q0 q1 : Option Nat} {s m w : Int32} (hN : 58 ≤ N) : Ct g yX9_year mX9_year [.ref (g.2.1 + 40), .int s, .int m, .int w] N I L (zRw q0 q1) (zV (.int (kyeA I s m w)) N I (zRw q0 q1)) := by
  refine Ct_of (lo0 := [some (.ref (g.2.1 + 40)), some (.int s), some (.int m), some (.int w), none, none, none, none]) rfl rfl rfl rfl (Nat.le_of_ble_eq_true rfl) (fun E => ?_)
  refine x_iload_n dX9_year_0 rfl ?_
  refine x_iconst (v := 0) dX9_year_1 (by decide) ?_
  refine x_sipush (v := 9999) dX9_year_2 (by decide) ?_
  refine x_callSi dX9_year_5 ml_X9_63 mt_X9_in st_X9_in (ct_X9_in) rfl rfl (Nat.le_of_ble_eq_true rfl) ⟨(Nat.le_of_ble_eq_true rfl), (Nat.le_of_ble_eq_true rfl)⟩ ⟨rfl, rfl⟩ ⟨(Nat.le_of_ble_eq_true rfl), (Nat.le_of_ble_eq_true rfl)⟩ ?_
  refine x_if_eq (tgt := 30) dX9_year_8 (by decide) (fun h8 => ?_) (fun h8 => ?_)
  · skip
    replace h8 := zb0 h8
    refine x_bipush (v := (-2)) dX9_year_30 (by decide) ?_
    refine x_iret dX9_year_32 rfl (Nat.le_of_ble_eq_true rfl) (Nat.le_of_ble_eq_true rfl) ?_
    refine zV_of (congrArg Value.int ?_) ?_ ?_ ?_
    · first | (rw [kyeA, if_pos (by simp [h8])]; done) | (rw [kyeA, if_neg (by simp [h8, h18, h27]), zxa, zxm, if_pos h200]; done) | (rw [kyeA, if_neg (by simp [h8, h18, h27]), zxa, zxm, if_neg h200, if_pos h218]; done) | (rw [kyeA, if_neg (by simp [h8, h18, h27]), zxa, zxm, if_neg h200, if_neg h218])
    · first | (intro _ _; rfl) | (intro c hc2; unfold zscr at hc2; rw [kyI_far (by omega) (by omega), an_far (by omega) (by omega)])
    · first | rfl | (rw [kyI_40 (by decide), an_40 (by decide)])
    · first | rfl | (rw [kyI_40 (by decide), an_40 (by decide)])
  · skip
    replace h8 := zb1 h8
    refine x_iload_n dX9_year_11 rfl ?_
    refine x_iconst (v := 1) dX9_year_12 (by decide) ?_
    refine x_bipush (v := 99) dX9_year_13 (by decide) ?_
    refine x_callSi dX9_year_15 ml_X9_63 mt_X9_in st_X9_in (ct_X9_in) rfl rfl (Nat.le_of_ble_eq_true rfl) ⟨(Nat.le_of_ble_eq_true rfl), (Nat.le_of_ble_eq_true rfl)⟩ ⟨rfl, rfl⟩ ⟨(Nat.le_of_ble_eq_true rfl), (Nat.le_of_ble_eq_true rfl)⟩ ?_
    refine x_if_eq (tgt := 30) dX9_year_18 (by decide) (fun h18 => ?_) (fun h18 => ?_)
    · skip
      replace h18 := zb0 h18
      refine x_bipush (v := (-2)) dX9_year_30 (by decide) ?_
      refine x_iret dX9_year_32 rfl (Nat.le_of_ble_eq_true rfl) (Nat.le_of_ble_eq_true rfl) ?_
      refine zV_of (congrArg Value.int ?_) ?_ ?_ ?_
      · first | (rw [kyeA, if_pos (by simp [h8, h18])]; done) | (rw [kyeA, if_neg (by simp [h8, h18, h27]), zxa, zxm, if_pos h200]; done) | (rw [kyeA, if_neg (by simp [h8, h18, h27]), zxa, zxm, if_neg h200, if_pos h218]; done) | (rw [kyeA, if_neg (by simp [h8, h18, h27]), zxa, zxm, if_neg h200, if_neg h218])
      · first | (intro _ _; rfl) | (intro c hc2; unfold zscr at hc2; rw [kyI_far (by omega) (by omega), an_far (by omega) (by omega)])
      · first | rfl | (rw [kyI_40 (by decide), an_40 (by decide)])
      · first | rfl | (rw [kyI_40 (by decide), an_40 (by decide)])
    · skip
      replace h18 := zb1 h18
      refine x_iload_n dX9_year_21 rfl ?_
      refine x_iconst (v := 0) dX9_year_22 (by decide) ?_
      refine x_iconst (v := 2) dX9_year_23 (by decide) ?_
      refine x_callSi dX9_year_24 ml_X9_63 mt_X9_in st_X9_in (ct_X9_in) rfl rfl (Nat.le_of_ble_eq_true rfl) ⟨(Nat.le_of_ble_eq_true rfl), (Nat.le_of_ble_eq_true rfl)⟩ ⟨rfl, rfl⟩ ⟨(Nat.le_of_ble_eq_true rfl), (Nat.le_of_ble_eq_true rfl)⟩ ?_
      refine x_if_ne (tgt := 33) dX9_year_27 (by decide) (fun h27 => ?_) (fun h27 => ?_)
      · skip
        replace h27 := zb1 h27
        obtain ⟨s, hs, rfl⟩ := zin_ex (b := 9999) (by decide) h8
        obtain ⟨mm, hm1, hm2, rfl⟩ := zin_ex1 (a := 1) (b := 99) (by decide) (by decide) h18
        have zxa : zx (nI s) = s := zx_nI (by omega)
        have zxm : zx (nI mm) = mm := zx_nI (by omega)
        refine x_aload_n dX9_year_33 rfl ?_
        refine x_callVv dX9_year_34 ml_X9_106 mt_X9_asNow mv_X9_asNow (ct_X9_asNow hN) (by omega) rfl rfl rfl rfl (Nat.le_of_ble_eq_true rfl) ⟨(Nat.le_of_ble_eq_true rfl), (Nat.le_of_ble_eq_true rfl)⟩ ⟨rfl, rfl⟩ ⟨(Nat.le_of_ble_eq_true rfl), (Nat.le_of_ble_eq_true rfl)⟩ ?_
        refine x_iload_n dX9_year_37 rfl ?_
        refine x_istore (lo2 := [_, _, _, _, _, _, _, _]) dX9_year_38 (by decide) rfl rfl ?_
        refine x_iconst (v := 0) dX9_year_40 (by decide) ?_
        refine x_pc (pc2 := 41) rfl ?_
        refine x_istore (lo2 := [_, _, _, _, _, _, _, _]) dX9_year_41 (by decide) rfl rfl ?_
        refine x_loop (inv := fun i => True) (fun i => [some (.ref (g.2.1 + 40)), some (.int (nI s)), some (.int (nI mm)), some (.int w), some (.int (nI (yx_ s i))), some (.int (nI i)), none, none]) (fun i => kyI s (anI I) i) (fun i => L) 0 mm (by omega) (by trivial) (by rfl) (by rfl) (by rfl) (fun i hloi hhii hinvi Ki => ?_) (fun hinvi => ?_)
        · skip
          have hx1 := yx_lt (s := s) (by omega) i
          refine x_iload dX9_year_43 rfl ?_
          refine x_iload_n dX9_year_45 rfl ?_
          refine x_icmp_ge (tgt := 155) dX9_year_46 (by decide) (fun h46 => ?_) (fun h46 => ?_)
          · skip
            exact absurd h46 (nI_ge hhii (by omega))
          · skip
            refine x_bipush (v := 75) dX9_year_49 (by decide) ?_
            refine x_iload dX9_year_51 rfl ?_
            refine x_imul dX9_year_53 ?_
            refine x_bipush (v := 74) dX9_year_54 (by decide) ?_
            refine x_iadd dX9_year_56 ?_
            refine x_pc (pc2 := 57) rfl ?_
            refine x_ldc dX9_year_57 cn_X9_154 ?_
            refine x_irem dX9_year_59 (by decide) ?_
            rw [show (75 : Int32) * nI (yx_ s i) + 74 - (75 * nI (yx_ s i) + 74) / 65537 * 65537 = nI (yx_ s (i + 1)) from by rw [show (75 : Int32) * nI (yx_ s i) + 74 = nI (75 * yx_ s i + 74) from by rw [show (75 : Int32) = nI 75 from rfl, pk_mul]; exact nI_add _ 74]; exact zrem_nI (d := 65537) (e := 65537) rfl (by omega) (by decide) (by decide)]
            refine x_istore (lo2 := [_, _, _, _, _, _, _, _]) dX9_year_60 (by decide) rfl rfl ?_
            refine x_iload dX9_year_62 rfl ?_
            refine x_bipush (v := 8) dX9_year_64 (by decide) ?_
            refine x_irem dX9_year_66 (by decide) ?_
            have hx5 := yx_lt (s := s) (by omega) (i + 1)
            rw [show nI (yx_ s (i + 1)) - nI (yx_ s (i + 1)) / 8 * 8 = nI (yx_ s (i + 1) % 8) from zrem_nI (d := 8) (e := 8) rfl (by omega) (by decide) (by decide)]
            refine x_pc (pc2 := 67) rfl ?_
            refine x_istore (lo2 := [_, _, _, _, _, _, _, _]) dX9_year_67 (by decide) rfl rfl ?_
            refine x_iload dX9_year_69 rfl ?_
            refine x_bipush (v := 8) dX9_year_71 (by decide) ?_
            refine x_idiv dX9_year_73 (by decide) ?_
            rw [show nI (yx_ s (i + 1)) / 8 = nI (yx_ s (i + 1) / 8) from zdiv_nI (d := 8) (e := 8) rfl (by omega) (by decide) (by decide)]
            refine x_istore (lo2 := [_, _, _, _, _, _, _, _]) dX9_year_74 (by decide) rfl rfl ?_
            refine x_iload dX9_year_76 rfl ?_
            refine x_pc (pc2 := 78) rfl ?_
            refine x_iconst (v := 4) dX9_year_78 (by decide) ?_
            refine x_icmp_ge (tgt := 106) dX9_year_79 (by decide) (fun h79 => ?_) (fun h79 => ?_)
            · skip
              have hx4 : ¬ yx_ s (i + 1) % 8 < 4 := by rw [show (4 : Int32) = nI 4 from rfl, nI_leI (by decide) (by omega)] at h79; omega
              refine x_iload dX9_year_106 rfl ?_
              refine x_iconst (v := 4) dX9_year_108 (by decide) ?_
              refine x_icmp_ne (tgt := 128) dX9_year_109 (by decide) (fun h109 => ?_) (fun h109 => ?_)
              · skip
                have hxe4 : ¬ yx_ s (i + 1) % 8 = 4 := by rw [show (4 : Int32) = nI 4 from rfl, nI_eq (by omega) (by decide)] at h109; exact h109
                refine x_aload_n dX9_year_128 rfl ?_
                refine x_iload dX9_year_129 rfl ?_
                refine x_iconst (v := 5) dX9_year_131 (by decide) ?_
                refine x_icmp_ne (tgt := 142) dX9_year_132 (by decide) (fun h132 => ?_) (fun h132 => ?_)
                · skip
                  have hxe5 : ¬ yx_ s (i + 1) % 8 = 5 := by rw [show (5 : Int32) = nI 5 from rfl, nI_eq (by omega) (by decide)] at h132; exact h132
                  refine x_aload_n dX9_year_142 rfl ?_
                  refine x_callVi dX9_year_143 ml_X9_122 mt_X9_endHour mv_X9_endHour (ct_X9_endHour hN) (by omega) rfl rfl rfl rfl (Nat.le_of_ble_eq_true rfl) ⟨(Nat.le_of_ble_eq_true rfl), (Nat.le_of_ble_eq_true rfl)⟩ ⟨rfl, rfl⟩ ⟨(Nat.le_of_ble_eq_true rfl), (Nat.le_of_ble_eq_true rfl)⟩ ?_
                  refine x_putI dX9_year_146 fp_X9_116 (by omega) rfl ?_
                  refine x_iincN (lo2 := [_, _, _, _, _, _, _, _]) dX9_year_149 rfl rfl rfl ?_
                  refine x_goto (tgt := 43) dX9_year_152 (by decide) ?_
                  refine x_drop (i := 6) (lo2 := [_, _, _, _, _, _, _, _]) rfl ?_
                  refine x_drop (i := 7) (lo2 := [_, _, _, _, _, _, _, _]) rfl ?_
                  have hk : kk_ (yx_ s (i + 1)) = 4 := by unfold kk_; rw [if_neg hx4, if_neg hxe4, if_neg hxe5]
                  have ha : kaa (yx_ s (i + 1)) = yx_ s (i + 1) / 8 % 6 := by unfold kaa; rw [if_neg hx4]
                  exact x_eq (by rfl) (by simp only [kyI]; rw [hk, ha]; simp [kaI, kaR]) (by rfl) (Ki trivial)
                · skip
                  have hxe5 : yx_ s (i + 1) % 8 = 5 := by rw [show (5 : Int32) = nI 5 from rfl, nI_eq (by omega) (by decide)] at h132; exact h132
                  refine x_aload_n dX9_year_135 rfl ?_
                  refine x_callVi dX9_year_136 ml_X9_119 mt_X9_rest mv_X9_rest (ct_X9_rest hN) (by omega) rfl rfl rfl rfl (Nat.le_of_ble_eq_true rfl) ⟨(Nat.le_of_ble_eq_true rfl), (Nat.le_of_ble_eq_true rfl)⟩ ⟨rfl, rfl⟩ ⟨(Nat.le_of_ble_eq_true rfl), (Nat.le_of_ble_eq_true rfl)⟩ ?_
                  refine x_goto (tgt := 146) dX9_year_139 (by decide) ?_
                  refine x_putI dX9_year_146 fp_X9_116 (by omega) rfl ?_
                  refine x_iincN (lo2 := [_, _, _, _, _, _, _, _]) dX9_year_149 rfl rfl rfl ?_
                  refine x_goto (tgt := 43) dX9_year_152 (by decide) ?_
                  refine x_drop (i := 6) (lo2 := [_, _, _, _, _, _, _, _]) rfl ?_
                  refine x_drop (i := 7) (lo2 := [_, _, _, _, _, _, _, _]) rfl ?_
                  have hk : kk_ (yx_ s (i + 1)) = 3 := by unfold kk_; rw [if_neg hx4, if_neg hxe4, if_pos hxe5]
                  have ha : kaa (yx_ s (i + 1)) = yx_ s (i + 1) / 8 % 6 := by unfold kaa; rw [if_neg hx4]
                  exact x_eq (by rfl) (by simp only [kyI]; rw [hk, ha]; simp [kaI, kaR]) (by rfl) (Ki trivial)
              · skip
                have hxe4 : yx_ s (i + 1) % 8 = 4 := by rw [show (4 : Int32) = nI 4 from rfl, nI_eq (by omega) (by decide)] at h109; exact h109
                refine x_aload_n dX9_year_112 rfl ?_
                refine x_aload_n dX9_year_113 rfl ?_
                refine x_iload dX9_year_114 rfl ?_
                refine x_bipush (v := 6) dX9_year_116 (by decide) ?_
                refine x_irem dX9_year_118 (by decide) ?_
                rw [show nI (yx_ s (i + 1) / 8) - nI (yx_ s (i + 1) / 8) / 6 * 6 = nI (yx_ s (i + 1) / 8 % 6) from zrem_nI (d := 6) (e := 6) rfl (by omega) (by decide) (by decide)]
                refine x_pc (pc2 := 119) rfl ?_
                refine x_callVi dX9_year_119 ml_X9_100 mt_X9_sitBy mv_X9_sitBy (ct_X9_sitBy hN (Nat.mod_lt _ (by decide))) (by omega) rfl rfl rfl rfl (Nat.le_of_ble_eq_true rfl) ⟨(Nat.le_of_ble_eq_true rfl), (Nat.le_of_ble_eq_true rfl)⟩ ⟨rfl, rfl⟩ ⟨(Nat.le_of_ble_eq_true rfl), (Nat.le_of_ble_eq_true rfl)⟩ ?_
                refine x_putI dX9_year_122 fp_X9_116 (by omega) rfl ?_
                refine x_goto (tgt := 149) dX9_year_125 (by decide) ?_
                refine x_iincN (lo2 := [_, _, _, _, _, _, _, _]) dX9_year_149 rfl rfl rfl ?_
                refine x_goto (tgt := 43) dX9_year_152 (by decide) ?_
                refine x_drop (i := 6) (lo2 := [_, _, _, _, _, _, _, _]) rfl ?_
                refine x_drop (i := 7) (lo2 := [_, _, _, _, _, _, _, _]) rfl ?_
                have hk : kk_ (yx_ s (i + 1)) = 2 := by unfold kk_; rw [if_neg hx4, if_pos hxe4]
                have ha : kaa (yx_ s (i + 1)) = yx_ s (i + 1) / 8 % 6 := by unfold kaa; rw [if_neg hx4]
                exact x_eq (by rfl) (by simp only [kyI]; rw [hk, ha]; simp [kaI, kaR]) (by rfl) (Ki trivial)
            · skip
              have hx4 : yx_ s (i + 1) % 8 < 4 := by rw [show (4 : Int32) = nI 4 from rfl, nI_leI (by decide) (by omega)] at h79; omega
              refine x_aload_n dX9_year_82 rfl ?_
              refine x_aload_n dX9_year_83 rfl ?_
              refine x_iload dX9_year_84 rfl ?_
              refine x_bipush (v := 6) dX9_year_86 (by decide) ?_
              refine x_idiv dX9_year_88 (by decide) ?_
              rw [show nI (yx_ s (i + 1) / 8) / 6 = nI (yx_ s (i + 1) / 8 / 6) from zdiv_nI (d := 6) (e := 6) rfl (by omega) (by decide) (by decide)]
              refine x_pc (pc2 := 89) rfl ?_
              refine x_bipush (v := 6) dX9_year_89 (by decide) ?_
              refine x_irem dX9_year_91 (by decide) ?_
              rw [show nI (yx_ s (i + 1) / 8 / 6) - nI (yx_ s (i + 1) / 8 / 6) / 6 * 6 = nI (yx_ s (i + 1) / 8 / 6 % 6) from zrem_nI (d := 6) (e := 6) rfl (by omega) (by decide) (by decide)]
              refine x_iload dX9_year_92 rfl ?_
              refine x_bipush (v := 6) dX9_year_94 (by decide) ?_
              refine x_irem dX9_year_96 (by decide) ?_
              rw [show nI (yx_ s (i + 1) / 8) - nI (yx_ s (i + 1) / 8) / 6 * 6 = nI (yx_ s (i + 1) / 8 % 6) from zrem_nI (d := 6) (e := 6) rfl (by omega) (by decide) (by decide)]
              refine x_callVi dX9_year_97 ml_X9_103 mt_X9_grip mv_X9_grip (ct_X9_grip hN (Nat.mod_lt _ (by decide)) (Nat.mod_lt _ (by decide))) (by omega) rfl rfl rfl rfl (Nat.le_of_ble_eq_true rfl) ⟨(Nat.le_of_ble_eq_true rfl), (Nat.le_of_ble_eq_true rfl)⟩ ⟨rfl, rfl⟩ ⟨(Nat.le_of_ble_eq_true rfl), (Nat.le_of_ble_eq_true rfl)⟩ ?_
              refine x_pc (pc2 := 100) rfl ?_
              refine x_putI dX9_year_100 fp_X9_116 (by omega) rfl ?_
              refine x_goto (tgt := 149) dX9_year_103 (by decide) ?_
              refine x_iincN (lo2 := [_, _, _, _, _, _, _, _]) dX9_year_149 rfl rfl rfl ?_
              refine x_goto (tgt := 43) dX9_year_152 (by decide) ?_
              refine x_drop (i := 6) (lo2 := [_, _, _, _, _, _, _, _]) rfl ?_
              refine x_drop (i := 7) (lo2 := [_, _, _, _, _, _, _, _]) rfl ?_
              have hk : kk_ (yx_ s (i + 1)) = 0 := by unfold kk_; rw [if_pos hx4]
              have ha : kaa (yx_ s (i + 1)) = yx_ s (i + 1) / 8 / 6 % 6 := by unfold kaa; rw [if_pos hx4]
              exact x_eq (by rfl) (by simp only [kyI]; rw [hk, ha]; simp [kaI, kaR]) (by rfl) (Ki trivial)
        · skip
          refine x_iload dX9_year_43 rfl ?_
          refine x_iload_n dX9_year_45 rfl ?_
          refine x_icmp_ge (tgt := 155) dX9_year_46 (by decide) (fun h46 => ?_) (fun h46 => ?_)
          · skip
            refine x_iconst (v := 0) dX9_year_155 (by decide) ?_
            refine x_istore (lo2 := [_, _, _, _, _, _, _, _]) dX9_year_156 (by decide) rfl rfl ?_
            refine x_iconst (v := 0) dX9_year_158 (by decide) ?_
            refine x_istore (lo2 := [_, _, _, _, _, _, _, _]) dX9_year_159 (by decide) rfl rfl ?_
            refine x_loop (inv := fun i => True) (fun i => [some (.ref (g.2.1 + 40)), some (.int (nI s)), some (.int (nI mm)), some (.int w), some (.int (nI (yx_ s mm))), some (.int (kso (kyI s (anI I) mm) i)), some (.int (nI i)), none]) (fun i => kyI s (anI I) mm) (fun i => L) 0 6 (by omega) (by trivial) (by rfl) (by rfl) (by rfl) (fun i hloi hhii hinvi Ki => ?_) (fun hinvi => ?_)
            · skip
              refine x_iload dX9_year_161 rfl ?_
              refine x_bipush (v := 6) dX9_year_163 (by decide) ?_
              refine x_icmp_ge (tgt := 199) dX9_year_165 (by decide) (fun h165 => ?_) (fun h165 => ?_)
              · skip
                exact absurd h165 (nI_ge (b := 6) hhii (by decide))
              · skip
                refine x_iload dX9_year_168 rfl ?_
                refine x_aload_n dX9_year_170 rfl ?_
                refine x_iload dX9_year_171 rfl ?_
                refine x_callVi dX9_year_173 ml_X9_92 mt_X9_stands mv_X9_stands (ct_X9_stands hN) (by omega) rfl rfl rfl rfl (Nat.le_of_ble_eq_true rfl) ⟨(Nat.le_of_ble_eq_true rfl), (Nat.le_of_ble_eq_true rfl)⟩ ⟨rfl, rfl⟩ ⟨(Nat.le_of_ble_eq_true rfl), (Nat.le_of_ble_eq_true rfl)⟩ ?_
                refine x_if_eq (tgt := 189) dX9_year_176 (by decide) (fun h176 => ?_) (fun h176 => ?_)
                · skip
                  replace h176 := zb0 h176
                  refine x_iconst (v := 0) dX9_year_189 (by decide) ?_
                  refine x_iadd dX9_year_190 ?_
                  refine x_istore (lo2 := [_, _, _, _, _, _, _, _]) dX9_year_191 (by decide) rfl rfl ?_
                  refine x_iincN (lo2 := [_, _, _, _, _, _, _, _]) dX9_year_193 rfl rfl rfl ?_
                  refine x_goto (tgt := 161) dX9_year_196 (by decide) ?_
                  exact x_eq (by simp [kso, h176]) (by rfl) (by rfl) (Ki (by trivial))
                · skip
                  replace h176 := zb1 h176
                  refine x_aload_n dX9_year_179 rfl ?_
                  refine x_getR dX9_year_180 fl_X9_13 (by omega) rfl rfl rfl ?_
                  refine x_iload dX9_year_183 rfl ?_
                  refine x_ialdN dX9_year_185 (by omega) rfl rfl (by omega) ?_
                  refine x_goto (tgt := 190) dX9_year_186 (by decide) ?_
                  refine x_iadd dX9_year_190 ?_
                  refine x_istore (lo2 := [_, _, _, _, _, _, _, _]) dX9_year_191 (by decide) rfl rfl ?_
                  refine x_iincN (lo2 := [_, _, _, _, _, _, _, _]) dX9_year_193 rfl rfl rfl ?_
                  refine x_goto (tgt := 161) dX9_year_196 (by decide) ?_
                  exact x_eq (by simp [kso, h176]) (by rfl) (by rfl) (Ki (by trivial))
            · skip
              refine x_iload dX9_year_161 rfl ?_
              refine x_bipush (v := 6) dX9_year_163 (by decide) ?_
              refine x_icmp_ge (tgt := 199) dX9_year_165 (by decide) (fun h165 => ?_) (fun h165 => ?_)
              · skip
                refine x_iload_n dX9_year_199 rfl ?_
                refine x_if_ne (tgt := 216) dX9_year_200 (by decide) (fun h200 => ?_) (fun h200 => ?_)
                · skip
                  refine x_iload_n dX9_year_216 rfl ?_
                  refine x_iconst (v := 1) dX9_year_217 (by decide) ?_
                  refine x_icmp_ne (tgt := 231) dX9_year_218 (by decide) (fun h218 => ?_) (fun h218 => ?_)
                  · skip
                    refine x_iload dX9_year_231 rfl ?_
                    refine x_iret dX9_year_233 rfl (Nat.le_of_ble_eq_true rfl) (Nat.le_of_ble_eq_true rfl) ?_
                    refine zV_of (congrArg Value.int ?_) ?_ ?_ ?_
                    · first | (rw [kyeA, if_pos (by simp [h8, h18, h27, h46, h165, h200, h218])]; done) | (rw [kyeA, if_neg (by simp [h8, h18, h27]), zxa, zxm, if_pos h200]; done) | (rw [kyeA, if_neg (by simp [h8, h18, h27]), zxa, zxm, if_neg h200, if_pos h218]; done) | (rw [kyeA, if_neg (by simp [h8, h18, h27]), zxa, zxm, if_neg h200, if_neg h218])
                    · first | (intro _ _; rfl) | (intro c hc2; unfold zscr at hc2; rw [kyI_far (by omega) (by omega), an_far (by omega) (by omega)])
                    · first | rfl | (rw [kyI_40 (by decide), an_40 (by decide)])
                    · first | rfl | (rw [kyI_40 (by decide), an_40 (by decide)])
                  · skip
                    refine x_aload_n dX9_year_221 rfl ?_
                    refine x_getR dX9_year_222 fl_X9_13 (by omega) rfl rfl rfl ?_
                    refine x_bipush (v := 13) dX9_year_225 (by decide) ?_
                    refine x_ialdN (i := 13) dX9_year_227 (by omega) rfl rfl (by decide) ?_
                    refine x_goto (tgt := 233) dX9_year_228 (by decide) ?_
                    refine x_iret dX9_year_233 rfl (Nat.le_of_ble_eq_true rfl) (Nat.le_of_ble_eq_true rfl) ?_
                    refine zV_of (congrArg Value.int ?_) ?_ ?_ ?_
                    · first | (rw [kyeA, if_pos (by simp [h8, h18, h27, h46, h165, h200, h218])]; done) | (rw [kyeA, if_neg (by simp [h8, h18, h27]), zxa, zxm, if_pos h200]; done) | (rw [kyeA, if_neg (by simp [h8, h18, h27]), zxa, zxm, if_neg h200, if_pos h218]; done) | (rw [kyeA, if_neg (by simp [h8, h18, h27]), zxa, zxm, if_neg h200, if_neg h218])
                    · first | (intro _ _; rfl) | (intro c hc2; unfold zscr at hc2; rw [kyI_far (by omega) (by omega), an_far (by omega) (by omega)])
                    · first | rfl | (rw [kyI_40 (by decide), an_40 (by decide)])
                    · first | rfl | (rw [kyI_40 (by decide), an_40 (by decide)])
                · skip
                  refine x_aload_n dX9_year_203 rfl ?_
                  refine x_getR dX9_year_204 fl_X9_13 (by omega) rfl rfl rfl ?_
                  refine x_bipush (v := 12) dX9_year_207 (by decide) ?_
                  refine x_ialdN (i := 12) dX9_year_209 (by omega) rfl rfl (by decide) ?_
                  refine x_callSi dX9_year_210 ml_X9_71 mt_X9_bits st_X9_bits (ct_X9_bits) rfl rfl (Nat.le_of_ble_eq_true rfl) ⟨(Nat.le_of_ble_eq_true rfl), (Nat.le_of_ble_eq_true rfl)⟩ ⟨rfl, rfl⟩ ⟨(Nat.le_of_ble_eq_true rfl), (Nat.le_of_ble_eq_true rfl)⟩ ?_
                  refine x_pc (pc2 := 213) rfl ?_
                  refine x_goto (tgt := 233) dX9_year_213 (by decide) ?_
                  refine x_iret dX9_year_233 rfl (Nat.le_of_ble_eq_true rfl) (Nat.le_of_ble_eq_true rfl) ?_
                  refine zV_of (congrArg Value.int ?_) ?_ ?_ ?_
                  · first | (rw [kyeA, if_pos (by simp [h8, h18, h27, h46, h165, h200])]; done) | (rw [kyeA, if_neg (by simp [h8, h18, h27]), zxa, zxm, if_pos h200]; done) | (rw [kyeA, if_neg (by simp [h8, h18, h27]), zxa, zxm, if_neg h200, if_pos h218]; done) | (rw [kyeA, if_neg (by simp [h8, h18, h27]), zxa, zxm, if_neg h200, if_neg h218])
                  · first | (intro _ _; rfl) | (intro c hc2; unfold zscr at hc2; rw [kyI_far (by omega) (by omega), an_far (by omega) (by omega)])
                  · first | rfl | (rw [kyI_40 (by decide), an_40 (by decide)])
                  · first | rfl | (rw [kyI_40 (by decide), an_40 (by decide)])
              · skip
                exact absurd (nI_le (b := 6) (Nat.le_refl 6) (by decide)) h165
          · skip
            exact absurd (nI_le (Nat.le_refl mm) (by omega)) h46
      · skip
        replace h27 := zb0 h27
        refine x_bipush (v := (-2)) dX9_year_30 (by decide) ?_
        refine x_iret dX9_year_32 rfl (Nat.le_of_ble_eq_true rfl) (Nat.le_of_ble_eq_true rfl) ?_
        refine zV_of (congrArg Value.int ?_) ?_ ?_ ?_
        · first | (rw [kyeA, if_pos (by simp [h8, h18, h27])]; done) | (rw [kyeA, if_neg (by simp [h8, h18, h27]), zxa, zxm, if_pos h200]; done) | (rw [kyeA, if_neg (by simp [h8, h18, h27]), zxa, zxm, if_neg h200, if_pos h218]; done) | (rw [kyeA, if_neg (by simp [h8, h18, h27]), zxa, zxm, if_neg h200, if_neg h218])
        · first | (intro _ _; rfl) | (intro c hc2; unfold zscr at hc2; rw [kyI_far (by omega) (by omega), an_far (by omega) (by omega)])
        · first | rfl | (rw [kyI_40 (by decide), an_40 (by decide)])
        · first | rfl | (rw [kyI_40 (by decide), an_40 (by decide)])
theorem ct_X9_themselves {g : zG} {N : Nat} {I : zI} {L : zL} {q0 q1 : Option Nat} {n t k p : Int32} (hN : 58 ≤ N) : Ct g yX9_themselves mX9_themselves [.ref (g.2.1 + 40), .int n, .int t, .int k, .int p] N I L (zRw q0 q1) (zV (.long (kteA n t k p)) N I (zRw q0 q1)) := by
  refine Ct_of (lo0 := [some (.ref (g.2.1 + 40)), some (.int n), some (.int t), some (.int k), some (.int p), none, none, none, none, none, none, none, none]) rfl rfl rfl rfl (Nat.le_of_ble_eq_true rfl) (fun E => ?_)
  refine x_iload_n dX9_themselves_0 rfl ?_
  refine x_iconst (v := 0) dX9_themselves_1 (by decide) ?_
  refine x_bipush (v := 17) dX9_themselves_2 (by decide) ?_
  refine x_callSi dX9_themselves_4 ml_X9_63 mt_X9_in st_X9_in (ct_X9_in) rfl rfl (Nat.le_of_ble_eq_true rfl) ⟨(Nat.le_of_ble_eq_true rfl), (Nat.le_of_ble_eq_true rfl)⟩ ⟨rfl, rfl⟩ ⟨(Nat.le_of_ble_eq_true rfl), (Nat.le_of_ble_eq_true rfl)⟩ ?_
  refine x_if_eq (tgt := 39) dX9_themselves_7 (by decide) (fun h7 => ?_) (fun h7 => ?_)
  · skip
    replace h7 := zb0 h7
    refine x_ldc2 dX9_themselves_39 cn_X9_150 ?_
    refine x_lret dX9_themselves_42 rfl (Nat.le_of_ble_eq_true rfl) (Nat.le_of_ble_eq_true rfl) ?_
    refine zV_of (congrArg Value.long ?_) ?_ ?_ ?_
    · first | (rw [kteA, if_neg (by simp [h7, h17, h26, h36]), zxa, zxb, zxc, if_pos h198]; done) | (rw [kteA, if_neg (by simp [h7, h17, h26, h36]), zxa, zxb, zxc, if_neg h198]; done) | (simp [kteA, h7]; done)
    · intro _ _; rfl
    · rfl
    · rfl
  · skip
    replace h7 := zb1 h7
    refine x_iload_n dX9_themselves_10 rfl ?_
    refine x_iconst (v := 0) dX9_themselves_11 (by decide) ?_
    refine x_bipush (v := 10) dX9_themselves_12 (by decide) ?_
    refine x_callSi dX9_themselves_14 ml_X9_63 mt_X9_in st_X9_in (ct_X9_in) rfl rfl (Nat.le_of_ble_eq_true rfl) ⟨(Nat.le_of_ble_eq_true rfl), (Nat.le_of_ble_eq_true rfl)⟩ ⟨rfl, rfl⟩ ⟨(Nat.le_of_ble_eq_true rfl), (Nat.le_of_ble_eq_true rfl)⟩ ?_
    refine x_if_eq (tgt := 39) dX9_themselves_17 (by decide) (fun h17 => ?_) (fun h17 => ?_)
    · skip
      replace h17 := zb0 h17
      refine x_ldc2 dX9_themselves_39 cn_X9_150 ?_
      refine x_lret dX9_themselves_42 rfl (Nat.le_of_ble_eq_true rfl) (Nat.le_of_ble_eq_true rfl) ?_
      refine zV_of (congrArg Value.long ?_) ?_ ?_ ?_
      · first | (rw [kteA, if_neg (by simp [h7, h17, h26, h36]), zxa, zxb, zxc, if_pos h198]; done) | (rw [kteA, if_neg (by simp [h7, h17, h26, h36]), zxa, zxb, zxc, if_neg h198]; done) | (simp [kteA, h7, h17]; done)
      · intro _ _; rfl
      · rfl
      · rfl
    · skip
      replace h17 := zb1 h17
      refine x_iload_n dX9_themselves_20 rfl ?_
      refine x_iconst (v := 0) dX9_themselves_21 (by decide) ?_
      refine x_iload_n dX9_themselves_22 rfl ?_
      refine x_callSi dX9_themselves_23 ml_X9_63 mt_X9_in st_X9_in (ct_X9_in) rfl rfl (Nat.le_of_ble_eq_true rfl) ⟨(Nat.le_of_ble_eq_true rfl), (Nat.le_of_ble_eq_true rfl)⟩ ⟨rfl, rfl⟩ ⟨(Nat.le_of_ble_eq_true rfl), (Nat.le_of_ble_eq_true rfl)⟩ ?_
      refine x_if_eq (tgt := 39) dX9_themselves_26 (by decide) (fun h26 => ?_) (fun h26 => ?_)
      · skip
        replace h26 := zb0 h26
        refine x_ldc2 dX9_themselves_39 cn_X9_150 ?_
        refine x_lret dX9_themselves_42 rfl (Nat.le_of_ble_eq_true rfl) (Nat.le_of_ble_eq_true rfl) ?_
        refine zV_of (congrArg Value.long ?_) ?_ ?_ ?_
        · first | (rw [kteA, if_neg (by simp [h7, h17, h26, h36]), zxa, zxb, zxc, if_pos h198]; done) | (rw [kteA, if_neg (by simp [h7, h17, h26, h36]), zxa, zxb, zxc, if_neg h198]; done) | (simp [kteA, h7, h17, h26]; done)
        · intro _ _; rfl
        · rfl
        · rfl
      · skip
        replace h26 := zb1 h26
        refine x_iload dX9_themselves_29 rfl ?_
        refine x_iconst (v := 0) dX9_themselves_31 (by decide) ?_
        refine x_iconst (v := 1) dX9_themselves_32 (by decide) ?_
        refine x_callSi dX9_themselves_33 ml_X9_63 mt_X9_in st_X9_in (ct_X9_in) rfl rfl (Nat.le_of_ble_eq_true rfl) ⟨(Nat.le_of_ble_eq_true rfl), (Nat.le_of_ble_eq_true rfl)⟩ ⟨rfl, rfl⟩ ⟨(Nat.le_of_ble_eq_true rfl), (Nat.le_of_ble_eq_true rfl)⟩ ?_
        refine x_if_ne (tgt := 43) dX9_themselves_36 (by decide) (fun h36 => ?_) (fun h36 => ?_)
        · skip
          replace h36 := zb1 h36
          obtain ⟨a, ha, rfl⟩ := zin_ex (b := 17) (by decide) h7
          obtain ⟨b, hb, rfl⟩ := zin_ex (b := 10) (by decide) h17
          obtain ⟨c, hc, rfl⟩ := zin_ex (b := a) (by omega) h26
          have zxa : zx (nI a) = a := zx_nI (by omega)
          have zxb : zx (nI b) = b := zx_nI (by omega)
          have zxc : zx (nI c) = c := zx_nI (by omega)
          refine x_lconst (v := 1) dX9_themselves_43 (by decide) ?_
          refine x_lstore (lo2 := [_, _, _, _, _, _, _, _, _, _, _, _, _]) dX9_themselves_44 (by decide) rfl rfl ?_
          refine x_iconst (v := 0) dX9_themselves_46 (by decide) ?_
          refine x_istore (lo2 := [_, _, _, _, _, _, _, _, _, _, _, _, _]) dX9_themselves_47 (by decide) rfl rfl ?_
          refine x_loop (inv := fun i => True) (fun i => [some (.ref (g.2.1 + 40)), some (.int (nI a)), some (.int (nI b)), some (.int (nI c)), some (.int p), some (.long 1), none, some (.int (nI i)), none, none, none, none, none]) (fun i => I) (fun i => zlr L (kwb (L 55) i)) 0 19 (by omega) (by trivial) (by rfl) (by rfl) (by rw [show kwb (L 55) 0 = L 55 from by funext k; simp [kwb]]; exact (zlr_same L).symm) (fun i hloi hhii hinvi Ki => ?_) (fun hinvi => ?_)
          · skip
            refine x_iload dX9_themselves_49 rfl ?_
            refine x_bipush (v := 19) dX9_themselves_51 (by decide) ?_
            refine x_icmp_ge (tgt := 79) dX9_themselves_53 (by decide) (fun h53 => ?_) (fun h53 => ?_)
            · skip
              exact absurd h53 (nI_ge (b := 19) hhii (by decide))
            · skip
              refine x_aload_n dX9_themselves_56 rfl ?_
              refine x_getR dX9_themselves_57 fl_X9_52 (by omega) rfl rfl rfl ?_
              refine x_iload dX9_themselves_60 rfl ?_
              refine x_iload dX9_themselves_62 rfl ?_
              refine x_if_ne (tgt := 71) dX9_themselves_64 (by decide) (fun h64 => ?_) (fun h64 => ?_)
              · skip
                refine x_lconst (v := 0) dX9_themselves_71 (by decide) ?_
                refine x_last dX9_themselves_72 (by omega) rfl rfl (by omega) ?_
                refine x_iincN (lo2 := [_, _, _, _, _, _, _, _, _, _, _, _, _]) dX9_themselves_73 rfl rfl rfl ?_
                refine x_goto (tgt := 49) dX9_themselves_76 (by decide) ?_
                exact x_eq (by rfl) (by rfl) (by rw [zuL_zlr, kwb_s (by first | (rw [if_pos ((nI_z (by omega)).mp h64)]; rfl) | (rw [if_neg (fun q => h64 ((nI_z (by omega)).mpr q))]; rfl))]) (Ki (by trivial))
              · skip
                refine x_lconst (v := 1) dX9_themselves_67 (by decide) ?_
                refine x_goto (tgt := 72) dX9_themselves_68 (by decide) ?_
                refine x_last dX9_themselves_72 (by omega) rfl rfl (by omega) ?_
                refine x_iincN (lo2 := [_, _, _, _, _, _, _, _, _, _, _, _, _]) dX9_themselves_73 rfl rfl rfl ?_
                refine x_goto (tgt := 49) dX9_themselves_76 (by decide) ?_
                exact x_eq (by rfl) (by rfl) (by rw [zuL_zlr, kwb_s (by first | (rw [if_pos ((nI_z (by omega)).mp h64)]; rfl) | (rw [if_neg (fun q => h64 ((nI_z (by omega)).mpr q))]; rfl))]) (Ki (by trivial))
          · skip
            refine x_iload dX9_themselves_49 rfl ?_
            refine x_bipush (v := 19) dX9_themselves_51 (by decide) ?_
            refine x_icmp_ge (tgt := 79) dX9_themselves_53 (by decide) (fun h53 => ?_) (fun h53 => ?_)
            · skip
              refine x_iconst (v := 0) dX9_themselves_79 (by decide) ?_
              refine x_istore (lo2 := [_, _, _, _, _, _, _, _, _, _, _, _, _]) dX9_themselves_80 (by decide) rfl rfl ?_
              refine x_loop (inv := fun i => True) (fun i => [some (.ref (g.2.1 + 40)), some (.int (nI a)), some (.int (nI b)), some (.int (nI c)), some (.int p), some (.long (lN (10 ^ i))), none, some (.int (nI i)), none, none, none, none, none]) (fun i => I) (fun i => zlr L (kwr b i (L 55) 0)) 0 a (by omega) (by trivial) (by rfl) (by rfl) (by rw [kwb_r (t := b)]) (fun i hloi hhii hinvi Ki => ?_) (fun hinvi => ?_)
              · skip
                refine x_iload dX9_themselves_82 rfl ?_
                refine x_iload_n dX9_themselves_84 rfl ?_
                refine x_icmp_ge (tgt := 159) dX9_themselves_85 (by decide) (fun h85 => ?_) (fun h85 => ?_)
                · skip
                  exact absurd h85 (nI_ge hhii (by omega))
                · skip
                  refine x_lload dX9_themselves_88 rfl ?_
                  refine x_ldc2 dX9_themselves_90 cn_X9_152 ?_
                  refine x_lmul dX9_themselves_93 ?_
                  rw [show (10 : Int64) = lN 10 from rfl, lN_mul, ← Nat.pow_succ]
                  refine x_lstore (lo2 := [_, _, _, _, _, _, _, _, _, _, _, _, _]) dX9_themselves_94 (by decide) rfl rfl ?_
                  refine x_bipush (v := 18) dX9_themselves_96 (by decide) ?_
                  refine x_pc (pc2 := 98) rfl ?_
                  refine x_istore (lo2 := [_, _, _, _, _, _, _, _, _, _, _, _, _]) dX9_themselves_98 (by decide) rfl rfl ?_
                  refine x_while (σ := Nat) (fun j => j ≤ 19) (fun j => 19 - j) (fun j => [some (.ref (g.2.1 + 40)), some (.int (nI a)), some (.int (nI b)), some (.int (nI c)), some (.int p), some (.long (lN (10 ^ (i + 1)))), none, some (.int (nI i)), some (.int (nI (19 - j) + (-1))), none, none, none, none]) (fun _ => I) (fun j => zlr L (kwr b i (L 55) j)) 0 (Nat.zero_le _) (by show (_ : List (Option Value)) = [some (.ref (g.2.1 + 40)), some (.int (nI a)), some (.int (nI b)), some (.int (nI c)), some (.int p), some (.long (lN (10 ^ (i + 1)))), none, some (.int (nI i)), some (.int (nI 19 + (-1))), none, none, none, none]; rw [show nI 19 + (-1) = (18 : Int32) from by decide]) rfl rfl (fun j hj K => ?_)
                  refine x_iload dX9_themselves_100 rfl ?_
                  refine x_if_lt (tgt := 153) dX9_themselves_102 (by decide) (fun h102 => ?_) (fun h102 => ?_)
                  · skip
                    have hj19 : j = 19 := by
                      rcases Nat.lt_or_ge j 19 with q | q
                      · obtain ⟨z, hz⟩ : ∃ z, 19 - j = z + 1 := ⟨18 - j, by omega⟩
                        rw [hz, nI_m1] at h102; exact absurd h102 (nI_pos (by omega))
                      · omega
                    subst hj19
                    rw [kwr_0]
                    refine x_iincN (lo2 := [_, _, _, _, _, _, _, _, _, _, _, _, _]) dX9_themselves_153 rfl rfl rfl ?_
                    refine x_goto (tgt := 82) dX9_themselves_156 (by decide) ?_
                    refine x_drop (i := 8) (lo2 := [_, _, _, _, _, _, _, _, _, _, _, _, _]) rfl ?_
                    exact x_eq (by rfl) (by rfl) (by rfl) (Ki (by trivial))
                  · skip
                    have hjl : j < 19 := by
                      rcases Nat.lt_or_ge j 19 with q | q
                      · exact q
                      · rw [show 19 - j = 0 by omega] at h102; exact absurd (by decide) h102
                    obtain ⟨k, hk⟩ : ∃ k, k + j = 18 := ⟨18 - j, by omega⟩
                    have hk8 : 18 - j = k := by omega
                    rw [show nI (19 - j) + (-1) = nI k from by rw [show 19 - j = k + 1 by omega, nI_m1]]
                    refine x_aload_n dX9_themselves_105 rfl ?_
                    refine x_getR dX9_themselves_106 fl_X9_52 (by omega) rfl rfl rfl ?_
                    refine x_iload dX9_themselves_109 rfl ?_
                    refine x_aload_n dX9_themselves_111 rfl ?_
                    refine x_getR dX9_themselves_112 fl_X9_52 (by omega) rfl rfl rfl ?_
                    refine x_pc (pc2 := 115) rfl ?_
                    refine x_iload dX9_themselves_115 rfl ?_
                    refine x_lald dX9_themselves_117 (by omega) rfl rfl (by omega) ?_
                    rw [zlr_55, kwr_at (by omega) (by omega)]
                    refine x_bipush (v := 10) dX9_themselves_118 (by decide) ?_
                    refine x_iload_n dX9_themselves_120 rfl ?_
                    refine x_isub dX9_themselves_121 ?_
                    refine x_i2l dX9_themselves_122 ?_
                    rw [show (10 : Int32) - nI b = nI (10 - b) from pk_sub (a := 10) (by omega), nI_l (by omega)]
                    refine x_pc (pc2 := 123) rfl ?_
                    refine x_lmul dX9_themselves_123 ?_
                    rw [lN_mul]
                    refine x_iload dX9_themselves_124 rfl ?_
                    refine x_if_le (tgt := 144) dX9_themselves_126 (by decide) (fun h126 => ?_) (fun h126 => ?_)
                    · skip
                      have hkp : ¬ 0 < k := by rw [show (0 : Int32) = nI 0 from rfl, nI_leI (by omega) (by decide)] at h126; omega
                      refine x_lconst (v := 0) dX9_themselves_144 (by decide) ?_
                      refine x_ladd dX9_themselves_145 ?_
                      refine x_last dX9_themselves_146 (by omega) rfl rfl (by omega) ?_
                      refine x_iincm (lo2 := [_, _, _, _, _, _, _, _, _, _, _, _, _]) dX9_themselves_147 rfl rfl rfl ?_
                      refine x_goto (tgt := 100) dX9_themselves_150 (by decide) ?_
                      exact x_eq (by rw [show 19 - (j + 1) = k by omega]) (by rfl) (by rw [zuL_zlr, ← hk8, kwr_s hjl (by rw [hk8]; simp only [kwa]; rw [if_neg hkp, Nat.add_zero]; exact Int64.add_zero _)]) (K (j + 1) (by omega) (by omega))
                    · skip
                      have hkp : 0 < k := by rw [show (0 : Int32) = nI 0 from rfl, nI_leI (by omega) (by decide)] at h126; omega
                      obtain ⟨k2, rfl⟩ : ∃ k2, k = k2 + 1 := ⟨k - 1, by omega⟩
                      refine x_aload_n dX9_themselves_129 rfl ?_
                      refine x_getR dX9_themselves_130 fl_X9_52 (by omega) rfl rfl rfl ?_
                      refine x_iload dX9_themselves_133 rfl ?_
                      refine x_iconst (v := 1) dX9_themselves_135 (by decide) ?_
                      refine x_isub dX9_themselves_136 ?_
                      refine x_pc (pc2 := 137) rfl ?_
                      refine x_lald dX9_themselves_137 (by omega) rfl (by rw [show nI (k2 + 1) - 1 = nI k2 from by rw [← nI_1]; exact Int32.add_sub_cancel _ _]) (by omega) ?_
                      rw [zlr_55, kwr_at (by omega) (by omega)]
                      refine x_iload_n dX9_themselves_138 rfl ?_
                      refine x_i2l dX9_themselves_139 ?_
                      rw [nI_l (by omega)]
                      refine x_lmul dX9_themselves_140 ?_
                      rw [lN_mul]
                      refine x_goto (tgt := 145) dX9_themselves_141 (by decide) ?_
                      refine x_ladd dX9_themselves_145 ?_
                      refine x_last dX9_themselves_146 (by omega) rfl rfl (by omega) ?_
                      refine x_iincm (lo2 := [_, _, _, _, _, _, _, _, _, _, _, _, _]) dX9_themselves_147 rfl rfl rfl ?_
                      refine x_goto (tgt := 100) dX9_themselves_150 (by decide) ?_
                      exact x_eq (by rw [show 19 - (j + 1) = k2 + 1 by omega]) (by rfl) (by rw [zuL_zlr, ← hk8, kwr_s hjl (by rw [hk8]; simp only [kwa]; rw [if_pos hkp, lN_add, Nat.add_sub_cancel])]) (K (j + 1) (by omega) (by omega))
              · skip
                refine x_iload dX9_themselves_82 rfl ?_
                refine x_iload_n dX9_themselves_84 rfl ?_
                refine x_icmp_ge (tgt := 159) dX9_themselves_85 (by decide) (fun h85 => ?_) (fun h85 => ?_)
                · skip
                  refine x_aload_n dX9_themselves_159 rfl ?_
                  refine x_getR dX9_themselves_160 fl_X9_52 (by omega) rfl rfl rfl ?_
                  refine x_iload_n dX9_themselves_163 rfl ?_
                  refine x_lald dX9_themselves_164 (by omega) rfl rfl (by omega) ?_
                  rw [zlr_55, show kwr b a (L 55) 0 c = lN (kwa b a c) from kwr_at (by decide) (by omega)]
                  refine x_lstore (lo2 := [_, _, _, _, _, _, _, _, _, _, _, _, _]) dX9_themselves_165 (by decide) rfl rfl ?_
                  refine x_pc (pc2 := 167) rfl ?_
                  refine x_lload dX9_themselves_167 rfl ?_
                  refine x_lstore (lo2 := [_, _, _, _, _, _, _, _, _, _, _, _, _]) dX9_themselves_169 (by decide) rfl rfl ?_
                  have hv := kwa_le (t := b) (by omega) a c
                  have h18 : 10 ^ a ≤ 10 ^ 17 := Nat.pow_le_pow_right (by decide) (by omega)
                  have h10 : 0 < 10 ^ a := Nat.pow_pos (by decide)
                  refine x_while (σ := Nat × Nat) (fun t => t.1 < 2 ^ 63 ∧ t.2 < 2 ^ 63 ∧ Nat.gcd t.1 t.2 = Nat.gcd (kwa b a c) (10 ^ a)) (fun t => t.2) (fun t => [some (.ref (g.2.1 + 40)), some (.int (nI a)), some (.int (nI b)), some (.int (nI c)), some (.int p), some (.long (lN (10 ^ a))), none, some (.long (lN t.1)), none, some (.long (lN t.2)), none, none, none]) (fun _ => I) (fun _ => zlr L (kwr b a (L 55) 0)) ((kwa b a c), 10 ^ a) ⟨by dsimp only; omega, by dsimp only; omega, rfl⟩ rfl rfl rfl (fun t ht K => ?_)
                  obtain ⟨u, v⟩ := t
                  obtain ⟨w1, w2, w3⟩ := ht
                  dsimp only at w1 w2 w3 K ⊢
                  refine x_lload dX9_themselves_171 rfl ?_
                  refine x_lconst (v := 0) dX9_themselves_173 (by decide) ?_
                  refine x_lcmp dX9_themselves_174 ?_
                  refine x_if_eq (tgt := 196) dX9_themselves_175 (by decide) (fun h175 => ?_) (fun h175 => ?_)
                  · skip
                    have hv0 : v = 0 := by rw [lg_0 w2] at h175; exact h175
                    subst hv0
                    have hug : u = Nat.gcd (kwa b a c) (10 ^ a) := by rw [← w3]; exact (Nat.gcd_zero_right u).symm
                    have hu0 : 0 < u := by rw [hug]; exact Nat.gcd_pos_of_pos_right _ h10
                    refine x_iload dX9_themselves_196 rfl ?_
                    refine x_if_ne (tgt := 213) dX9_themselves_198 (by decide) (fun h198 => ?_) (fun h198 => ?_)
                    · skip
                      refine x_lload dX9_themselves_213 rfl ?_
                      refine x_lload dX9_themselves_215 rfl ?_
                      refine x_ldiv dX9_themselves_217 (by intro q; have := (pk_lEQ (a := u) (b := 0) w1 (by decide)).mp q; omega) ?_
                      rw [ld_N (d := u) (e := lN u) rfl (by omega) hu0 w1, hug]
                      refine x_lret dX9_themselves_218 rfl (Nat.le_of_ble_eq_true rfl) (Nat.le_of_ble_eq_true rfl) ?_
                      refine zV_of (congrArg Value.long ?_) ?_ ?_ ?_
                      · first | (rw [kteA, if_neg (by simp [h7, h17, h26, h36]), zxa, zxb, zxc, if_pos h198]; done) | (rw [kteA, if_neg (by simp [h7, h17, h26, h36]), zxa, zxb, zxc, if_neg h198]; done) | (simp [kteA, h7, h17, h26, h36, h53, h85, h175, h198]; done)
                      · intro _ _; rfl
                      · rfl
                      · rfl
                    · skip
                      refine x_aload_n dX9_themselves_201 rfl ?_
                      refine x_getR dX9_themselves_202 fl_X9_52 (by omega) rfl rfl rfl ?_
                      refine x_iload_n dX9_themselves_205 rfl ?_
                      refine x_lald dX9_themselves_206 (by omega) rfl rfl (by omega) ?_
                      rw [zlr_55, show kwr b a (L 55) 0 c = lN (kwa b a c) from kwr_at (by decide) (by omega)]
                      refine x_lload dX9_themselves_207 rfl ?_
                      refine x_pc (pc2 := 209) rfl ?_
                      refine x_ldiv dX9_themselves_209 (by intro q; have := (pk_lEQ (a := u) (b := 0) w1 (by decide)).mp q; omega) ?_
                      rw [ld_N (d := u) (e := lN u) rfl (by omega) hu0 w1, hug]
                      refine x_goto (tgt := 218) dX9_themselves_210 (by decide) ?_
                      refine x_lret dX9_themselves_218 rfl (Nat.le_of_ble_eq_true rfl) (Nat.le_of_ble_eq_true rfl) ?_
                      refine zV_of (congrArg Value.long ?_) ?_ ?_ ?_
                      · first | (rw [kteA, if_neg (by simp [h7, h17, h26, h36]), zxa, zxb, zxc, if_pos h198]; done) | (rw [kteA, if_neg (by simp [h7, h17, h26, h36]), zxa, zxb, zxc, if_neg h198]; done) | (simp [kteA, h7, h17, h26, h36, h53, h85, h175, h198]; done)
                      · intro _ _; rfl
                      · rfl
                      · rfl
                  · skip
                    have hv0 : 0 < v := by rw [lg_0 w2] at h175; omega
                    refine x_lload dX9_themselves_178 rfl ?_
                    refine x_lload dX9_themselves_180 rfl ?_
                    refine x_lrem dX9_themselves_182 (by intro q; have := (pk_lEQ (a := v) (b := 0) w2 (by decide)).mp q; omega) ?_
                    rw [lr_N (d := v) (e := lN v) rfl w1 hv0 w2]
                    refine x_lstore (lo2 := [_, _, _, _, _, _, _, _, _, _, _, _, _]) dX9_themselves_183 (by decide) rfl rfl ?_
                    refine x_lload dX9_themselves_185 rfl ?_
                    refine x_pc (pc2 := 187) rfl ?_
                    refine x_lstore (lo2 := [_, _, _, _, _, _, _, _, _, _, _, _, _]) dX9_themselves_187 (by decide) rfl rfl ?_
                    refine x_lload dX9_themselves_189 rfl ?_
                    refine x_lstore (lo2 := [_, _, _, _, _, _, _, _, _, _, _, _, _]) dX9_themselves_191 (by decide) rfl rfl ?_
                    refine x_goto (tgt := 171) dX9_themselves_193 (by decide) ?_
                    refine x_drop (i := 11) (lo2 := [_, _, _, _, _, _, _, _, _, _, _, _, _]) rfl ?_
                    have hvm : u % v < v := Nat.mod_lt u hv0
                    exact x_eq (by rfl) (by rfl) (by rfl) (K (v, u % v) ⟨w2, by dsimp only; omega, by dsimp only; rw [← w3, Nat.gcd_comm v (u % v), ← Nat.gcd_rec v u, Nat.gcd_comm v u]⟩ hvm)
                · skip
                  exact absurd (nI_le (Nat.le_refl a) (by omega)) h85
            · skip
              exact absurd (nI_le (b := 19) (Nat.le_refl 19) (by decide)) h53
        · skip
          replace h36 := zb0 h36
          refine x_ldc2 dX9_themselves_39 cn_X9_150 ?_
          refine x_lret dX9_themselves_42 rfl (Nat.le_of_ble_eq_true rfl) (Nat.le_of_ble_eq_true rfl) ?_
          refine zV_of (congrArg Value.long ?_) ?_ ?_ ?_
          · first | (rw [kteA, if_neg (by simp [h7, h17, h26, h36]), zxa, zxb, zxc, if_pos h198]; done) | (rw [kteA, if_neg (by simp [h7, h17, h26, h36]), zxa, zxb, zxc, if_neg h198]; done) | (simp [kteA, h7, h17, h26, h36]; done)
          · intro _ _; rfl
          · rfl
          · rfl
theorem ct_X9_image {g : zG} {N : Nat} {I : zI} {L : zL} {q0 q1 : Option Nat} {w : Int32} (hN : 58 ≤ N) : Ct g yX9_image mX9_image [.ref (g.2.1 + 40), .int w] N I L (zRw q0 q1) (zV (.int (kmgA w)) N (kmgI I w) (zRw q0 q1)) := by
  refine Ct_of (lo0 := [some (.ref (g.2.1 + 40)), some (.int w), none, none]) rfl rfl rfl rfl (Nat.le_of_ble_eq_true rfl) (fun E => ?_)
  refine x_iload_n dX9_image_0 rfl ?_
  refine x_iconst (v := 0) dX9_image_1 (by decide) ?_
  refine x_iconst (v := 1) dX9_image_2 (by decide) ?_
  refine x_callSi dX9_image_3 ml_X9_63 mt_X9_in st_X9_in (ct_X9_in) rfl rfl (Nat.le_of_ble_eq_true rfl) ⟨(Nat.le_of_ble_eq_true rfl), (Nat.le_of_ble_eq_true rfl)⟩ ⟨rfl, rfl⟩ ⟨(Nat.le_of_ble_eq_true rfl), (Nat.le_of_ble_eq_true rfl)⟩ ?_
  refine x_if_ne (tgt := 12) dX9_image_6 (by decide) (fun h6 => ?_) (fun h6 => ?_)
  · skip
    replace h6 := zb1 h6
    skip
    obtain ⟨n, hn, rfl⟩ := zin_ex (b := 1) (by decide) h6
    have zxi : zx (nI n) = n := zx_nI (by omega)
    refine x_bipush (v := 80) dX9_image_12 (by decide) ?_
    refine x_iload_n dX9_image_14 rfl ?_
    refine x_imul dX9_image_15 ?_
    rw [show (80 : Int32) * nI n = nI (80 * n) from by rw [show (80 : Int32) = nI 80 from rfl, pk_mul]]
    refine x_istore_n (lo2 := [_, _, _, _]) dX9_image_16 (by decide) rfl rfl ?_
    refine x_iconst (v := 0) dX9_image_17 (by decide) ?_
    refine x_pc (pc2 := 18) rfl ?_
    refine x_istore_n (lo2 := [_, _, _, _]) dX9_image_18 (by decide) rfl rfl ?_
    refine x_loop (inv := fun i => True) (fun i => [some (.ref (g.2.1 + 40)), some (.int (nI n)), some (.int (nI (80 * n))), some (.int (nI i))]) (fun i => zrow I 56 (kim I n (fun j => decide (j < i)))) (fun i => L) 0 15 (by omega) (by trivial) (by rfl) (by rw [show kim I n (fun j => decide (j < 0)) = I 56 from by funext k; simp [kim]]; exact (zrow_same I 56).symm) (by rfl) (fun i hloi hhii hinvi Ki => ?_) (fun hinvi => ?_)
    · skip
      refine x_iload_n dX9_image_19 rfl ?_
      refine x_bipush (v := 15) dX9_image_20 (by decide) ?_
      refine x_icmp_ge (tgt := 45) dX9_image_22 (by decide) (fun h22 => ?_) (fun h22 => ?_)
      · skip
        exact absurd h22 (nI_ge (b := 15) hhii (by decide))
      · skip
        refine x_aload_n dX9_image_25 rfl ?_
        refine x_getR dX9_image_26 fl_X9_56 (by omega) rfl rfl rfl ?_
        refine x_iload_n dX9_image_29 rfl ?_
        refine x_iload_n dX9_image_30 rfl ?_
        refine x_iadd dX9_image_31 ?_
        refine x_pc (pc2 := 32) rfl ?_
        refine x_aload_n dX9_image_32 rfl ?_
        refine x_getR dX9_image_33 fl_X9_7 (by omega) rfl rfl rfl ?_
        refine x_iload_n dX9_image_36 rfl ?_
        refine x_ialdN dX9_image_37 (by omega) rfl rfl (by omega) ?_
        refine x_iast dX9_image_38 (by omega) rfl (show nI (80 * n) + nI i = nI (80 * n + (0 + i)) from by rw [nI_add, Nat.zero_add]) (by omega) ?_
        refine x_iincN (lo2 := [_, _, _, _]) dX9_image_39 rfl rfl rfl ?_
        refine x_pc (pc2 := 42) rfl ?_
        refine x_goto (tgt := 19) dX9_image_42 (by decide) ?_
        exact x_eq (by rfl) (by rw [zu_zrow, kim_u (j := 0 + i) (Q := (fun j => decide (j < i + 1))) (by show I 41 i = kig I (0 + i); rw [Nat.zero_add]; unfold kig; rw [if_pos (by omega)]) (by intro k; rw [Bool.eq_iff_iff]; simp; omega)]) (by rfl) (Ki (by trivial))
    · skip
      refine x_iload_n dX9_image_19 rfl ?_
      refine x_bipush (v := 15) dX9_image_20 (by decide) ?_
      refine x_icmp_ge (tgt := 45) dX9_image_22 (by decide) (fun h22 => ?_) (fun h22 => ?_)
      · skip
        refine x_iconst (v := 0) dX9_image_45 (by decide) ?_
        refine x_istore_n (lo2 := [_, _, _, _]) dX9_image_46 (by decide) rfl rfl ?_
        refine x_loop (inv := fun i => True) (fun i => [some (.ref (g.2.1 + 40)), some (.int (nI n)), some (.int (nI (80 * n))), some (.int (nI i))]) (fun i => zrow I 56 (kim I n (fun j => decide (j < 15 ∨ (15 ≤ j ∧ j < 15 + (i + 0)) ∨ (21 ≤ j ∧ j < 21 + (i + 0)) ∨ (27 ≤ j ∧ j < 27 + (i + 0)))))) (fun i => L) 0 6 (by omega) (by trivial) (by rfl) (by congr 2; funext j; rw [decide_eq_decide]; omega) (by rfl) (fun i hloi hhii hinvi Ki => ?_) (fun hinvi => ?_)
        · skip
          refine x_iload_n dX9_image_47 rfl ?_
          refine x_bipush (v := 6) dX9_image_48 (by decide) ?_
          refine x_icmp_ge (tgt := 110) dX9_image_50 (by decide) (fun h50 => ?_) (fun h50 => ?_)
          · skip
            exact absurd h50 (nI_ge (b := 6) hhii (by decide))
          · skip
            refine x_aload_n dX9_image_53 rfl ?_
            refine x_getR dX9_image_54 fl_X9_56 (by omega) rfl rfl rfl ?_
            refine x_iload_n dX9_image_57 rfl ?_
            refine x_bipush (v := 15) dX9_image_58 (by decide) ?_
            refine x_iadd dX9_image_60 ?_
            refine x_pc (pc2 := 61) rfl ?_
            refine x_iload_n dX9_image_61 rfl ?_
            refine x_iadd dX9_image_62 ?_
            refine x_aload_n dX9_image_63 rfl ?_
            refine x_getR dX9_image_64 fl_X9_16 (by omega) rfl rfl rfl ?_
            refine x_iload_n dX9_image_67 rfl ?_
            refine x_ialdN dX9_image_68 (by omega) rfl rfl (by omega) ?_
            refine x_pc (pc2 := 69) rfl ?_
            refine x_iast dX9_image_69 (by omega) rfl (by rw [show nI (80 * n) + 15 + nI i = nI (80 * n + (15 + i)) from by rw [show (15 : Int32) = nI 15 from rfl, nI_add, nI_add, Nat.add_assoc]]) (by omega) ?_
            refine x_aload_n dX9_image_70 rfl ?_
            refine x_getR dX9_image_71 fl_X9_56 (by omega) rfl rfl rfl ?_
            refine x_iload_n dX9_image_74 rfl ?_
            refine x_bipush (v := 21) dX9_image_75 (by decide) ?_
            refine x_iadd dX9_image_77 ?_
            refine x_pc (pc2 := 78) rfl ?_
            refine x_iload_n dX9_image_78 rfl ?_
            refine x_iadd dX9_image_79 ?_
            refine x_aload_n dX9_image_80 rfl ?_
            refine x_getR dX9_image_81 fl_X9_19 (by omega) rfl rfl rfl ?_
            refine x_iload_n dX9_image_84 rfl ?_
            refine x_ialdN dX9_image_85 (by omega) rfl rfl (by omega) ?_
            refine x_pc (pc2 := 86) rfl ?_
            refine x_iast dX9_image_86 (by omega) rfl (by rw [show nI (80 * n) + 21 + nI i = nI (80 * n + (21 + i)) from by rw [show (21 : Int32) = nI 21 from rfl, nI_add, nI_add, Nat.add_assoc]]) (by omega) ?_
            refine x_aload_n dX9_image_87 rfl ?_
            refine x_getR dX9_image_88 fl_X9_56 (by omega) rfl rfl rfl ?_
            refine x_iload_n dX9_image_91 rfl ?_
            refine x_bipush (v := 27) dX9_image_92 (by decide) ?_
            refine x_iadd dX9_image_94 ?_
            refine x_pc (pc2 := 95) rfl ?_
            refine x_iload_n dX9_image_95 rfl ?_
            refine x_iadd dX9_image_96 ?_
            refine x_aload_n dX9_image_97 rfl ?_
            refine x_getR dX9_image_98 fl_X9_22 (by omega) rfl rfl rfl ?_
            refine x_iload_n dX9_image_101 rfl ?_
            refine x_ialdN dX9_image_102 (by omega) rfl rfl (by omega) ?_
            refine x_pc (pc2 := 103) rfl ?_
            refine x_iast dX9_image_103 (by omega) rfl (by rw [show nI (80 * n) + 27 + nI i = nI (80 * n + (27 + i)) from by rw [show (27 : Int32) = nI 27 from rfl, nI_add, nI_add, Nat.add_assoc]]) (by omega) ?_
            refine x_iincN (lo2 := [_, _, _, _]) dX9_image_104 rfl rfl rfl ?_
            refine x_goto (tgt := 47) dX9_image_107 (by decide) ?_
            exact x_eq (by rfl) (by rw [zu_zrow, kim_u (j := 15 + i) (Q := (fun j => decide (j < 15 ∨ (15 ≤ j ∧ j < 15 + (i + 1)) ∨ (21 ≤ j ∧ j < 21 + (i + 0)) ∨ (27 ≤ j ∧ j < 27 + (i + 0))))) (by show I 43 i = kig I (15 + i); unfold kig; rw [if_neg (show ¬ 15 + i < 15 by omega), if_pos (show 15 + i < 21 by omega), show 15 + i - 15 = i by omega]) (by intro k; rw [Bool.eq_iff_iff]; simp; omega)]; rw [zu_zrow, kim_u (j := 21 + i) (Q := (fun j => decide (j < 15 ∨ (15 ≤ j ∧ j < 15 + (i + 1)) ∨ (21 ≤ j ∧ j < 21 + (i + 1)) ∨ (27 ≤ j ∧ j < 27 + (i + 0))))) (by show I 44 i = kig I (21 + i); unfold kig; rw [if_neg (show ¬ 21 + i < 15 by omega), if_neg (show ¬ 21 + i < 21 by omega), if_pos (show 21 + i < 27 by omega), show 21 + i - 21 = i by omega]) (by intro k; rw [Bool.eq_iff_iff]; simp; omega)]; rw [zu_zrow, kim_u (j := 27 + i) (Q := (fun j => decide (j < 15 ∨ (15 ≤ j ∧ j < 15 + (i + 1)) ∨ (21 ≤ j ∧ j < 21 + (i + 1)) ∨ (27 ≤ j ∧ j < 27 + (i + 1))))) (by show I 45 i = kig I (27 + i); unfold kig; rw [if_neg (show ¬ 27 + i < 15 by omega), if_neg (show ¬ 27 + i < 21 by omega), if_neg (show ¬ 27 + i < 27 by omega), if_pos (show 27 + i < 33 by omega), show 27 + i - 27 = i by omega]) (by intro k; rw [Bool.eq_iff_iff]; simp; omega)]) (by rfl) (Ki (by trivial))
        · skip
          refine x_iload_n dX9_image_47 rfl ?_
          refine x_bipush (v := 6) dX9_image_48 (by decide) ?_
          refine x_icmp_ge (tgt := 110) dX9_image_50 (by decide) (fun h50 => ?_) (fun h50 => ?_)
          · skip
            refine x_iconst (v := 0) dX9_image_110 (by decide) ?_
            refine x_istore_n (lo2 := [_, _, _, _]) dX9_image_111 (by decide) rfl rfl ?_
            refine x_loop (inv := fun i => True) (fun i => [some (.ref (g.2.1 + 40)), some (.int (nI n)), some (.int (nI (80 * n))), some (.int (nI i))]) (fun i => zrow I 56 (kim I n (fun j => decide (j < 33 ∨ (33 ≤ j ∧ j < 33 + i))))) (fun i => L) 0 8 (by omega) (by trivial) (by rfl) (by congr 2; funext j; rw [decide_eq_decide]; omega) (by rfl) (fun i hloi hhii hinvi Ki => ?_) (fun hinvi => ?_)
            · skip
              refine x_iload_n dX9_image_112 rfl ?_
              refine x_bipush (v := 8) dX9_image_113 (by decide) ?_
              refine x_icmp_ge (tgt := 141) dX9_image_115 (by decide) (fun h115 => ?_) (fun h115 => ?_)
              · skip
                exact absurd h115 (nI_ge (b := 8) hhii (by decide))
              · skip
                refine x_aload_n dX9_image_118 rfl ?_
                refine x_getR dX9_image_119 fl_X9_56 (by omega) rfl rfl rfl ?_
                refine x_iload_n dX9_image_122 rfl ?_
                refine x_bipush (v := 33) dX9_image_123 (by decide) ?_
                refine x_iadd dX9_image_125 ?_
                refine x_pc (pc2 := 126) rfl ?_
                refine x_iload_n dX9_image_126 rfl ?_
                refine x_iadd dX9_image_127 ?_
                refine x_aload_n dX9_image_128 rfl ?_
                refine x_getR dX9_image_129 fl_X9_25 (by omega) rfl rfl rfl ?_
                refine x_iload_n dX9_image_132 rfl ?_
                refine x_ialdN dX9_image_133 (by omega) rfl rfl (by omega) ?_
                refine x_pc (pc2 := 134) rfl ?_
                refine x_iast dX9_image_134 (by omega) rfl (by rw [show nI (80 * n) + 33 + nI i = nI (80 * n + (33 + i)) from by rw [show (33 : Int32) = nI 33 from rfl, nI_add, nI_add, Nat.add_assoc]]) (by omega) ?_
                refine x_iincN (lo2 := [_, _, _, _]) dX9_image_135 rfl rfl rfl ?_
                refine x_goto (tgt := 112) dX9_image_138 (by decide) ?_
                exact x_eq (by rfl) (by rw [zu_zrow, kim_u (j := 33 + i) (Q := (fun j => decide (j < 33 ∨ (33 ≤ j ∧ j < 33 + (i + 1))))) (by show I 46 i = kig I (33 + i); unfold kig; rw [if_neg (show ¬ 33 + i < 15 by omega), if_neg (show ¬ 33 + i < 21 by omega), if_neg (show ¬ 33 + i < 27 by omega), if_neg (show ¬ 33 + i < 33 by omega), if_pos (show 33 + i < 41 by omega), show 33 + i - 33 = i by omega]) (by intro k; rw [Bool.eq_iff_iff]; simp; omega)]) (by rfl) (Ki (by trivial))
            · skip
              refine x_iload_n dX9_image_112 rfl ?_
              refine x_bipush (v := 8) dX9_image_113 (by decide) ?_
              refine x_icmp_ge (tgt := 141) dX9_image_115 (by decide) (fun h115 => ?_) (fun h115 => ?_)
              · skip
                refine x_iconst (v := 0) dX9_image_141 (by decide) ?_
                refine x_istore_n (lo2 := [_, _, _, _]) dX9_image_142 (by decide) rfl rfl ?_
                refine x_loop (inv := fun i => True) (fun i => [some (.ref (g.2.1 + 40)), some (.int (nI n)), some (.int (nI (80 * n))), some (.int (nI i))]) (fun i => zrow I 56 (kim I n (fun j => decide (j < 41 ∨ (41 ≤ j ∧ j < 41 + i))))) (fun i => L) 0 10 (by omega) (by trivial) (by rfl) (by congr 2; funext j; rw [decide_eq_decide]; omega) (by rfl) (fun i hloi hhii hinvi Ki => ?_) (fun hinvi => ?_)
                · skip
                  refine x_iload_n dX9_image_143 rfl ?_
                  refine x_bipush (v := 10) dX9_image_144 (by decide) ?_
                  refine x_icmp_ge (tgt := 172) dX9_image_146 (by decide) (fun h146 => ?_) (fun h146 => ?_)
                  · skip
                    exact absurd h146 (nI_ge (b := 10) hhii (by decide))
                  · skip
                    refine x_aload_n dX9_image_149 rfl ?_
                    refine x_getR dX9_image_150 fl_X9_56 (by omega) rfl rfl rfl ?_
                    refine x_iload_n dX9_image_153 rfl ?_
                    refine x_bipush (v := 41) dX9_image_154 (by decide) ?_
                    refine x_iadd dX9_image_156 ?_
                    refine x_pc (pc2 := 157) rfl ?_
                    refine x_iload_n dX9_image_157 rfl ?_
                    refine x_iadd dX9_image_158 ?_
                    refine x_aload_n dX9_image_159 rfl ?_
                    refine x_getR dX9_image_160 fl_X9_28 (by omega) rfl rfl rfl ?_
                    refine x_iload_n dX9_image_163 rfl ?_
                    refine x_ialdN dX9_image_164 (by omega) rfl rfl (by omega) ?_
                    refine x_pc (pc2 := 165) rfl ?_
                    refine x_iast dX9_image_165 (by omega) rfl (by rw [show nI (80 * n) + 41 + nI i = nI (80 * n + (41 + i)) from by rw [show (41 : Int32) = nI 41 from rfl, nI_add, nI_add, Nat.add_assoc]]) (by omega) ?_
                    refine x_iincN (lo2 := [_, _, _, _]) dX9_image_166 rfl rfl rfl ?_
                    refine x_goto (tgt := 143) dX9_image_169 (by decide) ?_
                    exact x_eq (by rfl) (by rw [zu_zrow, kim_u (j := 41 + i) (Q := (fun j => decide (j < 41 ∨ (41 ≤ j ∧ j < 41 + (i + 1))))) (by show I 47 i = kig I (41 + i); unfold kig; rw [if_neg (show ¬ 41 + i < 15 by omega), if_neg (show ¬ 41 + i < 21 by omega), if_neg (show ¬ 41 + i < 27 by omega), if_neg (show ¬ 41 + i < 33 by omega), if_neg (show ¬ 41 + i < 41 by omega), if_pos (show 41 + i < 51 by omega), show 41 + i - 41 = i by omega]) (by intro k; rw [Bool.eq_iff_iff]; simp; omega)]) (by rfl) (Ki (by trivial))
                · skip
                  refine x_iload_n dX9_image_143 rfl ?_
                  refine x_bipush (v := 10) dX9_image_144 (by decide) ?_
                  refine x_icmp_ge (tgt := 172) dX9_image_146 (by decide) (fun h146 => ?_) (fun h146 => ?_)
                  · skip
                    refine x_iconst (v := 0) dX9_image_172 (by decide) ?_
                    refine x_istore_n (lo2 := [_, _, _, _]) dX9_image_173 (by decide) rfl rfl ?_
                    refine x_loop (inv := fun i => True) (fun i => [some (.ref (g.2.1 + 40)), some (.int (nI n)), some (.int (nI (80 * n))), some (.int (nI i))]) (fun i => zrow I 56 (kim I n (fun j => decide (j < 51 ∨ (51 ≤ j ∧ j < 51 + i))))) (fun i => L) 0 16 (by omega) (by trivial) (by rfl) (by congr 2; funext j; rw [decide_eq_decide]; omega) (by rfl) (fun i hloi hhii hinvi Ki => ?_) (fun hinvi => ?_)
                    · skip
                      refine x_iload_n dX9_image_174 rfl ?_
                      refine x_bipush (v := 16) dX9_image_175 (by decide) ?_
                      refine x_icmp_ge (tgt := 203) dX9_image_177 (by decide) (fun h177 => ?_) (fun h177 => ?_)
                      · skip
                        exact absurd h177 (nI_ge (b := 16) hhii (by decide))
                      · skip
                        refine x_aload_n dX9_image_180 rfl ?_
                        refine x_getR dX9_image_181 fl_X9_56 (by omega) rfl rfl rfl ?_
                        refine x_iload_n dX9_image_184 rfl ?_
                        refine x_bipush (v := 51) dX9_image_185 (by decide) ?_
                        refine x_iadd dX9_image_187 ?_
                        refine x_pc (pc2 := 188) rfl ?_
                        refine x_iload_n dX9_image_188 rfl ?_
                        refine x_iadd dX9_image_189 ?_
                        refine x_aload_n dX9_image_190 rfl ?_
                        refine x_getR dX9_image_191 fl_X9_31 (by omega) rfl rfl rfl ?_
                        refine x_iload_n dX9_image_194 rfl ?_
                        refine x_ialdN dX9_image_195 (by omega) rfl rfl (by omega) ?_
                        refine x_pc (pc2 := 196) rfl ?_
                        refine x_iast dX9_image_196 (by omega) rfl (by rw [show nI (80 * n) + 51 + nI i = nI (80 * n + (51 + i)) from by rw [show (51 : Int32) = nI 51 from rfl, nI_add, nI_add, Nat.add_assoc]]) (by omega) ?_
                        refine x_iincN (lo2 := [_, _, _, _]) dX9_image_197 rfl rfl rfl ?_
                        refine x_goto (tgt := 174) dX9_image_200 (by decide) ?_
                        exact x_eq (by rfl) (by rw [zu_zrow, kim_u (j := 51 + i) (Q := (fun j => decide (j < 51 ∨ (51 ≤ j ∧ j < 51 + (i + 1))))) (by show I 48 i = kig I (51 + i); unfold kig; rw [if_neg (show ¬ 51 + i < 15 by omega), if_neg (show ¬ 51 + i < 21 by omega), if_neg (show ¬ 51 + i < 27 by omega), if_neg (show ¬ 51 + i < 33 by omega), if_neg (show ¬ 51 + i < 41 by omega), if_neg (show ¬ 51 + i < 51 by omega), if_pos (show 51 + i < 67 by omega), show 51 + i - 51 = i by omega]) (by intro k; rw [Bool.eq_iff_iff]; simp; omega)]) (by rfl) (Ki (by trivial))
                    · skip
                      refine x_iload_n dX9_image_174 rfl ?_
                      refine x_bipush (v := 16) dX9_image_175 (by decide) ?_
                      refine x_icmp_ge (tgt := 203) dX9_image_177 (by decide) (fun h177 => ?_) (fun h177 => ?_)
                      · skip
                        refine x_aload_n dX9_image_203 rfl ?_
                        refine x_getR dX9_image_204 fl_X9_56 (by omega) rfl rfl rfl ?_
                        refine x_iload_n dX9_image_207 rfl ?_
                        refine x_bipush (v := 70) dX9_image_208 (by decide) ?_
                        refine x_iadd dX9_image_210 ?_
                        refine x_pc (pc2 := 211) rfl ?_
                        refine x_aload_n dX9_image_211 rfl ?_
                        refine x_getI dX9_image_212 fl_X9_141 (by omega) rfl rfl ?_
                        refine x_iast dX9_image_215 (by omega) rfl (show nI (80 * n) + nI 70 = nI (80 * n + 70) from nI_add _ 70) (by omega) ?_
                        refine x_aload_n dX9_image_216 rfl ?_
                        refine x_getR dX9_image_217 fl_X9_59 (by omega) rfl rfl rfl ?_
                        refine x_iload_n dX9_image_220 rfl ?_
                        refine x_pc (pc2 := 221) rfl ?_
                        refine x_iconst (v := 1) dX9_image_221 (by decide) ?_
                        refine x_zast dX9_image_222 (by omega) rfl rfl (by omega) rfl ?_
                        refine x_iconst (v := 1) dX9_image_223 (by decide) ?_
                        refine x_iret dX9_image_224 rfl (Nat.le_of_ble_eq_true rfl) (Nat.le_of_ble_eq_true rfl) ?_
                        refine zV_of (congrArg Value.int ?_) ?_ ?_ ?_
                        · first | (rw [kmgA, if_neg (by rw [h6]; decide)]; done) | (rw [kmgA, if_pos h6])
                        · first | (intro c hq; rw [kmgI, if_neg (by rw [h6]; decide)]; done) | (intro c hq; rw [kmgI, if_pos h6, zxi]; rw [show zrow I 56 (kim I n (fun j => decide (j < 51 ∨ (51 ≤ j ∧ j < 51 + 16)))) 40 7 = I 40 7 from rfl, zu_zrow, kim_u (j := 70) (Q := (fun j => decide (j < 67 ∨ j = 70))) (by rfl) (by intro k; rw [Bool.eq_iff_iff]; simp; omega)])
                        · first | (rw [kmgI, if_neg (by rw [h6]; decide)]; done) | (rw [kmgI, if_pos h6]; rfl)
                        · first | (rw [kmgI, if_neg (by rw [h6]; decide)]; done) | (rw [kmgI, if_pos h6]; rfl)
                      · skip
                        exact absurd (nI_le (b := 16) (Nat.le_refl 16) (by decide)) h177
                  · skip
                    exact absurd (nI_le (b := 10) (Nat.le_refl 10) (by decide)) h146
              · skip
                exact absurd (nI_le (b := 8) (Nat.le_refl 8) (by decide)) h115
          · skip
            exact absurd (nI_le (b := 6) (Nat.le_refl 6) (by decide)) h50
      · skip
        exact absurd (nI_le (b := 15) (Nat.le_refl 15) (by decide)) h22
  · skip
    replace h6 := zb0 h6
    refine x_bipush (v := (-2)) dX9_image_9 (by decide) ?_
    refine x_iret dX9_image_11 rfl (Nat.le_of_ble_eq_true rfl) (Nat.le_of_ble_eq_true rfl) ?_
    refine zV_of (congrArg Value.int ?_) ?_ ?_ ?_
    · first | (rw [kmgA, if_neg (by rw [h6]; decide)]; done) | (rw [kmgA, if_pos h6])
    · first | (intro c hq; rw [kmgI, if_neg (by rw [h6]; decide)]; done) | (intro c hq; rw [kmgI, if_pos h6, zxi]; rw [show zrow I 56 (kim I n (fun j => decide (j < 51 ∨ (51 ≤ j ∧ j < 51 + 16)))) 40 7 = I 40 7 from rfl, zu_zrow, kim_u (j := 70) (Q := (fun j => decide (j < 67 ∨ j = 70))) (by rfl) (by intro k; rw [Bool.eq_iff_iff]; simp; omega)])
    · first | (rw [kmgI, if_neg (by rw [h6]; decide)]; done) | (rw [kmgI, if_pos h6]; rfl)
    · first | (rw [kmgI, if_neg (by rw [h6]; decide)]; done) | (rw [kmgI, if_pos h6]; rfl)
theorem ct_X9_restore {g : zG} {N : Nat} {I : zI} {L : zL} {q0 q1 : Option Nat} {w : Int32} (hN : 58 ≤ N) : Ct g yX9_restore mX9_restore [.ref (g.2.1 + 40), .int w] N I L (zRw q0 q1) (zV (.int (krsA I w)) N (krsJ I w) (zRw q0 q1)) := by
  refine Ct_of (lo0 := [some (.ref (g.2.1 + 40)), some (.int w), none, none]) rfl rfl rfl rfl (Nat.le_of_ble_eq_true rfl) (fun E => ?_)
  refine x_iload_n dX9_restore_0 rfl ?_
  refine x_iconst (v := 0) dX9_restore_1 (by decide) ?_
  refine x_iconst (v := 1) dX9_restore_2 (by decide) ?_
  refine x_callSi dX9_restore_3 ml_X9_63 mt_X9_in st_X9_in (ct_X9_in) rfl rfl (Nat.le_of_ble_eq_true rfl) ⟨(Nat.le_of_ble_eq_true rfl), (Nat.le_of_ble_eq_true rfl)⟩ ⟨rfl, rfl⟩ ⟨(Nat.le_of_ble_eq_true rfl), (Nat.le_of_ble_eq_true rfl)⟩ ?_
  refine x_if_ne (tgt := 12) dX9_restore_6 (by decide) (fun h6 => ?_) (fun h6 => ?_)
  · skip
    replace h6 := zb1 h6
    obtain ⟨n, hn, rfl⟩ := zin_ex (b := 1) (by decide) h6
    have zxi : zx (nI n) = n := zx_nI (by omega)
    refine x_aload_n dX9_restore_12 rfl ?_
    refine x_getR dX9_restore_13 fl_X9_59 (by omega) rfl rfl rfl ?_
    refine x_iload_n dX9_restore_16 rfl ?_
    refine x_zald dX9_restore_17 (by omega) rfl rfl hn ?_
    refine x_if_ne (tgt := 24) dX9_restore_18 (by decide) (fun h18 => ?_) (fun h18 => ?_)
    · skip
      refine x_bipush (v := 80) dX9_restore_24 (by decide) ?_
      refine x_iload_n dX9_restore_26 rfl ?_
      refine x_imul dX9_restore_27 ?_
      rw [show (80 : Int32) * nI n = nI (80 * n) from by rw [show (80 : Int32) = nI 80 from rfl, pk_mul]]
      refine x_istore_n (lo2 := [_, _, _, _]) dX9_restore_28 (by decide) rfl rfl ?_
      refine x_iconst (v := 0) dX9_restore_29 (by decide) ?_
      refine x_pc (pc2 := 30) rfl ?_
      refine x_istore_n (lo2 := [_, _, _, _]) dX9_restore_30 (by decide) rfl rfl ?_
      refine x_loop (inv := fun i => True) (fun i => [some (.ref (g.2.1 + 40)), some (.int (nI n)), some (.int (nI (80 * n))), some (.int (nI i))]) (fun i => (zrow I 41 (zpre i (fun k => I 56 (80 * n + (0 + k))) (I 41)))) (fun i => L) 0 15 (by omega) (by trivial) (by rfl) (by first | (simp only [zpre_0]; exact (zrow_same I 41).symm) | (simp only [zpre_0]; exact (zrow_z _ _ rfl).symm) | (simp only [zpre_0]; exact ((zrow_z _ _ rfl).trans ((zrow_z _ _ rfl).trans (zrow_z _ _ rfl))).symm)) (by rfl) (fun i hloi hhii hinvi Ki => ?_) (fun hinvi => ?_)
      · skip
        refine x_iload_n dX9_restore_31 rfl ?_
        refine x_bipush (v := 15) dX9_restore_32 (by decide) ?_
        refine x_icmp_ge (tgt := 57) dX9_restore_34 (by decide) (fun h34 => ?_) (fun h34 => ?_)
        · skip
          exact absurd h34 (nI_ge (b := 15) hhii (by decide))
        · skip
          refine x_aload_n dX9_restore_37 rfl ?_
          refine x_getR dX9_restore_38 fl_X9_7 (by omega) rfl rfl rfl ?_
          refine x_iload_n dX9_restore_41 rfl ?_
          refine x_aload_n dX9_restore_42 rfl ?_
          refine x_getR dX9_restore_43 fl_X9_56 (by omega) rfl rfl rfl ?_
          refine x_pc (pc2 := 46) rfl ?_
          refine x_iload_n dX9_restore_46 rfl ?_
          refine x_iload_n dX9_restore_47 rfl ?_
          refine x_iadd dX9_restore_48 ?_
          refine x_ialdN dX9_restore_49 (by omega) rfl (show nI (80 * n) + nI i = nI (80 * n + (0 + i)) from by rw [nI_add, Nat.zero_add]) (by omega) ?_
          refine x_iast dX9_restore_50 (by omega) rfl rfl (by omega) ?_
          refine x_iincN (lo2 := [_, _, _, _]) dX9_restore_51 rfl rfl rfl ?_
          refine x_pc (pc2 := 54) rfl ?_
          refine x_goto (tgt := 31) dX9_restore_54 (by decide) ?_
          exact x_eq (by rfl) (by rw [zu_zrow, upd_zp (by rfl)]) (by rfl) (Ki (by trivial))
      · skip
        refine x_iload_n dX9_restore_31 rfl ?_
        refine x_bipush (v := 15) dX9_restore_32 (by decide) ?_
        refine x_icmp_ge (tgt := 57) dX9_restore_34 (by decide) (fun h34 => ?_) (fun h34 => ?_)
        · skip
          refine x_iconst (v := 0) dX9_restore_57 (by decide) ?_
          refine x_istore_n (lo2 := [_, _, _, _]) dX9_restore_58 (by decide) rfl rfl ?_
          refine x_loop (inv := fun i => True) (fun i => [some (.ref (g.2.1 + 40)), some (.int (nI n)), some (.int (nI (80 * n))), some (.int (nI i))]) (fun i => (zrow (zrow (zrow (zrow I 41 (zpre 15 (fun k => I 56 (80 * n + (0 + k))) (I 41))) 43 (zpre i (fun k => I 56 (80 * n + (15 + k))) (I 43))) 44 (zpre i (fun k => I 56 (80 * n + (21 + k))) (I 44))) 45 (zpre i (fun k => I 56 (80 * n + (27 + k))) (I 45)))) (fun i => L) 0 6 (by omega) (by trivial) (by rfl) (by first | (simp only [zpre_0]; exact (zrow_same I 41).symm) | (simp only [zpre_0]; exact (zrow_z _ _ rfl).symm) | (simp only [zpre_0]; exact ((zrow_z _ _ rfl).trans ((zrow_z _ _ rfl).trans (zrow_z _ _ rfl))).symm)) (by rfl) (fun i hloi hhii hinvi Ki => ?_) (fun hinvi => ?_)
          · skip
            refine x_iload_n dX9_restore_59 rfl ?_
            refine x_bipush (v := 6) dX9_restore_60 (by decide) ?_
            refine x_icmp_ge (tgt := 122) dX9_restore_62 (by decide) (fun h62 => ?_) (fun h62 => ?_)
            · skip
              exact absurd h62 (nI_ge (b := 6) hhii (by decide))
            · skip
              refine x_aload_n dX9_restore_65 rfl ?_
              refine x_getR dX9_restore_66 fl_X9_16 (by omega) rfl rfl rfl ?_
              refine x_iload_n dX9_restore_69 rfl ?_
              refine x_aload_n dX9_restore_70 rfl ?_
              refine x_getR dX9_restore_71 fl_X9_56 (by omega) rfl rfl rfl ?_
              refine x_pc (pc2 := 74) rfl ?_
              refine x_iload_n dX9_restore_74 rfl ?_
              refine x_bipush (v := 15) dX9_restore_75 (by decide) ?_
              refine x_iadd dX9_restore_77 ?_
              refine x_iload_n dX9_restore_78 rfl ?_
              refine x_iadd dX9_restore_79 ?_
              refine x_ialdN dX9_restore_80 (by omega) rfl (by rw [show nI (80 * n) + 15 + nI i = nI (80 * n + (15 + i)) from by rw [show (15 : Int32) = nI 15 from rfl, nI_add, nI_add, Nat.add_assoc]]) (by omega) ?_
              refine x_pc (pc2 := 81) rfl ?_
              refine x_iast dX9_restore_81 (by omega) rfl rfl (by omega) ?_
              refine x_aload_n dX9_restore_82 rfl ?_
              refine x_getR dX9_restore_83 fl_X9_19 (by omega) rfl rfl rfl ?_
              refine x_iload_n dX9_restore_86 rfl ?_
              refine x_aload_n dX9_restore_87 rfl ?_
              refine x_getR dX9_restore_88 fl_X9_56 (by omega) rfl rfl rfl ?_
              refine x_pc (pc2 := 91) rfl ?_
              refine x_iload_n dX9_restore_91 rfl ?_
              refine x_bipush (v := 21) dX9_restore_92 (by decide) ?_
              refine x_iadd dX9_restore_94 ?_
              refine x_iload_n dX9_restore_95 rfl ?_
              refine x_iadd dX9_restore_96 ?_
              refine x_ialdN dX9_restore_97 (by omega) rfl (by rw [show nI (80 * n) + 21 + nI i = nI (80 * n + (21 + i)) from by rw [show (21 : Int32) = nI 21 from rfl, nI_add, nI_add, Nat.add_assoc]]) (by omega) ?_
              refine x_pc (pc2 := 98) rfl ?_
              refine x_iast dX9_restore_98 (by omega) rfl rfl (by omega) ?_
              refine x_aload_n dX9_restore_99 rfl ?_
              refine x_getR dX9_restore_100 fl_X9_22 (by omega) rfl rfl rfl ?_
              refine x_iload_n dX9_restore_103 rfl ?_
              refine x_aload_n dX9_restore_104 rfl ?_
              refine x_getR dX9_restore_105 fl_X9_56 (by omega) rfl rfl rfl ?_
              refine x_pc (pc2 := 108) rfl ?_
              refine x_iload_n dX9_restore_108 rfl ?_
              refine x_bipush (v := 27) dX9_restore_109 (by decide) ?_
              refine x_iadd dX9_restore_111 ?_
              refine x_iload_n dX9_restore_112 rfl ?_
              refine x_iadd dX9_restore_113 ?_
              refine x_ialdN dX9_restore_114 (by omega) rfl (by rw [show nI (80 * n) + 27 + nI i = nI (80 * n + (27 + i)) from by rw [show (27 : Int32) = nI 27 from rfl, nI_add, nI_add, Nat.add_assoc]]) (by omega) ?_
              refine x_pc (pc2 := 115) rfl ?_
              refine x_iast dX9_restore_115 (by omega) rfl rfl (by omega) ?_
              refine x_iincN (lo2 := [_, _, _, _]) dX9_restore_116 rfl rfl rfl ?_
              refine x_goto (tgt := 59) dX9_restore_119 (by decide) ?_
              exact x_eq (by rfl) (by exact zr3 (by decide) (by decide) (by decide) rfl rfl rfl) (by rfl) (Ki (by trivial))
          · skip
            refine x_iload_n dX9_restore_59 rfl ?_
            refine x_bipush (v := 6) dX9_restore_60 (by decide) ?_
            refine x_icmp_ge (tgt := 122) dX9_restore_62 (by decide) (fun h62 => ?_) (fun h62 => ?_)
            · skip
              refine x_iconst (v := 0) dX9_restore_122 (by decide) ?_
              refine x_istore_n (lo2 := [_, _, _, _]) dX9_restore_123 (by decide) rfl rfl ?_
              refine x_loop (inv := fun i => True) (fun i => [some (.ref (g.2.1 + 40)), some (.int (nI n)), some (.int (nI (80 * n))), some (.int (nI i))]) (fun i => (zrow (zrow (zrow (zrow (zrow I 41 (zpre 15 (fun k => I 56 (80 * n + (0 + k))) (I 41))) 43 (zpre 6 (fun k => I 56 (80 * n + (15 + k))) (I 43))) 44 (zpre 6 (fun k => I 56 (80 * n + (21 + k))) (I 44))) 45 (zpre 6 (fun k => I 56 (80 * n + (27 + k))) (I 45))) 46 (zpre i (fun k => I 56 (80 * n + (33 + k))) (I 46)))) (fun i => L) 0 8 (by omega) (by trivial) (by rfl) (by first | (simp only [zpre_0]; exact (zrow_same I 41).symm) | (simp only [zpre_0]; exact (zrow_z _ _ rfl).symm) | (simp only [zpre_0]; exact ((zrow_z _ _ rfl).trans ((zrow_z _ _ rfl).trans (zrow_z _ _ rfl))).symm)) (by rfl) (fun i hloi hhii hinvi Ki => ?_) (fun hinvi => ?_)
              · skip
                refine x_iload_n dX9_restore_124 rfl ?_
                refine x_bipush (v := 8) dX9_restore_125 (by decide) ?_
                refine x_icmp_ge (tgt := 153) dX9_restore_127 (by decide) (fun h127 => ?_) (fun h127 => ?_)
                · skip
                  exact absurd h127 (nI_ge (b := 8) hhii (by decide))
                · skip
                  refine x_aload_n dX9_restore_130 rfl ?_
                  refine x_getR dX9_restore_131 fl_X9_25 (by omega) rfl rfl rfl ?_
                  refine x_iload_n dX9_restore_134 rfl ?_
                  refine x_aload_n dX9_restore_135 rfl ?_
                  refine x_getR dX9_restore_136 fl_X9_56 (by omega) rfl rfl rfl ?_
                  refine x_pc (pc2 := 139) rfl ?_
                  refine x_iload_n dX9_restore_139 rfl ?_
                  refine x_bipush (v := 33) dX9_restore_140 (by decide) ?_
                  refine x_iadd dX9_restore_142 ?_
                  refine x_iload_n dX9_restore_143 rfl ?_
                  refine x_iadd dX9_restore_144 ?_
                  refine x_ialdN dX9_restore_145 (by omega) rfl (by rw [show nI (80 * n) + 33 + nI i = nI (80 * n + (33 + i)) from by rw [show (33 : Int32) = nI 33 from rfl, nI_add, nI_add, Nat.add_assoc]]) (by omega) ?_
                  refine x_pc (pc2 := 146) rfl ?_
                  refine x_iast dX9_restore_146 (by omega) rfl rfl (by omega) ?_
                  refine x_iincN (lo2 := [_, _, _, _]) dX9_restore_147 rfl rfl rfl ?_
                  refine x_goto (tgt := 124) dX9_restore_150 (by decide) ?_
                  exact x_eq (by rfl) (by rw [zu_zrow, upd_zp (by rfl)]) (by rfl) (Ki (by trivial))
              · skip
                refine x_iload_n dX9_restore_124 rfl ?_
                refine x_bipush (v := 8) dX9_restore_125 (by decide) ?_
                refine x_icmp_ge (tgt := 153) dX9_restore_127 (by decide) (fun h127 => ?_) (fun h127 => ?_)
                · skip
                  refine x_iconst (v := 0) dX9_restore_153 (by decide) ?_
                  refine x_istore_n (lo2 := [_, _, _, _]) dX9_restore_154 (by decide) rfl rfl ?_
                  refine x_loop (inv := fun i => True) (fun i => [some (.ref (g.2.1 + 40)), some (.int (nI n)), some (.int (nI (80 * n))), some (.int (nI i))]) (fun i => (zrow (zrow (zrow (zrow (zrow (zrow I 41 (zpre 15 (fun k => I 56 (80 * n + (0 + k))) (I 41))) 43 (zpre 6 (fun k => I 56 (80 * n + (15 + k))) (I 43))) 44 (zpre 6 (fun k => I 56 (80 * n + (21 + k))) (I 44))) 45 (zpre 6 (fun k => I 56 (80 * n + (27 + k))) (I 45))) 46 (zpre 8 (fun k => I 56 (80 * n + (33 + k))) (I 46))) 47 (zpre i (fun k => I 56 (80 * n + (41 + k))) (I 47)))) (fun i => L) 0 10 (by omega) (by trivial) (by rfl) (by first | (simp only [zpre_0]; exact (zrow_same I 41).symm) | (simp only [zpre_0]; exact (zrow_z _ _ rfl).symm) | (simp only [zpre_0]; exact ((zrow_z _ _ rfl).trans ((zrow_z _ _ rfl).trans (zrow_z _ _ rfl))).symm)) (by rfl) (fun i hloi hhii hinvi Ki => ?_) (fun hinvi => ?_)
                  · skip
                    refine x_iload_n dX9_restore_155 rfl ?_
                    refine x_bipush (v := 10) dX9_restore_156 (by decide) ?_
                    refine x_icmp_ge (tgt := 184) dX9_restore_158 (by decide) (fun h158 => ?_) (fun h158 => ?_)
                    · skip
                      exact absurd h158 (nI_ge (b := 10) hhii (by decide))
                    · skip
                      refine x_aload_n dX9_restore_161 rfl ?_
                      refine x_getR dX9_restore_162 fl_X9_28 (by omega) rfl rfl rfl ?_
                      refine x_iload_n dX9_restore_165 rfl ?_
                      refine x_aload_n dX9_restore_166 rfl ?_
                      refine x_getR dX9_restore_167 fl_X9_56 (by omega) rfl rfl rfl ?_
                      refine x_pc (pc2 := 170) rfl ?_
                      refine x_iload_n dX9_restore_170 rfl ?_
                      refine x_bipush (v := 41) dX9_restore_171 (by decide) ?_
                      refine x_iadd dX9_restore_173 ?_
                      refine x_iload_n dX9_restore_174 rfl ?_
                      refine x_iadd dX9_restore_175 ?_
                      refine x_ialdN dX9_restore_176 (by omega) rfl (by rw [show nI (80 * n) + 41 + nI i = nI (80 * n + (41 + i)) from by rw [show (41 : Int32) = nI 41 from rfl, nI_add, nI_add, Nat.add_assoc]]) (by omega) ?_
                      refine x_pc (pc2 := 177) rfl ?_
                      refine x_iast dX9_restore_177 (by omega) rfl rfl (by omega) ?_
                      refine x_iincN (lo2 := [_, _, _, _]) dX9_restore_178 rfl rfl rfl ?_
                      refine x_goto (tgt := 155) dX9_restore_181 (by decide) ?_
                      exact x_eq (by rfl) (by rw [zu_zrow, upd_zp (by rfl)]) (by rfl) (Ki (by trivial))
                  · skip
                    refine x_iload_n dX9_restore_155 rfl ?_
                    refine x_bipush (v := 10) dX9_restore_156 (by decide) ?_
                    refine x_icmp_ge (tgt := 184) dX9_restore_158 (by decide) (fun h158 => ?_) (fun h158 => ?_)
                    · skip
                      refine x_iconst (v := 0) dX9_restore_184 (by decide) ?_
                      refine x_istore_n (lo2 := [_, _, _, _]) dX9_restore_185 (by decide) rfl rfl ?_
                      refine x_loop (inv := fun i => True) (fun i => [some (.ref (g.2.1 + 40)), some (.int (nI n)), some (.int (nI (80 * n))), some (.int (nI i))]) (fun i => (zrow (zrow (zrow (zrow (zrow (zrow (zrow I 41 (zpre 15 (fun k => I 56 (80 * n + (0 + k))) (I 41))) 43 (zpre 6 (fun k => I 56 (80 * n + (15 + k))) (I 43))) 44 (zpre 6 (fun k => I 56 (80 * n + (21 + k))) (I 44))) 45 (zpre 6 (fun k => I 56 (80 * n + (27 + k))) (I 45))) 46 (zpre 8 (fun k => I 56 (80 * n + (33 + k))) (I 46))) 47 (zpre 10 (fun k => I 56 (80 * n + (41 + k))) (I 47))) 48 (zpre i (fun k => I 56 (80 * n + (51 + k))) (I 48)))) (fun i => L) 0 16 (by omega) (by trivial) (by rfl) (by first | (simp only [zpre_0]; exact (zrow_same I 41).symm) | (simp only [zpre_0]; exact (zrow_z _ _ rfl).symm) | (simp only [zpre_0]; exact ((zrow_z _ _ rfl).trans ((zrow_z _ _ rfl).trans (zrow_z _ _ rfl))).symm)) (by rfl) (fun i hloi hhii hinvi Ki => ?_) (fun hinvi => ?_)
                      · skip
                        refine x_iload_n dX9_restore_186 rfl ?_
                        refine x_bipush (v := 16) dX9_restore_187 (by decide) ?_
                        refine x_icmp_ge (tgt := 215) dX9_restore_189 (by decide) (fun h189 => ?_) (fun h189 => ?_)
                        · skip
                          exact absurd h189 (nI_ge (b := 16) hhii (by decide))
                        · skip
                          refine x_aload_n dX9_restore_192 rfl ?_
                          refine x_getR dX9_restore_193 fl_X9_31 (by omega) rfl rfl rfl ?_
                          refine x_iload_n dX9_restore_196 rfl ?_
                          refine x_aload_n dX9_restore_197 rfl ?_
                          refine x_getR dX9_restore_198 fl_X9_56 (by omega) rfl rfl rfl ?_
                          refine x_pc (pc2 := 201) rfl ?_
                          refine x_iload_n dX9_restore_201 rfl ?_
                          refine x_bipush (v := 51) dX9_restore_202 (by decide) ?_
                          refine x_iadd dX9_restore_204 ?_
                          refine x_iload_n dX9_restore_205 rfl ?_
                          refine x_iadd dX9_restore_206 ?_
                          refine x_ialdN dX9_restore_207 (by omega) rfl (by rw [show nI (80 * n) + 51 + nI i = nI (80 * n + (51 + i)) from by rw [show (51 : Int32) = nI 51 from rfl, nI_add, nI_add, Nat.add_assoc]]) (by omega) ?_
                          refine x_pc (pc2 := 208) rfl ?_
                          refine x_iast dX9_restore_208 (by omega) rfl rfl (by omega) ?_
                          refine x_iincN (lo2 := [_, _, _, _]) dX9_restore_209 rfl rfl rfl ?_
                          refine x_goto (tgt := 186) dX9_restore_212 (by decide) ?_
                          exact x_eq (by rfl) (by rw [zu_zrow, upd_zp (by rfl)]) (by rfl) (Ki (by trivial))
                      · skip
                        refine x_iload_n dX9_restore_186 rfl ?_
                        refine x_bipush (v := 16) dX9_restore_187 (by decide) ?_
                        refine x_icmp_ge (tgt := 215) dX9_restore_189 (by decide) (fun h189 => ?_) (fun h189 => ?_)
                        · skip
                          refine x_aload_n dX9_restore_215 rfl ?_
                          refine x_aload_n dX9_restore_216 rfl ?_
                          refine x_getR dX9_restore_217 fl_X9_56 (by omega) rfl rfl rfl ?_
                          refine x_iload_n dX9_restore_220 rfl ?_
                          refine x_bipush (v := 70) dX9_restore_221 (by decide) ?_
                          refine x_pc (pc2 := 223) rfl ?_
                          refine x_iadd dX9_restore_223 ?_
                          refine x_ialdN dX9_restore_224 (by omega) rfl (show nI (80 * n) + nI 70 = nI (80 * n + 70) from nI_add _ 70) (by omega) ?_
                          refine x_putI dX9_restore_225 fp_X9_141 (by omega) rfl ?_
                          refine x_iconst (v := 1) dX9_restore_228 (by decide) ?_
                          refine x_iret dX9_restore_229 rfl (Nat.le_of_ble_eq_true rfl) (Nat.le_of_ble_eq_true rfl) ?_
                          refine zV_of (congrArg Value.int ?_) ?_ ?_ ?_
                          · first | (rw [krsA, if_pos h6]; done) | (rw [krsA, if_neg (by rw [h6]; decide), zxi, if_pos h18]; done) | (rw [krsA, if_neg (by rw [h6]; decide), zxi, if_neg h18])
                          · first | (intro c hq; rw [krsJ, if_neg (fun q => absurd (h6.symm.trans q.1) (by decide))]; done) | (intro c hq; rw [krsJ, zxi, if_neg (fun q => q.2 h18)]; done) | (intro c hq; rw [krsJ, zxi, if_pos ⟨h6, h18⟩]; rfl)
                          · first | (rw [krsJ, if_neg (fun q => absurd (h6.symm.trans q.1) (by decide))]; done) | (rw [krsJ, zxi, if_neg (fun q => q.2 h18)]; done) | (rw [krsJ, zxi, if_pos ⟨h6, h18⟩]; rfl)
                          · first | (rw [krsJ, if_neg (fun q => absurd (h6.symm.trans q.1) (by decide))]; done) | (rw [krsJ, zxi, if_neg (fun q => q.2 h18)]; done) | (rw [krsJ, zxi, if_pos ⟨h6, h18⟩]; rfl)
                        · skip
                          exact absurd (nI_le (b := 16) (Nat.le_refl 16) (by decide)) h189
                    · skip
                      exact absurd (nI_le (b := 10) (Nat.le_refl 10) (by decide)) h158
                · skip
                  exact absurd (nI_le (b := 8) (Nat.le_refl 8) (by decide)) h127
            · skip
              exact absurd (nI_le (b := 6) (Nat.le_refl 6) (by decide)) h62
        · skip
          exact absurd (nI_le (b := 15) (Nat.le_refl 15) (by decide)) h34
    · skip
      refine x_bipush (v := (-3)) dX9_restore_21 (by decide) ?_
      refine x_iret dX9_restore_23 rfl (Nat.le_of_ble_eq_true rfl) (Nat.le_of_ble_eq_true rfl) ?_
      refine zV_of (congrArg Value.int ?_) ?_ ?_ ?_
      · first | (rw [krsA, if_pos h6]; done) | (rw [krsA, if_neg (by rw [h6]; decide), zxi, if_pos h18]; done) | (rw [krsA, if_neg (by rw [h6]; decide), zxi, if_neg h18])
      · first | (intro c hq; rw [krsJ, if_neg (fun q => absurd (h6.symm.trans q.1) (by decide))]; done) | (intro c hq; rw [krsJ, zxi, if_neg (fun q => q.2 h18)]; done) | (intro c hq; rw [krsJ, zxi, if_pos ⟨h6, h18⟩]; rfl)
      · first | (rw [krsJ, if_neg (fun q => absurd (h6.symm.trans q.1) (by decide))]; done) | (rw [krsJ, zxi, if_neg (fun q => q.2 h18)]; done) | (rw [krsJ, zxi, if_pos ⟨h6, h18⟩]; rfl)
      · first | (rw [krsJ, if_neg (fun q => absurd (h6.symm.trans q.1) (by decide))]; done) | (rw [krsJ, zxi, if_neg (fun q => q.2 h18)]; done) | (rw [krsJ, zxi, if_pos ⟨h6, h18⟩]; rfl)
  · skip
    replace h6 := zb0 h6
    refine x_bipush (v := (-2)) dX9_restore_9 (by decide) ?_
    refine x_iret dX9_restore_11 rfl (Nat.le_of_ble_eq_true rfl) (Nat.le_of_ble_eq_true rfl) ?_
    refine zV_of (congrArg Value.int ?_) ?_ ?_ ?_
    · first | (rw [krsA, if_pos h6]; done) | (rw [krsA, if_neg (by rw [h6]; decide), zxi, if_pos h18]; done) | (rw [krsA, if_neg (by rw [h6]; decide), zxi, if_neg h18])
    · first | (intro c hq; rw [krsJ, if_neg (fun q => absurd (h6.symm.trans q.1) (by decide))]; done) | (intro c hq; rw [krsJ, zxi, if_neg (fun q => q.2 h18)]; done) | (intro c hq; rw [krsJ, zxi, if_pos ⟨h6, h18⟩]; rfl)
    · first | (rw [krsJ, if_neg (fun q => absurd (h6.symm.trans q.1) (by decide))]; done) | (rw [krsJ, zxi, if_neg (fun q => q.2 h18)]; done) | (rw [krsJ, zxi, if_pos ⟨h6, h18⟩]; rfl)
    · first | (rw [krsJ, if_neg (fun q => absurd (h6.symm.trans q.1) (by decide))]; done) | (rw [krsJ, zxi, if_neg (fun q => q.2 h18)]; done) | (rw [krsJ, zxi, if_pos ⟨h6, h18⟩]; rfl)
theorem ct_X9_told {g : zG} {N : Nat} {I : zI} {L : zL} {q0 q1 : Option Nat} {w : Int32} (hN : 58 ≤ N) : Ct g yX9_told mX9_told [.ref (g.2.1 + 40), .int w] N I L (zRw q0 q1) (zV (.int (ktoA I w)) N I (zRw q0 q1)) := by
  refine Ct_of (lo0 := [some (.ref (g.2.1 + 40)), some (.int w), none]) rfl rfl rfl rfl (Nat.le_of_ble_eq_true rfl) (fun E => ?_)
  refine x_iload_n dX9_told_0 rfl ?_
  refine x_bipush (v := 100) dX9_told_1 (by decide) ?_
  refine x_icmp_lt (tgt := 50) dX9_told_3 (by decide) (fun h3 => ?_) (fun h3 => ?_)
  · skip
    refine x_iload_n dX9_told_50 rfl ?_
    refine x_bipush (v := 30) dX9_told_51 (by decide) ?_
    refine x_icmp_lt (tgt := 100) dX9_told_53 (by decide) (fun h53 => ?_) (fun h53 => ?_)
    · skip
      refine x_iload_n dX9_told_100 rfl ?_
      refine x_bipush (v := 20) dX9_told_101 (by decide) ?_
      refine x_icmp_lt (tgt := 127) dX9_told_103 (by decide) (fun h103 => ?_) (fun h103 => ?_)
      · skip
        refine x_iload_n dX9_told_127 rfl ?_
        refine x_bipush (v := 10) dX9_told_128 (by decide) ?_
        refine x_icmp_lt (tgt := 143) dX9_told_130 (by decide) (fun h130 => ?_) (fun h130 => ?_)
        · skip
          refine x_iload_n dX9_told_143 rfl ?_
          by_cases hw0 : w = 0
          · skip
            subst hw0
            refine x_tableIn (off := 32) (tgt := 176) dX9_told_144 (by decide) (by decide) rfl (by decide) ?_
            refine x_aload_n dX9_told_176 rfl ?_
            refine x_getI dX9_told_177 fl_X9_75 (by omega) rfl rfl ?_
            refine x_iret dX9_told_180 rfl (Nat.le_of_ble_eq_true rfl) (Nat.le_of_ble_eq_true rfl) ?_
            refine zV_of (congrArg Value.int ?_) ?_ ?_ ?_
            · first | (rw [ktoA, if_pos (Int32.not_lt.mp h3), if_pos ⟨h19, Int32.not_le.mp h27⟩, eidx, zx_nI (by omega)]; done) | (rw [ktoA, if_pos (Int32.not_lt.mp h3), if_neg (fun q => absurd (h19.symm.trans q.1) (by decide))]; done) | (rw [ktoA, if_pos (Int32.not_lt.mp h3), if_neg (fun q => absurd q.2 (Int32.not_lt.mpr h27))]; done) | (rw [ktoA, if_neg (Int32.not_le.mpr h3), if_pos (Int32.not_lt.mp h53), if_pos (Int32.not_le.mp h64), esub, zx_nI (by omega)]; done) | (rw [ktoA, if_neg (Int32.not_le.mpr h3), if_pos (Int32.not_lt.mp h53), if_neg (Int32.not_lt.mpr h64)]; done) | (rw [ktoA, if_neg (Int32.not_le.mpr h3), if_neg (Int32.not_le.mpr h53), if_pos (Int32.not_lt.mp h103), if_pos (Int32.not_le.mp h109), esub, zx_nI (by omega)]; done) | (rw [ktoA, if_neg (Int32.not_le.mpr h3), if_neg (Int32.not_le.mpr h53), if_pos (Int32.not_lt.mp h103), if_neg (Int32.not_lt.mpr h109)]; done) | (rw [ktoA, if_neg (Int32.not_le.mpr h3), if_neg (Int32.not_le.mpr h53), if_neg (Int32.not_le.mpr h103), if_pos (Int32.not_lt.mp h130), esub, zx_nI (by omega)]; done) | (rw [ktoA, if_neg (by decide), if_neg (by decide), if_neg (by decide), if_neg (by decide)]; rfl) | (rw [ktoA, if_neg (Int32.not_le.mpr h3), if_neg (Int32.not_le.mpr h53), if_neg (Int32.not_le.mpr h103), if_neg (Int32.not_le.mpr h130), if_neg hw0, if_neg hw1, if_neg hw2, if_neg hw3, if_pos h193]; done) | (rw [ktoA, if_neg (Int32.not_le.mpr h3), if_neg (Int32.not_le.mpr h53), if_neg (Int32.not_le.mpr h103), if_neg (Int32.not_le.mpr h130), if_neg hw0, if_neg hw1, if_neg hw2, if_neg hw3, if_neg h193])
            · intro _ _; rfl
            · rfl
            · rfl
          by_cases hw1 : w = 1
          · skip
            subst hw1
            refine x_tableIn (off := 37) (tgt := 181) dX9_told_144 (by decide) (by decide) rfl (by decide) ?_
            refine x_aload_n dX9_told_181 rfl ?_
            refine x_getR dX9_told_182 fl_X9_7 (by omega) rfl rfl rfl ?_
            refine x_bipush (v := 11) dX9_told_185 (by decide) ?_
            refine x_iload_n dX9_told_187 rfl ?_
            refine x_iadd dX9_told_188 ?_
            refine x_pc (pc2 := 189) rfl ?_
            refine x_ialdN dX9_told_189 (by omega) rfl (show (11 : Int32) + 1 = nI 12 from by decide) (by decide) ?_
            refine x_iret dX9_told_190 rfl (Nat.le_of_ble_eq_true rfl) (Nat.le_of_ble_eq_true rfl) ?_
            refine zV_of (congrArg Value.int ?_) ?_ ?_ ?_
            · first | (rw [ktoA, if_pos (Int32.not_lt.mp h3), if_pos ⟨h19, Int32.not_le.mp h27⟩, eidx, zx_nI (by omega)]; done) | (rw [ktoA, if_pos (Int32.not_lt.mp h3), if_neg (fun q => absurd (h19.symm.trans q.1) (by decide))]; done) | (rw [ktoA, if_pos (Int32.not_lt.mp h3), if_neg (fun q => absurd q.2 (Int32.not_lt.mpr h27))]; done) | (rw [ktoA, if_neg (Int32.not_le.mpr h3), if_pos (Int32.not_lt.mp h53), if_pos (Int32.not_le.mp h64), esub, zx_nI (by omega)]; done) | (rw [ktoA, if_neg (Int32.not_le.mpr h3), if_pos (Int32.not_lt.mp h53), if_neg (Int32.not_lt.mpr h64)]; done) | (rw [ktoA, if_neg (Int32.not_le.mpr h3), if_neg (Int32.not_le.mpr h53), if_pos (Int32.not_lt.mp h103), if_pos (Int32.not_le.mp h109), esub, zx_nI (by omega)]; done) | (rw [ktoA, if_neg (Int32.not_le.mpr h3), if_neg (Int32.not_le.mpr h53), if_pos (Int32.not_lt.mp h103), if_neg (Int32.not_lt.mpr h109)]; done) | (rw [ktoA, if_neg (Int32.not_le.mpr h3), if_neg (Int32.not_le.mpr h53), if_neg (Int32.not_le.mpr h103), if_pos (Int32.not_lt.mp h130), esub, zx_nI (by omega)]; done) | (rw [ktoA, if_neg (by decide), if_neg (by decide), if_neg (by decide), if_neg (by decide)]; rfl) | (rw [ktoA, if_neg (Int32.not_le.mpr h3), if_neg (Int32.not_le.mpr h53), if_neg (Int32.not_le.mpr h103), if_neg (Int32.not_le.mpr h130), if_neg hw0, if_neg hw1, if_neg hw2, if_neg hw3, if_pos h193]; done) | (rw [ktoA, if_neg (Int32.not_le.mpr h3), if_neg (Int32.not_le.mpr h53), if_neg (Int32.not_le.mpr h103), if_neg (Int32.not_le.mpr h130), if_neg hw0, if_neg hw1, if_neg hw2, if_neg hw3, if_neg h193])
            · intro _ _; rfl
            · rfl
            · rfl
          by_cases hw2 : w = 2
          · skip
            subst hw2
            refine x_tableIn (off := 37) (tgt := 181) dX9_told_144 (by decide) (by decide) rfl (by decide) ?_
            refine x_aload_n dX9_told_181 rfl ?_
            refine x_getR dX9_told_182 fl_X9_7 (by omega) rfl rfl rfl ?_
            refine x_bipush (v := 11) dX9_told_185 (by decide) ?_
            refine x_iload_n dX9_told_187 rfl ?_
            refine x_iadd dX9_told_188 ?_
            refine x_pc (pc2 := 189) rfl ?_
            refine x_ialdN dX9_told_189 (by omega) rfl (show (11 : Int32) + 2 = nI 13 from by decide) (by decide) ?_
            refine x_iret dX9_told_190 rfl (Nat.le_of_ble_eq_true rfl) (Nat.le_of_ble_eq_true rfl) ?_
            refine zV_of (congrArg Value.int ?_) ?_ ?_ ?_
            · first | (rw [ktoA, if_pos (Int32.not_lt.mp h3), if_pos ⟨h19, Int32.not_le.mp h27⟩, eidx, zx_nI (by omega)]; done) | (rw [ktoA, if_pos (Int32.not_lt.mp h3), if_neg (fun q => absurd (h19.symm.trans q.1) (by decide))]; done) | (rw [ktoA, if_pos (Int32.not_lt.mp h3), if_neg (fun q => absurd q.2 (Int32.not_lt.mpr h27))]; done) | (rw [ktoA, if_neg (Int32.not_le.mpr h3), if_pos (Int32.not_lt.mp h53), if_pos (Int32.not_le.mp h64), esub, zx_nI (by omega)]; done) | (rw [ktoA, if_neg (Int32.not_le.mpr h3), if_pos (Int32.not_lt.mp h53), if_neg (Int32.not_lt.mpr h64)]; done) | (rw [ktoA, if_neg (Int32.not_le.mpr h3), if_neg (Int32.not_le.mpr h53), if_pos (Int32.not_lt.mp h103), if_pos (Int32.not_le.mp h109), esub, zx_nI (by omega)]; done) | (rw [ktoA, if_neg (Int32.not_le.mpr h3), if_neg (Int32.not_le.mpr h53), if_pos (Int32.not_lt.mp h103), if_neg (Int32.not_lt.mpr h109)]; done) | (rw [ktoA, if_neg (Int32.not_le.mpr h3), if_neg (Int32.not_le.mpr h53), if_neg (Int32.not_le.mpr h103), if_pos (Int32.not_lt.mp h130), esub, zx_nI (by omega)]; done) | (rw [ktoA, if_neg (by decide), if_neg (by decide), if_neg (by decide), if_neg (by decide)]; rfl) | (rw [ktoA, if_neg (Int32.not_le.mpr h3), if_neg (Int32.not_le.mpr h53), if_neg (Int32.not_le.mpr h103), if_neg (Int32.not_le.mpr h130), if_neg hw0, if_neg hw1, if_neg hw2, if_neg hw3, if_pos h193]; done) | (rw [ktoA, if_neg (Int32.not_le.mpr h3), if_neg (Int32.not_le.mpr h53), if_neg (Int32.not_le.mpr h103), if_neg (Int32.not_le.mpr h130), if_neg hw0, if_neg hw1, if_neg hw2, if_neg hw3, if_neg h193])
            · intro _ _; rfl
            · rfl
            · rfl
          by_cases hw3 : w = 3
          · skip
            subst hw3
            refine x_tableIn (off := 37) (tgt := 181) dX9_told_144 (by decide) (by decide) rfl (by decide) ?_
            refine x_aload_n dX9_told_181 rfl ?_
            refine x_getR dX9_told_182 fl_X9_7 (by omega) rfl rfl rfl ?_
            refine x_bipush (v := 11) dX9_told_185 (by decide) ?_
            refine x_iload_n dX9_told_187 rfl ?_
            refine x_iadd dX9_told_188 ?_
            refine x_pc (pc2 := 189) rfl ?_
            refine x_ialdN dX9_told_189 (by omega) rfl (show (11 : Int32) + 3 = nI 14 from by decide) (by decide) ?_
            refine x_iret dX9_told_190 rfl (Nat.le_of_ble_eq_true rfl) (Nat.le_of_ble_eq_true rfl) ?_
            refine zV_of (congrArg Value.int ?_) ?_ ?_ ?_
            · first | (rw [ktoA, if_pos (Int32.not_lt.mp h3), if_pos ⟨h19, Int32.not_le.mp h27⟩, eidx, zx_nI (by omega)]; done) | (rw [ktoA, if_pos (Int32.not_lt.mp h3), if_neg (fun q => absurd (h19.symm.trans q.1) (by decide))]; done) | (rw [ktoA, if_pos (Int32.not_lt.mp h3), if_neg (fun q => absurd q.2 (Int32.not_lt.mpr h27))]; done) | (rw [ktoA, if_neg (Int32.not_le.mpr h3), if_pos (Int32.not_lt.mp h53), if_pos (Int32.not_le.mp h64), esub, zx_nI (by omega)]; done) | (rw [ktoA, if_neg (Int32.not_le.mpr h3), if_pos (Int32.not_lt.mp h53), if_neg (Int32.not_lt.mpr h64)]; done) | (rw [ktoA, if_neg (Int32.not_le.mpr h3), if_neg (Int32.not_le.mpr h53), if_pos (Int32.not_lt.mp h103), if_pos (Int32.not_le.mp h109), esub, zx_nI (by omega)]; done) | (rw [ktoA, if_neg (Int32.not_le.mpr h3), if_neg (Int32.not_le.mpr h53), if_pos (Int32.not_lt.mp h103), if_neg (Int32.not_lt.mpr h109)]; done) | (rw [ktoA, if_neg (Int32.not_le.mpr h3), if_neg (Int32.not_le.mpr h53), if_neg (Int32.not_le.mpr h103), if_pos (Int32.not_lt.mp h130), esub, zx_nI (by omega)]; done) | (rw [ktoA, if_neg (by decide), if_neg (by decide), if_neg (by decide), if_neg (by decide)]; rfl) | (rw [ktoA, if_neg (Int32.not_le.mpr h3), if_neg (Int32.not_le.mpr h53), if_neg (Int32.not_le.mpr h103), if_neg (Int32.not_le.mpr h130), if_neg hw0, if_neg hw1, if_neg hw2, if_neg hw3, if_pos h193]; done) | (rw [ktoA, if_neg (Int32.not_le.mpr h3), if_neg (Int32.not_le.mpr h53), if_neg (Int32.not_le.mpr h103), if_neg (Int32.not_le.mpr h130), if_neg hw0, if_neg hw1, if_neg hw2, if_neg hw3, if_neg h193])
            · intro _ _; rfl
            · rfl
            · rfl
          refine x_tableOut (tgt := 191) dX9_told_144 (by have e0 := zsw_ne hw0; have e1 := zsw_ne hw1; have e2 := zsw_ne hw2; have e3 := zsw_ne hw3; have c0 : (0 : Int32).toInt = 0 := (by decide); have c1 : (1 : Int32).toInt = 1 := (by decide); have c2 : (2 : Int32).toInt = 2 := (by decide); have c3 : (3 : Int32).toInt = 3 := (by decide); omega) (by decide) ?_
          refine x_iload_n dX9_told_191 rfl ?_
          refine x_iconst (v := 4) dX9_told_192 (by decide) ?_
          refine x_icmp_ne (tgt := 203) dX9_told_193 (by decide) (fun h193 => ?_) (fun h193 => ?_)
          · skip
            refine x_bipush (v := (-2)) dX9_told_203 (by decide) ?_
            refine x_iret dX9_told_205 rfl (Nat.le_of_ble_eq_true rfl) (Nat.le_of_ble_eq_true rfl) ?_
            refine zV_of (congrArg Value.int ?_) ?_ ?_ ?_
            · first | (rw [ktoA, if_pos (Int32.not_lt.mp h3), if_pos ⟨h19, Int32.not_le.mp h27⟩, eidx, zx_nI (by omega)]; done) | (rw [ktoA, if_pos (Int32.not_lt.mp h3), if_neg (fun q => absurd (h19.symm.trans q.1) (by decide))]; done) | (rw [ktoA, if_pos (Int32.not_lt.mp h3), if_neg (fun q => absurd q.2 (Int32.not_lt.mpr h27))]; done) | (rw [ktoA, if_neg (Int32.not_le.mpr h3), if_pos (Int32.not_lt.mp h53), if_pos (Int32.not_le.mp h64), esub, zx_nI (by omega)]; done) | (rw [ktoA, if_neg (Int32.not_le.mpr h3), if_pos (Int32.not_lt.mp h53), if_neg (Int32.not_lt.mpr h64)]; done) | (rw [ktoA, if_neg (Int32.not_le.mpr h3), if_neg (Int32.not_le.mpr h53), if_pos (Int32.not_lt.mp h103), if_pos (Int32.not_le.mp h109), esub, zx_nI (by omega)]; done) | (rw [ktoA, if_neg (Int32.not_le.mpr h3), if_neg (Int32.not_le.mpr h53), if_pos (Int32.not_lt.mp h103), if_neg (Int32.not_lt.mpr h109)]; done) | (rw [ktoA, if_neg (Int32.not_le.mpr h3), if_neg (Int32.not_le.mpr h53), if_neg (Int32.not_le.mpr h103), if_pos (Int32.not_lt.mp h130), esub, zx_nI (by omega)]; done) | (rw [ktoA, if_neg (by decide), if_neg (by decide), if_neg (by decide), if_neg (by decide)]; rfl) | (rw [ktoA, if_neg (Int32.not_le.mpr h3), if_neg (Int32.not_le.mpr h53), if_neg (Int32.not_le.mpr h103), if_neg (Int32.not_le.mpr h130), if_neg hw0, if_neg hw1, if_neg hw2, if_neg hw3, if_pos h193]; done) | (rw [ktoA, if_neg (Int32.not_le.mpr h3), if_neg (Int32.not_le.mpr h53), if_neg (Int32.not_le.mpr h103), if_neg (Int32.not_le.mpr h130), if_neg hw0, if_neg hw1, if_neg hw2, if_neg hw3, if_neg h193])
            · intro _ _; rfl
            · rfl
            · rfl
          · skip
            refine x_aload_n dX9_told_196 rfl ?_
            refine x_getI dX9_told_197 fl_X9_141 (by omega) rfl rfl ?_
            refine x_goto (tgt := 205) dX9_told_200 (by decide) ?_
            refine x_iret dX9_told_205 rfl (Nat.le_of_ble_eq_true rfl) (Nat.le_of_ble_eq_true rfl) ?_
            refine zV_of (congrArg Value.int ?_) ?_ ?_ ?_
            · first | (rw [ktoA, if_pos (Int32.not_lt.mp h3), if_pos ⟨h19, Int32.not_le.mp h27⟩, eidx, zx_nI (by omega)]; done) | (rw [ktoA, if_pos (Int32.not_lt.mp h3), if_neg (fun q => absurd (h19.symm.trans q.1) (by decide))]; done) | (rw [ktoA, if_pos (Int32.not_lt.mp h3), if_neg (fun q => absurd q.2 (Int32.not_lt.mpr h27))]; done) | (rw [ktoA, if_neg (Int32.not_le.mpr h3), if_pos (Int32.not_lt.mp h53), if_pos (Int32.not_le.mp h64), esub, zx_nI (by omega)]; done) | (rw [ktoA, if_neg (Int32.not_le.mpr h3), if_pos (Int32.not_lt.mp h53), if_neg (Int32.not_lt.mpr h64)]; done) | (rw [ktoA, if_neg (Int32.not_le.mpr h3), if_neg (Int32.not_le.mpr h53), if_pos (Int32.not_lt.mp h103), if_pos (Int32.not_le.mp h109), esub, zx_nI (by omega)]; done) | (rw [ktoA, if_neg (Int32.not_le.mpr h3), if_neg (Int32.not_le.mpr h53), if_pos (Int32.not_lt.mp h103), if_neg (Int32.not_lt.mpr h109)]; done) | (rw [ktoA, if_neg (Int32.not_le.mpr h3), if_neg (Int32.not_le.mpr h53), if_neg (Int32.not_le.mpr h103), if_pos (Int32.not_lt.mp h130), esub, zx_nI (by omega)]; done) | (rw [ktoA, if_neg (by decide), if_neg (by decide), if_neg (by decide), if_neg (by decide)]; rfl) | (rw [ktoA, if_neg (Int32.not_le.mpr h3), if_neg (Int32.not_le.mpr h53), if_neg (Int32.not_le.mpr h103), if_neg (Int32.not_le.mpr h130), if_neg hw0, if_neg hw1, if_neg hw2, if_neg hw3, if_pos h193]; done) | (rw [ktoA, if_neg (Int32.not_le.mpr h3), if_neg (Int32.not_le.mpr h53), if_neg (Int32.not_le.mpr h103), if_neg (Int32.not_le.mpr h130), if_neg hw0, if_neg hw1, if_neg hw2, if_neg hw3, if_neg h193])
            · intro _ _; rfl
            · rfl
            · rfl
        · skip
          obtain ⟨k, hk, ek⟩ := nI_of (x := w) (Int32.not_lt.mpr (Int32.le_trans (by decide) (Int32.not_lt.mp h130)))
          have k1 : 10 ≤ k := by have z := h130; rw [ek, show (10 : Int32) = nI 10 from rfl, nI_ltI hk (by decide)] at z; omega
          have esub : w - 10 = nI (k - 10) := by rw [ek]; exact pk_sub k1
          have k2 : k < 20 := by have z := h103; rw [ek, show (20 : Int32) = nI 20 from rfl, nI_ltI hk (by decide)] at z; omega
          refine x_aload_n dX9_told_133 rfl ?_
          refine x_getR dX9_told_134 fl_X9_28 (by omega) rfl rfl rfl ?_
          refine x_iload_n dX9_told_137 rfl ?_
          refine x_bipush (v := 10) dX9_told_138 (by decide) ?_
          refine x_isub dX9_told_140 ?_
          refine x_pc (pc2 := 141) rfl ?_
          refine x_ialdN dX9_told_141 (by omega) rfl esub (by omega) ?_
          refine x_iret dX9_told_142 rfl (Nat.le_of_ble_eq_true rfl) (Nat.le_of_ble_eq_true rfl) ?_
          refine zV_of (congrArg Value.int ?_) ?_ ?_ ?_
          · first | (rw [ktoA, if_pos (Int32.not_lt.mp h3), if_pos ⟨h19, Int32.not_le.mp h27⟩, eidx, zx_nI (by omega)]; done) | (rw [ktoA, if_pos (Int32.not_lt.mp h3), if_neg (fun q => absurd (h19.symm.trans q.1) (by decide))]; done) | (rw [ktoA, if_pos (Int32.not_lt.mp h3), if_neg (fun q => absurd q.2 (Int32.not_lt.mpr h27))]; done) | (rw [ktoA, if_neg (Int32.not_le.mpr h3), if_pos (Int32.not_lt.mp h53), if_pos (Int32.not_le.mp h64), esub, zx_nI (by omega)]; done) | (rw [ktoA, if_neg (Int32.not_le.mpr h3), if_pos (Int32.not_lt.mp h53), if_neg (Int32.not_lt.mpr h64)]; done) | (rw [ktoA, if_neg (Int32.not_le.mpr h3), if_neg (Int32.not_le.mpr h53), if_pos (Int32.not_lt.mp h103), if_pos (Int32.not_le.mp h109), esub, zx_nI (by omega)]; done) | (rw [ktoA, if_neg (Int32.not_le.mpr h3), if_neg (Int32.not_le.mpr h53), if_pos (Int32.not_lt.mp h103), if_neg (Int32.not_lt.mpr h109)]; done) | (rw [ktoA, if_neg (Int32.not_le.mpr h3), if_neg (Int32.not_le.mpr h53), if_neg (Int32.not_le.mpr h103), if_pos (Int32.not_lt.mp h130), esub, zx_nI (by omega)]; done) | (rw [ktoA, if_neg (by decide), if_neg (by decide), if_neg (by decide), if_neg (by decide)]; rfl) | (rw [ktoA, if_neg (Int32.not_le.mpr h3), if_neg (Int32.not_le.mpr h53), if_neg (Int32.not_le.mpr h103), if_neg (Int32.not_le.mpr h130), if_neg hw0, if_neg hw1, if_neg hw2, if_neg hw3, if_pos h193]; done) | (rw [ktoA, if_neg (Int32.not_le.mpr h3), if_neg (Int32.not_le.mpr h53), if_neg (Int32.not_le.mpr h103), if_neg (Int32.not_le.mpr h130), if_neg hw0, if_neg hw1, if_neg hw2, if_neg hw3, if_neg h193])
          · intro _ _; rfl
          · rfl
          · rfl
      · skip
        obtain ⟨k, hk, ek⟩ := nI_of (x := w) (Int32.not_lt.mpr (Int32.le_trans (by decide) (Int32.not_lt.mp h103)))
        have k1 : 20 ≤ k := by have z := h103; rw [ek, show (20 : Int32) = nI 20 from rfl, nI_ltI hk (by decide)] at z; omega
        have esub : w - 20 = nI (k - 20) := by rw [ek]; exact pk_sub k1
        refine x_iload_n dX9_told_106 rfl ?_
        refine x_bipush (v := 28) dX9_told_107 (by decide) ?_
        refine x_icmp_ge (tgt := 124) dX9_told_109 (by decide) (fun h109 => ?_) (fun h109 => ?_)
        · skip
          refine x_bipush (v := (-2)) dX9_told_124 (by decide) ?_
          refine x_iret dX9_told_126 rfl (Nat.le_of_ble_eq_true rfl) (Nat.le_of_ble_eq_true rfl) ?_
          refine zV_of (congrArg Value.int ?_) ?_ ?_ ?_
          · first | (rw [ktoA, if_pos (Int32.not_lt.mp h3), if_pos ⟨h19, Int32.not_le.mp h27⟩, eidx, zx_nI (by omega)]; done) | (rw [ktoA, if_pos (Int32.not_lt.mp h3), if_neg (fun q => absurd (h19.symm.trans q.1) (by decide))]; done) | (rw [ktoA, if_pos (Int32.not_lt.mp h3), if_neg (fun q => absurd q.2 (Int32.not_lt.mpr h27))]; done) | (rw [ktoA, if_neg (Int32.not_le.mpr h3), if_pos (Int32.not_lt.mp h53), if_pos (Int32.not_le.mp h64), esub, zx_nI (by omega)]; done) | (rw [ktoA, if_neg (Int32.not_le.mpr h3), if_pos (Int32.not_lt.mp h53), if_neg (Int32.not_lt.mpr h64)]; done) | (rw [ktoA, if_neg (Int32.not_le.mpr h3), if_neg (Int32.not_le.mpr h53), if_pos (Int32.not_lt.mp h103), if_pos (Int32.not_le.mp h109), esub, zx_nI (by omega)]; done) | (rw [ktoA, if_neg (Int32.not_le.mpr h3), if_neg (Int32.not_le.mpr h53), if_pos (Int32.not_lt.mp h103), if_neg (Int32.not_lt.mpr h109)]; done) | (rw [ktoA, if_neg (Int32.not_le.mpr h3), if_neg (Int32.not_le.mpr h53), if_neg (Int32.not_le.mpr h103), if_pos (Int32.not_lt.mp h130), esub, zx_nI (by omega)]; done) | (rw [ktoA, if_neg (by decide), if_neg (by decide), if_neg (by decide), if_neg (by decide)]; rfl) | (rw [ktoA, if_neg (Int32.not_le.mpr h3), if_neg (Int32.not_le.mpr h53), if_neg (Int32.not_le.mpr h103), if_neg (Int32.not_le.mpr h130), if_neg hw0, if_neg hw1, if_neg hw2, if_neg hw3, if_pos h193]; done) | (rw [ktoA, if_neg (Int32.not_le.mpr h3), if_neg (Int32.not_le.mpr h53), if_neg (Int32.not_le.mpr h103), if_neg (Int32.not_le.mpr h130), if_neg hw0, if_neg hw1, if_neg hw2, if_neg hw3, if_neg h193])
          · intro _ _; rfl
          · rfl
          · rfl
        · skip
          have k2 : k < 28 := by have z := h109; rw [ek, show (28 : Int32) = nI 28 from rfl, nI_leI (by decide) hk] at z; omega
          refine x_aload_n dX9_told_112 rfl ?_
          refine x_getR dX9_told_113 fl_X9_25 (by omega) rfl rfl rfl ?_
          refine x_iload_n dX9_told_116 rfl ?_
          refine x_bipush (v := 20) dX9_told_117 (by decide) ?_
          refine x_isub dX9_told_119 ?_
          refine x_pc (pc2 := 120) rfl ?_
          refine x_ialdN dX9_told_120 (by omega) rfl esub (by omega) ?_
          refine x_goto (tgt := 126) dX9_told_121 (by decide) ?_
          refine x_iret dX9_told_126 rfl (Nat.le_of_ble_eq_true rfl) (Nat.le_of_ble_eq_true rfl) ?_
          refine zV_of (congrArg Value.int ?_) ?_ ?_ ?_
          · first | (rw [ktoA, if_pos (Int32.not_lt.mp h3), if_pos ⟨h19, Int32.not_le.mp h27⟩, eidx, zx_nI (by omega)]; done) | (rw [ktoA, if_pos (Int32.not_lt.mp h3), if_neg (fun q => absurd (h19.symm.trans q.1) (by decide))]; done) | (rw [ktoA, if_pos (Int32.not_lt.mp h3), if_neg (fun q => absurd q.2 (Int32.not_lt.mpr h27))]; done) | (rw [ktoA, if_neg (Int32.not_le.mpr h3), if_pos (Int32.not_lt.mp h53), if_pos (Int32.not_le.mp h64), esub, zx_nI (by omega)]; done) | (rw [ktoA, if_neg (Int32.not_le.mpr h3), if_pos (Int32.not_lt.mp h53), if_neg (Int32.not_lt.mpr h64)]; done) | (rw [ktoA, if_neg (Int32.not_le.mpr h3), if_neg (Int32.not_le.mpr h53), if_pos (Int32.not_lt.mp h103), if_pos (Int32.not_le.mp h109), esub, zx_nI (by omega)]; done) | (rw [ktoA, if_neg (Int32.not_le.mpr h3), if_neg (Int32.not_le.mpr h53), if_pos (Int32.not_lt.mp h103), if_neg (Int32.not_lt.mpr h109)]; done) | (rw [ktoA, if_neg (Int32.not_le.mpr h3), if_neg (Int32.not_le.mpr h53), if_neg (Int32.not_le.mpr h103), if_pos (Int32.not_lt.mp h130), esub, zx_nI (by omega)]; done) | (rw [ktoA, if_neg (by decide), if_neg (by decide), if_neg (by decide), if_neg (by decide)]; rfl) | (rw [ktoA, if_neg (Int32.not_le.mpr h3), if_neg (Int32.not_le.mpr h53), if_neg (Int32.not_le.mpr h103), if_neg (Int32.not_le.mpr h130), if_neg hw0, if_neg hw1, if_neg hw2, if_neg hw3, if_pos h193]; done) | (rw [ktoA, if_neg (Int32.not_le.mpr h3), if_neg (Int32.not_le.mpr h53), if_neg (Int32.not_le.mpr h103), if_neg (Int32.not_le.mpr h130), if_neg hw0, if_neg hw1, if_neg hw2, if_neg hw3, if_neg h193])
          · intro _ _; rfl
          · rfl
          · rfl
    · skip
      obtain ⟨k, hk, ek⟩ := nI_of (x := w) (Int32.not_lt.mpr (Int32.le_trans (by decide) (Int32.not_lt.mp h53)))
      have k1 : 30 ≤ k := by have z := h53; rw [ek, show (30 : Int32) = nI 30 from rfl, nI_ltI hk (by decide)] at z; omega
      have esub : w - 30 = nI (k - 30) := by rw [ek]; exact pk_sub k1
      refine x_iload_n dX9_told_56 rfl ?_
      refine x_bipush (v := 30) dX9_told_57 (by decide) ?_
      refine x_isub dX9_told_59 ?_
      refine x_istore_n (lo2 := [_, _, _]) dX9_told_60 (by decide) rfl rfl ?_
      refine x_iload_n dX9_told_61 rfl ?_
      refine x_pc (pc2 := 62) rfl ?_
      refine x_bipush (v := 6) dX9_told_62 (by decide) ?_
      refine x_icmp_ge (tgt := 97) dX9_told_64 (by decide) (fun h64 => ?_) (fun h64 => ?_)
      · skip
        refine x_bipush (v := (-2)) dX9_told_97 (by decide) ?_
        refine x_iret dX9_told_99 rfl (Nat.le_of_ble_eq_true rfl) (Nat.le_of_ble_eq_true rfl) ?_
        refine zV_of (congrArg Value.int ?_) ?_ ?_ ?_
        · first | (rw [ktoA, if_pos (Int32.not_lt.mp h3), if_pos ⟨h19, Int32.not_le.mp h27⟩, eidx, zx_nI (by omega)]; done) | (rw [ktoA, if_pos (Int32.not_lt.mp h3), if_neg (fun q => absurd (h19.symm.trans q.1) (by decide))]; done) | (rw [ktoA, if_pos (Int32.not_lt.mp h3), if_neg (fun q => absurd q.2 (Int32.not_lt.mpr h27))]; done) | (rw [ktoA, if_neg (Int32.not_le.mpr h3), if_pos (Int32.not_lt.mp h53), if_pos (Int32.not_le.mp h64), esub, zx_nI (by omega)]; done) | (rw [ktoA, if_neg (Int32.not_le.mpr h3), if_pos (Int32.not_lt.mp h53), if_neg (Int32.not_lt.mpr h64)]; done) | (rw [ktoA, if_neg (Int32.not_le.mpr h3), if_neg (Int32.not_le.mpr h53), if_pos (Int32.not_lt.mp h103), if_pos (Int32.not_le.mp h109), esub, zx_nI (by omega)]; done) | (rw [ktoA, if_neg (Int32.not_le.mpr h3), if_neg (Int32.not_le.mpr h53), if_pos (Int32.not_lt.mp h103), if_neg (Int32.not_lt.mpr h109)]; done) | (rw [ktoA, if_neg (Int32.not_le.mpr h3), if_neg (Int32.not_le.mpr h53), if_neg (Int32.not_le.mpr h103), if_pos (Int32.not_lt.mp h130), esub, zx_nI (by omega)]; done) | (rw [ktoA, if_neg (by decide), if_neg (by decide), if_neg (by decide), if_neg (by decide)]; rfl) | (rw [ktoA, if_neg (Int32.not_le.mpr h3), if_neg (Int32.not_le.mpr h53), if_neg (Int32.not_le.mpr h103), if_neg (Int32.not_le.mpr h130), if_neg hw0, if_neg hw1, if_neg hw2, if_neg hw3, if_pos h193]; done) | (rw [ktoA, if_neg (Int32.not_le.mpr h3), if_neg (Int32.not_le.mpr h53), if_neg (Int32.not_le.mpr h103), if_neg (Int32.not_le.mpr h130), if_neg hw0, if_neg hw1, if_neg hw2, if_neg hw3, if_neg h193])
        · intro _ _; rfl
        · rfl
        · rfl
      · skip
        have k2 : k - 30 < 6 := by have z := h64; rw [esub, show (6 : Int32) = nI 6 from rfl, nI_leI (by decide) (by omega)] at z; omega
        refine x_sipush (v := 1000) dX9_told_67 (by decide) ?_
        refine x_aload_n dX9_told_70 rfl ?_
        refine x_getR dX9_told_71 fl_X9_16 (by omega) rfl rfl rfl ?_
        refine x_iload_n dX9_told_74 rfl ?_
        refine x_ialdN dX9_told_75 (by omega) rfl esub (by omega) ?_
        refine x_pc (pc2 := 76) rfl ?_
        refine x_imul dX9_told_76 ?_
        refine x_bipush (v := 10) dX9_told_77 (by decide) ?_
        refine x_aload_n dX9_told_79 rfl ?_
        refine x_getR dX9_told_80 fl_X9_19 (by omega) rfl rfl rfl ?_
        refine x_iload_n dX9_told_83 rfl ?_
        refine x_ialdN dX9_told_84 (by omega) rfl esub (by omega) ?_
        refine x_pc (pc2 := 85) rfl ?_
        refine x_imul dX9_told_85 ?_
        refine x_iadd dX9_told_86 ?_
        refine x_aload_n dX9_told_87 rfl ?_
        refine x_getR dX9_told_88 fl_X9_22 (by omega) rfl rfl rfl ?_
        refine x_iload_n dX9_told_91 rfl ?_
        refine x_ialdN dX9_told_92 (by omega) rfl esub (by omega) ?_
        refine x_pc (pc2 := 93) rfl ?_
        refine x_iadd dX9_told_93 ?_
        refine x_goto (tgt := 99) dX9_told_94 (by decide) ?_
        refine x_iret dX9_told_99 rfl (Nat.le_of_ble_eq_true rfl) (Nat.le_of_ble_eq_true rfl) ?_
        refine zV_of (congrArg Value.int ?_) ?_ ?_ ?_
        · first | (rw [ktoA, if_pos (Int32.not_lt.mp h3), if_pos ⟨h19, Int32.not_le.mp h27⟩, eidx, zx_nI (by omega)]; done) | (rw [ktoA, if_pos (Int32.not_lt.mp h3), if_neg (fun q => absurd (h19.symm.trans q.1) (by decide))]; done) | (rw [ktoA, if_pos (Int32.not_lt.mp h3), if_neg (fun q => absurd q.2 (Int32.not_lt.mpr h27))]; done) | (rw [ktoA, if_neg (Int32.not_le.mpr h3), if_pos (Int32.not_lt.mp h53), if_pos (Int32.not_le.mp h64), esub, zx_nI (by omega)]; done) | (rw [ktoA, if_neg (Int32.not_le.mpr h3), if_pos (Int32.not_lt.mp h53), if_neg (Int32.not_lt.mpr h64)]; done) | (rw [ktoA, if_neg (Int32.not_le.mpr h3), if_neg (Int32.not_le.mpr h53), if_pos (Int32.not_lt.mp h103), if_pos (Int32.not_le.mp h109), esub, zx_nI (by omega)]; done) | (rw [ktoA, if_neg (Int32.not_le.mpr h3), if_neg (Int32.not_le.mpr h53), if_pos (Int32.not_lt.mp h103), if_neg (Int32.not_lt.mpr h109)]; done) | (rw [ktoA, if_neg (Int32.not_le.mpr h3), if_neg (Int32.not_le.mpr h53), if_neg (Int32.not_le.mpr h103), if_pos (Int32.not_lt.mp h130), esub, zx_nI (by omega)]; done) | (rw [ktoA, if_neg (by decide), if_neg (by decide), if_neg (by decide), if_neg (by decide)]; rfl) | (rw [ktoA, if_neg (Int32.not_le.mpr h3), if_neg (Int32.not_le.mpr h53), if_neg (Int32.not_le.mpr h103), if_neg (Int32.not_le.mpr h130), if_neg hw0, if_neg hw1, if_neg hw2, if_neg hw3, if_pos h193]; done) | (rw [ktoA, if_neg (Int32.not_le.mpr h3), if_neg (Int32.not_le.mpr h53), if_neg (Int32.not_le.mpr h103), if_neg (Int32.not_le.mpr h130), if_neg hw0, if_neg hw1, if_neg hw2, if_neg hw3, if_neg h193])
        · intro _ _; rfl
        · rfl
        · rfl
  · skip
    obtain ⟨k, hk, ek⟩ := nI_of (x := w) (Int32.not_lt.mpr (Int32.le_trans (by decide) (Int32.not_lt.mp h3)))
    have k1 : 100 ≤ k := by have z := h3; rw [ek, show (100 : Int32) = nI 100 from rfl, nI_ltI hk (by decide)] at z; omega
    refine x_iload_n dX9_told_6 rfl ?_
    refine x_bipush (v := 10) dX9_told_7 (by decide) ?_
    refine x_idiv dX9_told_9 (by decide) ?_
    refine x_bipush (v := 10) dX9_told_10 (by decide) ?_
    refine x_isub dX9_told_12 ?_
    refine x_pc (pc2 := 13) rfl ?_
    refine x_istore_n (lo2 := [_, _, _]) dX9_told_13 (by decide) rfl rfl ?_
    refine x_aload_n dX9_told_14 rfl ?_
    refine x_iload_n dX9_told_15 rfl ?_
    refine x_callVi dX9_told_16 ml_X9_131 mt_X9_isThere mv_X9_isThere (ct_X9_isThere hN) (by omega) rfl rfl rfl rfl (Nat.le_of_ble_eq_true rfl) ⟨(Nat.le_of_ble_eq_true rfl), (Nat.le_of_ble_eq_true rfl)⟩ ⟨rfl, rfl⟩ ⟨(Nat.le_of_ble_eq_true rfl), (Nat.le_of_ble_eq_true rfl)⟩ ?_
    refine x_if_eq (tgt := 47) dX9_told_19 (by decide) (fun h19 => ?_) (fun h19 => ?_)
    · skip
      replace h19 := zb0 h19
      refine x_bipush (v := (-2)) dX9_told_47 (by decide) ?_
      refine x_iret dX9_told_49 rfl (Nat.le_of_ble_eq_true rfl) (Nat.le_of_ble_eq_true rfl) ?_
      refine zV_of (congrArg Value.int ?_) ?_ ?_ ?_
      · first | (rw [ktoA, if_pos (Int32.not_lt.mp h3), if_pos ⟨h19, Int32.not_le.mp h27⟩, eidx, zx_nI (by omega)]; done) | (rw [ktoA, if_pos (Int32.not_lt.mp h3), if_neg (fun q => absurd (h19.symm.trans q.1) (by decide))]; done) | (rw [ktoA, if_pos (Int32.not_lt.mp h3), if_neg (fun q => absurd q.2 (Int32.not_lt.mpr h27))]; done) | (rw [ktoA, if_neg (Int32.not_le.mpr h3), if_pos (Int32.not_lt.mp h53), if_pos (Int32.not_le.mp h64), esub, zx_nI (by omega)]; done) | (rw [ktoA, if_neg (Int32.not_le.mpr h3), if_pos (Int32.not_lt.mp h53), if_neg (Int32.not_lt.mpr h64)]; done) | (rw [ktoA, if_neg (Int32.not_le.mpr h3), if_neg (Int32.not_le.mpr h53), if_pos (Int32.not_lt.mp h103), if_pos (Int32.not_le.mp h109), esub, zx_nI (by omega)]; done) | (rw [ktoA, if_neg (Int32.not_le.mpr h3), if_neg (Int32.not_le.mpr h53), if_pos (Int32.not_lt.mp h103), if_neg (Int32.not_lt.mpr h109)]; done) | (rw [ktoA, if_neg (Int32.not_le.mpr h3), if_neg (Int32.not_le.mpr h53), if_neg (Int32.not_le.mpr h103), if_pos (Int32.not_lt.mp h130), esub, zx_nI (by omega)]; done) | (rw [ktoA, if_neg (by decide), if_neg (by decide), if_neg (by decide), if_neg (by decide)]; rfl) | (rw [ktoA, if_neg (Int32.not_le.mpr h3), if_neg (Int32.not_le.mpr h53), if_neg (Int32.not_le.mpr h103), if_neg (Int32.not_le.mpr h130), if_neg hw0, if_neg hw1, if_neg hw2, if_neg hw3, if_pos h193]; done) | (rw [ktoA, if_neg (Int32.not_le.mpr h3), if_neg (Int32.not_le.mpr h53), if_neg (Int32.not_le.mpr h103), if_neg (Int32.not_le.mpr h130), if_neg hw0, if_neg hw1, if_neg hw2, if_neg hw3, if_neg h193])
      · intro _ _; rfl
      · rfl
      · rfl
    · skip
      replace h19 := zb1 h19
      obtain ⟨i, hi, ei⟩ := thr_ex h19
      have erem : w - w / 10 * 10 = nI (k % 10) := by rw [ek]; exact zrem_nI (d := 10) (e := 10) rfl hk (by decide) (by decide)
      have eidx : 6 * (w - w / 10 * 10) + (w / 10 - 10) = nI (6 * (k % 10) + i) := by rw [erem, ei, show (6 : Int32) = nI 6 from rfl, pk_mul, nI_add]
      refine x_iload_n dX9_told_22 rfl ?_
      refine x_bipush (v := 10) dX9_told_23 (by decide) ?_
      refine x_irem dX9_told_25 (by decide) ?_
      refine x_iconst (v := 2) dX9_told_26 (by decide) ?_
      refine x_icmp_ge (tgt := 47) dX9_told_27 (by decide) (fun h27 => ?_) (fun h27 => ?_)
      · skip
        refine x_bipush (v := (-2)) dX9_told_47 (by decide) ?_
        refine x_iret dX9_told_49 rfl (Nat.le_of_ble_eq_true rfl) (Nat.le_of_ble_eq_true rfl) ?_
        refine zV_of (congrArg Value.int ?_) ?_ ?_ ?_
        · first | (rw [ktoA, if_pos (Int32.not_lt.mp h3), if_pos ⟨h19, Int32.not_le.mp h27⟩, eidx, zx_nI (by omega)]; done) | (rw [ktoA, if_pos (Int32.not_lt.mp h3), if_neg (fun q => absurd (h19.symm.trans q.1) (by decide))]; done) | (rw [ktoA, if_pos (Int32.not_lt.mp h3), if_neg (fun q => absurd q.2 (Int32.not_lt.mpr h27))]; done) | (rw [ktoA, if_neg (Int32.not_le.mpr h3), if_pos (Int32.not_lt.mp h53), if_pos (Int32.not_le.mp h64), esub, zx_nI (by omega)]; done) | (rw [ktoA, if_neg (Int32.not_le.mpr h3), if_pos (Int32.not_lt.mp h53), if_neg (Int32.not_lt.mpr h64)]; done) | (rw [ktoA, if_neg (Int32.not_le.mpr h3), if_neg (Int32.not_le.mpr h53), if_pos (Int32.not_lt.mp h103), if_pos (Int32.not_le.mp h109), esub, zx_nI (by omega)]; done) | (rw [ktoA, if_neg (Int32.not_le.mpr h3), if_neg (Int32.not_le.mpr h53), if_pos (Int32.not_lt.mp h103), if_neg (Int32.not_lt.mpr h109)]; done) | (rw [ktoA, if_neg (Int32.not_le.mpr h3), if_neg (Int32.not_le.mpr h53), if_neg (Int32.not_le.mpr h103), if_pos (Int32.not_lt.mp h130), esub, zx_nI (by omega)]; done) | (rw [ktoA, if_neg (by decide), if_neg (by decide), if_neg (by decide), if_neg (by decide)]; rfl) | (rw [ktoA, if_neg (Int32.not_le.mpr h3), if_neg (Int32.not_le.mpr h53), if_neg (Int32.not_le.mpr h103), if_neg (Int32.not_le.mpr h130), if_neg hw0, if_neg hw1, if_neg hw2, if_neg hw3, if_pos h193]; done) | (rw [ktoA, if_neg (Int32.not_le.mpr h3), if_neg (Int32.not_le.mpr h53), if_neg (Int32.not_le.mpr h103), if_neg (Int32.not_le.mpr h130), if_neg hw0, if_neg hw1, if_neg hw2, if_neg hw3, if_neg h193])
        · intro _ _; rfl
        · rfl
        · rfl
      · skip
        have k2 : k % 10 < 2 := by have z := h27; rw [erem, show (2 : Int32) = nI 2 from rfl, nI_leI (by decide) (by omega)] at z; omega
        refine x_aload_n dX9_told_30 rfl ?_
        refine x_getR dX9_told_31 fl_X9_7 (by omega) rfl rfl rfl ?_
        refine x_bipush (v := 6) dX9_told_34 (by decide) ?_
        refine x_iload_n dX9_told_36 rfl ?_
        refine x_bipush (v := 10) dX9_told_37 (by decide) ?_
        refine x_pc (pc2 := 39) rfl ?_
        refine x_irem dX9_told_39 (by decide) ?_
        refine x_imul dX9_told_40 ?_
        refine x_iload_n dX9_told_41 rfl ?_
        refine x_iadd dX9_told_42 ?_
        refine x_ialdN dX9_told_43 (by omega) rfl eidx (by omega) ?_
        refine x_goto (tgt := 49) dX9_told_44 (by decide) ?_
        refine x_iret dX9_told_49 rfl (Nat.le_of_ble_eq_true rfl) (Nat.le_of_ble_eq_true rfl) ?_
        refine zV_of (congrArg Value.int ?_) ?_ ?_ ?_
        · first | (rw [ktoA, if_pos (Int32.not_lt.mp h3), if_pos ⟨h19, Int32.not_le.mp h27⟩, eidx, zx_nI (by omega)]; done) | (rw [ktoA, if_pos (Int32.not_lt.mp h3), if_neg (fun q => absurd (h19.symm.trans q.1) (by decide))]; done) | (rw [ktoA, if_pos (Int32.not_lt.mp h3), if_neg (fun q => absurd q.2 (Int32.not_lt.mpr h27))]; done) | (rw [ktoA, if_neg (Int32.not_le.mpr h3), if_pos (Int32.not_lt.mp h53), if_pos (Int32.not_le.mp h64), esub, zx_nI (by omega)]; done) | (rw [ktoA, if_neg (Int32.not_le.mpr h3), if_pos (Int32.not_lt.mp h53), if_neg (Int32.not_lt.mpr h64)]; done) | (rw [ktoA, if_neg (Int32.not_le.mpr h3), if_neg (Int32.not_le.mpr h53), if_pos (Int32.not_lt.mp h103), if_pos (Int32.not_le.mp h109), esub, zx_nI (by omega)]; done) | (rw [ktoA, if_neg (Int32.not_le.mpr h3), if_neg (Int32.not_le.mpr h53), if_pos (Int32.not_lt.mp h103), if_neg (Int32.not_lt.mpr h109)]; done) | (rw [ktoA, if_neg (Int32.not_le.mpr h3), if_neg (Int32.not_le.mpr h53), if_neg (Int32.not_le.mpr h103), if_pos (Int32.not_lt.mp h130), esub, zx_nI (by omega)]; done) | (rw [ktoA, if_neg (by decide), if_neg (by decide), if_neg (by decide), if_neg (by decide)]; rfl) | (rw [ktoA, if_neg (Int32.not_le.mpr h3), if_neg (Int32.not_le.mpr h53), if_neg (Int32.not_le.mpr h103), if_neg (Int32.not_le.mpr h130), if_neg hw0, if_neg hw1, if_neg hw2, if_neg hw3, if_pos h193]; done) | (rw [ktoA, if_neg (Int32.not_le.mpr h3), if_neg (Int32.not_le.mpr h53), if_neg (Int32.not_le.mpr h103), if_neg (Int32.not_le.mpr h130), if_neg hw0, if_neg hw1, if_neg hw2, if_neg hw3, if_neg h193])
        · intro _ _; rfl
        · rfl
        · rfl
