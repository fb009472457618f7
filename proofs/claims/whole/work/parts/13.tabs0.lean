theorem s_l_ : ∀ n, n < 32 → ((nI n &&& 31).toBitVec.smod 32).toNat = n := by decide +kernel
theorem fa_or_ (a b : Nat) : nI a ||| nI b = nI (a ||| b) := by
  apply Int32.toBitVec_inj.1
  show BitVec.ofNat 32 a ||| BitVec.ofNat 32 b = BitVec.ofNat 32 (a ||| b)
  apply BitVec.eq_of_getLsbD_eq
  intro i hi
  simp [hi]
/-! LEAST, ORDER, SHAPES, the mud: what the class's tables hold -/
theorem zsub_max {a b : Nat} (ha : a < 2 ^ 30) (hb : b < 2 ^ 30) : (if nI a - nI b < 0 then 0 else nI a - nI b) = nI (a - b) := by
  rcases Nat.lt_or_ge a b with q | q
  · rw [if_pos (pk_sneg hb q), show a - b = 0 by omega]; rfl
  · rw [pk_sub q, if_neg (nI_pos (by omega))]
theorem zmin_nI {a b : Nat} (ha : a < 2 ^ 31) (hb : b < 2 ^ 31) : (if nI b < nI a then nI b else nI a) = nI (min a b) := by
  by_cases q : b < a
  · rw [if_pos ((nI_ltI hb ha).mpr q), Nat.min_eq_right (by omega)]
  · rw [if_neg (mt (nI_ltI hb ha).mp q), Nat.min_eq_left (by omega)]
theorem zmax_nI {a b : Nat} (ha : a < 2 ^ 31) (hb : b < 2 ^ 31) : (if nI a < nI b then nI b else nI a) = nI (max a b) := by
  by_cases q : a < b
  · rw [if_pos ((nI_ltI ha hb).mpr q), Nat.max_eq_right (by omega)]
  · rw [if_neg (mt (nI_ltI ha hb).mp q), Nat.max_eq_left (by omega)]
/-- the cheapest way to the FORCE need, by the row of what less costs -/
def ch_ (fit : Nat → Bool) (fo tk row : Nat → Nat) (need : Nat) : Nat → Nat
  | 0 => 1000000000
  | h + 1 => if fit h = true then min (ch_ fit fo tk row need h) (row (need - fo h) + 1000 * tk h + 1) else ch_ fit fo tk row need h
theorem ch_le (fit : Nat → Bool) (fo tk row : Nat → Nat) (need : Nat) : ∀ h, ch_ fit fo tk row need h ≤ 1000000000
  | 0 => Nat.le_refl _
  | h + 1 => by
    have := ch_le fit fo tk row need h
    simp only [ch_]
    split
    · omega
    · exact this
def pt_ (fit : Nat → Bool) (fo tk : Nat → Nat) : Nat → Nat → Nat
  | 0 => fun _ => 0
  | v + 1 => fun k => if k = v + 1 then ch_ fit fo tk (pt_ fit fo tk v) (v + 1) 6 else pt_ fit fo tk v k
theorem pt_le (fit : Nat → Bool) (fo tk : Nat → Nat) : ∀ v k, pt_ fit fo tk v k ≤ 1000000000
  | 0, k => by simp [pt_]
  | v + 1, k => by
    simp only [pt_]
    split
    · exact ch_le _ _ _ _ _ _
    · exact pt_le fit fo tk v k
/-- the row as far as it is made -/
def prw (fit : Nat → Bool) (fo tk : Nat → Nat) (base : Nat → Int32) (i : Nat) : Nat → Int32 := fun k => if k < i then nI (pt_ fit fo tk (i - 1) k) else base k
theorem prw_1 {fit : Nat → Bool} {fo tk : Nat → Nat} {base : Nat → Int32} : upd base 0 0 = prw fit fo tk base 1 := by
  funext k
  by_cases e : k = 0
  · subst e; simp [upd, prw, pt_, nI_0]
  · simp [upd, prw, e]
theorem prw_s {fit : Nat → Bool} {fo tk : Nat → Nat} {base : Nat → Int32} {i : Nat} (hi : 1 ≤ i) : upd (prw fit fo tk base i) i (nI (ch_ fit fo tk (pt_ fit fo tk (i - 1)) i 6)) = prw fit fo tk base (i + 1) := by
  obtain ⟨j, rfl⟩ : ∃ j, i = j + 1 := ⟨i - 1, by omega⟩
  funext k
  by_cases e : k = j + 1
  · subst e; simp [upd, prw, pt_]
  · by_cases q : k < j + 1
    · simp [upd, prw, e, q, pt_, show k < j + 1 + 1 by omega]
    · simp [upd, prw, e, q, show ¬ k < j + 1 + 1 by omega]
/-- post of a call that scribbles on one row alone -/
def zD1 (r : Option Value) (N : Nat) (I : zI) (c : Nat) (L : zL) (R : zR) : zPost := fun r' N' I' L' R' => r' = r ∧ N' = N ∧ (∃ f, I' = zrow I c f) ∧ L' = L ∧ R' = R
/-- ORDER -/
def S_ (st : Nat → Nat) (set : Nat) : Nat → Nat
  | 0 => 0
  | i + 1 => if set.testBit i = true then S_ st set i + st i else S_ st set i
def ts_ (tkn : Nat → Bool) : Nat → Nat
  | 0 => 0
  | i + 1 => if tkn i = true then ts_ tkn i ||| 2 ^ i else ts_ tkn i
def bf_ (st hr B : Nat → Nat) (set h : Nat) : Nat := S_ st set 6 * hr h + B (set - 2 ^ h)
def lo_ (st hr B : Nat → Nat) (set : Nat) : Nat → Nat
  | 0 => 1000000000
  | h + 1 => if set.testBit h = true then min (lo_ st hr B set h) (bf_ st hr B set h) else lo_ st hr B set h
theorem lo_le (st hr B : Nat → Nat) (set : Nat) : ∀ h, lo_ st hr B set h ≤ 1000000000
  | 0 => Nat.le_refl _
  | h + 1 => by
    have := lo_le st hr B set h
    simp only [lo_]
    split
    · omega
    · exact this
/-- what the sets below i cost -/
def BT_ (st hr : Nat → Nat) : Nat → Nat → Nat
  | 0 => fun _ => 0
  | i + 1 => fun k => if k = i then (if i = 0 then 0 else lo_ st hr (BT_ st hr i) i 6) else BT_ st hr i k
theorem BT_le (st hr : Nat → Nat) : ∀ i k, BT_ st hr i k ≤ 1000000000
  | 0, k => by simp [BT_]
  | i + 1, k => by
    simp only [BT_]
    split
    · split
      · omega
      · exact lo_le _ _ _ _ _
    · exact BT_le st hr i k
def ft_ (st hr B : Nat → Nat) (t v : Nat) : Nat → Option Nat
  | 0 => none
  | h + 1 => match ft_ st hr B t v h with
    | some x => some x
    | none => if t.testBit h = true ∧ bf_ st hr B t h = v then some h else none
theorem ft_some {st hr B : Nat → Nat} {t v i n x : Nat} (h : ft_ st hr B t v i = some x) (hn : i ≤ n) : ft_ st hr B t v n = some x := by
  induction n with
  | zero => rw [show i = 0 by omega] at h; exact h
  | succ n ih =>
    by_cases e : i = n + 1
    · rw [← e]; exact h
    · simp [ft_, ih (by omega)]
/-- sets as numbers -/
theorem zsh1 : ∀ i, i < 31 → (1 : Int32) <<< (nI i &&& 31) = nI (2 ^ i) := by decide +kernel
theorem zis_nI {n i : Nat} (hn : n < 2 ^ 31) (hi : i < 31) : zis (nI n) (nI i) = n.testBit i := by
  have h1 : nI n >>> (nI i &&& 31) = nI (n / 2 ^ i) := pk_shrN hn (nI i &&& 31) i (s_l_ i (by omega))
  have h2 : nI (n / 2 ^ i) &&& 1 = nI (n / 2 ^ i % 2) := pk_andN (by have := Nat.div_le_self n (2 ^ i); omega) 1 (by decide)
  unfold zis
  rw [h1, h2]
  have h3 : n / 2 ^ i % 2 < 2 := Nat.mod_lt _ (by omega)
  have h4 : (nI (n / 2 ^ i % 2) = 1) ↔ n / 2 ^ i % 2 = 1 := nI_eq (b := 1) (by omega) (by omega)
  rw [Nat.testBit_eq_decide_div_mod_eq]
  exact decide_eq_decide.mpr h4
theorem nI_or (a b : Nat) : nI a ||| nI b = nI (a ||| b) := fa_or_ a b
theorem zclr {n i : Nat} (hn : n < 64) (hi : i < 6) (hb : n.testBit i = true) : nI n &&& ((1 : Int32) <<< (nI i &&& 31) ^^^ (-1)) = nI (n - 2 ^ i) := by
  have key : ∀ n, n < 64 → ∀ i, i < 6 → n.testBit i = true → nI n &&& ((1 : Int32) <<< (nI i &&& 31) ^^^ (-1)) = nI (n - 2 ^ i) := by decide +kernel
  exact key n hn i hi hb
theorem zwi_64 {a b : Nat} (ha : a < 64) (hb : b < 64) : zwi (nI a) (nI b) = decide (a &&& b = a) := by
  have key : ∀ a, a < 64 → ∀ b, b < 64 → zwi (nI a) (nI b) = decide (a &&& b = a) := by decide +kernel
  exact key a ha b hb
theorem so_nI {s : Nat → Int32} {st : Nat → Nat} {n : Nat} (hn : n < 64) (h : ∀ k, k < 6 → s k = nI (st k)) : ∀ i, i ≤ 6 → so_ s (nI n) i = nI (S_ st n i)
  | 0, _ => rfl
  | i + 1, hi => by
    simp only [so_, S_, zis_nI (show n < 2 ^ 31 by omega) (show i < 31 by omega), so_nI hn h i (by omega), h i (by omega)]
    split
    · rw [nI_add]
    · rfl
theorem S_le {st : Nat → Nat} {n : Nat} (h : ∀ k, k < 6 → st k ≤ 99) : ∀ i, i ≤ 6 → S_ st n i ≤ 99 * i
  | 0, _ => by simp [S_]
  | i + 1, hi => by
    have h1 := S_le (n := n) h i (by omega)
    have h2 := h i (by omega)
    simp only [S_]
    split <;> omega
theorem ts_lt (tkn : Nat → Bool) : ∀ i, ts_ tkn i < 2 ^ i
  | 0 => by simp [ts_]
  | i + 1 => by
    have h := ts_lt tkn i
    simp only [ts_]
    split
    · exact Nat.or_lt_two_pow (by omega) (by omega)
    · omega
theorem ts_bit (tkn : Nat → Bool) {j : Nat} : ∀ {i}, (ts_ tkn i).testBit j = (decide (j < i) && tkn j)
  | 0 => by simp [ts_]
  | i + 1 => by
    simp only [ts_]
    by_cases e : tkn i = true
    · rw [if_pos e, Nat.testBit_or, ts_bit tkn (i := i), Nat.testBit_two_pow]
      by_cases q : i = j
      · subst q; simp [e]
      · by_cases q2 : j < i
        · simp [q, q2, show j < i + 1 by omega]
        · simp [q, q2, show ¬ j < i + 1 by omega]
    · rw [if_neg e, ts_bit tkn (i := i)]
      by_cases q : i = j
      · subst q; simp [e]
      · by_cases q2 : j < i
        · simp [q2, show j < i + 1 by omega]
        · simp [q2, show ¬ j < i + 1 by omega]
/-- SHAPES: how many of the numbers below n -/
def cn_ (p : Nat → Bool) : Nat → Nat
  | 0 => 0
  | i + 1 => if p i = true then cn_ p i + 1 else cn_ p i
theorem cn_le (p : Nat → Bool) : ∀ i, cn_ p i ≤ i
  | 0 => Nat.le_refl _
  | i + 1 => by
    have := cn_le p i
    simp only [cn_]
    split <;> omega
theorem cn_mono {p : Nat → Bool} {i j : Nat} (h : i ≤ j) : cn_ p i ≤ cn_ p j := by
  induction j with
  | zero => rw [show i = 0 by omega]; exact Nat.le_refl _
  | succ j ih =>
    by_cases e : i = j + 1
    · rw [e]; exact Nat.le_refl _
    · have := ih (by omega)
      simp only [cn_]
      split <;> omega
theorem cn_lt {p : Nat → Bool} {i j : Nat} (h : i < j) (hp : p i = true) : cn_ p i < cn_ p j := by
  have h1 : cn_ p (i + 1) = cn_ p i + 1 := by simp [cn_, hp]
  have h2 := cn_mono (p := p) (show i + 1 ≤ j by omega)
  omega
def ml_ (f : Nat → Int32) (gr : Int32) : Nat → Nat
  | 0 => 0
  | k + 1 => if zwi gr (f k) = true then ml_ f gr k + 1 else ml_ f gr k
theorem ml_le (f : Nat → Int32) (gr : Int32) : ∀ k, ml_ f gr k ≤ k
  | 0 => Nat.le_refl _
  | k + 1 => by
    have := ml_le f gr k
    simp only [ml_]
    split <;> omega
def mx_ (f : Nat → Int32) (c : Nat) (gr : Int32) : Nat := max (ml_ f gr c) (c - ml_ f gr c)
def bh_ (f : Nat → Int32) (c : Nat) (gr : Nat → Int32) : Nat → Nat
  | 0 => 0
  | h + 1 => if mx_ f c (gr (h + 1)) < mx_ f c (gr (bh_ f c gr h)) then h + 1 else bh_ f c gr h
theorem bh_le (f : Nat → Int32) (c : Nat) (gr : Nat → Int32) : ∀ h, bh_ f c gr h ≤ h
  | 0 => Nat.le_refl _
  | h + 1 => by
    have := bh_le f c gr h
    simp only [bh_]
    split <;> omega
/-- the mud -/
def l2_ (w mv : Nat → Int32) (set a r : Int32) : Nat → Option Nat
  | 0 => none
  | i + 1 => match l2_ w mv set a r i with
    | some x => some x
    | none => if zis set (nI i) = true ∧ w i = a ∧ ¬ r ≤ mv i then some i else none
theorem l2_some {w mv : Nat → Int32} {set a r : Int32} {i n x : Nat} (h : l2_ w mv set a r i = some x) (hn : i ≤ n) : l2_ w mv set a r n = some x := by
  induction n with
  | zero => rw [show i = 0 by omega] at h; exact h
  | succ n ih =>
    by_cases e : i = n + 1
    · rw [← e]; exact h
    · simp [l2_, ih (by omega)]
theorem l2_lt {w mv : Nat → Int32} {set a r : Int32} : ∀ {i x : Nat}, l2_ w mv set a r i = some x → x < i
  | 0, x, h => by simp [l2_] at h
  | i + 1, x, h => by
    simp only [l2_] at h
    split at h
    · rename_i y hy
      cases h
      have := l2_lt hy
      omega
    · split at h
      · cases h; omega
      · cases h
def zo (x : Option Nat) : Int32 := match x with
  | some i => nI i
  | none => -6
def a2_ (w mv : Nat → Int32) (set r : Int32) : Nat → Bool
  | 0 => true
  | i + 1 => a2_ w mv set r i && !(zis set (nI i) && (!decide (w i = 1) || !decide (mv i < r)))
theorem a2_no {w mv : Nat → Int32} {set r : Int32} {i n : Nat} (h : a2_ w mv set r i = false) (hn : i ≤ n) : a2_ w mv set r n = false := by
  induction n with
  | zero => rw [show i = 0 by omega] at h; exact h
  | succ n ih =>
    by_cases e : i = n + 1
    · rw [← e]; exact h
    · simp [a2_, ih (by omega)]
/-- one STATE settled; a round; all rounds: who, moves -/
abbrev zWM : Type := (Nat → Int32) × (Nat → Int32)
def se_ (ld : Nat → Int32) (r : Int32) (i : Nat) (q : zWM) : zWM :=
  if q.1 i = 2 then (if (l2_ q.1 q.2 (ld i) 0 r 10).isSome = true then (upd q.1 i 1, upd q.2 i r) else if a2_ q.1 q.2 (ld i) r 10 = true then (upd q.1 i 0, upd q.2 i r) else q) else q
def rd_ (ld : Nat → Int32) (r : Int32) (q : zWM) : Nat → zWM
  | 0 => q
  | i + 1 => se_ ld r i (rd_ ld r q i)
def rs_ (ld : Nat → Int32) (q : zWM) : Nat → zWM
  | 0 => q
  | r + 1 => rd_ ld (nI r) (rs_ ld q r) 10
def wmI (I : zI) (q : zWM) : zI := zrow (zrow I 37 q.1) 38 q.2
def wm0 (I : zI) (i : Nat) : zWM := (fun k => if k < i then 2 else I 37 k, fun k => if k < i then -6 else I 38 k)
theorem BT_eq {st hr : Nat → Nat} {k : Nat} : ∀ {i j : Nat}, k < i → i ≤ j → BT_ st hr j k = BT_ st hr i k := by
  intro i j h1 h2
  induction j with
  | zero => omega
  | succ j ih =>
    by_cases e : i = j + 1
    · rw [e]
    · have h3 : BT_ st hr (j + 1) k = BT_ st hr j k := by simp only [BT_]; rw [if_neg (by omega)]
      rw [h3, ih (by omega)]
theorem zsubsA : ((List.range 6).all fun h => (List.range 64).all fun i => (List.range 64).all fun t => !(i &&& t == i && i.testBit h) || ((i - 2 ^ h) &&& t == i - 2 ^ h && decide (i - 2 ^ h < i) && t.testBit h)) = true := by decide +kernel
theorem zsubs0 (h : Nat) (hh : h < 6) (i : Nat) (hi : i < 64) (t : Nat) (ht : t < 64) (e : i &&& t = i ∧ i.testBit h = true) : (i - 2 ^ h) &&& t = i - 2 ^ h ∧ i - 2 ^ h < i ∧ t.testBit h = true := by
  have h1 := List.all_eq_true.mp (List.all_eq_true.mp (List.all_eq_true.mp zsubsA h (List.mem_range.mpr hh)) i (List.mem_range.mpr hi)) t (List.mem_range.mpr ht)
  simp [e.1, e.2] at h1
  exact ⟨h1.1.1, h1.1.2, h1.2⟩
theorem zsubs {i t h : Nat} (hi : i < 64) (ht : t < 64) (e : i &&& t = i) (hh : h < 6) (hb : i.testBit h = true) : (i - 2 ^ h) &&& t = i - 2 ^ h ∧ i - 2 ^ h < i ∧ t.testBit h = true := zsubs0 h hh i hi t ht ⟨e, hb⟩
theorem zleand : ∀ i, i < 64 → ∀ t, t < 64 → i &&& t = i → i ≤ t := by decide +kernel
theorem bf_le {st hr B : Nat → Nat} {n h : Nat} (h1 : ∀ k, k < 6 → st k ≤ 99) (h2 : hr h ≤ 999) (h3 : B (n - 2 ^ h) ≤ 1000000000) : bf_ st hr B n h ≤ 1000593406 := by
  have e := S_le (n := n) h1 6 (Nat.le_refl 6)
  have e2 : S_ st n 6 * hr h ≤ 594 * 999 := Nat.mul_le_mul (by omega) h2
  unfold bf_
  omega
theorem lo_cong {st hr B B' : Nat → Nat} {n : Nat} : ∀ {i}, (∀ h, h < i → n.testBit h = true → B (n - 2 ^ h) = B' (n - 2 ^ h)) → lo_ st hr B n i = lo_ st hr B' n i
  | 0, _ => rfl
  | i + 1, e => by
    simp only [lo_, bf_]
    rw [lo_cong (i := i) (fun h hh => e h (by omega))]
    split
    · rw [e i (by omega) ‹_›]
    · rfl
def st_ (ldi r : Int32) (i : Nat) (q : zWM) : zWM := if (l2_ q.1 q.2 ldi 0 r 10).isSome = true then (upd q.1 i 1, upd q.2 i r) else if a2_ q.1 q.2 ldi r 10 = true then (upd q.1 i 0, upd q.2 i r) else q
theorem wmI_37 (I : zI) (q : zWM) : wmI I q 37 = q.1 := by simp [wmI, zrow]
theorem wmI_38 (I : zI) (q : zWM) : wmI I q 38 = q.2 := by simp [wmI, zrow]
theorem wmI_ne (I : zI) (q : zWM) {a : Nat} (h : a ≠ 37) (h2 : a ≠ 38) : wmI I q a = I a := by simp [wmI, zrow, h, h2]
theorem wmI_wmI (I : zI) (q q' : zWM) : wmI (wmI I q) q' = wmI I q' := by
  funext a
  by_cases h : a = 38
  · subst h; simp [wmI, zrow]
  · by_cases h2 : a = 37
    · subst h2; simp [wmI, zrow]
    · simp [wmI, zrow, h, h2]
theorem wmI_same (I : zI) : wmI I (I 37, I 38) = I := by
  unfold wmI
  rw [zrow_same, zrow_same]
theorem wmI_u (I : zI) (i : Nat) (v w : Int32) : zu (zu I 37 i v) 38 i w = wmI I (upd (I 37) i v, upd (I 38) i w) := by
  funext a j
  by_cases h : a = 38
  · subst h; simp [wmI, zrow, zu, upd]
  · by_cases h2 : a = 37
    · subst h2; simp [wmI, zrow, zu, upd]
    · simp [wmI, zrow, zu, h, h2]
theorem zo_ne {x : Option Nat} (h : ∀ i, x = some i → i < 100) : zo x = -6 ↔ x = none := by
  cases x with
  | none => simp [zo]
  | some i =>
    have hi := h i rfl
    constructor
    · intro q
      have q : nI i = -6 := q
      have : (nI i).toInt = (-6 : Int32).toInt := by rw [q]
      rw [nI_toInt (by omega)] at this
      have h6 : (-6 : Int32).toInt = -6 := by decide
      omega
    · intro q; cases q
theorem nI_n6 {i : Nat} (hi : i < 2 ^ 31) : ¬ nI i = -6 := by
  intro q
  have : (nI i).toInt = (-6 : Int32).toInt := by rw [q]
  rw [nI_toInt hi] at this
  have h6 : (-6 : Int32).toInt = -6 := by decide
  omega
section ZB3
variable {g : zG} {M M2 : zM} {E : zE} {Q : State → Prop} {kc ks pc : Nat} {lo : List (Option Value)} {rest st : List Value} {N : Nat} {I : zI} {L : zL} {R : zR} {y : MethodName} {As : List Value} {idx n k ci : Nat}
theorem x_drop {i : Nat} {lo2 : List (Option Value)} (h : lo.set i none = lo2) (kk : X g M E Q kc ks pc lo2 st N I L R) : X g M E Q kc ks pc lo st N I L R := by
  obtain ⟨p, e, s, m, args, below, meth, c⟩ := E
  intro hx ls H locs hl hP hS
  refine kk hx ls H locs ⟨hl.1, hl.2.1, fun q hq => ?_⟩ hP hS
  subst h
  obtain ⟨j, h1, h2⟩ := zl_mem hq
  have h1 : q.1 = j := by omega
  by_cases e : j = i
  · subst e
    by_cases hlt : j < lo.length
    · rw [List.getElem?_set_self hlt] at h2
      cases h2
    · rw [List.getElem?_eq_none (by simp; omega)] at h2
      cases h2
  · rw [List.getElem?_set_ne (Ne.symm e)] at h2
    rw [h1]
    exact zl_at hl h2
theorem x_callV1 {v : Value} {c : Nat} (hd : decode M.1 pc = .ok (.invokevirtual idx, 3)) (hl : Cond.methodLink M.2.1 idx y ∈ wsL_law) (hm : zMt y M2 n) (hi : zMv y) (ct : Ct g y M2 (.ref (g.2.1 + k) :: As) N I L R (zD1 (some v) N I c L R)) (hk : k < N) (ht : (zt k).1 = ci + 4) (hcl : (zcl[ci]?).map (fun q => q.1) = some y.cls) (hst : st = As.reverse ++ .ref (g.2.1 + k) :: rest) (hn : As.length = n) (hw : (rest.map fun v => v.category).sum ≤ 8) (hR : M2.2.2.2.2.1.frames + 1 ≤ M.2.2.2.2.1.frames ∧ 8 + (M2.2.2.1 + 11) + M2.2.2.2.2.1.locals ≤ M.2.2.2.2.1.locals) (hz : M2.2.2.2.2.1.cells = 0 ∧ M2.2.2.2.2.1.slots = 0) (hcs : kc ≤ M.2.2.2.2.1.cells ∧ ks ≤ M.2.2.2.2.1.slots) (kk : ∀ f, X g M E Q kc ks (pc + 3) lo (v :: rest) N (zrow I c f) L R) : X g M E Q kc ks pc lo st N I L R := by
  refine x_callV hd hl hm hi ct hk ht hcl hst hn hw hR (by rw [hz.1, hz.2]; exact hcs) (fun r N' I' L' R' h => ?_)
  obtain ⟨rfl, rfl, ⟨f, rfl⟩, rfl, rfl⟩ := h
  rw [hz.1, hz.2]
  exact kk f
/-- a call whose world behind is told by what holds of it -/
theorem x_callVr {P2 : zI → Prop} (hd : decode M.1 pc = .ok (.invokevirtual idx, 3)) (hl : Cond.methodLink M.2.1 idx y ∈ wsL_law) (hm : zMt y M2 n) (hi : zMv y) (ct : Ct g y M2 (.ref (g.2.1 + k) :: As) N I L R (fun r' N' I' L' R' => r' = none ∧ N' = N ∧ L' = L ∧ R' = R ∧ P2 I')) (hk : k < N) (ht : (zt k).1 = ci + 4) (hcl : (zcl[ci]?).map (fun q => q.1) = some y.cls) (hst : st = As.reverse ++ .ref (g.2.1 + k) :: rest) (hn : As.length = n) (hw : (rest.map fun v => v.category).sum ≤ 8) (hR : M2.2.2.2.2.1.frames + 1 ≤ M.2.2.2.2.1.frames ∧ 8 + (M2.2.2.1 + 11) + M2.2.2.2.2.1.locals ≤ M.2.2.2.2.1.locals) (hz : M2.2.2.2.2.1.cells = 0 ∧ M2.2.2.2.2.1.slots = 0) (hcs : kc ≤ M.2.2.2.2.1.cells ∧ ks ≤ M.2.2.2.2.1.slots) (kk : ∀ I', P2 I' → X g M E Q kc ks (pc + 3) lo rest N I' L R) : X g M E Q kc ks pc lo st N I L R := by
  refine x_callV hd hl hm hi ct hk ht hcl hst hn hw hR (by rw [hz.1, hz.2]; exact hcs) (fun r N' I' L' R' h => ?_)
  obtain ⟨rfl, rfl, rfl, rfl, hp⟩ := h
  rw [hz.1, hz.2]
  exact kk I' hp
/-- a call with an answer, whose answer and world behind are told by what holds of them -/
theorem x_callVp {P2 : Value → zI → Prop} (hd : decode M.1 pc = .ok (.invokevirtual idx, 3)) (hl : Cond.methodLink M.2.1 idx y ∈ wsL_law) (hm : zMt y M2 n) (hi : zMv y) (ct : Ct g y M2 (.ref (g.2.1 + k) :: As) N I L R (fun r' N' I' L' R' => N' = N ∧ L' = L ∧ R' = R ∧ ∃ v, r' = some v ∧ P2 v I')) (hk : k < N) (ht : (zt k).1 = ci + 4) (hcl : (zcl[ci]?).map (fun q => q.1) = some y.cls) (hst : st = As.reverse ++ .ref (g.2.1 + k) :: rest) (hn : As.length = n) (hw : (rest.map fun v => v.category).sum ≤ 8) (hR : M2.2.2.2.2.1.frames + 1 ≤ M.2.2.2.2.1.frames ∧ 8 + (M2.2.2.1 + 11) + M2.2.2.2.2.1.locals ≤ M.2.2.2.2.1.locals) (hz : M2.2.2.2.2.1.cells = 0 ∧ M2.2.2.2.2.1.slots = 0) (hcs : kc ≤ M.2.2.2.2.1.cells ∧ ks ≤ M.2.2.2.2.1.slots) (kk : ∀ v I', P2 v I' → X g M E Q kc ks (pc + 3) lo (v :: rest) N I' L R) : X g M E Q kc ks pc lo st N I L R := by
  refine x_callV hd hl hm hi ct hk ht hcl hst hn hw hR (by rw [hz.1, hz.2]; exact hcs) (fun r N' I' L' R' h => ?_)
  obtain ⟨rfl, rfl, rfl, v, rfl, hp⟩ := h
  rw [hz.1, hz.2]
  exact kk v I' hp
end ZB3
