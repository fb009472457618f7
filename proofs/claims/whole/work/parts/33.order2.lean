/-- a member less -/
theorem S_less {st : Nat → Nat} {u v i : Nat} (hu : u.testBit i = true) (h : ∀ j, j < 6 → v.testBit j = (u.testBit j && !(j == i))) : ∀ m, m ≤ 6 → S_ st u m = S_ st v m + (if i < m then st i else 0)
  | 0, _ => rfl
  | m + 1, hm => by
    have ih := S_less (st := st) hu h m (by omega)
    simp only [S_]
    rw [h m (by omega), ih]
    by_cases e : m = i
    · subst e
      rw [hu]
      simp
    · by_cases q : u.testBit m = true
      · have e2 : (m == i) = false := by simpa using e
        rw [q, e2]
        simp only [Bool.not_false, Bool.and_self, if_true]
        by_cases z : i < m
        · rw [if_pos z, if_pos (by omega)]; omega
        · rw [if_neg z, if_neg (by omega)]; omega
      · have q : u.testBit m = false := by simpa using q
        rw [q]
        simp only [Bool.false_and, Bool.false_eq_true, if_false]
        by_cases z : i < m
        · rw [if_pos z, if_pos (by omega)]
        · rw [if_neg z, if_neg (by omega)]
theorem S_cong {st st' : Nat → Nat} {s : Nat} (h : ∀ i, i < 6 → s.testBit i = true → st' i = st i) : ∀ m, m ≤ 6 → S_ st' s m = S_ st s m
  | 0, _ => rfl
  | m + 1, hm => by
    simp only [S_, S_cong h m (by omega)]
    split
    · rw [h m (by omega) (by assumption)]
    · rfl
theorem S_0 (st : Nat → Nat) : ∀ m, S_ st 0 m = 0
  | 0 => rfl
  | m + 1 => by simp [S_, S_0 st m]
theorem bit_ex {s : Nat} (hs : s < 64) (h : ¬ s = 0) : ∃ i, i < 6 ∧ s.testBit i = true := by
  apply Classical.byContradiction
  intro q
  apply h
  apply Nat.eq_of_testBit_eq
  intro i
  rw [Nat.zero_testBit]
  by_cases z : i < 6
  · cases e : s.testBit i
    · rfl
    · exact absurd ⟨i, z, e⟩ q
  · exact Nat.testBit_lt_two_pow (Nat.lt_of_lt_of_le hs (Nat.pow_le_pow_right (show 2 > 0 by decide) (show 6 ≤ i by omega)))
theorem lo_char {st hr B : Nat → Nat} {n : Nat} : ∀ i, (∀ h, h < i → n.testBit h = true → lo_ st hr B n i ≤ bf_ st hr B n h) ∧ (lo_ st hr B n i = 1000000000 ∨ ∃ h, h < i ∧ n.testBit h = true ∧ lo_ st hr B n i = bf_ st hr B n h)
  | 0 => ⟨fun h hh => absurd hh (Nat.not_lt_zero h), Or.inl rfl⟩
  | i + 1 => by
    obtain ⟨h1, h2⟩ := lo_char (st := st) (hr := hr) (B := B) (n := n) i
    simp only [lo_]
    by_cases e : n.testBit i = true
    · rw [if_pos e]
      refine ⟨fun h hh hb => ?_, ?_⟩
      · by_cases q : h = i
        · rw [q]; exact Nat.min_le_right _ _
        · exact Nat.le_trans (Nat.min_le_left _ _) (h1 h (by omega) hb)
      · rw [Nat.min_def]
        split
        · rcases h2 with h2 | ⟨h, z1, z2, z3⟩
          · exact Or.inl h2
          · exact Or.inr ⟨h, by omega, z2, z3⟩
        · exact Or.inr ⟨i, by omega, e, rfl⟩
    · rw [if_neg e]
      refine ⟨fun h hh hb => ?_, ?_⟩
      · by_cases q : h = i
        · rw [q] at hb; exact absurd hb e
        · exact h1 h (by omega) hb
      · rcases h2 with h2 | ⟨h, z1, z2, z3⟩
        · exact Or.inl h2
        · exact Or.inr ⟨h, by omega, z2, z3⟩
theorem ki_char {st hr B : Nat → Nat} {T s : Nat} {F : Int32} : ∀ j, j ≤ 6 → (∀ i, 6 - j ≤ i → i < 6 → T.testBit i = true → s.testBit i = false → (ki_ st hr T B s F j).1 ≤ kic st hr B s i) ∧ ((ki_ st hr T B s F j).1 = (if s = T then 0 else 1000000) ∨ ∃ i, 6 - j ≤ i ∧ i < 6 ∧ T.testBit i = true ∧ s.testBit i = false ∧ (ki_ st hr T B s F j).1 = kic st hr B s i ∧ (ki_ st hr T B s F j).2 = nI i ∧ ∀ i', 6 - j ≤ i' → i' < i → T.testBit i' = true → s.testBit i' = false → kic st hr B s i < kic st hr B s i')
  | 0, _ => ⟨fun i h1 h2 => by omega, Or.inl rfl⟩
  | j + 1, hj => by
    obtain ⟨h1, h2⟩ := ki_char (st := st) (hr := hr) (B := B) (T := T) (s := s) (F := F) j (by omega)
    simp only [ki_]
    by_cases e : T.testBit (5 - j) = true ∧ s.testBit (5 - j) = false
    · rw [if_pos e]
      dsimp only
      by_cases q : kic st hr B s (5 - j) ≤ (ki_ st hr T B s F j).1
      · rw [if_pos q, Nat.min_eq_right q]
        refine ⟨fun i z1 z2 z3 z4 => ?_, Or.inr ⟨5 - j, by omega, by omega, e.1, e.2, rfl, rfl, fun i' z1 z2 => by omega⟩⟩
        by_cases z : i = 5 - j
        · rw [z]; exact Nat.le_refl _
        · exact Nat.le_trans q (h1 i (by omega) z2 z3 z4)
      · rw [if_neg q, Nat.min_eq_left (by omega)]
        refine ⟨fun i z1 z2 z3 z4 => ?_, ?_⟩
        · by_cases z : i = 5 - j
          · rw [z]; omega
          · exact h1 i (by omega) z2 z3 z4
        · rcases h2 with h2 | ⟨i, z1, z2, z3, z4, z5, z6, z7⟩
          · exact Or.inl h2
          · refine Or.inr ⟨i, by omega, z2, z3, z4, z5, z6, fun i' y1 y2 y3 y4 => ?_⟩
            by_cases z : i' = 5 - j
            · rw [z]; omega
            · exact z7 i' (by omega) y2 y3 y4
    · rw [if_neg e]
      refine ⟨fun i z1 z2 z3 z4 => ?_, ?_⟩
      · by_cases z : i = 5 - j
        · rw [z] at z3 z4; exact absurd ⟨z3, z4⟩ e
        · exact h1 i (by omega) z2 z3 z4
      · rcases h2 with h2 | ⟨i, z1, z2, z3, z4, z5, z6, z7⟩
        · exact Or.inl h2
        · refine Or.inr ⟨i, by omega, z2, z3, z4, z5, z6, fun i' y1 y2 y3 y4 => ?_⟩
          by_cases z : i' = 5 - j
          · rw [z] at y3 y4; exact absurd ⟨y3, y4⟩ e
          · exact z7 i' (by omega) y2 y3 y4
theorem ft_least {st hr B : Nat → Nat} {t v i : Nat} (h1 : t.testBit i = true) (h2 : bf_ st hr B t i = v) (h3 : ∀ j, j < i → t.testBit j = true → bf_ st hr B t j ≠ v) : ft_ st hr B t v (i + 1) = some i := by
  have key : ∀ m, m ≤ i → ft_ st hr B t v m = none := by
    intro m
    induction m with
    | zero => intro _; rfl
    | succ m ih =>
      intro hm
      simp only [ft_, ih (by omega)]
      rw [if_neg]
      rintro ⟨z1, z2⟩
      exact h3 m (by omega) z1 z2
  simp only [ft_, key i (Nat.le_refl i)]
  rw [if_pos ⟨h1, h2⟩]
section OR
variable {st hr st' hr' : Nat → Nat} {T : Nat}
theorem C_rec (hT : T < 64) {s : Nat} (hs : s ≤ T) : BT_ st hr (T + 1) s = if s = 0 then 0 else lo_ st hr (BT_ st hr (T + 1)) s 6 := by
  rw [BT_eq (show s < s + 1 by omega) (show s + 1 ≤ T + 1 by omega)]
  have e : BT_ st hr (s + 1) s = if s = 0 then 0 else lo_ st hr (BT_ st hr s) s 6 := by
    simp only [BT_]
    rw [if_pos trivial]
  rw [e]
  by_cases q : s = 0
  · rw [if_pos q, if_pos q]
  rw [if_neg q, if_neg q]
  refine lo_cong (fun h hh hb => ?_)
  have := (zsubs (i := s) (t := s) (by omega) (by omega) (Nat.and_self s) hh hb).2.1
  exact (BT_eq this (by omega)).symm
theorem C_le (hT : T < 64) : ∀ n s, s ≤ n → s ≤ T → BT_ st hr (T + 1) s ≤ S_ st s 6 * S_ hr s 6
  | 0, s, h, _ => by
    rw [show s = 0 by omega, BT_0]
    exact Nat.zero_le _
  | n + 1, s, h, hs => by
    by_cases q : s = 0
    · rw [q, BT_0]
      exact Nat.zero_le _
    obtain ⟨i, hi, hb⟩ := bit_ex (by omega) q
    have lt := (zsubs (i := s) (t := s) (by omega) (by omega) (Nat.and_self s) hi hb).2.1
    have ih := C_le hT n (s - 2 ^ i) (by omega) (by omega)
    rw [C_rec hT hs, if_neg q]
    refine Nat.le_trans ((lo_char 6).1 i hi hb) ?_
    have e1 := S_less (st := st) hb (fun j hj => zone1 hi (by omega) hj hb) 6 (Nat.le_refl 6)
    have e2 := S_less (st := hr) hb (fun j hj => zone1 hi (by omega) hj hb) 6 (Nat.le_refl 6)
    rw [if_pos hi] at e1 e2
    unfold bf_
    rw [e2, Nat.mul_add]
    have e3 : S_ st (s - 2 ^ i) 6 * S_ hr (s - 2 ^ i) 6 ≤ S_ st s 6 * S_ hr (s - 2 ^ i) 6 := Nat.mul_le_mul_right _ (by omega)
    omega
theorem ko_at (hT : T < 64) (hA : ∀ i, i < 6 → T.testBit i = true → st' i = st i ∧ hr' i = hr i) (h1 : ∀ i, i < 6 → st i ≤ 99) (h2 : ∀ i, i < 6 → hr i ≤ 99) {s : Nat} (hs : s < 64) (hsT : s &&& T = s) {B : Nat → Nat} {F : Int32} (hB : ∀ i, i < 6 → T.testBit i = true → s.testBit i = false → B (s ||| 2 ^ i) = BT_ st hr (T + 1) (T - (s ||| 2 ^ i)) + S_ hr (s ||| 2 ^ i) 6 * S_ st (T - (s ||| 2 ^ i)) 6) : (ki_ st' hr' T B s F 6).1 = BT_ st hr (T + 1) (T - s) + S_ hr s 6 * S_ st (T - s) 6 ∧ (¬ s = T → ∃ i, i < 6 ∧ (T - s).testBit i = true ∧ (ki_ st' hr' T B s F 6).2 = nI i ∧ bf_ st hr (BT_ st hr (T + 1)) (T - s) i = BT_ st hr (T + 1) (T - s) ∧ ∀ j, j < i → (T - s).testBit j = true → bf_ st hr (BT_ st hr (T + 1)) (T - s) j ≠ BT_ st hr (T + 1) (T - s)) := by
  have hle : s ≤ T := zleand s hs T hT hsT
  have sub : ∀ i, i < 6 → s.testBit i = true → T.testBit i = true := by
    intro i _ z
    have := congrArg (fun x => Nat.testBit x i) hsT
    simp only [Nat.testBit_and, z, Bool.true_and] at this
    exact this
  have eH : S_ hr' s 6 = S_ hr s 6 := S_cong (fun i hi z => (hA i hi (sub i hi z)).2) 6 (Nat.le_refl 6)
  have hu : T - s < 64 := by omega
  have kc : ∀ i, i < 6 → T.testBit i = true → s.testBit i = false → (T - s).testBit i = true ∧ kic st' hr' B s i = bf_ st hr (BT_ st hr (T + 1)) (T - s) i + S_ hr s 6 * S_ st (T - s) 6 := by
    intro i hi q1 q2
    obtain ⟨p1, p2⟩ := zpick hi hs hT hsT
    rw [q1, q2] at p1
    have p1 : (T - s).testBit i = true := p1
    obtain ⟨p3, -, -, p6⟩ := p2 q1 q2
    refine ⟨p1, ?_⟩
    have e1 := S_less (st := st) p1 (fun j hj => zone1 hi hu hj p1) 6 (Nat.le_refl 6)
    have e2 := S_less (st := hr) (u := s ||| 2 ^ i) (v := s) (i := i) (by rw [zone2 hi hs hi]; simp) (fun j hj => by
      rw [zone2 hi hs hj]
      by_cases z : j = i
      · rw [z, q2]; simp
      · have z : (j == i) = false := by simpa using z
        rw [z]; simp) 6 (Nat.le_refl 6)
    rw [if_pos hi] at e1 e2
    unfold kic bf_
    rw [hB i hi q1 q2, p3, (hA i hi q1).1, (hA i hi q1).2, eH, e1, e2]
    exact or_alg _ _ _ _ _
  obtain ⟨c1, c2⟩ := ki_char (st := st') (hr := hr') (B := B) (T := T) (s := s) (F := F) 6 (Nat.le_refl 6)
  by_cases q : s = T
  · refine ⟨?_, fun z => absurd q z⟩
    rcases c2 with c2 | ⟨i, z1, z2, z3, z4, _⟩
    · rw [c2, if_pos q, q, Nat.sub_self, BT_0, S_0, Nat.mul_zero]
    · rw [q, z3] at z4
      cases z4
  have hu0 : ¬ T - s = 0 := by omega
  obtain ⟨l1, l2⟩ := lo_char (st := st) (hr := hr) (B := BT_ st hr (T + 1)) (n := T - s) 6
  have eC : BT_ st hr (T + 1) (T - s) = lo_ st hr (BT_ st hr (T + 1)) (T - s) 6 := by rw [C_rec hT (Nat.sub_le T s), if_neg hu0]
  have bC := C_le (st := st) (hr := hr) hT (T - s) (T - s) (Nat.le_refl _) (Nat.sub_le T s)
  have b1 := S_le (n := T - s) h1 6 (Nat.le_refl 6)
  have b2 := S_le (n := T - s) h2 6 (Nat.le_refl 6)
  have b3 := S_le (n := s) h2 6 (Nat.le_refl 6)
  have b4 : S_ st (T - s) 6 * S_ hr (T - s) 6 ≤ 594 * 594 := Nat.mul_le_mul (by omega) (by omega)
  have b5 : S_ hr s 6 * S_ st (T - s) 6 ≤ 594 * 594 := Nat.mul_le_mul (by omega) (by omega)
  rw [← eC] at l1 l2
  have bitT : ∀ i, i < 6 → (T - s).testBit i = true → T.testBit i = true ∧ s.testBit i = false := by
    intro i hi z
    have p1 := (zpick hi hs hT hsT).1
    rw [z] at p1
    have p1 := p1.symm
    simp only [Bool.and_eq_true, Bool.not_eq_true'] at p1
    exact p1
  obtain ⟨i1, y1, y2, y3⟩ : ∃ h, h < 6 ∧ (T - s).testBit h = true ∧ BT_ st hr (T + 1) (T - s) = bf_ st hr (BT_ st hr (T + 1)) (T - s) h := by
    rcases l2 with l2 | l2
    · omega
    · exact l2
  have t1 := bitT i1 y1 y2
  have k1 := (kc i1 y1 t1.1 t1.2).2
  have m1 := c1 i1 (by omega) y1 t1.1 t1.2
  rcases c2 with c2 | ⟨i, z1, z2, z3, z4, z5, z6, z7⟩
  · rw [if_neg q] at c2
    omega
  · obtain ⟨k2, k3⟩ := kc i z2 z3 z4
    have m2 := l1 i z2 k2
    refine ⟨by omega, fun _ => ⟨i, z2, k2, z6, by omega, fun j hj hb => ?_⟩⟩
    obtain ⟨w1, w2⟩ := bitT j (by omega) hb
    have k4 := z7 j (by omega) hj w1 w2
    have k5 := (kc j (by omega) w1 w2).2
    omega
theorem ko_main (hT : T < 64) (hA : ∀ i, i < 6 → T.testBit i = true → st' i = st i ∧ hr' i = hr i) (h1 : ∀ i, i < 6 → st i ≤ 99) (h2 : ∀ i, i < 6 → hr i ≤ 99) : ∀ d, d ≤ 64 → ∀ s, 64 - d ≤ s → s < 64 → s &&& T = s → (ko_ st' hr' T d).1 s = BT_ st hr (T + 1) (T - s) + S_ hr s 6 * S_ st (T - s) 6
  | 0, _, s, z1, z2, _ => by omega
  | d + 1, hd, s, z1, z2, z3 => by
    have ih := ko_main hT hA h1 h2 d (by omega)
    simp only [ko_]
    by_cases e : s = 63 - d
    · rw [if_pos e, ← e]
      unfold kis
      rw [if_pos z3]
      refine (ko_at hT hA h1 h2 z2 z3 (fun i hi q1 q2 => ?_)).1
      obtain ⟨-, p4, p5, p6⟩ := (zpick hi z2 hT z3).2 q1 q2
      exact ih _ (by omega) p6 p4
    · rw [if_neg e]
      exact ih s (by omega) z2 z3
end OR
theorem ko_s {st hr : Nat → Nat} {T : Nat} (d : Nat) : (ko_ st hr T (d + 1)).2 = (kis st hr T (ko_ st hr T d).1 (63 - d) (ko_ st hr T d).2).2 := rfl
section OR2
variable {I K : zI}
theorem kt_eq (h : Rl I K) {a : Nat} (ha : a < 6) : kTk K a = tkN I a := by
  unfold kTk tkN
  rw [k_th h, zth_le ha]
  have e : I 2 a = nI (zx (I 2 a)) ∧ zx (I 2 a) ≤ 99 := h.st a ha
  by_cases q : I 2 a ≤ 0
  · have z : ¬ 0 < zx (I 2 a) := fun z => absurd q (by rw [e.1]; exact nI_nle z (by omega))
    simp [q, z]
  · have z : 0 < zx (I 2 a) := sm_no (by rw [← e.1]; exact q)
    by_cases hz : hf_ (I 4) (I 3 a) 6 = 0
    · rw [kp_no h ha q hz]
      simp [hz]
    · have k := kp_yes h ha q hz
      rw [k.1]
      simp [q, z, hz, k.2]
theorem ts_eq (h : Rl I K) : ∀ i, i ≤ 6 → ts_ (kTk K) i = ts_ (tkN I) i
  | 0, _ => rfl
  | i + 1, hi => by simp only [ts_, ts_eq h i (by omega), kt_eq h (show i < 6 by omega)]
theorem or_two (h : Rl I K) (w : Int32) : korA K w = orA I w := by
  have eT : kTs K = tsN I := ts_eq h 6 (Nat.le_refl 6)
  have hT : tsN I < 64 := ts_lt (tkN I) 6
  have hA : ∀ i, i < 6 → (tsN I).testBit i = true → kST K i = zx (I 2 i) ∧ kHr K i = hrN I i := by
    intro i hi z
    unfold tsN at z
    rw [ts_bit] at z
    have z : tkN I i = true := by simpa [hi] using z
    have z2 : kTk K i = true := (kt_eq h hi).trans z
    unfold tkN at z
    have z3 : 0 < zx (I 2 i) ∧ ¬ hf_ (I 4) (I 3 i) 6 = 0 := by simpa using z
    have e : I 2 i = nI (zx (I 2 i)) ∧ zx (I 2 i) ≤ 99 := h.st i hi
    have hs : ¬ I 2 i ≤ 0 := by rw [e.1]; exact nI_nle z3.1 (by omega)
    unfold kST kHr hrN
    rw [if_pos z2, if_pos z2, k_S h hi hs, (kp_yes h hi hs z3.2).1]
    exact ⟨rfl, rfl⟩
  have h1 : ∀ i, i < 6 → (fun a => zx (I 2 a)) i ≤ 99 := fun i hi => (h.st i hi).2
  have h2 : ∀ i, i < 6 → hrN I i ≤ 99 := fun i hi => hr_99 h hi
  unfold korA orA
  by_cases z : zin w 0 1 = false
  · rw [if_pos z, if_pos z]
  rw [if_neg z, if_neg z]
  unfold kO
  rw [eT]
  have e0 := ko_main (st' := kST K) (hr' := kHr K) (st := fun a => zx (I 2 a)) (hr := hrN I) hT hA h1 h2 64 (Nat.le_refl 64) 0 (by decide) (by decide) (Nat.zero_and _)
  by_cases q : w = 0
  · rw [if_pos q, if_pos q, e0, S_0, Nat.zero_mul, Nat.sub_zero]
    rfl
  rw [if_neg q, if_neg q]
  by_cases q2 : tsN I = 0
  · rw [if_pos q2, q2]
    have : ∀ m, ft_ (fun a => zx (I 2 a)) (hrN I) (BN I) 0 (BN I 0) m = none := by
      intro m
      induction m with
      | zero => rfl
      | succ m ih => simp [ft_, ih]
    rw [this]
    rfl
  rw [if_neg q2]
  have ih := ko_main (st' := kST K) (hr' := kHr K) (st := fun a => zx (I 2 a)) (hr := hrN I) hT hA h1 h2 63 (by decide)
  obtain ⟨i, y1, y2, y3, y4, y5⟩ := (ko_at (st' := kST K) (hr' := kHr K) (st := fun a => zx (I 2 a)) (hr := hrN I) (s := 0) (B := (ko_ (kST K) (kHr K) (tsN I) 63).1) (F := (ko_ (kST K) (kHr K) (tsN I) 63).2) hT hA h1 h2 (by decide) (Nat.zero_and _) (fun i hi q1 q3 => by
    obtain ⟨-, p4, p5, p6⟩ := (zpick (s := 0) hi (by decide) hT (Nat.zero_and _)).2 q1 q3
    exact ih _ (by omega) p6 p4)).2 (fun z => q2 z.symm)
  rw [Nat.sub_zero] at y2 y4 y5
  have e2 : (ko_ (kST K) (kHr K) (tsN I) 64).2 = nI i := by
    rw [← y3]
    refine (ko_s (st := kST K) (hr := kHr K) (T := tsN I) 63).trans ?_
    unfold kis
    rw [Nat.sub_self, if_pos (Nat.zero_and _)]
  have e3 : ft_ (fun a => zx (I 2 a)) (hrN I) (BN I) (tsN I) (BN I (tsN I)) 6 = some i := ft_some (ft_least y2 y4 y5) (show i + 1 ≤ 6 by omega)
  rw [e2, e3]
  rfl
end OR2
