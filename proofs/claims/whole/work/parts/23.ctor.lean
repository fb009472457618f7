/-! constructors: a world is told by what is seen of it; a constructor fills the cells that the final world already shows -/
def zC (N : Nat) (I : zI) (R : zR) : zPost := fun r' N' I' _ R' => r' = none ∧ N' = N ∧ I' = I ∧ R' = R
section ZB4
variable {g : zG} {M M2 : zM} {E : zE} {Q : State → Prop} {kc ks pc : Nat} {lo : List (Option Value)} {rest st : List Value} {N N2 : Nat} {I I2 : zI} {L : zL} {R R2 : zR} {y : MethodName} {As : List Value} {idx n k ci : Nat}
theorem zP_R {R' : zR} {H : Heap} (h : ∀ k, k < N → ∀ j, R' k j = R k j) (hP : zP g N I L R H) : zP g N I L R' H := by
  refine ⟨hP.1, fun k q hq => ?_⟩
  obtain ⟨hk, rfl⟩ := zw_some hq
  have := hP.2 k _ (zw_at hk)
  rw [zc_congr (I' := I) (L' := L) (fun _ => rfl) (fun _ => rfl) (h k hk)]
  exact this
theorem x_sameW {I' : zI} {R' : zR} (h : ∀ k, k < N → ∀ j, zvis k j → I' k j = I k j) (h2 : ∀ k, k < N → ∀ j, R' k j = R k j) (kk : X g M E Q kc ks pc lo st N I' L R') : X g M E Q kc ks pc lo st N I L R := by
  obtain ⟨p, e, s, m, args, below, meth, c⟩ := E
  intro hx ls H locs hl hP hS
  exact kk hx ls H locs hl (zP_R h2 (zP_vis h hP)) hS
theorem x_callIc (hd : decode M.1 pc = .ok (.invokespecial idx, 3)) (hl : Cond.methodLink M.2.1 idx y ∈ wsL_law) (hm : zMt y M2 n) (hrn : M2.2.2.2.1 = none) (hi : Cond.instanceMethod y ∈ wsL_law) (hy1 : y.name = "<init>") (ct : Ct g y M2 (.ref (g.2.1 + k) :: As) N I L R (zC N2 I2 R2)) (hst : st = As.reverse ++ .ref (g.2.1 + k) :: rest) (hn : As.length = n) (hw : (rest.map fun v => v.category).sum ≤ 8) (hR : M2.2.2.2.2.1.frames + 1 ≤ M.2.2.2.2.1.frames ∧ 8 + (M2.2.2.1 + 11) + M2.2.2.2.2.1.locals ≤ M.2.2.2.2.1.locals) (hcs : kc + M2.2.2.2.2.1.cells ≤ M.2.2.2.2.1.cells ∧ ks + M2.2.2.2.2.1.slots ≤ M.2.2.2.2.1.slots) (kk : ∀ L', X g M E Q (kc + M2.2.2.2.2.1.cells) (ks + M2.2.2.2.2.1.slots) (pc + 3) lo rest N2 I2 L' R2) : X g M E Q kc ks pc lo st N I L R :=
  x_callI hd hl hm hrn hi hy1 ct hst hn hw hR hcs (fun r N' I' L' R' h => by obtain ⟨rfl, rfl, rfl, rfl⟩ := h; exact kk L')
theorem x_callINc {host : String} (hd : decode M.1 pc = .ok (.invokespecial idx, 3)) (hnw : (M.2.1, idx, y, host) ∈ zNW) (hm : zMt y M2 n) (hrn : M2.2.2.2.1 = none) (hi : Cond.instanceMethod y ∈ wsL_law) (hy1 : y.name = "<init>") (ct : Ct g y M2 (.ref (g.2.1 + k) :: As) N I L R (zC N2 I2 R2)) (hst : st = As.reverse ++ .ref (g.2.1 + k) :: rest) (hn : As.length = n) (hw : (rest.map fun v => v.category).sum ≤ 8) (hR : M2.2.2.2.2.1.frames + 1 ≤ M.2.2.2.2.1.frames ∧ 8 + (M2.2.2.1 + 11) + M2.2.2.2.2.1.locals ≤ M.2.2.2.2.1.locals) (hcs : kc + M2.2.2.2.2.1.cells ≤ M.2.2.2.2.1.cells ∧ ks + M2.2.2.2.2.1.slots ≤ M.2.2.2.2.1.slots) (kk : ∀ L', X g M E Q (kc + M2.2.2.2.2.1.cells) (ks + M2.2.2.2.2.1.slots) (pc + 3) lo rest N2 I2 L' R2) : X g M E Q kc ks pc lo st N I L R :=
  x_callIN hd hnw hm hrn hi hy1 ct hst hn hw hR hcs (fun r N' I' L' R' h => by obtain ⟨rfl, rfl, rfl, rfl⟩ := h; exact kk L')
end ZB4
def zmok (J : zI) (m : Nat) : Prop := (∀ d, 1 ≤ d → d ≤ 10 → d ≠ 4 → d ≠ 5 → ∀ j, J (m + d) j = 0) ∧ (∀ j, j < 6 → J (m + 4) j = 5) ∧ (∀ j, j < 6 → J (m + 5) j = 2) ∧ J m 10 = 0 ∧ J m 11 = 50 ∧ J m 12 = 0
def zmor (R : zR) (m : Nat) : Prop := (∀ j, j < 10 → R m j = some (m + 1 + j)) ∧ (∀ j, 10 ≤ j → R m j = none) ∧ ∀ d, 1 ≤ d → d ≤ 10 → ∀ j, R (m + d) j = none
def zmA (J : zI) (m i : Nat) : zI := zrow (zrow J (m + 4) (zpre i (fun _ => 5) (fun _ => 0))) (m + 5) (zpre i (fun _ => 2) (fun _ => 0))
theorem zmA_s (J : zI) (m i : Nat) : zu (zu (zmA J m i) (m + 4) i 5) (m + 5) i 2 = zmA J m (i + 1) := by
  unfold zmA
  rw [← zpre_s i (fun _ => (5 : Int32)), ← zpre_s i (fun _ => (2 : Int32))]
  funext a j
  simp only [zu, zrow, upd]
  by_cases q1 : a = m + 5
  · subst q1
    by_cases z : j = i <;> simp [z, upd]
  · by_cases q2 : a = m + 4
    · subst q2
      by_cases z : j = i <;> simp [z, upd]
    · simp [q1, q2]
theorem zd11 {m k : Nat} (h : ¬ k < m) (h2 : k < m + 11) : k = m ∨ k = m + 1 ∨ k = m + 2 ∨ k = m + 3 ∨ k = m + 4 ∨ k = m + 5 ∨ k = m + 6 ∨ k = m + 7 ∨ k = m + 8 ∨ k = m + 9 ∨ k = m + 10 := by omega
theorem zvis_4 {m j : Nat} (hm : zMi m) (h : zvis (m + 4) j) : j < 6 := by rcases hm with rfl | rfl | rfl | rfl <;> exact h
theorem zvis_5 {m j : Nat} (hm : zMi m) (h : zvis (m + 5) j) : j < 6 := by rcases hm with rfl | rfl | rfl | rfl <;> exact h
theorem zvis_0 {m j : Nat} (hm : zMi m) (h : zvis m j) : j = 10 ∨ j = 11 ∨ j = 12 := by
  have h : j < 13 ∧ zrf 3 j = false := by rcases hm with rfl | rfl | rfl | rfl <;> exact h
  obtain ⟨h1, h2⟩ := h
  rcases (show j = 0 ∨ j = 1 ∨ j = 2 ∨ j = 3 ∨ j = 4 ∨ j = 5 ∨ j = 6 ∨ j = 7 ∨ j = 8 ∨ j = 9 ∨ 10 ≤ j by omega) with rfl | rfl | rfl | rfl | rfl | rfl | rfl | rfl | rfl | rfl | h3
  all_goals first | (exact absurd h2 (by decide)) | omega
/-- what the fresh objects hold -/
def zJ0 : zI := fun c j => if c = 5 then 5 else if c = 6 then 2 else if c = 19 then 5 else if c = 20 then 2 else if c = 44 then 5 else if c = 45 then 2 else if c = 1 then (if j = 11 then 50 else 0) else if c = 15 then (if j = 11 then 50 else 0) else if c = 14 then (if j = 5 then -6 else if j = 6 then -6 else 0) else if c = 26 then (if j = 0 then 4 else 0) else if c = 41 then (if j = 13 then 50 else 0) else 0
def zRn : zR := zRw none none
theorem z0_ne (I : zI) {k c : Nat} (h : c ≠ k) : z0 I k c = I c := by funext j; simp [z0, h]
theorem z0R_ne (R : zR) {k c : Nat} (h : c ≠ k) : z0R R k c = R c := by funext j; simp [z0R, h]
theorem zuR_ne (R : zR) {k j c : Nat} (v : Option Nat) (h : c ≠ k) : zuR R k j v c = R c := by funext i; simp [zuR, h]
theorem zmok_of {J : zI} {m : Nat} (hm : m = 1 ∨ m = 15) (h : ∀ c, m ≤ c → c ≤ m + 10 → J c = zJ0 c) : zmok J m := by
  have hd : ∀ d, d ≤ 10 → J (m + d) = zJ0 (m + d) := fun d hd => h _ (by omega) (by omega)
  refine ⟨fun d h1 h2 h3 h4 j => ?_, fun j _ => ?_, fun j _ => ?_, ?_, ?_, ?_⟩
  · rw [hd d h2]
    rcases (show d = 1 ∨ d = 2 ∨ d = 3 ∨ d = 6 ∨ d = 7 ∨ d = 8 ∨ d = 9 ∨ d = 10 by omega) with rfl | rfl | rfl | rfl | rfl | rfl | rfl | rfl <;> (rcases hm with rfl | rfl <;> simp [zJ0])
  · rw [hd 4 (by decide)]; rcases hm with rfl | rfl <;> simp [zJ0]
  · rw [hd 5 (by decide)]; rcases hm with rfl | rfl <;> simp [zJ0]
  · have e := hd 0 (by decide); rw [Nat.add_zero] at e; rw [e]; rcases hm with rfl | rfl <;> simp [zJ0]
  · have e := hd 0 (by decide); rw [Nat.add_zero] at e; rw [e]; rcases hm with rfl | rfl <;> simp [zJ0]
  · have e := hd 0 (by decide); rw [Nat.add_zero] at e; rw [e]; rcases hm with rfl | rfl <;> simp [zJ0]
theorem zmor_Rw {m : Nat} {q0 q1 : Option Nat} (hm : zMi m) : zmor (zRw q0 q1) m := by
  refine ⟨fun j hj => ?_, fun j hj => ?_, fun d h1 h2 j => ?_⟩
  · rcases (show j = 0 ∨ j = 1 ∨ j = 2 ∨ j = 3 ∨ j = 4 ∨ j = 5 ∨ j = 6 ∨ j = 7 ∨ j = 8 ∨ j = 9 by omega) with rfl | rfl | rfl | rfl | rfl | rfl | rfl | rfl | rfl | rfl <;> (rcases hm with rfl | rfl | rfl | rfl <;> rfl)
  · obtain ⟨t, rfl⟩ : ∃ t, j = t + 10 := ⟨j - 10, by omega⟩
    rcases hm with rfl | rfl | rfl | rfl <;> rfl
  · rcases (show d = 1 ∨ d = 2 ∨ d = 3 ∨ d = 4 ∨ d = 5 ∨ d = 6 ∨ d = 7 ∨ d = 8 ∨ d = 9 ∨ d = 10 by omega) with rfl | rfl | rfl | rfl | rfl | rfl | rfl | rfl | rfl | rfl <;> (rcases hm with rfl | rfl | rfl | rfl <;> rfl)
theorem zmor_cong {R R' : zR} {m : Nat} (h : ∀ c, m ≤ c → c ≤ m + 10 → R c = R' c) (h2 : zmor R' m) : zmor R m := by
  refine ⟨fun j hj => ?_, fun j hj => ?_, fun d h1 h3 j => ?_⟩
  · rw [h m (Nat.le_refl _) (by omega)]; exact h2.1 j hj
  · rw [h m (Nat.le_refl _) (by omega)]; exact h2.2.1 j hj
  · rw [h (m + d) (by omega) (by omega)]; exact h2.2.2 d h1 h3 j
theorem zsubJ {J : zI} {K a b lo hi : Nat} (h : ∀ c, a ≤ c → c ≤ b → J c = zJ0 c) (h1 : a ≤ lo) (h2 : hi ≤ b) (hK : K < lo) : ∀ c, lo ≤ c → c ≤ hi → z0 J K c = zJ0 c := fun c q1 q2 => (z0_ne J (by omega)).trans (h c (by omega) (by omega))
theorem zsubR {R : zR} {K a b lo hi : Nat} (h : ∀ c, a ≤ c → c ≤ b → R c = zRn c) (h1 : a ≤ lo) (h2 : hi ≤ b) (hK : K < lo) : ∀ c, lo ≤ c → c ≤ hi → z0R R K c = zRn c := fun c q1 q2 => (z0R_ne R (by omega)).trans (h c (by omega) (by omega))
theorem zsubU {R : zR} {K j lo hi : Nat} {v : Option Nat} (h : ∀ c, lo ≤ c → c ≤ hi → R c = zRn c) (hK : K < lo) : ∀ c, lo ≤ c → c ≤ hi → zuR R K j v c = zRn c := fun c q1 q2 => (zuR_ne R v (by omega)).trans (h c q1 q2)
theorem zsubN {R : zR} {a b lo hi : Nat} (h : ∀ c, a ≤ c → c ≤ b → R c = zRn c) (h1 : a ≤ lo) (h2 : hi ≤ b) : ∀ c, lo ≤ c → c ≤ hi → R c = zRn c := fun c q1 q2 => h c (by omega) (by omega)

theorem ct_X3_init {g : zG} {J : zI} {L : zL} {R : zR} {m : Nat} (hm : zMi m) (hJ : zmok J m) (hR : zmor R m) : Ct g yX3_init mX3_init [.ref (g.2.1 + m)] (m + 1) (z0 J m) L (z0R R m) (zC (m + 11) J R) := by
  refine Ct_of (lo0 := [some (.ref (g.2.1 + m)), none]) rfl rfl rfl rfl (Nat.le_of_ble_eq_true rfl) (fun E => ?_)
  refine x_aload_n dX3_init_0 rfl ?_
  refine x_obj (M := mX3_init) dX3_init_1 ml_X3_3 o_im o_cd (Nat.le_of_ble_eq_true rfl) (Nat.le_of_ble_eq_true rfl) (Nat.le_of_ble_eq_true rfl) ?_
  refine x_aload_n dX3_init_4 rfl ?_
  refine x_bipush (v := 6) dX3_init_5 (by decide) ?_
  refine x_newI (n0 := 6) dX3_init_7 ar_int (zM_t1 hm) rfl (Nat.le_of_ble_eq_true rfl) (Nat.le_of_ble_eq_true rfl) ?_
  refine x_pc (pc2 := 9) rfl ?_
  refine x_putF rfl dX3_init_9 fq_X3_9 (by omega) (zM_t0 hm) ?_
  refine x_aload_n dX3_init_12 rfl ?_
  refine x_bipush (v := 6) dX3_init_13 (by decide) ?_
  refine x_newI (n0 := 6) dX3_init_15 ar_int (zM_t2 hm) rfl (Nat.le_of_ble_eq_true rfl) (Nat.le_of_ble_eq_true rfl) ?_
  refine x_putF rfl dX3_init_17 fq_X3_15 (by omega) (zM_t0 hm) ?_
  refine x_aload_n dX3_init_20 rfl ?_
  refine x_pc (pc2 := 21) rfl ?_
  refine x_bipush (v := 6) dX3_init_21 (by decide) ?_
  refine x_newI (n0 := 6) dX3_init_23 ar_int (zM_t3 hm) rfl (Nat.le_of_ble_eq_true rfl) (Nat.le_of_ble_eq_true rfl) ?_
  refine x_putF rfl dX3_init_25 fq_X3_18 (by omega) (zM_t0 hm) ?_
  refine x_aload_n dX3_init_28 rfl ?_
  refine x_bipush (v := 6) dX3_init_29 (by decide) ?_
  refine x_newI (n0 := 6) dX3_init_31 ar_int (zM_t4 hm) rfl (Nat.le_of_ble_eq_true rfl) (Nat.le_of_ble_eq_true rfl) ?_
  refine x_pc (pc2 := 33) rfl ?_
  refine x_putF rfl dX3_init_33 fq_X3_21 (by omega) (zM_t0 hm) ?_
  refine x_aload_n dX3_init_36 rfl ?_
  refine x_bipush (v := 6) dX3_init_37 (by decide) ?_
  refine x_newI (n0 := 6) dX3_init_39 ar_int (zM_t5 hm) rfl (Nat.le_of_ble_eq_true rfl) (Nat.le_of_ble_eq_true rfl) ?_
  refine x_putF rfl dX3_init_41 fq_X3_24 (by omega) (zM_t0 hm) ?_
  refine x_aload_n dX3_init_44 rfl ?_
  refine x_pc (pc2 := 45) rfl ?_
  refine x_bipush (v := 8) dX3_init_45 (by decide) ?_
  refine x_newI (n0 := 8) dX3_init_47 ar_int (zM_t6 hm) rfl (Nat.le_of_ble_eq_true rfl) (Nat.le_of_ble_eq_true rfl) ?_
  refine x_putF rfl dX3_init_49 fq_X3_27 (by omega) (zM_t0 hm) ?_
  refine x_aload_n dX3_init_52 rfl ?_
  refine x_bipush (v := 8) dX3_init_53 (by decide) ?_
  refine x_newI (n0 := 8) dX3_init_55 ar_int (zM_t7 hm) rfl (Nat.le_of_ble_eq_true rfl) (Nat.le_of_ble_eq_true rfl) ?_
  refine x_pc (pc2 := 57) rfl ?_
  refine x_putF rfl dX3_init_57 fq_X3_30 (by omega) (zM_t0 hm) ?_
  refine x_aload_n dX3_init_60 rfl ?_
  refine x_bipush (v := 10) dX3_init_61 (by decide) ?_
  refine x_newI (n0 := 10) dX3_init_63 ar_int (zM_t8 hm) rfl (Nat.le_of_ble_eq_true rfl) (Nat.le_of_ble_eq_true rfl) ?_
  refine x_putF rfl dX3_init_65 fq_X3_33 (by omega) (zM_t0 hm) ?_
  refine x_aload_n dX3_init_68 rfl ?_
  refine x_pc (pc2 := 69) rfl ?_
  refine x_bipush (v := 8) dX3_init_69 (by decide) ?_
  refine x_newI (n0 := 8) dX3_init_71 ar_int (zM_t9 hm) rfl (Nat.le_of_ble_eq_true rfl) (Nat.le_of_ble_eq_true rfl) ?_
  refine x_putF rfl dX3_init_73 fq_X3_36 (by omega) (zM_t0 hm) ?_
  refine x_aload_n dX3_init_76 rfl ?_
  refine x_bipush (v := 8) dX3_init_77 (by decide) ?_
  refine x_newZ (n0 := 8) dX3_init_79 ar_bool (zM_t10 hm) rfl (Nat.le_of_ble_eq_true rfl) (Nat.le_of_ble_eq_true rfl) ?_
  refine x_pc (pc2 := 81) rfl ?_
  refine x_putF rfl dX3_init_81 fq_X3_39 (by omega) (zM_t0 hm) ?_
  refine x_aload_n dX3_init_84 rfl ?_
  refine x_iconst (v := 0) dX3_init_85 (by decide) ?_
  refine x_putI dX3_init_86 fp_X3_43 (by omega) (zM_t0 hm) ?_
  refine x_aload_n dX3_init_89 rfl ?_
  refine x_bipush (v := 50) dX3_init_90 (by decide) ?_
  refine x_pc (pc2 := 92) rfl ?_
  refine x_putI dX3_init_92 fp_X3_47 (by omega) (zM_t0 hm) ?_
  refine x_aload_n dX3_init_95 rfl ?_
  refine x_iconst (v := 0) dX3_init_96 (by decide) ?_
  refine x_putI dX3_init_97 fp_X3_50 (by omega) (zM_t0 hm) ?_
  refine x_sameW (I' := zmA J m 0) (R' := R) (fun k hk j hv => ?_) (fun k hk j => ?_) ?_
  · by_cases h : k < m
    · simp [zmA, zrow, z0, zu, show ¬ k = m by omega, show ¬ k = m + 1 by omega, show ¬ k = m + 2 by omega, show ¬ k = m + 3 by omega, show ¬ k = m + 4 by omega, show ¬ k = m + 5 by omega, show ¬ k = m + 6 by omega, show ¬ k = m + 7 by omega, show ¬ k = m + 8 by omega, show ¬ k = m + 9 by omega, show ¬ k = m + 10 by omega]
    · rcases zd11 h (by omega) with rfl | rfl | rfl | rfl | rfl | rfl | rfl | rfl | rfl | rfl | rfl
      · rcases zvis_0 hm hv with rfl | rfl | rfl
        · simp [zmA, zrow, z0, zu, hJ.2.2.2.1]
        · simp [zmA, zrow, z0, zu, hJ.2.2.2.2.1]
        · simp [zmA, zrow, z0, zu, hJ.2.2.2.2.2]
      all_goals first | (simp [zmA, zrow, z0, zu, zpre]; done) | (simp [zmA, zrow, z0, zu, zpre]; exact hJ.1 _ (by decide) (by decide) (by decide) (by decide) j)
  · by_cases h : k < m
    · simp [z0R, zuR, show ¬ k = m by omega, show ¬ k = m + 1 by omega, show ¬ k = m + 2 by omega, show ¬ k = m + 3 by omega, show ¬ k = m + 4 by omega, show ¬ k = m + 5 by omega, show ¬ k = m + 6 by omega, show ¬ k = m + 7 by omega, show ¬ k = m + 8 by omega, show ¬ k = m + 9 by omega, show ¬ k = m + 10 by omega]
    · rcases zd11 h (by omega) with rfl | rfl | rfl | rfl | rfl | rfl | rfl | rfl | rfl | rfl | rfl
      · rcases (show j = 0 ∨ j = 1 ∨ j = 2 ∨ j = 3 ∨ j = 4 ∨ j = 5 ∨ j = 6 ∨ j = 7 ∨ j = 8 ∨ j = 9 ∨ 10 ≤ j by omega) with rfl | rfl | rfl | rfl | rfl | rfl | rfl | rfl | rfl | rfl | h3
        all_goals first | (rw [hR.2.1 _ (by assumption)]; simp [z0R, zuR, show ¬ j = 0 by omega, show ¬ j = 1 by omega, show ¬ j = 2 by omega, show ¬ j = 3 by omega, show ¬ j = 4 by omega, show ¬ j = 5 by omega, show ¬ j = 6 by omega, show ¬ j = 7 by omega, show ¬ j = 8 by omega, show ¬ j = 9 by omega]; done) | (rw [hR.1 _ (by decide)]; simp [z0R, zuR] <;> omega)
      all_goals (rw [hR.2.2 _ (by decide) (by decide)]; simp [z0R, zuR])
  refine x_iconst (v := 0) dX3_init_100 (by decide) ?_
  refine x_istore_n (lo2 := [_, _]) dX3_init_101 (by decide) rfl rfl ?_
  refine x_loop (inv := fun i => True) (fun i => [some (.ref (g.2.1 + m)), some (.int (nI i))]) (fun i => zmA J m i) (fun i => (z0L (z0L (z0L (z0L (z0L (z0L (z0L (z0L (z0L (z0L L (m + 1)) (m + 2)) (m + 3)) (m + 4)) (m + 5)) (m + 6)) (m + 7)) (m + 8)) (m + 9)) (m + 10))) 0 6 (by omega) (by trivial) (by rfl) (by rfl) (by rfl) (fun i hloi hhii hinvi Ki => ?_) (fun hinvi => ?_)
  · skip
    refine x_iload_n dX3_init_102 rfl ?_
    refine x_bipush (v := 6) dX3_init_103 (by decide) ?_
    refine x_icmp_ge (tgt := 128) dX3_init_105 (by decide) (fun h105 => ?_) (fun h105 => ?_)
    · skip
      exact absurd h105 (nI_ge (b := 6) hhii (by decide))
    · skip
      refine x_aload_n dX3_init_108 rfl ?_
      refine x_getR dX3_init_109 fl_X3_21 (by omega) (zM_t0 hm) rfl (hR.1 3 (by decide)) ?_
      refine x_iload_n dX3_init_112 rfl ?_
      refine x_iconst (v := 5) dX3_init_113 (by decide) ?_
      refine x_iast dX3_init_114 (by omega) (zM_t4 hm) rfl (by omega) ?_
      refine x_pc (pc2 := 115) rfl ?_
      refine x_aload_n dX3_init_115 rfl ?_
      refine x_getR dX3_init_116 fl_X3_24 (by omega) (zM_t0 hm) rfl (hR.1 4 (by decide)) ?_
      refine x_iload_n dX3_init_119 rfl ?_
      refine x_iconst (v := 2) dX3_init_120 (by decide) ?_
      refine x_iast dX3_init_121 (by omega) (zM_t5 hm) rfl (by omega) ?_
      refine x_iincN (lo2 := [_, _]) dX3_init_122 rfl rfl rfl ?_
      refine x_pc (pc2 := 125) rfl ?_
      refine x_goto (tgt := 102) dX3_init_125 (by decide) ?_
      exact x_eq (by rfl) (by exact zmA_s J m i) (by rfl) (Ki (by trivial))
  · skip
    refine x_iload_n dX3_init_102 rfl ?_
    refine x_bipush (v := 6) dX3_init_103 (by decide) ?_
    refine x_icmp_ge (tgt := 128) dX3_init_105 (by decide) (fun h105 => ?_) (fun h105 => ?_)
    · skip
      refine x_sameV (I' := J) (fun k hk j hv => ?_) ?_
      · by_cases h4 : k = m + 4
        · subst h4
          have hj := zvis_4 hm hv
          simp [zmA, zrow, zpre, hj, hJ.2.1 j hj]
        · by_cases h5 : k = m + 5
          · subst h5
            have hj := zvis_5 hm hv
            simp [zmA, zrow, zpre, hj, hJ.2.2.1 j hj]
          · simp [zmA, zrow, h4, h5]
      exact x_vret dX3_init_128 rfl (Nat.le_of_ble_eq_true rfl) (Nat.le_of_ble_eq_true rfl) (by exact ⟨rfl, rfl, rfl, rfl⟩)
    · skip
      exact absurd (nI_le (b := 6) (Nat.le_refl 6) (by decide)) h105
theorem ct_X5_init {g : zG} {J : zI} {L : zL} {R : zR} (hJ : ∀ c, 12 ≤ c → c ≤ 13 → J c = zJ0 c) (hR : ∀ c, 12 ≤ c → c ≤ 13 → R c = zRn c) : Ct g yX5_init mX5_init [.ref (g.2.1 + 12)] 13 (z0 J 12) L (z0R R 12) (zC 14 J R) := by
  refine Ct_of (lo0 := [some (.ref (g.2.1 + 12))]) rfl rfl rfl rfl (Nat.le_of_ble_eq_true rfl) (fun E => ?_)
  refine x_aload_n dX5_init_0 rfl ?_
  refine x_obj (M := mX5_init) dX5_init_1 ml_X5_3 o_im o_cd (Nat.le_of_ble_eq_true rfl) (Nat.le_of_ble_eq_true rfl) (Nat.le_of_ble_eq_true rfl) ?_
  refine x_aload_n dX5_init_4 rfl ?_
  refine x_bipush (v := 60) dX5_init_5 (by decide) ?_
  refine x_newI (n0 := 60) dX5_init_7 ar_int rfl rfl (Nat.le_of_ble_eq_true rfl) (Nat.le_of_ble_eq_true rfl) ?_
  refine x_pc (pc2 := 9) rfl ?_
  refine x_putF rfl dX5_init_9 fq_X5_9 (by decide) rfl ?_
  refine x_aload_n dX5_init_12 rfl ?_
  refine x_iconst (v := 0) dX5_init_13 (by decide) ?_
  refine x_putI dX5_init_14 fp_X5_15 (by decide) rfl ?_
  refine x_sameW (I' := J) (R' := R) (fun k hk j hv => ?_) (fun k hk j => ?_) ?_
  · by_cases h : k < 12
    · have ne : k ≠ 12 ∧ k ≠ 13 := by omega
      simp [z0, zu, ne]
    · rcases (show k = 12 ∨ k = 13 by omega) with rfl | rfl
      · obtain ⟨h1, h2⟩ : j < 2 ∧ zrf 5 j = false := hv
        rcases (show j = 0 ∨ j = 1 by omega) with rfl | rfl
        all_goals first | (exact absurd h2 (by decide)) | (rw [hJ _ (by decide) (by decide)]; simp [z0, zu, zJ0])
      all_goals first | (simp [z0, zu]; done) | (rw [hJ _ (by decide) (by decide)]; simp [z0, zu, zJ0])
  · by_cases h : k < 12
    · have ne : k ≠ 12 ∧ k ≠ 13 := by omega
      simp [z0R, zuR, ne]
    · rcases (show k = 12 ∨ k = 13 by omega) with rfl | rfl
      · rcases (show j = 0 ∨ 1 ≤ j by omega) with rfl | h3
        all_goals first | (rw [hR _ (by decide) (by decide)]; simp [z0R, zuR]; rfl) | (rw [hR _ (by decide) (by decide)]; simp [z0R, zuR]; done) | (obtain ⟨t, rfl⟩ : ∃ t, j = t + 1 := ⟨j - 1, by omega⟩; rw [hR _ (by decide) (by decide)]; simp [z0R, zuR]; rfl) | (obtain ⟨t, rfl⟩ : ∃ t, j = t + 1 := ⟨j - 1, by omega⟩; rw [hR _ (by decide) (by decide)]; simp [z0R, zuR]; done)
      all_goals first | (simp [z0R, zuR]; done) | (rw [hR _ (by decide) (by decide)]; simp [z0R, zuR]; rfl)
  exact x_vret dX5_init_17 rfl (Nat.le_of_ble_eq_true rfl) (Nat.le_of_ble_eq_true rfl) (by exact ⟨rfl, rfl, rfl, rfl⟩)
theorem ct_X0_init {g : zG} {J : zI} {L : zL} {R : zR} (hJ : ∀ c, 26 ≤ c → c ≤ 26 → J c = zJ0 c) (hR : ∀ c, 26 ≤ c → c ≤ 26 → R c = zRn c) : Ct g yX0_init mX0_init [.ref (g.2.1 + 26)] 27 (z0 J 26) L (z0R R 26) (zC 27 J R) := by
  refine Ct_of (lo0 := [some (.ref (g.2.1 + 26))]) rfl rfl rfl rfl (Nat.le_of_ble_eq_true rfl) (fun E => ?_)
  refine x_aload_n dX0_init_0 rfl ?_
  refine x_obj (M := mX0_init) dX0_init_1 ml_X0_1 o_im o_cd (Nat.le_of_ble_eq_true rfl) (Nat.le_of_ble_eq_true rfl) (Nat.le_of_ble_eq_true rfl) ?_
  refine x_aload_n dX0_init_4 rfl ?_
  refine x_iconst (v := 4) dX0_init_5 (by decide) ?_
  refine x_putI dX0_init_6 fp_X0_9 (by decide) rfl ?_
  refine x_pc (pc2 := 9) rfl ?_
  refine x_aload_n dX0_init_9 rfl ?_
  refine x_iconst (v := 0) dX0_init_10 (by decide) ?_
  refine x_putI dX0_init_11 fp_X0_13 (by decide) rfl ?_
  refine x_aload_n dX0_init_14 rfl ?_
  refine x_iconst (v := 0) dX0_init_15 (by decide) ?_
  refine x_putI dX0_init_16 fp_X0_16 (by decide) rfl ?_
  refine x_pc (pc2 := 19) rfl ?_
  refine x_sameW (I' := J) (R' := R) (fun k hk j hv => ?_) (fun k hk j => ?_) ?_
  · by_cases h : k < 26
    · have ne : k ≠ 26 := by omega
      simp [z0, zu, ne]
    · obtain rfl : k = 26 := by omega
      · obtain ⟨h1, h2⟩ : j < 3 ∧ zrf 0 j = false := hv
        rcases (show j = 0 ∨ j = 1 ∨ j = 2 by omega) with rfl | rfl | rfl
        all_goals first | (exact absurd h2 (by decide)) | (rw [hJ _ (by decide) (by decide)]; simp [z0, zu, zJ0])
      all_goals first | (simp [z0, zu]; done) | (rw [hJ _ (by decide) (by decide)]; simp [z0, zu, zJ0])
  · by_cases h : k < 26
    · have ne : k ≠ 26 := by omega
      simp [z0R, zuR, ne]
    · obtain rfl : k = 26 := by omega
      · rw [hR _ (by decide) (by decide)]; simp [z0R, zuR]; rfl
      all_goals first | (simp [z0R, zuR]; done) | (rw [hR _ (by decide) (by decide)]; simp [z0R, zuR]; rfl)
  exact x_vret dX0_init_19 rfl (Nat.le_of_ble_eq_true rfl) (Nat.le_of_ble_eq_true rfl) (by exact ⟨rfl, rfl, rfl, rfl⟩)
theorem ct_X1_init {g : zG} {J : zI} {L : zL} {R : zR} (hJ : ∀ c, 14 ≤ c → c ≤ 26 → J c = zJ0 c) (hR : ∀ c, 14 ≤ c → c ≤ 26 → R c = zRn c) : Ct g yX1_init mX1_init [.ref (g.2.1 + 14)] 15 (z0 J 14) L (z0R R 14) (zC 27 J R) := by
  refine Ct_of (lo0 := [some (.ref (g.2.1 + 14))]) rfl rfl rfl rfl (Nat.le_of_ble_eq_true rfl) (fun E => ?_)
  refine x_aload_n dX1_init_0 rfl ?_
  refine x_obj (M := mX1_init) dX1_init_1 ml_X1_3 o_im o_cd (Nat.le_of_ble_eq_true rfl) (Nat.le_of_ble_eq_true rfl) (Nat.le_of_ble_eq_true rfl) ?_
  refine x_aload_n dX1_init_4 rfl ?_
  refine x_new dX1_init_5 nw_X1_9 rfl (Nat.le_of_ble_eq_true rfl) (Nat.le_of_ble_eq_true rfl) ?_
  refine x_dup dX1_init_8 rfl ?_
  refine x_pc (pc2 := 9) rfl ?_
  refine x_callIc dX1_init_9 ml_X1_11 mt_X3_init rfl im_X3_init rfl (ct_X3_init (m := 15) (Or.inr (Or.inl rfl)) (zmok_of (Or.inr rfl) (zsubJ hJ (by decide) (by decide) (by decide))) (zmor_cong (zsubR hR (by decide) (by decide) (by decide)) (zmor_Rw (Or.inr (Or.inl rfl))))) rfl rfl (Nat.le_of_ble_eq_true rfl) ⟨(Nat.le_of_ble_eq_true rfl), (Nat.le_of_ble_eq_true rfl)⟩ ⟨(Nat.le_of_ble_eq_true rfl), (Nat.le_of_ble_eq_true rfl)⟩ (fun L9 => ?_)
  refine x_putF rfl dX1_init_12 fq_X1_12 (by decide) rfl ?_
  refine x_aload_n dX1_init_15 rfl ?_
  refine x_new dX1_init_16 nw_X1_18 rfl (Nat.le_of_ble_eq_true rfl) (Nat.le_of_ble_eq_true rfl) ?_
  refine x_dup dX1_init_19 rfl ?_
  refine x_callINc dX1_init_20 nn_X1_20 mt_X0_init rfl im_X0_init rfl (ct_X0_init (zsubJ hJ (by decide) (by decide) (by decide)) (zsubU (zsubR hR (by decide) (by decide) (by decide)) (by decide))) rfl rfl (Nat.le_of_ble_eq_true rfl) ⟨(Nat.le_of_ble_eq_true rfl), (Nat.le_of_ble_eq_true rfl)⟩ ⟨(Nat.le_of_ble_eq_true rfl), (Nat.le_of_ble_eq_true rfl)⟩ (fun L20 => ?_)
  refine x_pc (pc2 := 23) rfl ?_
  refine x_putF rfl dX1_init_23 fq_X1_21 (by decide) rfl ?_
  refine x_aload_n dX1_init_26 rfl ?_
  refine x_iconst (v := 0) dX1_init_27 (by decide) ?_
  refine x_putI dX1_init_28 fp_X1_25 (by decide) rfl ?_
  refine x_aload_n dX1_init_31 rfl ?_
  refine x_iconst (v := 0) dX1_init_32 (by decide) ?_
  refine x_pc (pc2 := 33) rfl ?_
  refine x_putI dX1_init_33 fp_X1_29 (by decide) rfl ?_
  refine x_aload_n dX1_init_36 rfl ?_
  refine x_iconst (v := 0) dX1_init_37 (by decide) ?_
  refine x_putI dX1_init_38 fp_X1_32 (by decide) rfl ?_
  refine x_aload_n dX1_init_41 rfl ?_
  refine x_bipush (v := (-6)) dX1_init_42 (by decide) ?_
  refine x_pc (pc2 := 44) rfl ?_
  refine x_putI dX1_init_44 fp_X1_35 (by decide) rfl ?_
  refine x_aload_n dX1_init_47 rfl ?_
  refine x_bipush (v := (-6)) dX1_init_48 (by decide) ?_
  refine x_putI dX1_init_50 fp_X1_38 (by decide) rfl ?_
  refine x_sameW (I' := J) (R' := R) (fun k hk j hv => ?_) (fun k hk j => ?_) ?_
  · by_cases h : k < 14
    · have ne : k ≠ 14 ∧ k ≠ 15 ∧ k ≠ 16 ∧ k ≠ 17 ∧ k ≠ 18 ∧ k ≠ 19 ∧ k ≠ 20 ∧ k ≠ 21 ∧ k ≠ 22 ∧ k ≠ 23 ∧ k ≠ 24 ∧ k ≠ 25 ∧ k ≠ 26 := by omega
      simp [z0, zu, ne]
    · rcases (show k = 14 ∨ k = 15 ∨ k = 16 ∨ k = 17 ∨ k = 18 ∨ k = 19 ∨ k = 20 ∨ k = 21 ∨ k = 22 ∨ k = 23 ∨ k = 24 ∨ k = 25 ∨ k = 26 by omega) with rfl | rfl | rfl | rfl | rfl | rfl | rfl | rfl | rfl | rfl | rfl | rfl | rfl
      · obtain ⟨h1, h2⟩ : j < 7 ∧ zrf 1 j = false := hv
        rcases (show j = 0 ∨ j = 1 ∨ j = 2 ∨ j = 3 ∨ j = 4 ∨ j = 5 ∨ j = 6 by omega) with rfl | rfl | rfl | rfl | rfl | rfl | rfl
        all_goals first | (exact absurd h2 (by decide)) | (rw [hJ _ (by decide) (by decide)]; simp [z0, zu, zJ0])
      all_goals first | (simp [z0, zu]; done) | (rw [hJ _ (by decide) (by decide)]; simp [z0, zu, zJ0])
  · by_cases h : k < 14
    · have ne : k ≠ 14 ∧ k ≠ 15 ∧ k ≠ 16 ∧ k ≠ 17 ∧ k ≠ 18 ∧ k ≠ 19 ∧ k ≠ 20 ∧ k ≠ 21 ∧ k ≠ 22 ∧ k ≠ 23 ∧ k ≠ 24 ∧ k ≠ 25 ∧ k ≠ 26 := by omega
      simp [z0R, zuR, ne]
    · rcases (show k = 14 ∨ k = 15 ∨ k = 16 ∨ k = 17 ∨ k = 18 ∨ k = 19 ∨ k = 20 ∨ k = 21 ∨ k = 22 ∨ k = 23 ∨ k = 24 ∨ k = 25 ∨ k = 26 by omega) with rfl | rfl | rfl | rfl | rfl | rfl | rfl | rfl | rfl | rfl | rfl | rfl | rfl
      · rcases (show j = 0 ∨ j = 1 ∨ 2 ≤ j by omega) with rfl | rfl | h3
        all_goals first | (rw [hR _ (by decide) (by decide)]; simp [z0R, zuR]; rfl) | (rw [hR _ (by decide) (by decide)]; simp [z0R, zuR]; done) | (obtain ⟨t, rfl⟩ : ∃ t, j = t + 2 := ⟨j - 2, by omega⟩; rw [hR _ (by decide) (by decide)]; simp [z0R, zuR]; rfl) | (obtain ⟨t, rfl⟩ : ∃ t, j = t + 2 := ⟨j - 2, by omega⟩; rw [hR _ (by decide) (by decide)]; simp [z0R, zuR]; done)
      all_goals first | (simp [z0R, zuR]; done) | (rw [hR _ (by decide) (by decide)]; simp [z0R, zuR]; rfl)
  exact x_vret dX1_init_53 rfl (Nat.le_of_ble_eq_true rfl) (Nat.le_of_ble_eq_true rfl) (by exact ⟨rfl, rfl, rfl, rfl⟩)
theorem ct_X6_init_27 {g : zG} {J : zI} {L : zL} {R : zR} (hJ : ∀ c, 27 ≤ c → c ≤ 28 → J c = zJ0 c) (hR : ∀ c, 27 ≤ c → c ≤ 28 → R c = zRn c) : Ct g yX6_init mX6_init [.ref (g.2.1 + 27)] 28 (z0 J 27) L (z0R R 27) (zC 29 J R) := by
  refine Ct_of (lo0 := [some (.ref (g.2.1 + 27))]) rfl rfl rfl rfl (Nat.le_of_ble_eq_true rfl) (fun E => ?_)
  refine x_aload_n dX6_init_0 rfl ?_
  refine x_obj (M := mX6_init) dX6_init_1 ml_X6_3 o_im o_cd (Nat.le_of_ble_eq_true rfl) (Nat.le_of_ble_eq_true rfl) (Nat.le_of_ble_eq_true rfl) ?_
  refine x_aload_n dX6_init_4 rfl ?_
  refine x_bipush (v := 100) dX6_init_5 (by decide) ?_
  refine x_newI (n0 := 100) dX6_init_7 ar_int rfl rfl (Nat.le_of_ble_eq_true rfl) (Nat.le_of_ble_eq_true rfl) ?_
  refine x_pc (pc2 := 9) rfl ?_
  refine x_putF rfl dX6_init_9 fq_X6_9 (by decide) rfl ?_
  refine x_sameW (I' := J) (R' := R) (fun k hk j hv => ?_) (fun k hk j => ?_) ?_
  · by_cases h : k < 27
    · have ne : k ≠ 27 ∧ k ≠ 28 := by omega
      simp [z0, zu, ne]
    · rcases (show k = 27 ∨ k = 28 by omega) with rfl | rfl
      · obtain ⟨h1, h2⟩ : j < 1 ∧ zrf 6 j = false := hv
        rcases (show j = 0 by omega) with rfl
        all_goals first | (exact absurd h2 (by decide)) | (rw [hJ _ (by decide) (by decide)]; simp [z0, zu, zJ0])
      all_goals first | (simp [z0, zu]; done) | (rw [hJ _ (by decide) (by decide)]; simp [z0, zu, zJ0])
  · by_cases h : k < 27
    · have ne : k ≠ 27 ∧ k ≠ 28 := by omega
      simp [z0R, zuR, ne]
    · rcases (show k = 27 ∨ k = 28 by omega) with rfl | rfl
      · rcases (show j = 0 ∨ 1 ≤ j by omega) with rfl | h3
        all_goals first | (rw [hR _ (by decide) (by decide)]; simp [z0R, zuR]; rfl) | (rw [hR _ (by decide) (by decide)]; simp [z0R, zuR]; done) | (obtain ⟨t, rfl⟩ : ∃ t, j = t + 1 := ⟨j - 1, by omega⟩; rw [hR _ (by decide) (by decide)]; simp [z0R, zuR]; rfl) | (obtain ⟨t, rfl⟩ : ∃ t, j = t + 1 := ⟨j - 1, by omega⟩; rw [hR _ (by decide) (by decide)]; simp [z0R, zuR]; done)
      all_goals first | (simp [z0R, zuR]; done) | (rw [hR _ (by decide) (by decide)]; simp [z0R, zuR]; rfl)
  exact x_vret dX6_init_12 rfl (Nat.le_of_ble_eq_true rfl) (Nat.le_of_ble_eq_true rfl) (by exact ⟨rfl, rfl, rfl, rfl⟩)
theorem ct_X6_init_30 {g : zG} {J : zI} {L : zL} {R : zR} (hJ : ∀ c, 30 ≤ c → c ≤ 31 → J c = zJ0 c) (hR : ∀ c, 30 ≤ c → c ≤ 31 → R c = zRn c) : Ct g yX6_init mX6_init [.ref (g.2.1 + 30)] 31 (z0 J 30) L (z0R R 30) (zC 32 J R) := by
  refine Ct_of (lo0 := [some (.ref (g.2.1 + 30))]) rfl rfl rfl rfl (Nat.le_of_ble_eq_true rfl) (fun E => ?_)
  refine x_aload_n dX6_init_0 rfl ?_
  refine x_obj (M := mX6_init) dX6_init_1 ml_X6_3 o_im o_cd (Nat.le_of_ble_eq_true rfl) (Nat.le_of_ble_eq_true rfl) (Nat.le_of_ble_eq_true rfl) ?_
  refine x_aload_n dX6_init_4 rfl ?_
  refine x_bipush (v := 100) dX6_init_5 (by decide) ?_
  refine x_newI (n0 := 100) dX6_init_7 ar_int rfl rfl (Nat.le_of_ble_eq_true rfl) (Nat.le_of_ble_eq_true rfl) ?_
  refine x_pc (pc2 := 9) rfl ?_
  refine x_putF rfl dX6_init_9 fq_X6_9 (by decide) rfl ?_
  refine x_sameW (I' := J) (R' := R) (fun k hk j hv => ?_) (fun k hk j => ?_) ?_
  · by_cases h : k < 30
    · have ne : k ≠ 30 ∧ k ≠ 31 := by omega
      simp [z0, zu, ne]
    · rcases (show k = 30 ∨ k = 31 by omega) with rfl | rfl
      · obtain ⟨h1, h2⟩ : j < 1 ∧ zrf 6 j = false := hv
        rcases (show j = 0 by omega) with rfl
        all_goals first | (exact absurd h2 (by decide)) | (rw [hJ _ (by decide) (by decide)]; simp [z0, zu, zJ0])
      all_goals first | (simp [z0, zu]; done) | (rw [hJ _ (by decide) (by decide)]; simp [z0, zu, zJ0])
  · by_cases h : k < 30
    · have ne : k ≠ 30 ∧ k ≠ 31 := by omega
      simp [z0R, zuR, ne]
    · rcases (show k = 30 ∨ k = 31 by omega) with rfl | rfl
      · rcases (show j = 0 ∨ 1 ≤ j by omega) with rfl | h3
        all_goals first | (rw [hR _ (by decide) (by decide)]; simp [z0R, zuR]; rfl) | (rw [hR _ (by decide) (by decide)]; simp [z0R, zuR]; done) | (obtain ⟨t, rfl⟩ : ∃ t, j = t + 1 := ⟨j - 1, by omega⟩; rw [hR _ (by decide) (by decide)]; simp [z0R, zuR]; rfl) | (obtain ⟨t, rfl⟩ : ∃ t, j = t + 1 := ⟨j - 1, by omega⟩; rw [hR _ (by decide) (by decide)]; simp [z0R, zuR]; done)
      all_goals first | (simp [z0R, zuR]; done) | (rw [hR _ (by decide) (by decide)]; simp [z0R, zuR]; rfl)
  exact x_vret dX6_init_12 rfl (Nat.le_of_ble_eq_true rfl) (Nat.le_of_ble_eq_true rfl) (by exact ⟨rfl, rfl, rfl, rfl⟩)
theorem ct_X4_init {g : zG} {J : zI} {L : zL} {R : zR} (hJ : ∀ c, 29 ≤ c → c ≤ 33 → J c = zJ0 c) (hR : ∀ c, 29 ≤ c → c ≤ 33 → R c = zRn c) : Ct g yX4_init mX4_init [.ref (g.2.1 + 29)] 30 (z0 J 29) L (z0R R 29) (zC 34 J R) := by
  refine Ct_of (lo0 := [some (.ref (g.2.1 + 29))]) rfl rfl rfl rfl (Nat.le_of_ble_eq_true rfl) (fun E => ?_)
  refine x_aload_n dX4_init_0 rfl ?_
  refine x_obj (M := mX4_init) dX4_init_1 ml_X4_3 o_im o_cd (Nat.le_of_ble_eq_true rfl) (Nat.le_of_ble_eq_true rfl) (Nat.le_of_ble_eq_true rfl) ?_
  refine x_aload_n dX4_init_4 rfl ?_
  refine x_new dX4_init_5 nw_X4_9 rfl (Nat.le_of_ble_eq_true rfl) (Nat.le_of_ble_eq_true rfl) ?_
  refine x_dup dX4_init_8 rfl ?_
  refine x_pc (pc2 := 9) rfl ?_
  refine x_callINc dX4_init_9 nn_X4_11 mt_X6_init rfl im_X6_init rfl (ct_X6_init_30 (zsubJ hJ (by decide) (by decide) (by decide)) (zsubR hR (by decide) (by decide) (by decide))) rfl rfl (Nat.le_of_ble_eq_true rfl) ⟨(Nat.le_of_ble_eq_true rfl), (Nat.le_of_ble_eq_true rfl)⟩ ⟨(Nat.le_of_ble_eq_true rfl), (Nat.le_of_ble_eq_true rfl)⟩ (fun L9 => ?_)
  refine x_putF rfl dX4_init_12 fq_X4_12 (by decide) rfl ?_
  refine x_aload_n dX4_init_15 rfl ?_
  refine x_bipush (v := 6) dX4_init_16 (by decide) ?_
  refine x_newI (n0 := 6) dX4_init_18 ar_int rfl rfl (Nat.le_of_ble_eq_true rfl) (Nat.le_of_ble_eq_true rfl) ?_
  refine x_putF rfl dX4_init_20 fq_X4_18 (by decide) rfl ?_
  refine x_pc (pc2 := 23) rfl ?_
  refine x_aload_n dX4_init_23 rfl ?_
  refine x_bipush (v := 64) dX4_init_24 (by decide) ?_
  refine x_newI (n0 := 64) dX4_init_26 ar_int rfl rfl (Nat.le_of_ble_eq_true rfl) (Nat.le_of_ble_eq_true rfl) ?_
  refine x_putF rfl dX4_init_28 fq_X4_22 (by decide) rfl ?_
  refine x_aload_n dX4_init_31 rfl ?_
  refine x_iconst (v := 0) dX4_init_32 (by decide) ?_
  refine x_pc (pc2 := 33) rfl ?_
  refine x_putI dX4_init_33 fp_X4_25 (by decide) rfl ?_
  refine x_sameW (I' := J) (R' := R) (fun k hk j hv => ?_) (fun k hk j => ?_) ?_
  · by_cases h : k < 29
    · have ne : k ≠ 29 ∧ k ≠ 30 ∧ k ≠ 31 ∧ k ≠ 32 ∧ k ≠ 33 := by omega
      simp [z0, zu, ne]
    · rcases (show k = 29 ∨ k = 30 ∨ k = 31 ∨ k = 32 ∨ k = 33 by omega) with rfl | rfl | rfl | rfl | rfl
      · obtain ⟨h1, h2⟩ : j < 4 ∧ zrf 4 j = false := hv
        rcases (show j = 0 ∨ j = 1 ∨ j = 2 ∨ j = 3 by omega) with rfl | rfl | rfl | rfl
        all_goals first | (exact absurd h2 (by decide)) | (rw [hJ _ (by decide) (by decide)]; simp [z0, zu, zJ0])
      all_goals first | (simp [z0, zu]; done) | (rw [hJ _ (by decide) (by decide)]; simp [z0, zu, zJ0])
  · by_cases h : k < 29
    · have ne : k ≠ 29 ∧ k ≠ 30 ∧ k ≠ 31 ∧ k ≠ 32 ∧ k ≠ 33 := by omega
      simp [z0R, zuR, ne]
    · rcases (show k = 29 ∨ k = 30 ∨ k = 31 ∨ k = 32 ∨ k = 33 by omega) with rfl | rfl | rfl | rfl | rfl
      · rcases (show j = 0 ∨ j = 1 ∨ j = 2 ∨ 3 ≤ j by omega) with rfl | rfl | rfl | h3
        all_goals first | (rw [hR _ (by decide) (by decide)]; simp [z0R, zuR]; rfl) | (rw [hR _ (by decide) (by decide)]; simp [z0R, zuR]; done) | (obtain ⟨t, rfl⟩ : ∃ t, j = t + 3 := ⟨j - 3, by omega⟩; rw [hR _ (by decide) (by decide)]; simp [z0R, zuR]; rfl) | (obtain ⟨t, rfl⟩ : ∃ t, j = t + 3 := ⟨j - 3, by omega⟩; rw [hR _ (by decide) (by decide)]; simp [z0R, zuR]; done)
      all_goals first | (simp [z0R, zuR]; done) | (rw [hR _ (by decide) (by decide)]; simp [z0R, zuR]; rfl)
  exact x_vret dX4_init_36 rfl (Nat.le_of_ble_eq_true rfl) (Nat.le_of_ble_eq_true rfl) (by exact ⟨rfl, rfl, rfl, rfl⟩)
theorem ct_X7_init {g : zG} {J : zI} {L : zL} {R : zR} (hJ : ∀ c, 34 ≤ c → c ≤ 35 → J c = zJ0 c) (hR : ∀ c, 34 ≤ c → c ≤ 35 → R c = zRn c) : Ct g yX7_init mX7_init [.ref (g.2.1 + 34)] 35 (z0 J 34) L (z0R R 34) (zC 36 J R) := by
  refine Ct_of (lo0 := [some (.ref (g.2.1 + 34))]) rfl rfl rfl rfl (Nat.le_of_ble_eq_true rfl) (fun E => ?_)
  refine x_aload_n dX7_init_0 rfl ?_
  refine x_obj (M := mX7_init) dX7_init_1 ml_X7_3 o_im o_cd (Nat.le_of_ble_eq_true rfl) (Nat.le_of_ble_eq_true rfl) (Nat.le_of_ble_eq_true rfl) ?_
  refine x_aload_n dX7_init_4 rfl ?_
  refine x_sipush (v := 256) dX7_init_5 (by decide) ?_
  refine x_newI (n0 := 256) dX7_init_8 ar_int rfl rfl (Nat.le_of_ble_eq_true rfl) (Nat.le_of_ble_eq_true rfl) ?_
  refine x_pc (pc2 := 10) rfl ?_
  refine x_putF rfl dX7_init_10 fq_X7_9 (by decide) rfl ?_
  refine x_aload_n dX7_init_13 rfl ?_
  refine x_iconst (v := 0) dX7_init_14 (by decide) ?_
  refine x_putI dX7_init_15 fp_X7_15 (by decide) rfl ?_
  refine x_sameW (I' := J) (R' := R) (fun k hk j hv => ?_) (fun k hk j => ?_) ?_
  · by_cases h : k < 34
    · have ne : k ≠ 34 ∧ k ≠ 35 := by omega
      simp [z0, zu, ne]
    · rcases (show k = 34 ∨ k = 35 by omega) with rfl | rfl
      · obtain ⟨h1, h2⟩ : j < 2 ∧ zrf 7 j = false := hv
        rcases (show j = 0 ∨ j = 1 by omega) with rfl | rfl
        all_goals first | (exact absurd h2 (by decide)) | (rw [hJ _ (by decide) (by decide)]; simp [z0, zu, zJ0])
      all_goals first | (simp [z0, zu]; done) | (rw [hJ _ (by decide) (by decide)]; simp [z0, zu, zJ0])
  · by_cases h : k < 34
    · have ne : k ≠ 34 ∧ k ≠ 35 := by omega
      simp [z0R, zuR, ne]
    · rcases (show k = 34 ∨ k = 35 by omega) with rfl | rfl
      · rcases (show j = 0 ∨ 1 ≤ j by omega) with rfl | h3
        all_goals first | (rw [hR _ (by decide) (by decide)]; simp [z0R, zuR]; rfl) | (rw [hR _ (by decide) (by decide)]; simp [z0R, zuR]; done) | (obtain ⟨t, rfl⟩ : ∃ t, j = t + 1 := ⟨j - 1, by omega⟩; rw [hR _ (by decide) (by decide)]; simp [z0R, zuR]; rfl) | (obtain ⟨t, rfl⟩ : ∃ t, j = t + 1 := ⟨j - 1, by omega⟩; rw [hR _ (by decide) (by decide)]; simp [z0R, zuR]; done)
      all_goals first | (simp [z0R, zuR]; done) | (rw [hR _ (by decide) (by decide)]; simp [z0R, zuR]; rfl)
  exact x_vret dX7_init_18 rfl (Nat.le_of_ble_eq_true rfl) (Nat.le_of_ble_eq_true rfl) (by exact ⟨rfl, rfl, rfl, rfl⟩)
theorem ct_X2_init {g : zG} {J : zI} {L : zL} {R : zR} (hJ : ∀ c, 36 ≤ c → c ≤ 38 → J c = zJ0 c) (hR : ∀ c, 36 ≤ c → c ≤ 38 → R c = zRn c) : Ct g yX2_init mX2_init [.ref (g.2.1 + 36)] 37 (z0 J 36) L (z0R R 36) (zC 39 J R) := by
  refine Ct_of (lo0 := [some (.ref (g.2.1 + 36))]) rfl rfl rfl rfl (Nat.le_of_ble_eq_true rfl) (fun E => ?_)
  refine x_aload_n dX2_init_0 rfl ?_
  refine x_obj (M := mX2_init) dX2_init_1 ml_X2_3 o_im o_cd (Nat.le_of_ble_eq_true rfl) (Nat.le_of_ble_eq_true rfl) (Nat.le_of_ble_eq_true rfl) ?_
  refine x_aload_n dX2_init_4 rfl ?_
  refine x_bipush (v := 10) dX2_init_5 (by decide) ?_
  refine x_newI (n0 := 10) dX2_init_7 ar_int rfl rfl (Nat.le_of_ble_eq_true rfl) (Nat.le_of_ble_eq_true rfl) ?_
  refine x_pc (pc2 := 9) rfl ?_
  refine x_putF rfl dX2_init_9 fq_X2_9 (by decide) rfl ?_
  refine x_aload_n dX2_init_12 rfl ?_
  refine x_bipush (v := 10) dX2_init_13 (by decide) ?_
  refine x_newI (n0 := 10) dX2_init_15 ar_int rfl rfl (Nat.le_of_ble_eq_true rfl) (Nat.le_of_ble_eq_true rfl) ?_
  refine x_putF rfl dX2_init_17 fq_X2_15 (by decide) rfl ?_
  refine x_sameW (I' := J) (R' := R) (fun k hk j hv => ?_) (fun k hk j => ?_) ?_
  · by_cases h : k < 36
    · have ne : k ≠ 36 ∧ k ≠ 37 ∧ k ≠ 38 := by omega
      simp [z0, zu, ne]
    · rcases (show k = 36 ∨ k = 37 ∨ k = 38 by omega) with rfl | rfl | rfl
      · obtain ⟨h1, h2⟩ : j < 2 ∧ zrf 2 j = false := hv
        rcases (show j = 0 ∨ j = 1 by omega) with rfl | rfl
        all_goals first | (exact absurd h2 (by decide)) | (rw [hJ _ (by decide) (by decide)]; simp [z0, zu, zJ0])
      all_goals first | (simp [z0, zu]; done) | (rw [hJ _ (by decide) (by decide)]; simp [z0, zu, zJ0])
  · by_cases h : k < 36
    · have ne : k ≠ 36 ∧ k ≠ 37 ∧ k ≠ 38 := by omega
      simp [z0R, zuR, ne]
    · rcases (show k = 36 ∨ k = 37 ∨ k = 38 by omega) with rfl | rfl | rfl
      · rcases (show j = 0 ∨ j = 1 ∨ 2 ≤ j by omega) with rfl | rfl | h3
        all_goals first | (rw [hR _ (by decide) (by decide)]; simp [z0R, zuR]; rfl) | (rw [hR _ (by decide) (by decide)]; simp [z0R, zuR]; done) | (obtain ⟨t, rfl⟩ : ∃ t, j = t + 2 := ⟨j - 2, by omega⟩; rw [hR _ (by decide) (by decide)]; simp [z0R, zuR]; rfl) | (obtain ⟨t, rfl⟩ : ∃ t, j = t + 2 := ⟨j - 2, by omega⟩; rw [hR _ (by decide) (by decide)]; simp [z0R, zuR]; done)
      all_goals first | (simp [z0R, zuR]; done) | (rw [hR _ (by decide) (by decide)]; simp [z0R, zuR]; rfl)
  exact x_vret dX2_init_20 rfl (Nat.le_of_ble_eq_true rfl) (Nat.le_of_ble_eq_true rfl) (by exact ⟨rfl, rfl, rfl, rfl⟩)
