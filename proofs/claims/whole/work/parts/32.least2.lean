/-! LEAST on both sides -/
theorem kch_cong {fit fit' : Nat → Bool} {fo fo' tk tk' row row' : Nat → Nat} {need : Nat} (hf : ∀ h, h < 6 → fit h = fit' h ∧ fo h = fo' h ∧ tk h = tk' h) (hr : ∀ k, row k = row' k) : ∀ i, i ≤ 6 → kch fit fo tk row need i = kch fit' fo' tk' row' need i
  | 0, _ => rfl
  | i + 1, hi => by
    obtain ⟨e1, e2, e3⟩ := hf i (by omega)
    simp only [kch, kch_cong hf hr i (by omega), e1, e2, e3, hr]
theorem kpt_cong {fit fit' : Nat → Bool} {fo fo' tk tk' : Nat → Nat} (hf : ∀ h, h < 6 → fit h = fit' h ∧ fo h = fo' h ∧ tk h = tk' h) : ∀ v k, kpt fit fo tk v k = kpt fit' fo' tk' v k
  | 0, _ => rfl
  | v + 1, k => by
    simp only [kpt, kpt_cong hf v k]
    rw [kch_cong hf (kpt_cong hf v) 6 (Nat.le_refl 6)]
theorem hf_gt (gr : Nat → Int32) (mk : Int32) : ∀ i, hf_ gr mk i = gt_ (fun h => zb (zwi (gr h) mk)) i
  | 0 => rfl
  | i + 1 => by
    simp only [hf_, gt_, hf_gt gr mk i]
    by_cases q : zwi (gr i) mk = true
    · rw [if_pos q, if_neg (show ¬ zb (zwi (gr i) mk) ≤ 0 by rw [q]; decide)]
    · rw [if_neg q, if_pos (show zb (zwi (gr i) mk) ≤ 0 by rw [show zwi (gr i) mk = false by simpa using q]; decide)]
theorem hf_bit {gr : Nat → Int32} {mk : Int32} {h : Nat} (hh : h < 6) : zis (hf_ gr mk 6) (nI h) = zwi (gr h) mk := by
  rw [hf_gt, gt_is hh]
  cases zwi (gr h) mk
  · exact (by decide +kernel : (!decide (zb false ≤ 0)) = false)
  · exact (by decide +kernel : (!decide (zb true ≤ 0)) = true)
theorem zis_0 : ∀ h, h < 6 → zis 0 (nI h) = false := by decide +kernel
theorem hf_z {gr : Nat → Int32} {mk : Int32} (e : ∀ h, h < 6 → zwi (gr h) mk = false) : ∀ i, i ≤ 6 → hf_ gr mk i = 0
  | 0, _ => rfl
  | i + 1, hi => by
    simp only [hf_, hf_z e i (by omega)]
    rw [e i (by omega), if_neg (show ¬ false = true by decide)]
theorem hf_zero {gr : Nat → Int32} {mk : Int32} : hf_ gr mk 6 = 0 ↔ ∀ h, h < 6 → zwi (gr h) mk = false := by
  constructor
  · intro e h hh
    rw [← hf_bit hh, e]
    exact zis_0 h hh
  · intro e
    exact hf_z e 6 (Nat.le_refl 6)
theorem md_step {r t f n : Nat} (h : r % 1000 ≤ n - f) (hf : 1 ≤ f) (h1 : 1 ≤ n) (h2 : n ≤ 99) : (r + 1000 * t + 1) % 1000 ≤ n := by
  rw [show r + 1000 * t + 1 = (r + 1) + 1000 * t by omega, Nat.add_mul_mod_self_left]
  omega
theorem md_min {a b n : Nat} (ha : a % 1000 ≤ n) (hb : b % 1000 ≤ n) : min a b % 1000 ≤ n := by
  rw [Nat.min_def]
  split
  · exact ha
  · exact hb
theorem ch_mod {fit : Nat → Bool} {fo tk row : Nat → Nat} {need : Nat} (h1 : 1 ≤ need) (h2 : need ≤ 99) (hf : ∀ h, h < 6 → 1 ≤ fo h) (hr : ∀ k, k < need → row k % 1000 ≤ k) : ∀ i, i ≤ 6 → ch_ fit fo tk row need i % 1000 ≤ need
  | 0, _ => by
    have e : (1000000000 : Nat) % 1000 = 0 := by decide +kernel
    rw [show ch_ fit fo tk row need 0 = 1000000000 from rfl, e]
    exact Nat.zero_le need
  | i + 1, hi => by
    have ih := ch_mod (fit := fit) (tk := tk) h1 h2 hf hr i (by omega)
    have e1 := hf i (by omega)
    have e2 := hr (need - fo i) (by omega)
    simp only [ch_]
    by_cases q : fit i = true
    · rw [if_pos q]
      exact md_min ih (md_step e2 e1 h1 h2)
    · rw [if_neg q]
      exact ih
theorem pt_mod {fit : Nat → Bool} {fo tk : Nat → Nat} (hf : ∀ h, h < 6 → 1 ≤ fo h) : ∀ v, v ≤ 99 → ∀ k, k ≤ v → pt_ fit fo tk v k % 1000 ≤ k
  | 0, _, k, _ => by simp [pt_]
  | v + 1, hv, k, hk => by
    have ih := pt_mod (fit := fit) (tk := tk) hf v (by omega)
    simp only [pt_]
    by_cases e : k = v + 1
    · rw [if_pos e, e]
      exact ch_mod (by omega) hv hf (fun k hk => ih k (by omega)) 6 (Nat.le_refl 6)
    · rw [if_neg e]
      exact ih k (by omega)
section LE
variable {I K : zI} {a : Nat}
theorem kp_eq (h : Rl I K) (ha : a < 6) (hs : ¬ I 2 a ≤ 0) : kpN K a = kpt (fun x => zis (hf_ (I 4) (I 3 a) 6) (nI x)) (fun x => zx (I 5 x)) (fun x => zx (I 6 x)) (zx (I 2 a)) (zx (I 2 a)) := by
  unfold kpN
  rw [k_S h ha hs]
  refine kpt_cong (fun x hx => ⟨?_, by rw [k_F h hx], by rw [k_K h hx]⟩) _ _
  unfold kfit
  rw [k_M h ha, kf_hf h]
theorem kp_no (h : Rl I K) (ha : a < 6) (hs : ¬ I 2 a ≤ 0) (hz : hf_ (I 4) (I 3 a) 6 = 0) : kpN K a = 1000000 := by
  rw [kp_eq h ha hs]
  have e : I 2 a = nI (zx (I 2 a)) ∧ zx (I 2 a) ≤ 99 := h.st a ha
  refine kpt_no (fun x hx => ?_) (sm_no (by rw [← e.1]; exact hs))
  rw [hz]
  exact zis_0 x hx
theorem kp_yes (h : Rl I K) (ha : a < 6) (hs : ¬ I 2 a ≤ 0) (hz : ¬ hf_ (I 4) (I 3 a) 6 = 0) : kpN K a = prN I a ∧ prN I a < 1000000 := by
  rw [kp_eq h ha hs]
  have e : I 2 a = nI (zx (I 2 a)) ∧ zx (I 2 a) ≤ 99 := h.st a ha
  have hx : ∃ x, x < 6 ∧ (fun x => zis (hf_ (I 4) (I 3 a) 6) (nI x)) x = true := by
    apply Classical.byContradiction
    intro q
    apply hz
    rw [hf_zero]
    intro x hx
    rw [← hf_bit hx]
    cases z : zis (hf_ (I 4) (I 3 a) 6) (nI x)
    · rfl
    · exact absurd ⟨x, hx, z⟩ q
  have hp := pt_k (fit := fun x => zis (hf_ (I 4) (I 3 a) 6) (nI x)) (fo := fun x => zx (I 5 x)) (tk := fun x => zx (I 6 x)) (fun x hx => ⟨(h.fo x hx).2.1, (h.tk x hx).2.2⟩) hx (zx (I 2 a)) e.2 (zx (I 2 a)) (Nat.le_refl _)
  refine ⟨hp.1.symm, ?_⟩
  have h2 : prN I a ≤ 9001 * zx (I 2 a) := hp.2
  omega
theorem hr_99 (h : Rl I K) (ha : a < 6) : hrN I a ≤ 99 := by
  have e : I 2 a = nI (zx (I 2 a)) ∧ zx (I 2 a) ≤ 99 := h.st a ha
  have h2 : prN I a % 1000 ≤ zx (I 2 a) := pt_mod (fun x hx => (h.fo x hx).2.1) _ e.2 _ (Nat.le_refl _)
  unfold hrN
  omega
theorem le_two (h : Rl I K) (b w : Int32) : kleA K b w = leA I b w := by
  unfold kleA leA
  rw [k_th h]
  by_cases z1 : zth (I 2) b = false
  · rw [if_pos z1, if_pos z1]
  rw [if_neg z1, if_neg z1]
  by_cases z2 : zin w 0 1 = false
  · rw [if_pos z2, if_pos z2]
  rw [if_neg z2, if_neg z2]
  have z3 : zth (I 2) b = true := by simpa using z1
  obtain ⟨i, hi, rfl⟩ := zth_ex z3
  have hs := zth_T hi z3
  rw [zx_nI (by omega)]
  by_cases hz : hf_ (I 4) (I 3 i) 6 = 0
  · rw [kp_no h hi hs hz, if_neg (Nat.lt_irrefl 1000000), if_pos hz]
  · obtain ⟨e1, e2⟩ := kp_yes h hi hs hz
    rw [e1, if_pos e2, if_neg hz]
end LE
