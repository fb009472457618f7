/-! images of the class -/
def zmJ (I : zI) (m : Nat) : zI := fun c j => if c = m then (if j = 11 then 50 else 0) else if c = m + 4 then 5 else if c = m + 5 then 2 else if m < c ∧ c ≤ m + 10 then 0 else I c j
theorem zmJ_ok (I : zI) (m : Nat) : zmok (zmJ I m) m := by
  refine ⟨fun d h1 h2 h3 h4 j => ?_, fun j _ => ?_, fun j _ => ?_, ?_, ?_, ?_⟩
  · simp only [zmJ]
    rw [if_neg (by omega), if_neg (by omega), if_neg (by omega), if_pos (by omega)]
  all_goals simp [zmJ]
theorem zmJ_lt (I : zI) {m c : Nat} (h : c < m) : zmJ I m c = I c := by
  funext j
  simp only [zmJ]
  rw [if_neg (by omega), if_neg (by omega), if_neg (by omega), if_neg (by omega)]
theorem zmJ_bec (I : zI) {m : Nat} (h : 12 ≤ m) : zbec (zmJ I m) m 1 = zbec I m 1 := by
  funext c
  simp only [zbec]
  by_cases q : m ≤ c ∧ c ≤ m + 10
  · rw [if_pos q, if_pos q, zmJ_lt I (by omega)]
  · rw [if_neg q, if_neg q]
    funext j
    simp only [zmJ]
    rw [if_neg (by omega), if_neg (by omega), if_neg (by omega), if_neg (by omega)]
theorem zRw_set0 (q0 q1 v : Option Nat) : zuR (zRw q0 q1) 39 0 v = zRw v q1 := by
  funext k j
  by_cases h : k = 39
  · subst h
    by_cases e : j = 0
    · subst e; rfl
    · obtain ⟨t, rfl⟩ : ∃ t, j = t + 1 := ⟨j - 1, by omega⟩
      simp [zuR]
      rfl
  · have e : zrl v q1 = (zrl q0 q1).set 39 [v, q1] := rfl
    simp only [zuR, if_neg h, zRw]
    rw [e]
    simp only [List.getD_eq_getElem?_getD, List.getElem?_set_ne (Ne.symm h)]
theorem zRw_set1 (q0 q1 v : Option Nat) : zuR (zRw q0 q1) 39 1 v = zRw q0 v := by
  funext k j
  by_cases h : k = 39
  · subst h
    rcases (show j = 0 ∨ j = 1 ∨ 2 ≤ j by omega) with rfl | rfl | h3
    · rfl
    · rfl
    · obtain ⟨t, rfl⟩ : ∃ t, j = t + 2 := ⟨j - 2, by omega⟩
      simp [zuR]
      rfl
  · have e : zrl q0 v = (zrl q0 q1).set 39 [q0, v] := rfl
    simp only [zuR, if_neg h, zRw]
    rw [e]
    simp only [List.getD_eq_getElem?_getD, List.getElem?_set_ne (Ne.symm h)]
/-- an answer, a world, and new cells -/
def zA (v : Int32) (N : Nat) (I : zI) (R : zR) : zPost := fun r' N' I' _ R' => r' = some (.int v) ∧ N' = N ∧ I' = I ∧ R' = R

theorem ct_X8_image_no {g : zG} {N : Nat} {I : zI} {L : zL} {q0 q1 : Option Nat} {w : Int32} (h : zin w 0 1 = false) : Ct g yX8_image mX8_image [.ref (g.2.1 + 0), .int w] N I L (zRw q0 q1) (zA (-2) N I (zRw q0 q1)) := by
  refine Ct_of (lo0 := [some (.ref (g.2.1 + 0)), some (.int w)]) rfl rfl rfl rfl (Nat.le_of_ble_eq_true rfl) (fun E => ?_)
  refine x_iload_n dX8_image_0 rfl ?_
  refine x_iconst (v := 0) dX8_image_1 (by decide) ?_
  refine x_iconst (v := 1) dX8_image_2 (by decide) ?_
  refine x_callSi dX8_image_3 ml_X8_62 mt_X8_isFrom st_X8_isFrom (ct_X8_isFrom) rfl rfl (Nat.le_of_ble_eq_true rfl) ⟨(Nat.le_of_ble_eq_true rfl), (Nat.le_of_ble_eq_true rfl)⟩ ⟨rfl, rfl⟩ ⟨(Nat.le_of_ble_eq_true rfl), (Nat.le_of_ble_eq_true rfl)⟩ ?_
  refine x_if_ne (tgt := 12) dX8_image_6 (by decide) (fun h6 => ?_) (fun h6 => ?_)
  · skip
    replace h6 := zb1 h6
    exact absurd (h.symm.trans h6) (by decide)
  · skip
    replace h6 := zb0 h6
    refine x_bipush (v := (-2)) dX8_image_9 (by decide) ?_
    exact x_iret dX8_image_11 rfl (Nat.le_of_ble_eq_true rfl) (Nat.le_of_ble_eq_true rfl) (by exact ⟨rfl, rfl, rfl, rfl⟩)
theorem ct_X8_restore_no {g : zG} {N : Nat} {I : zI} {L : zL} {q0 q1 : Option Nat} {w : Int32} (h : zin w 0 1 = false) : Ct g yX8_restore mX8_restore [.ref (g.2.1 + 0), .int w] N I L (zRw q0 q1) (zA (-2) N I (zRw q0 q1)) := by
  refine Ct_of (lo0 := [some (.ref (g.2.1 + 0)), some (.int w)]) rfl rfl rfl rfl (Nat.le_of_ble_eq_true rfl) (fun E => ?_)
  refine x_iload_n dX8_restore_0 rfl ?_
  refine x_iconst (v := 0) dX8_restore_1 (by decide) ?_
  refine x_iconst (v := 1) dX8_restore_2 (by decide) ?_
  refine x_callSi dX8_restore_3 ml_X8_62 mt_X8_isFrom st_X8_isFrom (ct_X8_isFrom) rfl rfl (Nat.le_of_ble_eq_true rfl) ⟨(Nat.le_of_ble_eq_true rfl), (Nat.le_of_ble_eq_true rfl)⟩ ⟨rfl, rfl⟩ ⟨(Nat.le_of_ble_eq_true rfl), (Nat.le_of_ble_eq_true rfl)⟩ ?_
  refine x_if_ne (tgt := 12) dX8_restore_6 (by decide) (fun h6 => ?_) (fun h6 => ?_)
  · skip
    replace h6 := zb1 h6
    exact absurd (h.symm.trans h6) (by decide)
  · skip
    replace h6 := zb0 h6
    refine x_bipush (v := (-2)) dX8_restore_9 (by decide) ?_
    exact x_iret dX8_restore_11 rfl (Nat.le_of_ble_eq_true rfl) (Nat.le_of_ble_eq_true rfl) (by exact ⟨rfl, rfl, rfl, rfl⟩)
theorem ct_X8_restore_0_none {g : zG} {N : Nat} {I : zI} {L : zL} {q1 : Option Nat} (hN : 58 ≤ N) : Ct g yX8_restore mX8_restore [.ref (g.2.1 + 0), .int 0] N I L (zRw (none) q1) (zA (-3) N I (zRw (none) q1)) := by
  refine Ct_of (lo0 := [some (.ref (g.2.1 + 0)), some (.int 0)]) rfl rfl rfl rfl (Nat.le_of_ble_eq_true rfl) (fun E => ?_)
  refine x_iload_n dX8_restore_0 rfl ?_
  refine x_iconst (v := 0) dX8_restore_1 (by decide) ?_
  refine x_iconst (v := 1) dX8_restore_2 (by decide) ?_
  refine x_callSi dX8_restore_3 ml_X8_62 mt_X8_isFrom st_X8_isFrom (ct_X8_isFrom) rfl rfl (Nat.le_of_ble_eq_true rfl) ⟨(Nat.le_of_ble_eq_true rfl), (Nat.le_of_ble_eq_true rfl)⟩ ⟨rfl, rfl⟩ ⟨(Nat.le_of_ble_eq_true rfl), (Nat.le_of_ble_eq_true rfl)⟩ ?_
  refine x_if_ne (tgt := 12) dX8_restore_6 (by decide) (fun h6 => ?_) (fun h6 => ?_)
  · skip
    replace h6 := zb1 h6
    refine x_aload_n dX8_restore_12 rfl ?_
    refine x_getR dX8_restore_13 fl_X8_58 (by omega) rfl rfl rfl ?_
    refine x_iload_n dX8_restore_16 rfl ?_
    refine x_aald dX8_restore_17 (by omega) rfl (show (0 : Int32) = nI 0 from rfl) (by decide) ?_
    refine x_ifnonnullN dX8_restore_18 ?_
    refine x_pc (pc2 := 21) rfl ?_
    refine x_bipush (v := (-3)) dX8_restore_21 (by decide) ?_
    exact x_iret dX8_restore_23 rfl (Nat.le_of_ble_eq_true rfl) (Nat.le_of_ble_eq_true rfl) (by exact ⟨rfl, rfl, rfl, rfl⟩)
  · skip
    replace h6 := zb0 h6
    exact absurd h6 (by decide)
theorem ct_X8_restore_0_58 {g : zG} {N : Nat} {I : zI} {L : zL} {q1 : Option Nat} (hN : 69 ≤ N) (hz : ∀ i, i < 8 → narrow .boolean (.int (I 68 i)) = .int (I 68 i)) : Ct g yX8_restore mX8_restore [.ref (g.2.1 + 0), .int 0] N I L (zRw (some 58) q1) (zA 1 N (zbec I 1 58) (zRw (some 58) q1)) := by
  refine Ct_of (lo0 := [some (.ref (g.2.1 + 0)), some (.int 0)]) rfl rfl rfl rfl (Nat.le_of_ble_eq_true rfl) (fun E => ?_)
  refine x_iload_n dX8_restore_0 rfl ?_
  refine x_iconst (v := 0) dX8_restore_1 (by decide) ?_
  refine x_iconst (v := 1) dX8_restore_2 (by decide) ?_
  refine x_callSi dX8_restore_3 ml_X8_62 mt_X8_isFrom st_X8_isFrom (ct_X8_isFrom) rfl rfl (Nat.le_of_ble_eq_true rfl) ⟨(Nat.le_of_ble_eq_true rfl), (Nat.le_of_ble_eq_true rfl)⟩ ⟨rfl, rfl⟩ ⟨(Nat.le_of_ble_eq_true rfl), (Nat.le_of_ble_eq_true rfl)⟩ ?_
  refine x_if_ne (tgt := 12) dX8_restore_6 (by decide) (fun h6 => ?_) (fun h6 => ?_)
  · skip
    replace h6 := zb1 h6
    refine x_aload_n dX8_restore_12 rfl ?_
    refine x_getR dX8_restore_13 fl_X8_58 (by omega) rfl rfl rfl ?_
    refine x_iload_n dX8_restore_16 rfl ?_
    refine x_aald dX8_restore_17 (by omega) rfl (show (0 : Int32) = nI 0 from rfl) (by decide) ?_
    refine x_ifnonnull (tgt := 24) dX8_restore_18 (by decide) ?_
    refine x_pc (pc2 := 24) rfl ?_
    refine x_aload_n dX8_restore_24 rfl ?_
    refine x_getR dX8_restore_25 fl_X8_10 (by omega) rfl rfl rfl ?_
    refine x_aload_n dX8_restore_28 rfl ?_
    refine x_getR dX8_restore_29 fl_X8_58 (by omega) rfl rfl rfl ?_
    refine x_iload_n dX8_restore_32 rfl ?_
    refine x_aald dX8_restore_33 (by omega) rfl (show (0 : Int32) = nI 0 from rfl) (by decide) ?_
    refine x_pc (pc2 := 34) rfl ?_
    refine x_callVv dX8_restore_34 ml_X8_154 mt_X3_become mv_X3_become (ct_X3_become_1_58 hN hz) (by omega) rfl rfl rfl rfl (Nat.le_of_ble_eq_true rfl) ⟨(Nat.le_of_ble_eq_true rfl), (Nat.le_of_ble_eq_true rfl)⟩ ⟨rfl, rfl⟩ ⟨(Nat.le_of_ble_eq_true rfl), (Nat.le_of_ble_eq_true rfl)⟩ ?_
    refine x_iconst (v := 1) dX8_restore_37 (by decide) ?_
    exact x_iret dX8_restore_38 rfl (Nat.le_of_ble_eq_true rfl) (Nat.le_of_ble_eq_true rfl) (by exact ⟨rfl, rfl, rfl, rfl⟩)
  · skip
    replace h6 := zb0 h6
    exact absurd h6 (by decide)
theorem ct_X8_image_0_58 {g : zG} {N : Nat} {I : zI} {L : zL} {q1 : Option Nat} (hN : 69 ≤ N) (hz : ∀ i, i < 8 → narrow .boolean (.int (I 11 i)) = .int (I 11 i)) : Ct g yX8_image mX8_image [.ref (g.2.1 + 0), .int 0] N I L (zRw (some 58) q1) (zA 1 N (zbec I 58 1) (zRw (some 58) q1)) := by
  refine Ct_of (lo0 := [some (.ref (g.2.1 + 0)), some (.int 0)]) rfl rfl rfl rfl (Nat.le_of_ble_eq_true rfl) (fun E => ?_)
  refine x_iload_n dX8_image_0 rfl ?_
  refine x_iconst (v := 0) dX8_image_1 (by decide) ?_
  refine x_iconst (v := 1) dX8_image_2 (by decide) ?_
  refine x_callSi dX8_image_3 ml_X8_62 mt_X8_isFrom st_X8_isFrom (ct_X8_isFrom) rfl rfl (Nat.le_of_ble_eq_true rfl) ⟨(Nat.le_of_ble_eq_true rfl), (Nat.le_of_ble_eq_true rfl)⟩ ⟨rfl, rfl⟩ ⟨(Nat.le_of_ble_eq_true rfl), (Nat.le_of_ble_eq_true rfl)⟩ ?_
  refine x_if_ne (tgt := 12) dX8_image_6 (by decide) (fun h6 => ?_) (fun h6 => ?_)
  · skip
    replace h6 := zb1 h6
    refine x_aload_n dX8_image_12 rfl ?_
    refine x_getR dX8_image_13 fl_X8_58 (by omega) rfl rfl rfl ?_
    refine x_iload_n dX8_image_16 rfl ?_
    refine x_aald dX8_image_17 (by omega) rfl (show (0 : Int32) = nI 0 from rfl) (by decide) ?_
    refine x_ifnonnull (tgt := 34) dX8_image_18 (by decide) ?_
    refine x_pc (pc2 := 34) rfl ?_
    refine x_aload_n dX8_image_34 rfl ?_
    refine x_getR dX8_image_35 fl_X8_58 (by omega) rfl rfl rfl ?_
    refine x_iload_n dX8_image_38 rfl ?_
    refine x_aald dX8_image_39 (by omega) rfl (show (0 : Int32) = nI 0 from rfl) (by decide) ?_
    refine x_aload_n dX8_image_40 rfl ?_
    refine x_getR dX8_image_41 fl_X8_10 (by omega) rfl rfl rfl ?_
    refine x_pc (pc2 := 44) rfl ?_
    refine x_callVv dX8_image_44 ml_X8_154 mt_X3_become mv_X3_become (ct_X3_become_58_1 hN hz) (by omega) rfl rfl rfl rfl (Nat.le_of_ble_eq_true rfl) ⟨(Nat.le_of_ble_eq_true rfl), (Nat.le_of_ble_eq_true rfl)⟩ ⟨rfl, rfl⟩ ⟨(Nat.le_of_ble_eq_true rfl), (Nat.le_of_ble_eq_true rfl)⟩ ?_
    refine x_iconst (v := 1) dX8_image_47 (by decide) ?_
    exact x_iret dX8_image_48 rfl (Nat.le_of_ble_eq_true rfl) (Nat.le_of_ble_eq_true rfl) (by exact ⟨rfl, rfl, rfl, rfl⟩)
  · skip
    replace h6 := zb0 h6
    exact absurd h6 (by decide)
theorem ct_X8_image_0_new58 {g : zG} {I : zI} {L : zL} {q1 : Option Nat} (hz : ∀ i, i < 8 → narrow .boolean (.int (I 11 i)) = .int (I 11 i)) : Ct g yX8_image mX8_image [.ref (g.2.1 + 0), .int 0] 58 I L (zRw (none) q1) (zA 1 69 (zbec I 58 1) (zRw (some 58) q1)) := by
  refine Ct_of (lo0 := [some (.ref (g.2.1 + 0)), some (.int 0)]) rfl rfl rfl rfl (Nat.le_of_ble_eq_true rfl) (fun E => ?_)
  refine x_iload_n dX8_image_0 rfl ?_
  refine x_iconst (v := 0) dX8_image_1 (by decide) ?_
  refine x_iconst (v := 1) dX8_image_2 (by decide) ?_
  refine x_callSi dX8_image_3 ml_X8_62 mt_X8_isFrom st_X8_isFrom (ct_X8_isFrom) rfl rfl (Nat.le_of_ble_eq_true rfl) ⟨(Nat.le_of_ble_eq_true rfl), (Nat.le_of_ble_eq_true rfl)⟩ ⟨rfl, rfl⟩ ⟨(Nat.le_of_ble_eq_true rfl), (Nat.le_of_ble_eq_true rfl)⟩ ?_
  refine x_if_ne (tgt := 12) dX8_image_6 (by decide) (fun h6 => ?_) (fun h6 => ?_)
  · skip
    replace h6 := zb1 h6
    refine x_aload_n dX8_image_12 rfl ?_
    refine x_getR dX8_image_13 fl_X8_58 (by decide) rfl rfl rfl ?_
    refine x_iload_n dX8_image_16 rfl ?_
    refine x_aald dX8_image_17 (by decide) rfl (show (0 : Int32) = nI 0 from rfl) (by decide) ?_
    refine x_ifnonnullN dX8_image_18 ?_
    refine x_pc (pc2 := 21) rfl ?_
    refine x_aload_n dX8_image_21 rfl ?_
    refine x_getR dX8_image_22 fl_X8_58 (by decide) rfl rfl rfl ?_
    refine x_iload_n dX8_image_25 rfl ?_
    refine x_new dX8_image_26 nw_X8_7 rfl (Nat.le_of_ble_eq_true rfl) (Nat.le_of_ble_eq_true rfl) ?_
    refine x_sameV (I' := z0 (zmJ I 58) 58) (fun k hk j hv => ?_) ?_
    · by_cases h : k = 58
      · subst h; simp [z0]
      · rw [z0_ne _ h, z0_ne _ h, zmJ_lt I (by omega)]
    refine x_dup dX8_image_29 rfl ?_
    refine x_callIc dX8_image_30 ml_X8_9 mt_X3_init rfl im_X3_init rfl (ct_X3_init (m := 58) (Or.inr (Or.inr (Or.inl rfl))) (zmJ_ok I 58) (zmor_Rw (Or.inr (Or.inr (Or.inl rfl))))) rfl rfl (Nat.le_of_ble_eq_true rfl) ⟨(Nat.le_of_ble_eq_true rfl), (Nat.le_of_ble_eq_true rfl)⟩ ⟨(Nat.le_of_ble_eq_true rfl), (Nat.le_of_ble_eq_true rfl)⟩ (fun L30 => ?_)
    refine x_pc (pc2 := 33) rfl ?_
    refine x_aast dX8_image_33 (by decide) rfl (show (0 : Int32) = nI 0 from rfl) (by decide) (by decide) rfl ?_
    rw [zRw_set0]
    refine x_aload_n dX8_image_34 rfl ?_
    refine x_getR dX8_image_35 fl_X8_58 (by decide) rfl rfl rfl ?_
    refine x_iload_n dX8_image_38 rfl ?_
    refine x_aald dX8_image_39 (by decide) rfl (show (0 : Int32) = nI 0 from rfl) (by decide) ?_
    refine x_aload_n dX8_image_40 rfl ?_
    refine x_pc (pc2 := 41) rfl ?_
    refine x_getR dX8_image_41 fl_X8_10 (by decide) rfl rfl rfl ?_
    refine x_callVv dX8_image_44 ml_X8_154 mt_X3_become mv_X3_become (ct_X3_become_58_1 (by decide) (fun i hi => by rw [zmJ_lt I (by decide)]; exact hz i hi)) (by decide) rfl rfl rfl rfl (Nat.le_of_ble_eq_true rfl) ⟨(Nat.le_of_ble_eq_true rfl), (Nat.le_of_ble_eq_true rfl)⟩ ⟨rfl, rfl⟩ ⟨(Nat.le_of_ble_eq_true rfl), (Nat.le_of_ble_eq_true rfl)⟩ ?_
    rw [zmJ_bec I (by decide)]
    refine x_iconst (v := 1) dX8_image_47 (by decide) ?_
    exact x_iret dX8_image_48 rfl (Nat.le_of_ble_eq_true rfl) (Nat.le_of_ble_eq_true rfl) (by exact ⟨rfl, rfl, rfl, rfl⟩)
  · skip
    replace h6 := zb0 h6
    exact absurd h6 (by decide)
theorem ct_X8_restore_0_69 {g : zG} {N : Nat} {I : zI} {L : zL} {q1 : Option Nat} (hN : 80 ≤ N) (hz : ∀ i, i < 8 → narrow .boolean (.int (I 79 i)) = .int (I 79 i)) : Ct g yX8_restore mX8_restore [.ref (g.2.1 + 0), .int 0] N I L (zRw (some 69) q1) (zA 1 N (zbec I 1 69) (zRw (some 69) q1)) := by
  refine Ct_of (lo0 := [some (.ref (g.2.1 + 0)), some (.int 0)]) rfl rfl rfl rfl (Nat.le_of_ble_eq_true rfl) (fun E => ?_)
  refine x_iload_n dX8_restore_0 rfl ?_
  refine x_iconst (v := 0) dX8_restore_1 (by decide) ?_
  refine x_iconst (v := 1) dX8_restore_2 (by decide) ?_
  refine x_callSi dX8_restore_3 ml_X8_62 mt_X8_isFrom st_X8_isFrom (ct_X8_isFrom) rfl rfl (Nat.le_of_ble_eq_true rfl) ⟨(Nat.le_of_ble_eq_true rfl), (Nat.le_of_ble_eq_true rfl)⟩ ⟨rfl, rfl⟩ ⟨(Nat.le_of_ble_eq_true rfl), (Nat.le_of_ble_eq_true rfl)⟩ ?_
  refine x_if_ne (tgt := 12) dX8_restore_6 (by decide) (fun h6 => ?_) (fun h6 => ?_)
  · skip
    replace h6 := zb1 h6
    refine x_aload_n dX8_restore_12 rfl ?_
    refine x_getR dX8_restore_13 fl_X8_58 (by omega) rfl rfl rfl ?_
    refine x_iload_n dX8_restore_16 rfl ?_
    refine x_aald dX8_restore_17 (by omega) rfl (show (0 : Int32) = nI 0 from rfl) (by decide) ?_
    refine x_ifnonnull (tgt := 24) dX8_restore_18 (by decide) ?_
    refine x_pc (pc2 := 24) rfl ?_
    refine x_aload_n dX8_restore_24 rfl ?_
    refine x_getR dX8_restore_25 fl_X8_10 (by omega) rfl rfl rfl ?_
    refine x_aload_n dX8_restore_28 rfl ?_
    refine x_getR dX8_restore_29 fl_X8_58 (by omega) rfl rfl rfl ?_
    refine x_iload_n dX8_restore_32 rfl ?_
    refine x_aald dX8_restore_33 (by omega) rfl (show (0 : Int32) = nI 0 from rfl) (by decide) ?_
    refine x_pc (pc2 := 34) rfl ?_
    refine x_callVv dX8_restore_34 ml_X8_154 mt_X3_become mv_X3_become (ct_X3_become_1_69 hN hz) (by omega) rfl rfl rfl rfl (Nat.le_of_ble_eq_true rfl) ⟨(Nat.le_of_ble_eq_true rfl), (Nat.le_of_ble_eq_true rfl)⟩ ⟨rfl, rfl⟩ ⟨(Nat.le_of_ble_eq_true rfl), (Nat.le_of_ble_eq_true rfl)⟩ ?_
    refine x_iconst (v := 1) dX8_restore_37 (by decide) ?_
    exact x_iret dX8_restore_38 rfl (Nat.le_of_ble_eq_true rfl) (Nat.le_of_ble_eq_true rfl) (by exact ⟨rfl, rfl, rfl, rfl⟩)
  · skip
    replace h6 := zb0 h6
    exact absurd h6 (by decide)
theorem ct_X8_image_0_69 {g : zG} {N : Nat} {I : zI} {L : zL} {q1 : Option Nat} (hN : 80 ≤ N) (hz : ∀ i, i < 8 → narrow .boolean (.int (I 11 i)) = .int (I 11 i)) : Ct g yX8_image mX8_image [.ref (g.2.1 + 0), .int 0] N I L (zRw (some 69) q1) (zA 1 N (zbec I 69 1) (zRw (some 69) q1)) := by
  refine Ct_of (lo0 := [some (.ref (g.2.1 + 0)), some (.int 0)]) rfl rfl rfl rfl (Nat.le_of_ble_eq_true rfl) (fun E => ?_)
  refine x_iload_n dX8_image_0 rfl ?_
  refine x_iconst (v := 0) dX8_image_1 (by decide) ?_
  refine x_iconst (v := 1) dX8_image_2 (by decide) ?_
  refine x_callSi dX8_image_3 ml_X8_62 mt_X8_isFrom st_X8_isFrom (ct_X8_isFrom) rfl rfl (Nat.le_of_ble_eq_true rfl) ⟨(Nat.le_of_ble_eq_true rfl), (Nat.le_of_ble_eq_true rfl)⟩ ⟨rfl, rfl⟩ ⟨(Nat.le_of_ble_eq_true rfl), (Nat.le_of_ble_eq_true rfl)⟩ ?_
  refine x_if_ne (tgt := 12) dX8_image_6 (by decide) (fun h6 => ?_) (fun h6 => ?_)
  · skip
    replace h6 := zb1 h6
    refine x_aload_n dX8_image_12 rfl ?_
    refine x_getR dX8_image_13 fl_X8_58 (by omega) rfl rfl rfl ?_
    refine x_iload_n dX8_image_16 rfl ?_
    refine x_aald dX8_image_17 (by omega) rfl (show (0 : Int32) = nI 0 from rfl) (by decide) ?_
    refine x_ifnonnull (tgt := 34) dX8_image_18 (by decide) ?_
    refine x_pc (pc2 := 34) rfl ?_
    refine x_aload_n dX8_image_34 rfl ?_
    refine x_getR dX8_image_35 fl_X8_58 (by omega) rfl rfl rfl ?_
    refine x_iload_n dX8_image_38 rfl ?_
    refine x_aald dX8_image_39 (by omega) rfl (show (0 : Int32) = nI 0 from rfl) (by decide) ?_
    refine x_aload_n dX8_image_40 rfl ?_
    refine x_getR dX8_image_41 fl_X8_10 (by omega) rfl rfl rfl ?_
    refine x_pc (pc2 := 44) rfl ?_
    refine x_callVv dX8_image_44 ml_X8_154 mt_X3_become mv_X3_become (ct_X3_become_69_1 hN hz) (by omega) rfl rfl rfl rfl (Nat.le_of_ble_eq_true rfl) ⟨(Nat.le_of_ble_eq_true rfl), (Nat.le_of_ble_eq_true rfl)⟩ ⟨rfl, rfl⟩ ⟨(Nat.le_of_ble_eq_true rfl), (Nat.le_of_ble_eq_true rfl)⟩ ?_
    refine x_iconst (v := 1) dX8_image_47 (by decide) ?_
    exact x_iret dX8_image_48 rfl (Nat.le_of_ble_eq_true rfl) (Nat.le_of_ble_eq_true rfl) (by exact ⟨rfl, rfl, rfl, rfl⟩)
  · skip
    replace h6 := zb0 h6
    exact absurd h6 (by decide)
theorem ct_X8_image_0_new69 {g : zG} {I : zI} {L : zL} {q1 : Option Nat} (hz : ∀ i, i < 8 → narrow .boolean (.int (I 11 i)) = .int (I 11 i)) : Ct g yX8_image mX8_image [.ref (g.2.1 + 0), .int 0] 69 I L (zRw (none) q1) (zA 1 80 (zbec I 69 1) (zRw (some 69) q1)) := by
  refine Ct_of (lo0 := [some (.ref (g.2.1 + 0)), some (.int 0)]) rfl rfl rfl rfl (Nat.le_of_ble_eq_true rfl) (fun E => ?_)
  refine x_iload_n dX8_image_0 rfl ?_
  refine x_iconst (v := 0) dX8_image_1 (by decide) ?_
  refine x_iconst (v := 1) dX8_image_2 (by decide) ?_
  refine x_callSi dX8_image_3 ml_X8_62 mt_X8_isFrom st_X8_isFrom (ct_X8_isFrom) rfl rfl (Nat.le_of_ble_eq_true rfl) ⟨(Nat.le_of_ble_eq_true rfl), (Nat.le_of_ble_eq_true rfl)⟩ ⟨rfl, rfl⟩ ⟨(Nat.le_of_ble_eq_true rfl), (Nat.le_of_ble_eq_true rfl)⟩ ?_
  refine x_if_ne (tgt := 12) dX8_image_6 (by decide) (fun h6 => ?_) (fun h6 => ?_)
  · skip
    replace h6 := zb1 h6
    refine x_aload_n dX8_image_12 rfl ?_
    refine x_getR dX8_image_13 fl_X8_58 (by decide) rfl rfl rfl ?_
    refine x_iload_n dX8_image_16 rfl ?_
    refine x_aald dX8_image_17 (by decide) rfl (show (0 : Int32) = nI 0 from rfl) (by decide) ?_
    refine x_ifnonnullN dX8_image_18 ?_
    refine x_pc (pc2 := 21) rfl ?_
    refine x_aload_n dX8_image_21 rfl ?_
    refine x_getR dX8_image_22 fl_X8_58 (by decide) rfl rfl rfl ?_
    refine x_iload_n dX8_image_25 rfl ?_
    refine x_new dX8_image_26 nw_X8_7 rfl (Nat.le_of_ble_eq_true rfl) (Nat.le_of_ble_eq_true rfl) ?_
    refine x_sameV (I' := z0 (zmJ I 69) 69) (fun k hk j hv => ?_) ?_
    · by_cases h : k = 69
      · subst h; simp [z0]
      · rw [z0_ne _ h, z0_ne _ h, zmJ_lt I (by omega)]
    refine x_dup dX8_image_29 rfl ?_
    refine x_callIc dX8_image_30 ml_X8_9 mt_X3_init rfl im_X3_init rfl (ct_X3_init (m := 69) (Or.inr (Or.inr (Or.inr rfl))) (zmJ_ok I 69) (zmor_Rw (Or.inr (Or.inr (Or.inr rfl))))) rfl rfl (Nat.le_of_ble_eq_true rfl) ⟨(Nat.le_of_ble_eq_true rfl), (Nat.le_of_ble_eq_true rfl)⟩ ⟨(Nat.le_of_ble_eq_true rfl), (Nat.le_of_ble_eq_true rfl)⟩ (fun L30 => ?_)
    refine x_pc (pc2 := 33) rfl ?_
    refine x_aast dX8_image_33 (by decide) rfl (show (0 : Int32) = nI 0 from rfl) (by decide) (by decide) rfl ?_
    rw [zRw_set0]
    refine x_aload_n dX8_image_34 rfl ?_
    refine x_getR dX8_image_35 fl_X8_58 (by decide) rfl rfl rfl ?_
    refine x_iload_n dX8_image_38 rfl ?_
    refine x_aald dX8_image_39 (by decide) rfl (show (0 : Int32) = nI 0 from rfl) (by decide) ?_
    refine x_aload_n dX8_image_40 rfl ?_
    refine x_pc (pc2 := 41) rfl ?_
    refine x_getR dX8_image_41 fl_X8_10 (by decide) rfl rfl rfl ?_
    refine x_callVv dX8_image_44 ml_X8_154 mt_X3_become mv_X3_become (ct_X3_become_69_1 (by decide) (fun i hi => by rw [zmJ_lt I (by decide)]; exact hz i hi)) (by decide) rfl rfl rfl rfl (Nat.le_of_ble_eq_true rfl) ⟨(Nat.le_of_ble_eq_true rfl), (Nat.le_of_ble_eq_true rfl)⟩ ⟨rfl, rfl⟩ ⟨(Nat.le_of_ble_eq_true rfl), (Nat.le_of_ble_eq_true rfl)⟩ ?_
    rw [zmJ_bec I (by decide)]
    refine x_iconst (v := 1) dX8_image_47 (by decide) ?_
    exact x_iret dX8_image_48 rfl (Nat.le_of_ble_eq_true rfl) (Nat.le_of_ble_eq_true rfl) (by exact ⟨rfl, rfl, rfl, rfl⟩)
  · skip
    replace h6 := zb0 h6
    exact absurd h6 (by decide)
theorem ct_X8_restore_1_none {g : zG} {N : Nat} {I : zI} {L : zL} {q0 : Option Nat} (hN : 58 ≤ N) : Ct g yX8_restore mX8_restore [.ref (g.2.1 + 0), .int 1] N I L (zRw q0 (none)) (zA (-3) N I (zRw q0 (none))) := by
  refine Ct_of (lo0 := [some (.ref (g.2.1 + 0)), some (.int 1)]) rfl rfl rfl rfl (Nat.le_of_ble_eq_true rfl) (fun E => ?_)
  refine x_iload_n dX8_restore_0 rfl ?_
  refine x_iconst (v := 0) dX8_restore_1 (by decide) ?_
  refine x_iconst (v := 1) dX8_restore_2 (by decide) ?_
  refine x_callSi dX8_restore_3 ml_X8_62 mt_X8_isFrom st_X8_isFrom (ct_X8_isFrom) rfl rfl (Nat.le_of_ble_eq_true rfl) ⟨(Nat.le_of_ble_eq_true rfl), (Nat.le_of_ble_eq_true rfl)⟩ ⟨rfl, rfl⟩ ⟨(Nat.le_of_ble_eq_true rfl), (Nat.le_of_ble_eq_true rfl)⟩ ?_
  refine x_if_ne (tgt := 12) dX8_restore_6 (by decide) (fun h6 => ?_) (fun h6 => ?_)
  · skip
    replace h6 := zb1 h6
    refine x_aload_n dX8_restore_12 rfl ?_
    refine x_getR dX8_restore_13 fl_X8_58 (by omega) rfl rfl rfl ?_
    refine x_iload_n dX8_restore_16 rfl ?_
    refine x_aald dX8_restore_17 (by omega) rfl (show (1 : Int32) = nI 1 from rfl) (by decide) ?_
    refine x_ifnonnullN dX8_restore_18 ?_
    refine x_pc (pc2 := 21) rfl ?_
    refine x_bipush (v := (-3)) dX8_restore_21 (by decide) ?_
    exact x_iret dX8_restore_23 rfl (Nat.le_of_ble_eq_true rfl) (Nat.le_of_ble_eq_true rfl) (by exact ⟨rfl, rfl, rfl, rfl⟩)
  · skip
    replace h6 := zb0 h6
    exact absurd h6 (by decide)
theorem ct_X8_restore_1_58 {g : zG} {N : Nat} {I : zI} {L : zL} {q0 : Option Nat} (hN : 69 ≤ N) (hz : ∀ i, i < 8 → narrow .boolean (.int (I 68 i)) = .int (I 68 i)) : Ct g yX8_restore mX8_restore [.ref (g.2.1 + 0), .int 1] N I L (zRw q0 (some 58)) (zA 1 N (zbec I 1 58) (zRw q0 (some 58))) := by
  refine Ct_of (lo0 := [some (.ref (g.2.1 + 0)), some (.int 1)]) rfl rfl rfl rfl (Nat.le_of_ble_eq_true rfl) (fun E => ?_)
  refine x_iload_n dX8_restore_0 rfl ?_
  refine x_iconst (v := 0) dX8_restore_1 (by decide) ?_
  refine x_iconst (v := 1) dX8_restore_2 (by decide) ?_
  refine x_callSi dX8_restore_3 ml_X8_62 mt_X8_isFrom st_X8_isFrom (ct_X8_isFrom) rfl rfl (Nat.le_of_ble_eq_true rfl) ⟨(Nat.le_of_ble_eq_true rfl), (Nat.le_of_ble_eq_true rfl)⟩ ⟨rfl, rfl⟩ ⟨(Nat.le_of_ble_eq_true rfl), (Nat.le_of_ble_eq_true rfl)⟩ ?_
  refine x_if_ne (tgt := 12) dX8_restore_6 (by decide) (fun h6 => ?_) (fun h6 => ?_)
  · skip
    replace h6 := zb1 h6
    refine x_aload_n dX8_restore_12 rfl ?_
    refine x_getR dX8_restore_13 fl_X8_58 (by omega) rfl rfl rfl ?_
    refine x_iload_n dX8_restore_16 rfl ?_
    refine x_aald dX8_restore_17 (by omega) rfl (show (1 : Int32) = nI 1 from rfl) (by decide) ?_
    refine x_ifnonnull (tgt := 24) dX8_restore_18 (by decide) ?_
    refine x_pc (pc2 := 24) rfl ?_
    refine x_aload_n dX8_restore_24 rfl ?_
    refine x_getR dX8_restore_25 fl_X8_10 (by omega) rfl rfl rfl ?_
    refine x_aload_n dX8_restore_28 rfl ?_
    refine x_getR dX8_restore_29 fl_X8_58 (by omega) rfl rfl rfl ?_
    refine x_iload_n dX8_restore_32 rfl ?_
    refine x_aald dX8_restore_33 (by omega) rfl (show (1 : Int32) = nI 1 from rfl) (by decide) ?_
    refine x_pc (pc2 := 34) rfl ?_
    refine x_callVv dX8_restore_34 ml_X8_154 mt_X3_become mv_X3_become (ct_X3_become_1_58 hN hz) (by omega) rfl rfl rfl rfl (Nat.le_of_ble_eq_true rfl) ⟨(Nat.le_of_ble_eq_true rfl), (Nat.le_of_ble_eq_true rfl)⟩ ⟨rfl, rfl⟩ ⟨(Nat.le_of_ble_eq_true rfl), (Nat.le_of_ble_eq_true rfl)⟩ ?_
    refine x_iconst (v := 1) dX8_restore_37 (by decide) ?_
    exact x_iret dX8_restore_38 rfl (Nat.le_of_ble_eq_true rfl) (Nat.le_of_ble_eq_true rfl) (by exact ⟨rfl, rfl, rfl, rfl⟩)
  · skip
    replace h6 := zb0 h6
    exact absurd h6 (by decide)
theorem ct_X8_image_1_58 {g : zG} {N : Nat} {I : zI} {L : zL} {q0 : Option Nat} (hN : 69 ≤ N) (hz : ∀ i, i < 8 → narrow .boolean (.int (I 11 i)) = .int (I 11 i)) : Ct g yX8_image mX8_image [.ref (g.2.1 + 0), .int 1] N I L (zRw q0 (some 58)) (zA 1 N (zbec I 58 1) (zRw q0 (some 58))) := by
  refine Ct_of (lo0 := [some (.ref (g.2.1 + 0)), some (.int 1)]) rfl rfl rfl rfl (Nat.le_of_ble_eq_true rfl) (fun E => ?_)
  refine x_iload_n dX8_image_0 rfl ?_
  refine x_iconst (v := 0) dX8_image_1 (by decide) ?_
  refine x_iconst (v := 1) dX8_image_2 (by decide) ?_
  refine x_callSi dX8_image_3 ml_X8_62 mt_X8_isFrom st_X8_isFrom (ct_X8_isFrom) rfl rfl (Nat.le_of_ble_eq_true rfl) ⟨(Nat.le_of_ble_eq_true rfl), (Nat.le_of_ble_eq_true rfl)⟩ ⟨rfl, rfl⟩ ⟨(Nat.le_of_ble_eq_true rfl), (Nat.le_of_ble_eq_true rfl)⟩ ?_
  refine x_if_ne (tgt := 12) dX8_image_6 (by decide) (fun h6 => ?_) (fun h6 => ?_)
  · skip
    replace h6 := zb1 h6
    refine x_aload_n dX8_image_12 rfl ?_
    refine x_getR dX8_image_13 fl_X8_58 (by omega) rfl rfl rfl ?_
    refine x_iload_n dX8_image_16 rfl ?_
    refine x_aald dX8_image_17 (by omega) rfl (show (1 : Int32) = nI 1 from rfl) (by decide) ?_
    refine x_ifnonnull (tgt := 34) dX8_image_18 (by decide) ?_
    refine x_pc (pc2 := 34) rfl ?_
    refine x_aload_n dX8_image_34 rfl ?_
    refine x_getR dX8_image_35 fl_X8_58 (by omega) rfl rfl rfl ?_
    refine x_iload_n dX8_image_38 rfl ?_
    refine x_aald dX8_image_39 (by omega) rfl (show (1 : Int32) = nI 1 from rfl) (by decide) ?_
    refine x_aload_n dX8_image_40 rfl ?_
    refine x_getR dX8_image_41 fl_X8_10 (by omega) rfl rfl rfl ?_
    refine x_pc (pc2 := 44) rfl ?_
    refine x_callVv dX8_image_44 ml_X8_154 mt_X3_become mv_X3_become (ct_X3_become_58_1 hN hz) (by omega) rfl rfl rfl rfl (Nat.le_of_ble_eq_true rfl) ⟨(Nat.le_of_ble_eq_true rfl), (Nat.le_of_ble_eq_true rfl)⟩ ⟨rfl, rfl⟩ ⟨(Nat.le_of_ble_eq_true rfl), (Nat.le_of_ble_eq_true rfl)⟩ ?_
    refine x_iconst (v := 1) dX8_image_47 (by decide) ?_
    exact x_iret dX8_image_48 rfl (Nat.le_of_ble_eq_true rfl) (Nat.le_of_ble_eq_true rfl) (by exact ⟨rfl, rfl, rfl, rfl⟩)
  · skip
    replace h6 := zb0 h6
    exact absurd h6 (by decide)
theorem ct_X8_image_1_new58 {g : zG} {I : zI} {L : zL} {q0 : Option Nat} (hz : ∀ i, i < 8 → narrow .boolean (.int (I 11 i)) = .int (I 11 i)) : Ct g yX8_image mX8_image [.ref (g.2.1 + 0), .int 1] 58 I L (zRw q0 (none)) (zA 1 69 (zbec I 58 1) (zRw q0 (some 58))) := by
  refine Ct_of (lo0 := [some (.ref (g.2.1 + 0)), some (.int 1)]) rfl rfl rfl rfl (Nat.le_of_ble_eq_true rfl) (fun E => ?_)
  refine x_iload_n dX8_image_0 rfl ?_
  refine x_iconst (v := 0) dX8_image_1 (by decide) ?_
  refine x_iconst (v := 1) dX8_image_2 (by decide) ?_
  refine x_callSi dX8_image_3 ml_X8_62 mt_X8_isFrom st_X8_isFrom (ct_X8_isFrom) rfl rfl (Nat.le_of_ble_eq_true rfl) ⟨(Nat.le_of_ble_eq_true rfl), (Nat.le_of_ble_eq_true rfl)⟩ ⟨rfl, rfl⟩ ⟨(Nat.le_of_ble_eq_true rfl), (Nat.le_of_ble_eq_true rfl)⟩ ?_
  refine x_if_ne (tgt := 12) dX8_image_6 (by decide) (fun h6 => ?_) (fun h6 => ?_)
  · skip
    replace h6 := zb1 h6
    refine x_aload_n dX8_image_12 rfl ?_
    refine x_getR dX8_image_13 fl_X8_58 (by decide) rfl rfl rfl ?_
    refine x_iload_n dX8_image_16 rfl ?_
    refine x_aald dX8_image_17 (by decide) rfl (show (1 : Int32) = nI 1 from rfl) (by decide) ?_
    refine x_ifnonnullN dX8_image_18 ?_
    refine x_pc (pc2 := 21) rfl ?_
    refine x_aload_n dX8_image_21 rfl ?_
    refine x_getR dX8_image_22 fl_X8_58 (by decide) rfl rfl rfl ?_
    refine x_iload_n dX8_image_25 rfl ?_
    refine x_new dX8_image_26 nw_X8_7 rfl (Nat.le_of_ble_eq_true rfl) (Nat.le_of_ble_eq_true rfl) ?_
    refine x_sameV (I' := z0 (zmJ I 58) 58) (fun k hk j hv => ?_) ?_
    · by_cases h : k = 58
      · subst h; simp [z0]
      · rw [z0_ne _ h, z0_ne _ h, zmJ_lt I (by omega)]
    refine x_dup dX8_image_29 rfl ?_
    refine x_callIc dX8_image_30 ml_X8_9 mt_X3_init rfl im_X3_init rfl (ct_X3_init (m := 58) (Or.inr (Or.inr (Or.inl rfl))) (zmJ_ok I 58) (zmor_Rw (Or.inr (Or.inr (Or.inl rfl))))) rfl rfl (Nat.le_of_ble_eq_true rfl) ⟨(Nat.le_of_ble_eq_true rfl), (Nat.le_of_ble_eq_true rfl)⟩ ⟨(Nat.le_of_ble_eq_true rfl), (Nat.le_of_ble_eq_true rfl)⟩ (fun L30 => ?_)
    refine x_pc (pc2 := 33) rfl ?_
    refine x_aast dX8_image_33 (by decide) rfl (show (1 : Int32) = nI 1 from rfl) (by decide) (by decide) rfl ?_
    rw [zRw_set1]
    refine x_aload_n dX8_image_34 rfl ?_
    refine x_getR dX8_image_35 fl_X8_58 (by decide) rfl rfl rfl ?_
    refine x_iload_n dX8_image_38 rfl ?_
    refine x_aald dX8_image_39 (by decide) rfl (show (1 : Int32) = nI 1 from rfl) (by decide) ?_
    refine x_aload_n dX8_image_40 rfl ?_
    refine x_pc (pc2 := 41) rfl ?_
    refine x_getR dX8_image_41 fl_X8_10 (by decide) rfl rfl rfl ?_
    refine x_callVv dX8_image_44 ml_X8_154 mt_X3_become mv_X3_become (ct_X3_become_58_1 (by decide) (fun i hi => by rw [zmJ_lt I (by decide)]; exact hz i hi)) (by decide) rfl rfl rfl rfl (Nat.le_of_ble_eq_true rfl) ⟨(Nat.le_of_ble_eq_true rfl), (Nat.le_of_ble_eq_true rfl)⟩ ⟨rfl, rfl⟩ ⟨(Nat.le_of_ble_eq_true rfl), (Nat.le_of_ble_eq_true rfl)⟩ ?_
    rw [zmJ_bec I (by decide)]
    refine x_iconst (v := 1) dX8_image_47 (by decide) ?_
    exact x_iret dX8_image_48 rfl (Nat.le_of_ble_eq_true rfl) (Nat.le_of_ble_eq_true rfl) (by exact ⟨rfl, rfl, rfl, rfl⟩)
  · skip
    replace h6 := zb0 h6
    exact absurd h6 (by decide)
theorem ct_X8_restore_1_69 {g : zG} {N : Nat} {I : zI} {L : zL} {q0 : Option Nat} (hN : 80 ≤ N) (hz : ∀ i, i < 8 → narrow .boolean (.int (I 79 i)) = .int (I 79 i)) : Ct g yX8_restore mX8_restore [.ref (g.2.1 + 0), .int 1] N I L (zRw q0 (some 69)) (zA 1 N (zbec I 1 69) (zRw q0 (some 69))) := by
  refine Ct_of (lo0 := [some (.ref (g.2.1 + 0)), some (.int 1)]) rfl rfl rfl rfl (Nat.le_of_ble_eq_true rfl) (fun E => ?_)
  refine x_iload_n dX8_restore_0 rfl ?_
  refine x_iconst (v := 0) dX8_restore_1 (by decide) ?_
  refine x_iconst (v := 1) dX8_restore_2 (by decide) ?_
  refine x_callSi dX8_restore_3 ml_X8_62 mt_X8_isFrom st_X8_isFrom (ct_X8_isFrom) rfl rfl (Nat.le_of_ble_eq_true rfl) ⟨(Nat.le_of_ble_eq_true rfl), (Nat.le_of_ble_eq_true rfl)⟩ ⟨rfl, rfl⟩ ⟨(Nat.le_of_ble_eq_true rfl), (Nat.le_of_ble_eq_true rfl)⟩ ?_
  refine x_if_ne (tgt := 12) dX8_restore_6 (by decide) (fun h6 => ?_) (fun h6 => ?_)
  · skip
    replace h6 := zb1 h6
    refine x_aload_n dX8_restore_12 rfl ?_
    refine x_getR dX8_restore_13 fl_X8_58 (by omega) rfl rfl rfl ?_
    refine x_iload_n dX8_restore_16 rfl ?_
    refine x_aald dX8_restore_17 (by omega) rfl (show (1 : Int32) = nI 1 from rfl) (by decide) ?_
    refine x_ifnonnull (tgt := 24) dX8_restore_18 (by decide) ?_
    refine x_pc (pc2 := 24) rfl ?_
    refine x_aload_n dX8_restore_24 rfl ?_
    refine x_getR dX8_restore_25 fl_X8_10 (by omega) rfl rfl rfl ?_
    refine x_aload_n dX8_restore_28 rfl ?_
    refine x_getR dX8_restore_29 fl_X8_58 (by omega) rfl rfl rfl ?_
    refine x_iload_n dX8_restore_32 rfl ?_
    refine x_aald dX8_restore_33 (by omega) rfl (show (1 : Int32) = nI 1 from rfl) (by decide) ?_
    refine x_pc (pc2 := 34) rfl ?_
    refine x_callVv dX8_restore_34 ml_X8_154 mt_X3_become mv_X3_become (ct_X3_become_1_69 hN hz) (by omega) rfl rfl rfl rfl (Nat.le_of_ble_eq_true rfl) ⟨(Nat.le_of_ble_eq_true rfl), (Nat.le_of_ble_eq_true rfl)⟩ ⟨rfl, rfl⟩ ⟨(Nat.le_of_ble_eq_true rfl), (Nat.le_of_ble_eq_true rfl)⟩ ?_
    refine x_iconst (v := 1) dX8_restore_37 (by decide) ?_
    exact x_iret dX8_restore_38 rfl (Nat.le_of_ble_eq_true rfl) (Nat.le_of_ble_eq_true rfl) (by exact ⟨rfl, rfl, rfl, rfl⟩)
  · skip
    replace h6 := zb0 h6
    exact absurd h6 (by decide)
theorem ct_X8_image_1_69 {g : zG} {N : Nat} {I : zI} {L : zL} {q0 : Option Nat} (hN : 80 ≤ N) (hz : ∀ i, i < 8 → narrow .boolean (.int (I 11 i)) = .int (I 11 i)) : Ct g yX8_image mX8_image [.ref (g.2.1 + 0), .int 1] N I L (zRw q0 (some 69)) (zA 1 N (zbec I 69 1) (zRw q0 (some 69))) := by
  refine Ct_of (lo0 := [some (.ref (g.2.1 + 0)), some (.int 1)]) rfl rfl rfl rfl (Nat.le_of_ble_eq_true rfl) (fun E => ?_)
  refine x_iload_n dX8_image_0 rfl ?_
  refine x_iconst (v := 0) dX8_image_1 (by decide) ?_
  refine x_iconst (v := 1) dX8_image_2 (by decide) ?_
  refine x_callSi dX8_image_3 ml_X8_62 mt_X8_isFrom st_X8_isFrom (ct_X8_isFrom) rfl rfl (Nat.le_of_ble_eq_true rfl) ⟨(Nat.le_of_ble_eq_true rfl), (Nat.le_of_ble_eq_true rfl)⟩ ⟨rfl, rfl⟩ ⟨(Nat.le_of_ble_eq_true rfl), (Nat.le_of_ble_eq_true rfl)⟩ ?_
  refine x_if_ne (tgt := 12) dX8_image_6 (by decide) (fun h6 => ?_) (fun h6 => ?_)
  · skip
    replace h6 := zb1 h6
    refine x_aload_n dX8_image_12 rfl ?_
    refine x_getR dX8_image_13 fl_X8_58 (by omega) rfl rfl rfl ?_
    refine x_iload_n dX8_image_16 rfl ?_
    refine x_aald dX8_image_17 (by omega) rfl (show (1 : Int32) = nI 1 from rfl) (by decide) ?_
    refine x_ifnonnull (tgt := 34) dX8_image_18 (by decide) ?_
    refine x_pc (pc2 := 34) rfl ?_
    refine x_aload_n dX8_image_34 rfl ?_
    refine x_getR dX8_image_35 fl_X8_58 (by omega) rfl rfl rfl ?_
    refine x_iload_n dX8_image_38 rfl ?_
    refine x_aald dX8_image_39 (by omega) rfl (show (1 : Int32) = nI 1 from rfl) (by decide) ?_
    refine x_aload_n dX8_image_40 rfl ?_
    refine x_getR dX8_image_41 fl_X8_10 (by omega) rfl rfl rfl ?_
    refine x_pc (pc2 := 44) rfl ?_
    refine x_callVv dX8_image_44 ml_X8_154 mt_X3_become mv_X3_become (ct_X3_become_69_1 hN hz) (by omega) rfl rfl rfl rfl (Nat.le_of_ble_eq_true rfl) ⟨(Nat.le_of_ble_eq_true rfl), (Nat.le_of_ble_eq_true rfl)⟩ ⟨rfl, rfl⟩ ⟨(Nat.le_of_ble_eq_true rfl), (Nat.le_of_ble_eq_true rfl)⟩ ?_
    refine x_iconst (v := 1) dX8_image_47 (by decide) ?_
    exact x_iret dX8_image_48 rfl (Nat.le_of_ble_eq_true rfl) (Nat.le_of_ble_eq_true rfl) (by exact ⟨rfl, rfl, rfl, rfl⟩)
  · skip
    replace h6 := zb0 h6
    exact absurd h6 (by decide)
theorem ct_X8_image_1_new69 {g : zG} {I : zI} {L : zL} {q0 : Option Nat} (hz : ∀ i, i < 8 → narrow .boolean (.int (I 11 i)) = .int (I 11 i)) : Ct g yX8_image mX8_image [.ref (g.2.1 + 0), .int 1] 69 I L (zRw q0 (none)) (zA 1 80 (zbec I 69 1) (zRw q0 (some 69))) := by
  refine Ct_of (lo0 := [some (.ref (g.2.1 + 0)), some (.int 1)]) rfl rfl rfl rfl (Nat.le_of_ble_eq_true rfl) (fun E => ?_)
  refine x_iload_n dX8_image_0 rfl ?_
  refine x_iconst (v := 0) dX8_image_1 (by decide) ?_
  refine x_iconst (v := 1) dX8_image_2 (by decide) ?_
  refine x_callSi dX8_image_3 ml_X8_62 mt_X8_isFrom st_X8_isFrom (ct_X8_isFrom) rfl rfl (Nat.le_of_ble_eq_true rfl) ⟨(Nat.le_of_ble_eq_true rfl), (Nat.le_of_ble_eq_true rfl)⟩ ⟨rfl, rfl⟩ ⟨(Nat.le_of_ble_eq_true rfl), (Nat.le_of_ble_eq_true rfl)⟩ ?_
  refine x_if_ne (tgt := 12) dX8_image_6 (by decide) (fun h6 => ?_) (fun h6 => ?_)
  · skip
    replace h6 := zb1 h6
    refine x_aload_n dX8_image_12 rfl ?_
    refine x_getR dX8_image_13 fl_X8_58 (by decide) rfl rfl rfl ?_
    refine x_iload_n dX8_image_16 rfl ?_
    refine x_aald dX8_image_17 (by decide) rfl (show (1 : Int32) = nI 1 from rfl) (by decide) ?_
    refine x_ifnonnullN dX8_image_18 ?_
    refine x_pc (pc2 := 21) rfl ?_
    refine x_aload_n dX8_image_21 rfl ?_
    refine x_getR dX8_image_22 fl_X8_58 (by decide) rfl rfl rfl ?_
    refine x_iload_n dX8_image_25 rfl ?_
    refine x_new dX8_image_26 nw_X8_7 rfl (Nat.le_of_ble_eq_true rfl) (Nat.le_of_ble_eq_true rfl) ?_
    refine x_sameV (I' := z0 (zmJ I 69) 69) (fun k hk j hv => ?_) ?_
    · by_cases h : k = 69
      · subst h; simp [z0]
      · rw [z0_ne _ h, z0_ne _ h, zmJ_lt I (by omega)]
    refine x_dup dX8_image_29 rfl ?_
    refine x_callIc dX8_image_30 ml_X8_9 mt_X3_init rfl im_X3_init rfl (ct_X3_init (m := 69) (Or.inr (Or.inr (Or.inr rfl))) (zmJ_ok I 69) (zmor_Rw (Or.inr (Or.inr (Or.inr rfl))))) rfl rfl (Nat.le_of_ble_eq_true rfl) ⟨(Nat.le_of_ble_eq_true rfl), (Nat.le_of_ble_eq_true rfl)⟩ ⟨(Nat.le_of_ble_eq_true rfl), (Nat.le_of_ble_eq_true rfl)⟩ (fun L30 => ?_)
    refine x_pc (pc2 := 33) rfl ?_
    refine x_aast dX8_image_33 (by decide) rfl (show (1 : Int32) = nI 1 from rfl) (by decide) (by decide) rfl ?_
    rw [zRw_set1]
    refine x_aload_n dX8_image_34 rfl ?_
    refine x_getR dX8_image_35 fl_X8_58 (by decide) rfl rfl rfl ?_
    refine x_iload_n dX8_image_38 rfl ?_
    refine x_aald dX8_image_39 (by decide) rfl (show (1 : Int32) = nI 1 from rfl) (by decide) ?_
    refine x_aload_n dX8_image_40 rfl ?_
    refine x_pc (pc2 := 41) rfl ?_
    refine x_getR dX8_image_41 fl_X8_10 (by decide) rfl rfl rfl ?_
    refine x_callVv dX8_image_44 ml_X8_154 mt_X3_become mv_X3_become (ct_X3_become_69_1 (by decide) (fun i hi => by rw [zmJ_lt I (by decide)]; exact hz i hi)) (by decide) rfl rfl rfl rfl (Nat.le_of_ble_eq_true rfl) ⟨(Nat.le_of_ble_eq_true rfl), (Nat.le_of_ble_eq_true rfl)⟩ ⟨rfl, rfl⟩ ⟨(Nat.le_of_ble_eq_true rfl), (Nat.le_of_ble_eq_true rfl)⟩ ?_
    rw [zmJ_bec I (by decide)]
    refine x_iconst (v := 1) dX8_image_47 (by decide) ?_
    exact x_iret dX8_image_48 rfl (Nat.le_of_ble_eq_true rfl) (Nat.le_of_ble_eq_true rfl) (by exact ⟨rfl, rfl, rfl, rfl⟩)
  · skip
    replace h6 := zb0 h6
    exact absurd h6 (by decide)
