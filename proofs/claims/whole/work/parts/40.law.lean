/-! THE LAW: its loop, its start -/
theorem law_loop {g : zG} {nm : String} {p : Program} {e : Env} {s : State} {m : MethodId} {below : List Frame} {meth : Method} {c : Code} {b L : Nat} {xs : Nat → Int32} (C0 : lw_At p s m meth c b L xs) (hg : g.2.1 = s.heap.size) (hL : L ≤ 320) : ∀ (d t : Nat) (q0 q1 : Option Nat) (N : Nat) (I : zI) (Lx : zL), 65 ≤ t + d → t ≤ 64 → Inv q0 q1 N I → X g (mL nm) (p, e, s, m, #[Value.ref b], below, meth, c) (lw_Z below #[Value.ref b] s) (58 + 11 * t) (1345 + 85 * t) 18 (llo b g.2.1 t) [] N I Lx (zRw q0 q1)
  | 0, t, _, _, _, _, _, h1, h2, _ => absurd h1 (by omega)
  | d + 1, t, q0, q1, N, I, Lx, h1, h2, h => by
    refine x_iload_n (x := nI (5 * t)) dL_law_18 rfl ?_
    refine x_aload_n (x := b) dL_law_19 rfl ?_
    refine y_slen C0 hg dL_law_20 ?_
    refine x_iconst (v := 5) dL_law_21 (by decide) ?_
    refine x_isub dL_law_22 ?_
    refine x_icmp_gt (tgt := 986) dL_law_23 (by decide) (fun _ => ?_) (fun z => ?_)
    · refine x_iconst (v := 1) dL_law_986 (by decide) ?_
      exact y_ret C0 hg dL_law_987 (by omega) (by omega)
    have h5 : 5 * t + 5 ≤ L := by
      rcases Nat.lt_or_ge L 5 with q | q
      · have y : nI L - nI 5 < 0 := pk_sneg (by decide) q
        exact absurd (Int32.lt_of_lt_of_le y (Int32.not_lt.mp (nI_pos (n := 5 * t) (by omega)))) z
      · have y : nI L - 5 = nI (L - 5) := pk_sub (b := 5) q
        rw [y] at z
        have z := mt (nI_ltI (a := L - 5) (b := 5 * t) (by omega) (by omega)).mpr z
        omega
    have K : LK g nm (p, e, s, m, #[Value.ref b], below, meth, c) (lw_Z below #[Value.ref b] s) b t := by
      intro q0 q1 N I Lx h
      refine x_iinc (x := nI (5 * t)) (v := nI (5 * (t + 1))) (lo2 := llo b g.2.1 (t + 1)) dL_law_980 rfl ?_ rfl rfl ?_
      · rw [show Int32.ofInt 5 = nI 5 from by decide, nI_add, show 5 * t + 5 = 5 * (t + 1) by omega]
      refine x_goto (tgt := 18) dL_law_983 (by decide) ?_
      exact law_loop C0 hg hL d (t + 1) q0 q1 N I Lx (by omega) (by omega) h
    refine x_aload_n (x := b) dL_law_26 rfl ?_
    refine x_iload_n (x := nI (5 * t)) dL_law_27 rfl ?_
    refine y_sld C0 hg hL (i := 5 * t) dL_law_28 rfl (by omega) ?_
    refine x_bipush (v := 31) dL_law_29 (by decide) ?_
    refine x_iand dL_law_31 ?_
    obtain ⟨j, hj, ej⟩ : ∃ j : Nat, j < 2 ^ 5 ∧ xs (5 * t) &&& 31 = nI j := pk_andE _ 5 (by decide)
    rw [ej]
    have hj : j < 32 := hj
    by_cases out : 27 ≤ j
    · refine x_tableOut (tgt := 980) dL_law_32 (Or.inr ?_) (by decide) (K.use h)
      rw [nI_toInt (by omega)]
      omega
    rcases (show j = 0 ∨ j = 1 ∨ j = 2 ∨ j = 3 ∨ j = 4 ∨ j = 5 ∨ j = 6 ∨ j = 7 ∨ j = 8 ∨ j = 9 ∨ j = 10 ∨ j = 11 ∨ j = 12 ∨ j = 13 ∨ j = 14 ∨ j = 15 ∨ j = 16 ∨ j = 17 ∨ j = 18 ∨ j = 19 ∨ j = 20 ∨ j = 21 ∨ j = 22 ∨ j = 23 ∨ j = 24 ∨ j = 25 ∨ j = 26 by omega) with rfl | rfl | rfl | rfl | rfl | rfl | rfl | rfl | rfl | rfl | rfl | rfl | rfl | rfl | rfl | rfl | rfl | rfl | rfl | rfl | rfl | rfl | rfl | rfl | rfl | rfl | rfl
    · exact x_tableIn (off := 124) (tgt := 156) dL_law_32 (by decide) (by decide) (by decide) (by decide) (lc_0 C0 hg hL h5 h K)
    · exact x_tableIn (off := 167) (tgt := 199) dL_law_32 (by decide) (by decide) (by decide) (by decide) (lc_1 C0 hg hL h5 h K)
    · exact x_tableIn (off := 220) (tgt := 252) dL_law_32 (by decide) (by decide) (by decide) (by decide) (lc_2 C0 hg hL h5 h K)
    · exact x_tableIn (off := 243) (tgt := 275) dL_law_32 (by decide) (by decide) (by decide) (by decide) (lc_3 C0 hg hL h5 h K)
    · exact x_tableIn (off := 286) (tgt := 318) dL_law_32 (by decide) (by decide) (by decide) (by decide) (lc_4 C0 hg hL h5 h K)
    · exact x_tableIn (off := 345) (tgt := 377) dL_law_32 (by decide) (by decide) (by decide) (by decide) (lc_5 C0 hg hL h5 h K)
    · exact x_tableIn (off := 368) (tgt := 400) dL_law_32 (by decide) (by decide) (by decide) (by decide) (lc_6 C0 hg hL h5 h K)
    · exact x_tableIn (off := 381) (tgt := 413) dL_law_32 (by decide) (by decide) (by decide) (by decide) (lc_7 C0 hg hL h5 h K)
    · exact x_tableIn (off := 394) (tgt := 426) dL_law_32 (by decide) (by decide) (by decide) (by decide) (lc_8 C0 hg hL h5 h K)
    · exact x_tableIn (off := 417) (tgt := 449) dL_law_32 (by decide) (by decide) (by decide) (by decide) (lc_9 C0 hg hL h5 h K)
    · exact x_tableIn (off := 430) (tgt := 462) dL_law_32 (by decide) (by decide) (by decide) (by decide) (lc_10 C0 hg hL h5 h K)
    · exact x_tableIn (off := 463) (tgt := 495) dL_law_32 (by decide) (by decide) (by decide) (by decide) (lc_11 C0 hg hL h5 h K)
    · exact x_tableIn (off := 486) (tgt := 518) dL_law_32 (by decide) (by decide) (by decide) (by decide) (lc_12 C0 hg hL h5 h K)
    · exact x_tableIn (off := 509) (tgt := 541) dL_law_32 (by decide) (by decide) (by decide) (by decide) (lc_13 C0 hg hL h5 h K)
    · exact x_tableIn (off := 542) (tgt := 574) dL_law_32 (by decide) (by decide) (by decide) (by decide) (lc_14 C0 hg hL h5 h K)
    · exact x_tableIn (off := 565) (tgt := 597) dL_law_32 (by decide) (by decide) (by decide) (by decide) (lc_15 C0 hg hL h5 h K)
    · exact x_tableIn (off := 598) (tgt := 630) dL_law_32 (by decide) (by decide) (by decide) (by decide) (lc_16 C0 hg hL h5 h K)
    · exact x_tableIn (off := 641) (tgt := 673) dL_law_32 (by decide) (by decide) (by decide) (by decide) (lc_17 C0 hg hL h5 h K)
    · exact x_tableIn (off := 690) (tgt := 722) dL_law_32 (by decide) (by decide) (by decide) (by decide) (lc_18 C0 hg hL h5 h K)
    · exact x_tableIn (off := 703) (tgt := 735) dL_law_32 (by decide) (by decide) (by decide) (by decide) (lc_19 C0 hg hL h5 h K)
    · exact x_tableIn (off := 726) (tgt := 758) dL_law_32 (by decide) (by decide) (by decide) (by decide) (lc_20 C0 hg hL h5 h K)
    · exact x_tableIn (off := 749) (tgt := 781) dL_law_32 (by decide) (by decide) (by decide) (by decide) (lc_21 C0 hg hL h5 h K)
    · exact x_tableIn (off := 782) (tgt := 814) dL_law_32 (by decide) (by decide) (by decide) (by decide) (lc_22 C0 hg hL h5 h K)
    · exact x_tableIn (off := 836) (tgt := 868) dL_law_32 (by decide) (by decide) (by decide) (by decide) (lc_23 C0 hg hL h5 h K)
    · exact x_tableIn (off := 879) (tgt := 911) dL_law_32 (by decide) (by decide) (by decide) (by decide) (lc_24 C0 hg hL h5 h K)
    · exact x_tableIn (off := 902) (tgt := 934) dL_law_32 (by decide) (by decide) (by decide) (by decide) (lc_25 C0 hg hL h5 h K)
    · exact x_tableIn (off := 925) (tgt := 957) dL_law_32 (by decide) (by decide) (by decide) (by decide) (lc_26 C0 hg hL h5 h K)
theorem karr_int {s : State} {args : Array Value} (h : (Cond.arrayClass .int).before args s = true) : ∃ cA, ArrOfT s cA .int ∧ va_RA s cA .int := by
  obtain ⟨cA, kA, comp, h1, h2, h3⟩ := Cond.arrayClass_spec h
  exact ⟨cA, fun n z => ⟨fun k h => (by cases h), kA, h2, comp, h3⟩, h1⟩
theorem karr_long {s : State} {args : Array Value} (h : (Cond.arrayClass .long).before args s = true) : ∃ cA, ArrOfT s cA .long ∧ va_RA s cA .long := by
  obtain ⟨cA, kA, comp, h1, h2, h3⟩ := Cond.arrayClass_spec h
  exact ⟨cA, fun n z => ⟨fun k h => (by cases h), kA, h2, comp, h3⟩, h1⟩
theorem karr_bool {s : State} {args : Array Value} (h : (Cond.arrayClass .boolean).before args s = true) : ∃ cA, ArrOfT s cA .boolean ∧ va_RA s cA .boolean := by
  obtain ⟨cA, kA, comp, h1, h2, h3⟩ := Cond.arrayClass_spec h
  exact ⟨cA, fun n z => ⟨fun k h => (by cases h), kA, h2, comp, h3⟩, h1⟩
theorem karr_obj {C : String} {s : State} {args : Array Value} (h : (Cond.arrayOver (.object C)).before args s = true) : ∃ cA, ArrOfT s cA (.object C) ∧ va_RA s cA (.object C) := by
  obtain ⟨comp, cA, kA, h1, -, h2, h3, h4⟩ := Cond.arrayOver_spec h
  exact ⟨cA, fun n z => ⟨fun k h => (by cases h), kA, h2, comp, h3⟩, kA, comp, h2, h3, h1, h4⟩
theorem zin_t0 {ws : List Cond} (ps : List Nat) (h : ws.map some = ps.map (fun i => lw_tbl[i]?)) : ∀ w ∈ ws, w ∈ lw_tbl := by
  intro w hw
  have h1 : some w ∈ ps.map (fun i => lw_tbl[i]?) := by rw [← h]; exact List.mem_map.mpr ⟨w, hw, rfl⟩
  obtain ⟨i, -, hi⟩ := List.mem_map.mp h1
  exact List.mem_of_getElem? hi
theorem zNW_in : ∀ w ∈ zNW.map (fun q => Cond.methodLinkNest q.1 q.2.1 q.2.2.1 q.2.2.2), w ∈ lw_tbl := zin_t0 [120, 135, 143, 192, 202, 207, 223, 237, 358, 381, 410, 411, 412, 479, 485, 500, 506, 515, 555, 584, 597, 616] (by decide +kernel)
theorem over_in : Cond.arrayOver (.object "MireWrestle$Mire") ∈ lw_tbl := List.mem_of_getElem? (i := 250) (by decide +kernel)
theorem inst_0 : Cond.instantiable RX0 3 ∈ wsL_law := zmem 142 (by decide +kernel) rfl
theorem inst_1 : Cond.instantiable RX1 7 ∈ wsL_law := zmem 134 (by decide +kernel) rfl
theorem inst_2 : Cond.instantiable RX2 2 ∈ wsL_law := zmem 236 (by decide +kernel) rfl
theorem inst_3 : Cond.instantiable RX3 13 ∈ wsL_law := zmem 56 (by decide +kernel) rfl
theorem inst_4 : Cond.instantiable RX4 4 ∈ wsL_law := zmem 201 (by decide +kernel) rfl
theorem inst_5 : Cond.instantiable RX5 2 ∈ wsL_law := zmem 119 (by decide +kernel) rfl
theorem inst_6 : Cond.instantiable RX6 1 ∈ wsL_law := zmem 191 (by decide +kernel) rfl
theorem inst_7 : Cond.instantiable RX7 2 ∈ wsL_law := zmem 222 (by decide +kernel) rfl
theorem inst_8 : Cond.instantiable RX8 8 ∈ wsL_law := zmem 48 (by decide +kernel) rfl
theorem inst_9 : Cond.instantiable RX9 24 ∈ wsL_law := zmem 670 (by decide +kernel) rfl
/-- the walk from the law's entry -/
theorem law_body {g : zG} {nm : String} {p : Program} {e : Env} {s : State} {m : MethodId} {below : List Frame} {meth : Method} {c : Code} {b L : Nat} {xs : Nat → Int32} (C0 : lw_At p s m meth c b L xs) (hg : g.2.1 = s.heap.size) (hL : L ≤ 320) (Lx : zL) : X g (mL nm) (p, e, s, m, #[Value.ref b], below, meth, c) (lw_Z below #[Value.ref b] s) 0 0 0 [some (.ref b), none, none, none] [] 0 zJ0 Lx zRn := by
  refine x_new dL_law_0 nw_L_7 rfl (Nat.le_of_ble_eq_true rfl) (Nat.le_of_ble_eq_true rfl) ?_
  refine x_dup dL_law_3 rfl ?_
  refine x_callIc dL_law_4 ml_L_9 mt_X8_init rfl im_X8_init rfl ct_X8_init (k := 0) rfl rfl (Nat.le_of_ble_eq_true rfl) ⟨(Nat.le_of_ble_eq_true rfl), (Nat.le_of_ble_eq_true rfl)⟩ ⟨(Nat.le_of_ble_eq_true rfl), (Nat.le_of_ble_eq_true rfl)⟩ (fun L1 => ?_)
  refine x_astore_n (n := 1) (x := g.2.1 + 0) (lo2 := [some (.ref b), some (.ref (g.2.1 + 0)), none, none]) dL_law_7 (Nat.le_of_ble_eq_true rfl) rfl rfl ?_
  refine x_new dL_law_8 nw_L_10 rfl (Nat.le_of_ble_eq_true rfl) (Nat.le_of_ble_eq_true rfl) ?_
  refine x_dup dL_law_11 rfl ?_
  refine x_callIc dL_law_12 ml_L_12 mt_X9_init rfl im_X9_init rfl ct_X9_init (k := 40) rfl rfl (Nat.le_of_ble_eq_true rfl) ⟨(Nat.le_of_ble_eq_true rfl), (Nat.le_of_ble_eq_true rfl)⟩ ⟨(Nat.le_of_ble_eq_true rfl), (Nat.le_of_ble_eq_true rfl)⟩ (fun L2 => ?_)
  refine x_astore_n (n := 2) (x := g.2.1 + 40) (lo2 := [some (.ref b), some (.ref (g.2.1 + 0)), some (.ref (g.2.1 + 40)), none]) dL_law_15 (Nat.le_of_ble_eq_true rfl) rfl rfl ?_
  refine x_iconst (v := nI (5 * 0)) dL_law_16 (by decide) ?_
  refine x_istore_n (n := 3) (x := nI (5 * 0)) (lo2 := llo b g.2.1 0) dL_law_17 (Nat.le_of_ble_eq_true rfl) rfl rfl ?_
  refine x_weak (kc2 := 58 + 11 * 0) (ks2 := 1345 + 85 * 0) (Nat.le_of_ble_eq_true rfl) (Nat.le_of_ble_eq_true rfl) ?_
  exact law_loop C0 hg hL 65 0 none none 58 zJ0 L2 (by decide) (by decide) inv_0
theorem whole_start {p : Program} {e : Env} {s : State} {m : MethodId} {below : List Frame} {meth : Method} {c : Code} (l : Launch) (hflags : l.flags = flags0) {b L : Nat} {xs : Nat → Int32} (hL : L ≤ 320) (C0 : lw_At p s m meth c b L xs) : W p l e room_1 s m #[Value.ref b] below meth c s.heap [] 0 0 (lw_Z below #[Value.ref b] s) (entryFrame m ([Value.ref b] : List Value).toArray 4) := by
  obtain ⟨hx, hb, hr, hml, hown, hts, hX, hbl, hlocks, hgv⟩ := id C0
  have htsL : ∀ w ∈ wsL_law, w.before #[Value.ref b] s = true := fun w h => hts w (wsL_law_in w h)
  obtain ⟨c0, s0, k0⟩ := u_known (C := RX0) (T := TX0) (N := 3) (n := 3) htsL inlX0 (htsL _ inst_0)
  obtain ⟨c1, s1, k1⟩ := u_known (C := RX1) (T := TX1) (N := 7) (n := 7) htsL inlX1 (htsL _ inst_1)
  obtain ⟨c2, s2, k2⟩ := u_known (C := RX2) (T := TX2) (N := 2) (n := 2) htsL inlX2 (htsL _ inst_2)
  obtain ⟨c3, s3, k3⟩ := u_known (C := RX3) (T := TX3) (N := 13) (n := 13) htsL inlX3 (htsL _ inst_3)
  obtain ⟨c4, s4, k4⟩ := u_known (C := RX4) (T := TX4) (N := 4) (n := 4) htsL inlX4 (htsL _ inst_4)
  obtain ⟨c5, s5, k5⟩ := u_known (C := RX5) (T := TX5) (N := 2) (n := 2) htsL inlX5 (htsL _ inst_5)
  obtain ⟨c6, s6, k6⟩ := u_known (C := RX6) (T := TX6) (N := 1) (n := 1) htsL inlX6 (htsL _ inst_6)
  obtain ⟨c7, s7, k7⟩ := u_known (C := RX7) (T := TX7) (N := 2) (n := 2) htsL inlX7 (htsL _ inst_7)
  obtain ⟨c8, s8, k8⟩ := u_known (C := RX8) (T := TX8) (N := 8) (n := 8) htsL inlX8 (htsL _ inst_8)
  obtain ⟨c9, s9, k9⟩ := u_known (C := RX9) (T := TX9) (N := 24) (n := 24) htsL inlX9 (htsL _ inst_9)
  obtain ⟨a0, b0⟩ := karr_int (htsL _ ar_int)
  obtain ⟨a1, b1⟩ := karr_long (htsL _ ar_long)
  obtain ⟨a2, b2⟩ := karr_bool (htsL _ ar_bool)
  obtain ⟨a3, b3⟩ := karr_obj (hts _ over_in)
  obtain ⟨dC, dI, hKc⟩ : ∃ (dC : Nat → ClassId) (dI : Nat → Nat → Nat), ∀ (k : Nat) (q : vw_C), zcl[k]? = some q → u_Kn s q.1 q.2.1 q.2.2 (dC k) (dI k) := by
    refine ⟨fun k => [c0, c1, c2, c3, c4, c5, c6, c7, c8, c9].getD k c0, fun k => [s0, s1, s2, s3, s4, s5, s6, s7, s8, s9].getD k s0, ?_⟩
    intro k q hq
    match k, hq with
    | 0, hq => cases hq; exact k0
    | 1, hq => cases hq; exact k1
    | 2, hq => cases hq; exact k2
    | 3, hq => cases hq; exact k3
    | 4, hq => cases hq; exact k4
    | 5, hq => cases hq; exact k5
    | 6, hq => cases hq; exact k6
    | 7, hq => cases hq; exact k7
    | 8, hq => cases hq; exact k8
    | 9, hq => cases hq; exact k9
    | k + 10, hq => simp [zcl] at hq
  have hZ : zS (l, s.heap.size, (fun k => [a0, a1, a2, a3].getD k a0), (dC, dI)) s := by
    refine ⟨⟨hKc, ?_⟩, fun q hq => va_Nw.of rfl (hts _ (zNW_in _ (List.mem_map.mpr ⟨q, hq, rfl⟩))), va_AO.of (hts _ over_in)⟩
    intro k q hq
    match k, hq with
    | 0, hq => cases hq; exact b0
    | 1, hq => cases hq; exact b1
    | 2, hq => cases hq; exact b2
    | 3, hq => cases hq; exact b3
    | k + 4, hq => simp [ztys] at hq
  have hP : zP (l, s.heap.size, (fun k => [a0, a1, a2, a3].getD k a0), (dC, dI)) 0 zJ0 (fun _ _ => 0) zRn s.heap := ⟨rfl, fun k q hq => by simp [zw] at hq⟩
  have key := law_body (g := (l, s.heap.size, (fun k => [a0, a1, a2, a3].getD k a0), (dC, dI))) (nm := meth.name) (e := e) (below := below) C0 rfl hL (fun _ _ => 0)
  rw [lg_entry_eq]
  exact key ⟨hx, hb, hml, hown, htsL, hZ, hlocks, hr, rfl⟩ _ _ _ (lv_entry [Value.ref b] (n := 4) (Nat.le_of_ble_eq_true rfl)) hP va_S.rf
