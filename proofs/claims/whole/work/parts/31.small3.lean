theorem kig_eq {K K' : zI} {j : Nat} (h1 : j < 15 → K' 41 j = K 41 j) (h2 : 15 ≤ j → j < 21 → K' 43 = K 43) (h3 : 21 ≤ j → j < 27 → K' 44 = K 44) (h4 : 27 ≤ j → j < 33 → K' 45 = K 45) (h5 : 33 ≤ j → j < 41 → K' 46 = K 46) (h6 : 41 ≤ j → j < 51 → K' 47 = K 47) (h7 : 51 ≤ j → j < 67 → K' 48 = K 48) (h8 : 67 ≤ j → K' 40 7 = K 40 7) : kig K' j = kig K j := by
  unfold kig
  by_cases a : j < 15
  · rw [if_pos a, if_pos a]; exact h1 a
  rw [if_neg a, if_neg a]
  by_cases b : j < 21
  · rw [if_pos b, if_pos b, h2 (by omega) b]
  rw [if_neg b, if_neg b]
  by_cases c : j < 27
  · rw [if_pos c, if_pos c, h3 (by omega) c]
  rw [if_neg c, if_neg c]
  by_cases d : j < 33
  · rw [if_pos d, if_pos d, h4 (by omega) d]
  rw [if_neg d, if_neg d]
  by_cases e : j < 41
  · rw [if_pos e, if_pos e, h5 (by omega) e]
  rw [if_neg e, if_neg e]
  by_cases f : j < 51
  · rw [if_pos f, if_pos f, h6 (by omega) f]
  rw [if_neg f, if_neg f]
  by_cases g : j < 67
  · rw [if_pos g, if_pos g, h7 (by omega) g]
  rw [if_neg g, if_neg g]
  exact h8 (by omega)
theorem blk_eq {I I' : zI} {m d : Nat} (h : d ≤ 10 → I' (m + d) = I (m + d)) : blk I' m d = blk I m d := by
  unfold blk
  split
  · rw [h (by assumption)]
  · rfl
section SM
variable {I K I' K' : zI} {n : Nat}
theorem rl_hd (h : Rl I K) : RelH (I 2) (I 3) (I 1 11) (I 1 12) (K 41) := RelH.cong (F := kig K) h.hd (fun _ hj => (kig_1 hj).symm)
theorem rl_wh (h : Rl I K) (hI : ∀ c, 4 ≤ c → c ≤ 11 → I' c = I c) (h0 : I' 1 10 = I 1 10) (hK : ∀ c, 43 ≤ c ∧ c ≤ 48 → K' c = K c) (h7 : K' 40 7 = K 40 7) (hh : RelH (I' 2) (I' 3) (I' 1 11) (I' 1 12) (K' 41)) : Rl I' K' :=
  RelB.wh h (fun d _ => blk_eq (fun _ => hI _ (by omega) (by omega))) h0 (fun _ hj => kig_hi hK h7 hj) (RelH.cong (F := K' 41) hh (fun _ hj => kig_1 hj))
theorem Two.of (h : Two I K) (hr : Rl I' K') (h12 : I' 12 = I 12) (h13 : I' 13 = I 13) (h9 : K' 40 9 = K 40 9) (h49 : K' 49 = K 49) : Two I' K' := ⟨hr, by rw [h12]; exact h.cnt, by rw [h9, h12]; exact h.eC, by rw [h49, h13]; exact h.eP⟩
theorem gr_two (h : Two I K) (a s m : Int32) : mgrA K a s m = grA I a s m ∧ Two (grI I a s m) (mgrI K a s m) := by
  unfold mgrA grA
  by_cases z1 : zin a 0 5 = true
  case neg =>
    have z1 : zin a 0 5 = false := by simpa using z1
    rw [if_pos z1, if_pos z1]
    unfold grI mgrI
    rw [z1, if_neg (fun z => absurd z.1 (by decide)), if_neg (fun z => absurd z.1 (by decide))]
    exact ⟨rfl, h⟩
  by_cases z2 : zin s 1 99 = false ∨ zin m 0 255 = false
  · rw [z1, if_neg (show ¬ true = false by decide), if_neg (show ¬ true = false by decide), if_pos z2, if_pos z2]
    have zn : ¬ (true = true ∧ zin s 1 99 = true ∧ zin m 0 255 = true) := by
      rintro ⟨_, y2, y3⟩
      rcases z2 with z2 | z2
      · rw [y2] at z2; cases z2
      · rw [y3] at z2; cases z2
    unfold grI mgrI
    rw [z1, if_neg zn, if_neg zn]
    exact ⟨rfl, h⟩
  have zs : zin s 1 99 = true := by
    cases q : zin s 1 99
    · exact absurd (Or.inl q) z2
    · rfl
  have zm : zin m 0 255 = true := by
    cases q : zin m 0 255
    · exact absurd (Or.inr q) z2
    · rfl
  rw [z1, if_neg (show ¬ true = false by decide), if_neg (show ¬ true = false by decide), if_neg z2, if_neg z2]
  obtain ⟨i, hi, rfl⟩ := zin_ex (b := 5) (by decide) z1
  obtain ⟨t, ht1, ht2, rfl⟩ := zin_ex1 (a := 1) (b := 99) (by decide) (by decide) zs
  obtain ⟨u, hu, rfl⟩ := zin_ex (b := 255) (by decide) zm
  have w1 : grI I (nI i) (nI t) (nI u) = zu (zu I 2 i (nI t)) 3 i (nI u) := by unfold grI; rw [if_pos ⟨z1, zs, zm⟩, zx_nI (by omega)]
  have w2 : mgrI K (nI i) (nI t) (nI u) = zu (zu (zu K 41 i (nI t)) 41 (6 + i) (nI u)) 41 12 (K 41 12 ||| (1 <<< (nI i &&& 31))) := by unfold mgrI; rw [if_pos ⟨z1, zs, zm⟩, zx_nI (by omega)]
  have hh := (rl_hd h.rl).lay (a := i) (w := t) (u := u) (by omega) ⟨ht1, by omega⟩ (by omega)
  rw [w1, w2]
  constructor
  · rw [zrn _ _ (by decide), zu_row, ← gt_bt, gt_on (by omega) (nI_nle (by omega) (by omega)), k_T h.rl]
  · refine h.of (rl_wh h.rl (fun c _ _ => ?_) ?_ (fun c hc => ?_) ?_ ?_) ?_ ?_ ?_ ?_
    · rw [zrn _ _ (by omega), zrn _ _ (by omega)]
    · rw [zrn _ _ (by decide), zrn _ _ (by decide)]
    · rw [zrn _ _ (by omega), zrn _ _ (by omega), zrn _ _ (by omega)]
    · rw [zrn _ _ (by decide), zrn _ _ (by decide), zrn _ _ (by decide)]
    · have e1 : zu (zu I 2 i (nI t)) 3 i (nI u) 2 = upd (I 2) i (nI t) := by rw [zrn _ _ (by decide), zu_row]
      have e2 : zu (zu I 2 i (nI t)) 3 i (nI u) 3 = upd (I 3) i (nI u) := by rw [zu_row, zrn _ _ (by decide)]
      have e3 : zu (zu I 2 i (nI t)) 3 i (nI u) 1 = I 1 := by rw [zrn _ _ (by decide), zrn _ _ (by decide)]
      have e4 : zu (zu (zu K 41 i (nI t)) 41 (6 + i) (nI u)) 41 12 (K 41 12 ||| (1 <<< (nI i &&& 31))) 41 = upd (upd (upd (K 41) i (nI t)) (6 + i) (nI u)) 12 (K 41 12 ||| (1 <<< (nI i &&& 31))) := by rw [zu_row, zu_row, zu_row]
      rw [e1, e2, e3, e4]
      exact hh
    · rw [zrn _ _ (by decide), zrn _ _ (by decide)]
    · rw [zrn _ _ (by decide), zrn _ _ (by decide)]
    · rw [zrn _ _ (by decide), zrn _ _ (by decide), zrn _ _ (by decide)]
    · rw [zrn _ _ (by decide), zrn _ _ (by decide), zrn _ _ (by decide)]
theorem zin_tf {x a b : Int32} (h : ¬ zin x a b = false) : zin x a b = true := by simpa using h
theorem hd_two (h : Two I K) (a b c d : Int32) : mhdA K a b c d = hdA I a b c d ∧ Two (hdI I a b c d) (mhdI K a b c d) := by
  unfold mhdA hdA
  by_cases z1 : zin a 0 5 = false
  · rw [if_pos z1, if_pos z1]
    unfold hdI mhdI
    rw [z1, if_neg (fun z => absurd z.1 (by decide)), if_neg (fun z => absurd z.1 (by decide))]
    exact ⟨rfl, h⟩
  rw [if_neg z1, if_neg z1]
  by_cases z2 : zin b 0 255 = false ∨ zin c 1 20 = false ∨ zin d 1 9 = false
  · rw [if_pos z2, if_pos z2]
    have zn : ¬ (zin a 0 5 = true ∧ zin b 0 255 = true ∧ zin c 1 20 = true ∧ zin d 1 9 = true) := by
      rintro ⟨_, y2, y3, y4⟩
      rcases z2 with z2 | z2 | z2
      · rw [y2] at z2; cases z2
      · rw [y3] at z2; cases z2
      · rw [y4] at z2; cases z2
    unfold hdI mhdI
    rw [if_neg zn, if_neg zn]
    exact ⟨rfl, h⟩
  rw [if_neg z2, if_neg z2]
  have za := zin_tf z1
  have zb' := zin_tf (fun z => z2 (Or.inl z))
  have zc' := zin_tf (fun z => z2 (Or.inr (Or.inl z)))
  have zd' := zin_tf (fun z => z2 (Or.inr (Or.inr z)))
  obtain ⟨i, hi, rfl⟩ := zin_ex (b := 5) (by decide) za
  obtain ⟨p, hp, rfl⟩ := zin_ex (b := 255) (by decide) zb'
  obtain ⟨q, hq1, hq2, rfl⟩ := zin_ex1 (a := 1) (b := 20) (by decide) (by decide) zc'
  obtain ⟨r, hr1, hr2, rfl⟩ := zin_ex1 (a := 1) (b := 9) (by decide) (by decide) zd'
  have hi : i < 6 := by omega
  have w1 : hdI I (nI i) (nI p) (nI q) (nI r) = zu (zu (zu I 4 i (nI p)) 5 i (nI q)) 6 i (nI r) := by unfold hdI; rw [if_pos ⟨za, zb', zc', zd'⟩, zx_nI (by omega)]
  have w2 : mhdI K (nI i) (nI p) (nI q) (nI r) = zu (zu (zu K 43 i (nI p)) 44 i (nI q)) 45 i (nI r) := by unfold mhdI; rw [if_pos ⟨za, zb', zc', zd'⟩, zx_nI (by omega)]
  rw [w1, w2, zx_nI (by omega)]
  refine ⟨by rw [k_G h.rl hi, k_F h.rl hi, k_K h.rl hi], h.of ?_ ?_ ?_ ?_ ?_⟩
  · have x3 : blk (zu (zu (zu I 4 i (nI p)) 5 i (nI q)) 6 i (nI r)) 1 3 = upd (I 4) i (nI p) := by
      show (zu (zu (zu I 4 i (nI p)) 5 i (nI q)) 6 i (nI r)) 4 = _
      rw [zrn _ _ (by decide), zrn _ _ (by decide), zu_row]
    have x4 : blk (zu (zu (zu I 4 i (nI p)) 5 i (nI q)) 6 i (nI r)) 1 4 = upd (I 5) i (nI q) := by
      show (zu (zu (zu I 4 i (nI p)) 5 i (nI q)) 6 i (nI r)) 5 = _
      rw [zrn _ _ (by decide), zu_row, zrn _ _ (by decide)]
    have x5 : blk (zu (zu (zu I 4 i (nI p)) 5 i (nI q)) 6 i (nI r)) 1 5 = upd (I 6) i (nI r) := by
      show (zu (zu (zu I 4 i (nI p)) 5 i (nI q)) 6 i (nI r)) 6 = _
      rw [zu_row, zrn _ _ (by decide), zrn _ _ (by decide)]
    refine RelB.wHold h.rl (fun e q1 q3 q4 q5 => blk_eq (fun _ => ?_)) ?_ ?_ ?_ (fun j hj => ?_) (fun k hk => ?_) (fun k hk => ?_) (fun k hk => ?_) (fun k hk => ?_) (fun k hk => ?_) (fun k hk => ?_)
    · rw [zrn _ _ (by omega), zrn _ _ (by omega), zrn _ _ (by omega)]
    · show zu (zu (zu I 4 i (nI p)) 5 i (nI q)) 6 i (nI r) 1 10 = I 1 10
      rw [zrn _ _ (by decide), zrn _ _ (by decide), zrn _ _ (by decide)]
    · show zu (zu (zu I 4 i (nI p)) 5 i (nI q)) 6 i (nI r) 1 11 = I 1 11
      rw [zrn _ _ (by decide), zrn _ _ (by decide), zrn _ _ (by decide)]
    · show zu (zu (zu I 4 i (nI p)) 5 i (nI q)) 6 i (nI r) 1 12 = I 1 12
      rw [zrn _ _ (by decide), zrn _ _ (by decide), zrn _ _ (by decide)]
    · refine kig_eq (fun _ => ?_) (fun _ _ => by omega) (fun _ _ => by omega) (fun _ _ => by omega) (fun _ _ => ?_) (fun _ _ => ?_) (fun _ _ => ?_) (fun _ => ?_)
      all_goals rw [zrn _ _ (by decide), zrn _ _ (by decide), zrn _ _ (by decide)]
    · rw [x3]
      by_cases e : k = i
      · subst e; rw [pk_us, zx_nI (by omega)]; exact ⟨rfl, by omega⟩
      · rw [pk_un e]; exact h.rl.gr k hk
    · rw [x4]
      by_cases e : k = i
      · subst e; rw [pk_us, zx_nI (by omega)]; exact ⟨rfl, by omega⟩
      · rw [pk_un e]; exact h.rl.fo k hk
    · rw [x5]
      by_cases e : k = i
      · subst e; rw [pk_us, zx_nI (by omega)]; exact ⟨rfl, by omega⟩
      · rw [pk_un e]; exact h.rl.tk k hk
    · rw [x3, kig_2 hk, zrn _ _ (by decide), zrn _ _ (by decide), zu_row]
      by_cases e : k = i
      · subst e; rw [pk_us, pk_us]
      · rw [pk_un e, pk_un e]; exact k_G h.rl hk
    · rw [x4, kig_3 hk, zrn _ _ (by decide), zu_row, zrn _ _ (by decide)]
      by_cases e : k = i
      · subst e; rw [pk_us, pk_us]
      · rw [pk_un e, pk_un e]; exact k_F h.rl hk
    · rw [x5, kig_4 hk, zu_row, zrn _ _ (by decide), zrn _ _ (by decide)]
      by_cases e : k = i
      · subst e; rw [pk_us, pk_us]
      · rw [pk_un e, pk_un e]; exact k_K h.rl hk
  all_goals rw [zrn _ _ (by decide), zrn _ _ (by decide), zrn _ _ (by decide)]
theorem br_two (h : Two I K) (v : Int32) : mbrA K v = brA I v ∧ Two (brI I v) (mbrI K v) := by
  unfold mbrA brA mbrI brI
  by_cases z : zin v 0 99 = true
  · rw [if_pos z, if_pos z, if_pos z, if_pos z]
    obtain ⟨t, ht, rfl⟩ := zin_ex (b := 99) (by decide) z
    refine ⟨k_B h.rl, h.of (rl_wh h.rl (fun c _ _ => zrn _ _ (by omega)) (zu_ne _ _ (Or.inr (by decide))) (fun c hc => zrn _ _ (by omega)) ?_ ?_) (zrn _ _ (by decide)) (zrn _ _ (by decide)) ?_ (zrn _ _ (by decide))⟩
    · rw [zrn _ _ (by decide)]
    · rw [zrn _ _ (by decide), zrn _ _ (by decide), zu_self, zu_ne _ _ (Or.inr (by decide)), zu_row]
      exact (rl_hd h.rl).bre (n := t) (by omega)
    · rw [zrn _ _ (by decide)]
  · rw [if_neg z, if_neg z, if_neg z, if_neg z]
    exact ⟨rfl, h⟩
theorem co_two (h : Two I K) (c a b : Int32) : mcoA K c a b = coA I c a b ∧ Two (coI I c a b) (mcoI K c a b) := by
  unfold mcoA coA
  by_cases z1 : zin c 0 7 = false
  · rw [if_pos z1, if_pos z1]
    unfold coI mcoI
    rw [z1, if_neg (fun z => absurd z.1 (by decide)), if_neg (fun z => absurd z.1 (by decide))]
    exact ⟨rfl, h⟩
  rw [if_neg z1, if_neg z1]
  by_cases z2 : zin a 0 23 = false ∨ zin b a 23 = false
  · have z3 : (zin a 0 23 && zin b a 23) = false := by
      rcases z2 with z2 | z2 <;> simp [z2]
    rw [if_pos z2, if_pos z3]
    unfold coI mcoI
    rw [z3, if_neg (fun z => absurd z.2 (by decide)), if_neg]
    · exact ⟨rfl, h⟩
    · rintro ⟨_, y2, y3⟩
      rcases z2 with z2 | z2
      · rw [y2] at z2; cases z2
      · rw [y3] at z2; cases z2
  have za := zin_tf (fun z => z2 (Or.inl z))
  have zb' := zin_tf (fun z => z2 (Or.inr z))
  have zc' := zin_tf z1
  have z3 : (zin a 0 23 && zin b a 23) = true := by simp [za, zb']
  rw [if_neg z2, z3, if_neg (by decide)]
  obtain ⟨i, hi, rfl⟩ := zin_ex (b := 7) (by decide) zc'
  obtain ⟨p, hp, rfl⟩ := zin_ex (b := 23) (by decide) za
  obtain ⟨q, hq1, hq2, rfl⟩ := zin_ex1 (a := p) (b := 23) (by omega) (by decide) zb'
  have hi : i < 8 := by omega
  have w1 : coI I (nI i) (nI p) (nI q) = zu (zu I 7 i (nI p)) 8 i (nI q) := by unfold coI; rw [if_pos ⟨zc', z3⟩, zx_nI (by omega)]
  have w2 : mcoI K (nI i) (nI p) (nI q) = zu K 46 i (100 * nI p + nI q) := by unfold mcoI; rw [if_pos ⟨zc', za, zb'⟩, zx_nI (by omega)]
  rw [w1, w2, zx_nI (by omega)]
  refine ⟨k_C h.rl hi, h.of ?_ ?_ ?_ ?_ ?_⟩
  · have x6 : blk (zu (zu I 7 i (nI p)) 8 i (nI q)) 1 6 = upd (I 7) i (nI p) := by
      show (zu (zu I 7 i (nI p)) 8 i (nI q)) 7 = _
      rw [zrn _ _ (by decide), zu_row]
    have x7 : blk (zu (zu I 7 i (nI p)) 8 i (nI q)) 1 7 = upd (I 8) i (nI q) := by
      show (zu (zu I 7 i (nI p)) 8 i (nI q)) 8 = _
      rw [zu_row, zrn _ _ (by decide)]
    refine RelB.wCoat h.rl (fun e q1 q3 q4 => blk_eq (fun _ => ?_)) ?_ ?_ ?_ (fun j hj => ?_) (fun k hk => ?_) (fun k hk => ?_) (fun k hk => ?_)
    · rw [zrn _ _ (by omega), zrn _ _ (by omega)]
    · show zu (zu I 7 i (nI p)) 8 i (nI q) 1 10 = I 1 10
      rw [zrn _ _ (by decide), zrn _ _ (by decide)]
    · show zu (zu I 7 i (nI p)) 8 i (nI q) 1 11 = I 1 11
      rw [zrn _ _ (by decide), zrn _ _ (by decide)]
    · show zu (zu I 7 i (nI p)) 8 i (nI q) 1 12 = I 1 12
      rw [zrn _ _ (by decide), zrn _ _ (by decide)]
    · refine kig_eq (fun _ => ?_) (fun _ _ => ?_) (fun _ _ => ?_) (fun _ _ => ?_) (fun _ _ => by omega) (fun _ _ => ?_) (fun _ _ => ?_) (fun _ => ?_)
      all_goals rw [zrn _ _ (by decide)]
    · rw [x6]
      by_cases e : k = i
      · subst e; rw [pk_us, zx_nI (by omega)]; exact ⟨rfl, by omega⟩
      · rw [pk_un e]; exact h.rl.cf k hk
    · rw [x6, x7]
      by_cases e : k = i
      · subst e; rw [pk_us, pk_us, zx_nI (by omega), zx_nI (by omega)]; exact ⟨rfl, by omega, hq1⟩
      · rw [pk_un e, pk_un e]; exact h.rl.cl k hk
    · rw [x6, x7, kig_5 hk, zu_row]
      by_cases e : k = i
      · subst e; rw [pk_us, pk_us, pk_us]
      · rw [pk_un e, pk_un e, pk_un e]; exact k_C h.rl hk
  · rw [zrn _ _ (by decide), zrn _ _ (by decide)]
  · rw [zrn _ _ (by decide), zrn _ _ (by decide)]
  · rw [zrn _ _ (by decide)]
  · rw [zrn _ _ (by decide)]
theorem cm_mc {f f' : Nat → Int32} (h : ∀ i, i < 10 → f i = nI (zx (f i)) ∧ zx (f i) < 1024) (h2 : ∀ i, i < 10 → f' i = f i) : ∀ i, i ≤ 10 → mc_ f' i = cm_ f i
  | 0, _ => rfl
  | i + 1, hi => by
    have e := h i (by omega)
    simp only [mc_, cm_, cm_mc h h2 i (by omega), h2 i (by omega)]
    rw [e.1, bc_bt _ e.2]
theorem mv_two (h : Two I K) (a b : Int32) (is : Bool) : mmvA K a b is = mvA I a b is ∧ Two (mvI I a b is) (mmvI K a b is) := by
  have key : Two (mvI I a b is) (mmvI K a b is) := by
    by_cases z : zin a 0 9 = true ∧ zin b 0 9 = true ∧ ¬ a = b
    case neg =>
      unfold mvI mmvI
      rw [if_neg z, if_neg z]
      exact h
    obtain ⟨i, hi, rfl⟩ := zin_ex (b := 9) (by decide) z.1
    obtain ⟨j, hj, rfl⟩ := zin_ex (b := 9) (by decide) z.2.1
    have hi : i < 10 := by omega
    have hj : j < 10 := by omega
    obtain ⟨x, hx, ex⟩ : ∃ x, x < 1024 ∧ I 9 i = nI x := ⟨_, (h.rl.ld i hi).2, (h.rl.ld i hi).1⟩
    have eK : K 47 i = nI x := (k_L h.rl hi).trans ex
    obtain ⟨y, hy, e1, e2⟩ : ∃ y, y < 1024 ∧ (if is = true then I 9 i ||| (1 <<< (nI j &&& 31)) else I 9 i &&& ((1 <<< (nI j &&& 31)) ^^^ (-1))) = nI y ∧ off1 (K 47 i) (nI j) ||| (if is = true then 1 <<< (nI j &&& 31) else 0) = nI y := by
      rw [ex, eK]
      cases is with
      | true => exact ⟨x ||| 2 ^ j, Nat.or_lt_two_pow (n := 10) hx (Nat.pow_lt_pow_right (by decide) (by omega)), by rw [if_pos rfl, zsh1 j (by omega), nI_or], by rw [if_pos rfl]; exact mv_on j hj x hx⟩
      | false => exact ⟨x &&& (1023 ^^^ 2 ^ j), Nat.lt_of_le_of_lt Nat.and_le_left hx, by rw [if_neg (by decide)]; exact mv_off j hj x hx, by rw [if_neg (by decide), Int32_or0]; exact mv_off j hj x hx⟩
    have w1 : mvI I (nI i) (nI j) is = zu I 9 i (nI y) := by unfold mvI; rw [if_pos z, zx_nI (by omega), e1]
    have w2 : mmvI K (nI i) (nI j) is = zu K 47 i (nI y) := by unfold mmvI; rw [if_pos z, zx_nI (by omega), e2]
    rw [w1, w2]
    refine h.of ?_ ?_ ?_ ?_ ?_
    · have x8 : blk (zu I 9 i (nI y)) 1 8 = upd (I 9) i (nI y) := by
        show (zu I 9 i (nI y)) 9 = _
        rw [zu_row]
      refine RelB.wMove h.rl (fun e q1 q3 => blk_eq (fun _ => zrn _ _ (by omega))) ?_ ?_ ?_ (fun j hj => ?_) (fun k hk => ?_) (fun k hk => ?_)
      · show zu I 9 i (nI y) 1 10 = I 1 10
        rw [zrn _ _ (by decide)]
      · show zu I 9 i (nI y) 1 11 = I 1 11
        rw [zrn _ _ (by decide)]
      · show zu I 9 i (nI y) 1 12 = I 1 12
        rw [zrn _ _ (by decide)]
      · refine kig_eq (fun _ => ?_) (fun _ _ => ?_) (fun _ _ => ?_) (fun _ _ => ?_) (fun _ _ => ?_) (fun _ _ => by omega) (fun _ _ => ?_) (fun _ => ?_)
        all_goals rw [zrn _ _ (by decide)]
      · rw [x8]
        by_cases e : k = i
        · subst e; rw [pk_us, zx_nI (by omega)]; exact ⟨rfl, by omega⟩
        · rw [pk_un e]; exact h.rl.ld k hk
      · rw [x8, kig_6 hk, zu_row]
        by_cases e : k = i
        · subst e; rw [pk_us, pk_us]
        · rw [pk_un e, pk_un e]; exact k_L h.rl hk
    all_goals rw [zrn _ _ (by decide)]
  refine ⟨?_, key⟩
  unfold mmvA mvA
  by_cases z : zin a 0 9 = false ∨ zin b 0 9 = false ∨ a = b
  · rw [if_pos z, if_pos z]
  · rw [if_neg z, if_neg z]
    exact cm_mc key.rl.ld (fun i hi => k_L key.rl hi) 10 (Nat.le_refl 10)
theorem sy_two (h : Two I K) (hn : n ≤ 60) (hc : I 12 1 = nI n) (s : Int32) : Two (syI I n s) (msyI K n s) := by
  unfold syI msyI
  by_cases z : zin s 33 126 = true ∧ n < 60
  · rw [if_pos z, if_pos z]
    refine ⟨?_, ⟨n + 1, z.2, zu_self _ _ _ _⟩, by rw [zu_self, zu_self], fun i hi => ?_⟩
    · have e1 : blk (zu (zu I 13 n s) 12 1 (nI (n + 1))) 1 = blk I 1 := blk_cong (fun c q1 q2 => by rw [zrn _ _ (by omega), zrn _ _ (by omega)])
      have e2 : kig (zu (zu K 49 n s) 40 9 (nI (n + 1))) = kig K := kig_cong (fun c q => by rw [zrn _ _ (by omega), zrn _ _ (by omega)]) (by rw [zu_ne _ _ (Or.inr (by decide)), zrn _ _ (by decide)])
      show RelB (blk _ 1) (kig _)
      rw [e1, e2]
      exact h.rl
    · rw [zrn _ _ (show 49 ≠ 40 by decide), zrn _ _ (show 13 ≠ 12 by decide), zu_row, zu_row]
      by_cases e : i = n
      · subst e; rw [pk_us, pk_us]
      · rw [pk_un e, pk_un e]; exact h.eP i hi
  · rw [if_neg z, if_neg z]
    exact h
theorem wi_two (h : Two I K) : Two (zu I 12 1 0) (zu K 40 9 0) := by
  refine ⟨?_, ⟨0, by decide, zu_self _ _ _ _⟩, by rw [zu_self, zu_self], fun i hi => by rw [zrn _ _ (by decide), zrn _ _ (by decide)]; exact h.eP i hi⟩
  have e1 : blk (zu I 12 1 0) 1 = blk I 1 := blk_cong (fun c q1 q2 => zrn _ _ (by omega))
  have e2 : kig (zu K 40 9 0) = kig K := kig_cong (fun c q => zrn _ _ (by omega)) (zu_ne _ _ (Or.inr (by decide)))
  show RelB (blk _ 1) (kig _)
  rw [e1, e2]
  exact h.rl
theorem se_two (h : Two I K) (hn : n ≤ 8) (hs : I 1 10 = nI n) (x : Int32) (b : Bool) : Two (seI I n x b) (kseI K n x b) := by
  unfold seI kseI
  by_cases z : zin x 0 5 = true ∧ n < 8
  case neg =>
    rw [if_neg z, if_neg z]
    exact h
  rw [if_pos z, if_pos z]
  obtain ⟨k, hk, rfl⟩ := zin_ex (b := 5) (by decide) z.1
  refine h.of ?_ ?_ ?_ ?_ ?_
  · have x9 : blk (zu (zu (zu I 10 n (nI k)) 11 n (zb b)) 1 10 (nI (n + 1))) 1 9 = upd (I 10) n (nI k) := by
      show (zu (zu (zu I 10 n (nI k)) 11 n (zb b)) 1 10 (nI (n + 1))) 10 = _
      rw [zrn _ _ (by decide), zrn _ _ (by decide), zu_row]
    have x10 : blk (zu (zu (zu I 10 n (nI k)) 11 n (zb b)) 1 10 (nI (n + 1))) 1 10 = upd (I 11) n (zb b) := by
      show (zu (zu (zu I 10 n (nI k)) 11 n (zb b)) 1 10 (nI (n + 1))) 11 = _
      rw [zrn _ _ (by decide), zu_row, zrn _ _ (by decide)]
    have x0 : blk (zu (zu (zu I 10 n (nI k)) 11 n (zb b)) 1 10 (nI (n + 1))) 1 0 10 = nI (n + 1) := by
      show (zu (zu (zu I 10 n (nI k)) 11 n (zb b)) 1 10 (nI (n + 1))) 1 10 = _
      rw [zu_self]
    have y48 : (zu (zu (zu K 48 (2 * n) (nI k)) 48 (2 * n + 1) (zb b)) 40 7 (nI (n + 1))) 48 = upd (upd (K 48) (2 * n) (nI k)) (2 * n + 1) (zb b) := by rw [zrn _ _ (by decide), zu_row, zu_row]
    refine RelB.wSeen h.rl (fun e q1 q3 q4 => blk_eq (fun _ => ?_)) ?_ ?_ (fun j hj => ?_) (fun i hi => ?_) (fun i hi => ?_) ⟨n + 1, z.2, x0⟩ (fun i hi => ?_) (fun i hi => ?_) ?_
    · rw [zrn _ _ (by omega), zrn _ _ (by omega), zrn _ _ (by omega)]
    · show (zu (zu (zu I 10 n (nI k)) 11 n (zb b)) 1 10 (nI (n + 1))) 1 11 = I 1 11
      rw [zu_ne _ _ (Or.inr (by decide)), zrn _ _ (by decide), zrn _ _ (by decide)]
    · show (zu (zu (zu I 10 n (nI k)) 11 n (zb b)) 1 10 (nI (n + 1))) 1 12 = I 1 12
      rw [zu_ne _ _ (Or.inr (by decide)), zrn _ _ (by decide), zrn _ _ (by decide)]
    · refine kig_eq (fun _ => ?_) (fun _ _ => ?_) (fun _ _ => ?_) (fun _ _ => ?_) (fun _ _ => ?_) (fun _ _ => ?_) (fun _ _ => by omega) (fun _ => by omega)
      all_goals rw [zrn _ _ (by decide), zrn _ _ (by decide), zrn _ _ (by decide)]
    · rw [x9]
      by_cases e : i = n
      · subst e; rw [pk_us]; exact ⟨k, by omega, rfl⟩
      · rw [pk_un e]; exact h.rl.sh i hi
    · rw [x10]
      by_cases e : i = n
      · subst e; rw [pk_us]; cases b
        · exact Or.inl rfl
        · exact Or.inr rfl
      · rw [pk_un e]; exact h.rl.sf i hi
    · rw [x9, kig_7 (by omega), y48, pk_un (by omega)]
      by_cases e : i = n
      · subst e; rw [pk_us, pk_us]
      · rw [pk_un e, pk_un (by omega)]; exact k_X h.rl hi
    · rw [x10, kig_7 (by omega), y48]
      by_cases e : i = n
      · subst e; rw [pk_us, pk_us]
      · rw [pk_un e, pk_un (by omega), pk_un (by omega)]; exact k_Y h.rl hi
    · rw [x0, kig_8, zu_self]
  · rw [zrn _ _ (by decide), zrn _ _ (by decide), zrn _ _ (by decide)]
  · rw [zrn _ _ (by decide), zrn _ _ (by decide), zrn _ _ (by decide)]
  · rw [zu_ne _ _ (Or.inr (by decide)), zrn _ _ (by decide), zrn _ _ (by decide)]
  · rw [zrn _ _ (by decide), zrn _ _ (show 49 ≠ 48 by decide), zrn _ _ (show 49 ≠ 48 by decide)]
theorem fo_two (h : Two I K) : Two (zu I 1 10 0) (zu K 40 7 0) := by
  refine h.of ?_ (zrn _ _ (by decide)) (zrn _ _ (by decide)) (zu_ne _ _ (Or.inr (by decide))) (zrn _ _ (by decide))
  have x0 : blk (zu I 1 10 0) 1 0 10 = 0 := by
    show (zu I 1 10 0) 1 10 = _
    rw [zu_self]
  have x9 : blk (zu I 1 10 0) 1 9 = blk I 1 9 := blk_eq (fun _ => zrn _ _ (by decide))
  have x10 : blk (zu I 1 10 0) 1 10 = blk I 1 10 := blk_eq (fun _ => zrn _ _ (by decide))
  refine RelB.wSeen h.rl (fun e q1 q3 q4 => blk_eq (fun _ => zrn _ _ (by omega))) ?_ ?_ (fun j hj => ?_) ?_ ?_ ⟨0, by decide, x0⟩ (fun i hi => ?_) (fun i hi => ?_) ?_
  · show (zu I 1 10 0) 1 11 = I 1 11
    rw [zu_ne _ _ (Or.inr (by decide))]
  · show (zu I 1 10 0) 1 12 = I 1 12
    rw [zu_ne _ _ (Or.inr (by decide))]
  · refine kig_eq (fun _ => ?_) (fun _ _ => ?_) (fun _ _ => ?_) (fun _ _ => ?_) (fun _ _ => ?_) (fun _ _ => ?_) (fun _ _ => by omega) (fun _ => by omega)
    all_goals rw [zrn _ _ (by decide)]
  · rw [x9]; exact h.rl.sh
  · rw [x10]; exact h.rl.sf
  · rw [x9, kig_7 (by omega), zrn _ _ (by decide)]; exact k_X h.rl hi
  · rw [x10, kig_7 (by omega), zrn _ _ (by decide)]; exact k_Y h.rl hi
  · rw [x0, kig_8, zu_self]
theorem kf_hf (h : Rl I K) (mk : Int32) : kf_ (K 43) mk 6 = hf_ (I 4) mk 6 := by
  have e2 : ∀ j, j ≤ 6 → kf_ (K 43) mk j = kf_ (I 4) mk j := by
    intro j
    induction j with
    | zero => intro _; rfl
    | succ j ih =>
      intro hj
      simp only [kf_, ih (by omega), k_G h (show j < 6 by omega)]
  rw [e2 6 (Nat.le_refl 6), hf_kf]
theorem fi_two (h : Rl I K) (a : Int32) : kfiA K a = fiA I a := by
  unfold kfiA fiA
  rw [k_th h]
  by_cases q : zth (I 2) a = true
  · obtain ⟨i, hi, rfl⟩ := zth_ex q
    rw [if_pos q, if_pos q, zx_nI (by omega), k_M h hi, kf_hf h]
  · rw [if_neg q, if_neg q]
/-- TOLD -/
theorem to_two (h : Two I K) (hc : I 12 1 = nI n) (w : Int32) : ktoA K w = toA I (nI n) w := by
  by_cases w0 : w < 0
  · have c : ∀ m : Int32, 0 ≤ m → ¬ m ≤ w := fun m q z => absurd (Int32.lt_of_le_of_lt (Int32.le_trans q z) w0) (by decide)
    have zz : ∀ a b : Int32, 0 ≤ a → zin w a b = false := fun a b q => zin_1 (Int32.lt_of_lt_of_le w0 q)
    have c5 : ∀ m : Int32, 0 ≤ m → ¬ w = m := fun m q z => c m q (by rw [z]; exact Int32.le_refl _)
    unfold ktoA toA
    rw [if_neg (c 100 (by decide)), if_neg (c 30 (by decide)), if_neg (c 20 (by decide)), if_neg (c 10 (by decide)), if_neg (c5 0 (by decide)), if_neg (c5 1 (by decide)), if_neg (c5 2 (by decide)), if_neg (c5 3 (by decide)), if_neg (c5 4 (by decide))]
    rw [zz 10 19 (by decide), zz 20 27 (by decide), zz 30 35 (by decide), if_neg (by decide), if_neg (by decide), if_neg (by decide), if_pos (Int32.not_le.mp (c 100 (by decide))), if_neg (c5 0 (by decide)), if_neg (c5 1 (by decide)), if_neg (c5 2 (by decide)), if_neg (c5 3 (by decide)), if_neg (c5 4 (by decide))]
  obtain ⟨j, hj, rfl⟩ := nI_of w0
  have z1 : zin (nI j) 10 19 = (decide (10 ≤ j) && decide (j ≤ 19)) := zin_nI (a := 10) (b := 19) (by decide) (by decide) hj
  have z2 : zin (nI j) 20 27 = (decide (20 ≤ j) && decide (j ≤ 27)) := zin_nI (a := 20) (b := 27) (by decide) (by decide) hj
  have z3 : zin (nI j) 30 35 = (decide (30 ≤ j) && decide (j ≤ 35)) := zin_nI (a := 30) (b := 35) (by decide) (by decide) hj
  have l1 : (100 : Int32) ≤ nI j ↔ 100 ≤ j := nI_leI (a := 100) (by decide) hj
  have l2 : (30 : Int32) ≤ nI j ↔ 30 ≤ j := nI_leI (a := 30) (by decide) hj
  have l3 : (20 : Int32) ≤ nI j ↔ 20 ≤ j := nI_leI (a := 20) (by decide) hj
  have l4 : (10 : Int32) ≤ nI j ↔ 10 ≤ j := nI_leI (a := 10) (by decide) hj
  have l5 : nI j < 28 ↔ j < 28 := nI_ltI (b := 28) hj (by decide)
  have l6 : nI j < 100 ↔ j < 100 := nI_ltI (b := 100) hj (by decide)
  unfold ktoA toA
  rw [z1, z2, z3]
  by_cases q1 : 100 ≤ j
  · have n1 : ¬ (decide (10 ≤ j) && decide (j ≤ 19)) = true := by simp; omega
    have n2 : ¬ (decide (20 ≤ j) && decide (j ≤ 27)) = true := by simp; omega
    have n3 : ¬ (decide (30 ≤ j) && decide (j ≤ 35)) = true := by simp; omega
    rw [if_pos (l1.mpr q1), if_neg n1, if_neg n2, if_neg n3, if_neg (fun z => absurd (l6.mp z) (by omega))]
    have d1 : nI j / 10 - 10 = nI (j / 10 - 10) := by rw [zdiv_nI (d := 10) (e := 10) rfl hj (by decide) (by decide)]; exact pk_sub (b := 10) (by omega)
    have d2 : nI j - nI j / 10 * 10 = nI (j % 10) := zrem_nI (d := 10) (e := 10) rfl hj (by decide) (by decide)
    have s1 : nI j - 100 = nI (j - 100) := pk_sub (b := 100) q1
    have d3 : (nI j - 100) / 10 = nI (j / 10 - 10) := by rw [s1, zdiv_nI (d := 10) (e := 10) rfl (by omega) (by decide) (by decide), show (j - 100) / 10 = j / 10 - 10 by omega]
    have d4 : (nI j - 100) - (nI j - 100) / 10 * 10 = nI (j % 10) := by rw [s1, zrem_nI (d := 10) (e := 10) rfl (by omega) (by decide) (by decide), show (j - 100) % 10 = j % 10 by omega]
    rw [d4, d3, d1, d2, k_th h.rl]
    have l7 : nI (j % 10) < 2 ↔ j % 10 < 2 := nI_ltI (b := 2) (by omega) (by decide)
    have z4 : zin (nI (j % 10)) 0 1 = (decide (0 ≤ j % 10) && decide (j % 10 ≤ 1)) := zin_nI (a := 0) (b := 1) (by decide) (by decide) (by omega)
    by_cases q2 : zth (I 2) (nI (j / 10 - 10)) = true
    · obtain ⟨i, hi, ei⟩ := zth_ex q2
      rw [ei] at q2 ⊢
      by_cases q3 : j % 10 < 2
      · rw [if_pos ⟨q2, l7.mpr q3⟩, if_pos ⟨q2, by rw [z4]; simp; omega⟩, zx_nI (by omega)]
        rcases (show j % 10 = 0 ∨ j % 10 = 1 by omega) with e | e
        · rw [e, if_pos (show nI 0 = 0 from rfl), show (6 : Int32) * nI 0 + nI i = nI i by rw [show (6 : Int32) = nI 6 from rfl, pk_mul, nI_add, Nat.mul_zero, Nat.zero_add], zx_nI (by omega)]
          exact k_S h.rl hi (zth_T hi q2)
        · rw [e, if_neg (show ¬ nI 1 = 0 by decide), show (6 : Int32) * nI 1 + nI i = nI (6 + i) by rw [show (6 : Int32) = nI 6 from rfl, pk_mul, nI_add], zx_nI (by omega)]
          exact k_M h.rl hi
      · rw [if_neg (fun z => q3 (l7.mp z.2)), if_neg (fun z => by have := z.2; rw [z4] at this; simp at this; omega)]
    · rw [if_neg (fun z => q2 z.1), if_neg (fun z => q2 z.1)]
  rw [if_neg (fun z => q1 (l1.mp z))]
  by_cases q2 : 30 ≤ j
  · have n1 : ¬ (decide (10 ≤ j) && decide (j ≤ 19)) = true := by simp; omega
    have n2 : ¬ (decide (20 ≤ j) && decide (j ≤ 27)) = true := by simp; omega
    rw [if_pos (l2.mpr q2), if_neg n1, if_neg n2]
    have s1 : nI j - 30 = nI (j - 30) := pk_sub (b := 30) q2
    have l7 : nI (j - 30) < 6 ↔ j - 30 < 6 := nI_ltI (b := 6) (by omega) (by decide)
    rw [s1]
    by_cases q3 : j - 30 < 6
    · have n3 : (decide (30 ≤ j) && decide (j ≤ 35)) = true := by simp; omega
      rw [if_pos (l7.mpr q3), if_pos n3, zx_nI (by omega), k_G h.rl q3, k_F h.rl q3, k_K h.rl q3]
    · have n3 : ¬ (decide (30 ≤ j) && decide (j ≤ 35)) = true := by simp; omega
      rw [if_neg (fun z => q3 (l7.mp z)), if_neg n3, if_pos (l6.mpr (by omega))]
      have c5 : ∀ m, m < 5 → ¬ nI j = nI m := fun m hm z => absurd ((nI_eq hj (by omega)).mp z) (by omega)
      rw [if_neg (show ¬ nI j = 0 from c5 0 (by decide)), if_neg (show ¬ nI j = 1 from c5 1 (by decide)), if_neg (show ¬ nI j = 2 from c5 2 (by decide)), if_neg (show ¬ nI j = 3 from c5 3 (by decide)), if_neg (show ¬ nI j = 4 from c5 4 (by decide))]
  rw [if_neg (fun z => q2 (l2.mp z))]
  by_cases q3 : 20 ≤ j
  · have n1 : ¬ (decide (10 ≤ j) && decide (j ≤ 19)) = true := by simp; omega
    have n3 : ¬ (decide (30 ≤ j) && decide (j ≤ 35)) = true := by simp; omega
    rw [if_pos (l3.mpr q3), if_neg n1]
    have s1 : nI j - 20 = nI (j - 20) := pk_sub (b := 20) q3
    by_cases q4 : j < 28
    · have n2 : (decide (20 ≤ j) && decide (j ≤ 27)) = true := by simp; omega
      rw [if_pos (l5.mpr q4), if_pos n2, s1, zx_nI (by omega), k_C h.rl (by omega)]
    · have n2 : ¬ (decide (20 ≤ j) && decide (j ≤ 27)) = true := by simp; omega
      rw [if_neg (fun z => q4 (l5.mp z)), if_neg n2, if_neg n3, if_pos (l6.mpr (by omega))]
      have c5 : ∀ m, m < 5 → ¬ nI j = nI m := fun m hm z => absurd ((nI_eq hj (by omega)).mp z) (by omega)
      rw [if_neg (show ¬ nI j = 0 from c5 0 (by decide)), if_neg (show ¬ nI j = 1 from c5 1 (by decide)), if_neg (show ¬ nI j = 2 from c5 2 (by decide)), if_neg (show ¬ nI j = 3 from c5 3 (by decide)), if_neg (show ¬ nI j = 4 from c5 4 (by decide))]
  rw [if_neg (fun z => q3 (l3.mp z))]
  by_cases q4 : 10 ≤ j
  · have n1 : (decide (10 ≤ j) && decide (j ≤ 19)) = true := by simp; omega
    rw [if_pos (l4.mpr q4), if_pos n1]
    have s1 : nI j - 10 = nI (j - 10) := pk_sub (b := 10) q4
    rw [s1, zx_nI (by omega), k_L h.rl (by omega)]
  have n1 : ¬ (decide (10 ≤ j) && decide (j ≤ 19)) = true := by simp; omega
  have n2 : ¬ (decide (20 ≤ j) && decide (j ≤ 27)) = true := by simp; omega
  have n3 : ¬ (decide (30 ≤ j) && decide (j ≤ 35)) = true := by simp; omega
  rw [if_neg (fun z => q4 (l4.mp z)), if_neg n1, if_neg n2, if_neg n3, if_pos (l6.mpr (by omega)), h.eC, hc, k_T h.rl, k_B h.rl, k_H h.rl, k_N h.rl]
end SM
