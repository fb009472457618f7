/-! THE CLAIM OUT OF ONE WALK OF THE LAW'S BODY. Your part is whole_start (and what it stands on); all else here is the same for every law, but numbers. -/
def R_law : String := "MireWrestleLaw"
def lw_P (b : Addr) (xs : List Int32) (args : Array Value) (s : State) : Prop := args = #[.ref b] ∧ s.IntsAt b xs ∧ xs.length ≤ 320 ∧ (Jvm.Cond.and given_1 narrow_1).before args s = true
def lw_Q (_ : Array Value) (s : State) (o : Outcome) (t : State) : Prop := o = .returned (some (.int 1)) ∧ Framed s o t [] 600000 7302250
def lw_Z (below : List Frame) (a : Array Value) (s : State) : State → Prop := fun t => ∃ o, t.status = .running ∧ Ended t below o ∧ lw_Q a s o t
/-- the law's own end, with 1 on the stack, nothing written that was there before, its room as the claim has it -/
theorem lw_ret {p : Program} {l : Launch} {e : Env} {s : State} {m : MethodId} {below : List Frame} {meth : Method} {c : Code} {b : Nat} (hx : p.tables.exec = Jvm.exec) (hb : c.code = code) (hr : meth.sig.returnType = ret) (hlocks : meth.locks = false) {pc : Nat} {H : Heap} {ls : Array Slot} (hdg : decode code pc = .ok (.ireturn, 1)) : W p l e room_1 s m #[Value.ref b] below meth c H [] 600000 7302250 (lw_Z below #[Value.ref b] s) (F0 m pc ls [.int 1]) := by
  intro T hT X
  obtain ⟨fs, hret, hrun, hended, hW, hframe⟩ := X.leave (v := some (.int 1)) (hlocks := hlocks) (fun h => by rw [hr] at h; cases h)
  have hmeth' : T.vm.method? m = some meth := X.method'
  refine ⟨T.setFrames fs, ?_, .returned (some (.int 1)), hrun, hended, rfl, ⟨_, rfl⟩, hW, hframe⟩
  jvm_step X.here [X.here.top, hx, hb, hdg, hmeth', hr, ret, narrow_b1]
  (try refine ⟨rfl, ?_⟩); (try refine ⟨rfl, ?_⟩)
  first | (intro acts; rw [hret _ acts rfl rfl rfl]) | rw [hret _ _ rfl rfl rfl]
  exact Steps.refl _
/-- what holds at the law's entry: the machine, the code, the tables' words (any of lw_tbl by 'hts w (by decide +kernel)'), the script of L ints xs at the cell b, what the Statement gives of the start (any of its parts by flat_of_before) -/
def lw_At (p : Program) (s : State) (m : MethodId) (meth : Method) (c : Code) (b L : Nat) (xs : Nat → Int32) : Prop :=
  p.tables.exec = Jvm.exec ∧ c.code = code ∧ meth.sig.returnType = ret ∧ c.maxLocals = 4 ∧ s.vm.findClass R_law = some m.cls ∧ (∀ w ∈ lw_tbl, w.before #[Value.ref b] s = true) ∧ va_X b L xs s s.heap ∧ b < s.heap.size ∧ meth.locks = false ∧ (Jvm.Cond.and given_1 narrow_1).before #[Value.ref b] s = true
/-! THE LAW's walk: rows -/
abbrev mL (nm : String) : zM := (cL_law, RL, 4, ret, room_1, nm)
def llo (b o t : Nat) : List (Option Value) := [some (.ref b), some (.ref (o + 0)), some (.ref (o + 40)), some (.int (nI (5 * t)))]
section LAWROWS
variable {g : zG} {nm : String} {p : Program} {e : Env} {s : State} {m : MethodId} {below : List Frame} {meth : Method} {c : Code} {b L t : Nat} {xs : Nat → Int32} {Q : State → Prop} {kc ks pc pc2 : Nat} {lo : List (Option Value)} {rest st : List Value} {N : Nat} {I : zI} {Lx : zL} {R : zR}
theorem y_sld (C0 : lw_At p s m meth c b L xs) (hg : g.2.1 = s.heap.size) (hL : L ≤ 320) {j : Int32} {i : Nat} (hd : decode cL_law pc = .ok (.iaload, 1)) (hj : j = nI i) (hi : i < L) (kk : X g (mL nm) (p, e, s, m, #[Value.ref b], below, meth, c) Q kc ks (pc + 1) lo (.int (xs i) :: rest) N I Lx R) : X g (mL nm) (p, e, s, m, #[Value.ref b], below, meth, c) Q kc ks pc lo (.int j :: .ref b :: rest) N I Lx R := by
  intro hx ls H locs hl hP hS
  obtain ⟨hexec, hb, hml, hown, hts, hG, hlk, hrt, hmn⟩ := id hx
  obtain ⟨-, -, -, -, -, -, hX, hbl, -, -⟩ := id C0
  have h := zx_in hj hi (by omega)
  refine va_sld hexec hb hX hbl (by rw [hg]; exact Nat.not_le.mpr hbl) hS h.1 hd ?_
  rw [h.2]
  exact kk hx ls H locs hl hP hS
theorem y_slen (C0 : lw_At p s m meth c b L xs) (hg : g.2.1 = s.heap.size) (hd : decode cL_law pc = .ok (.arraylength, 1)) (kk : X g (mL nm) (p, e, s, m, #[Value.ref b], below, meth, c) Q kc ks (pc + 1) lo (.int (nI L) :: rest) N I Lx R) : X g (mL nm) (p, e, s, m, #[Value.ref b], below, meth, c) Q kc ks pc lo (.ref b :: rest) N I Lx R := by
  intro hx ls H locs hl hP hS
  obtain ⟨hexec, hb, hml, hown, hts, hG, hlk, hrt, hmn⟩ := id hx
  obtain ⟨-, -, -, -, -, -, hX, hbl, -, -⟩ := id C0
  exact va_slen hexec hb hX hbl (by rw [hg]; exact Nat.not_le.mpr hbl) hS hd (kk hx ls H locs hl hP hS)
theorem y_ret (C0 : lw_At p s m meth c b L xs) (hg : g.2.1 = s.heap.size) (hd : decode cL_law pc = .ok (.ireturn, 1)) (hc : kc ≤ 600000) (hs : ks ≤ 7302250) : X g (mL nm) (p, e, s, m, #[Value.ref b], below, meth, c) (lw_Z below #[Value.ref b] s) kc ks pc lo [.int 1] N I Lx R := by
  intro hx ls H locs hl hP hS
  obtain ⟨hx0, hb0, hr0, -, -, -, -, -, hlk0, -⟩ := id C0
  refine va_forget (fun q hq => by have z := hS.2.2 q hq; rw [← hg]; exact z) ?_
  refine W.widen hc hs ?_
  exact lw_ret hx0 hb0 hr0 hlk0 hd
theorem y_arg {n : Int} {k : Nat} (C0 : lw_At p s m meth c b L xs) (hg : g.2.1 = s.heap.size) (hL : L ≤ 320) (d1 : decode cL_law pc = .ok (.aload_n 0, 1)) (d2 : decode cL_law (pc + 1) = .ok (.iload_n 3, 1)) (d3 : decode cL_law (pc + 1 + 1) = .ok (.iconst n, 1)) (d4 : decode cL_law (pc + 1 + 1 + 1) = .ok (.iadd, 1)) (d5 : decode cL_law (pc + 1 + 1 + 1 + 1) = .ok (.iaload, 1)) (hv : Int32.ofInt n = nI k) (hi : 5 * t + k < L) (hpc : pc + 1 + 1 + 1 + 1 + 1 = pc2) (kk : X g (mL nm) (p, e, s, m, #[Value.ref b], below, meth, c) Q kc ks pc2 (llo b g.2.1 t) (.int (xs (5 * t + k)) :: rest) N I Lx R) : X g (mL nm) (p, e, s, m, #[Value.ref b], below, meth, c) Q kc ks pc (llo b g.2.1 t) rest N I Lx R := by
  subst hpc
  refine x_aload_n (x := b) d1 rfl ?_
  refine x_iload_n (x := nI (5 * t)) d2 rfl ?_
  refine x_iconst d3 hv ?_
  refine x_iadd d4 ?_
  exact y_sld C0 hg hL d5 (nI_add _ _) hi kk
theorem y_bool {x : Int32} {p1 p2 p3 p4 : Nat} (d1 : decode cL_law pc = .ok (.ifCond .eq 7, 3)) (d2 : decode cL_law p1 = .ok (.iconst 1, 1)) (d3 : decode cL_law p2 = .ok (.goto 4, 3)) (d4 : decode cL_law p3 = .ok (.iconst 0, 1)) (h1 : pc + 3 = p1) (h2 : p1 + 1 = p2) (h3 : pc + 7 = p3) (h4 : p3 + 1 = p4) (h5 : p2 + 4 = p4) {E : zE} (kk : X g (mL nm) E Q kc ks p4 lo (.int (zb (decide (¬ x = 0))) :: rest) N I Lx R) : X g (mL nm) E Q kc ks pc lo (.int x :: rest) N I Lx R := by
  subst h1 h2 h3 h4
  refine x_if_eq (tgt := pc + 7) d1 (by omega) (fun z => ?_) (fun z => ?_)
  · refine x_iconst (v := 0) d4 (by decide) ?_
    have e : zb (decide (¬ x = 0)) = 0 := by rw [decide_eq_false (fun y => y z)]; rfl
    rw [← e]
    exact kk
  · refine x_iconst (v := 1) d2 (by decide) ?_
    refine x_goto (tgt := pc + 7 + 1) d3 (by omega) ?_
    have e : zb (decide (¬ x = 0)) = 1 := by rw [decide_eq_true z]; rfl
    rw [← e]
    exact kk
theorem y_call {E : zE} {y : MethodName} {M2 : zM} {As : List Value} {P2 : zPost} {idx n k ci : Nat} (hd : decode cL_law pc = .ok (.invokevirtual idx, 3)) (hl : Cond.methodLink RL idx y ∈ wsL_law) (hm : zMt y M2 n) (hi : zMv y) (ct : Ct g y M2 (.ref (g.2.1 + k) :: As) N I Lx R P2) (hk : k < N) (ht : (zt k).1 = ci + 4) (hcl : (zcl[ci]?).map (fun q => q.1) = some y.cls) (hst : st = As.reverse ++ .ref (g.2.1 + k) :: rest) (hn : As.length = n) (hw : (rest.map fun v => v.category).sum ≤ 8) (hR : M2.2.2.2.2.1.frames + 1 ≤ (mL nm).2.2.2.2.1.frames ∧ 8 + (M2.2.2.1 + 11) + M2.2.2.2.2.1.locals ≤ (mL nm).2.2.2.2.1.locals) (hz : M2.2.2.2.2.1.cells = 0 ∧ M2.2.2.2.2.1.slots = 0) (hcs : kc ≤ 600000 ∧ ks ≤ 7302250) (hpc : pc + 3 = pc2) (kk : ∀ (r : Option Value) (N' : Nat) (I' : zI) (L' : zL) (R' : zR), P2 r N' I' L' R' → X g (mL nm) E Q kc ks pc2 lo (r.toList ++ rest) N' I' L' R') : X g (mL nm) E Q kc ks pc lo st N I Lx R := by
  subst hpc
  refine x_callV hd hl hm hi ct hk ht hcl hst hn hw hR (by rw [hz.1, hz.2]; exact hcs) (fun r N' I' L' R' h => ?_)
  rw [hz.1, hz.2]
  exact kk r N' I' L' R' h
end LAWROWS
theorem lg_self (x : Int64) : lg_cmp x x = 0 := by
  unfold lg_cmp
  rw [if_neg (fun z => Int64.lt_irrefl z), if_pos rfl]
/-- where a case of the law goes on -/
def LK (g : zG) (nm : String) (E : zE) (Q : State → Prop) (b t : Nat) : Prop := ∀ (q0 q1 : Option Nat) (N : Nat) (I : zI) (Lx : zL), Inv q0 q1 N I → X g (mL nm) E Q (58 + 11 * (t + 1)) (1345 + 85 * (t + 1)) 980 (llo b g.2.1 t) [] N I Lx (zRw q0 q1)
theorem LK.use {g : zG} {nm : String} {E : zE} {Q : State → Prop} {b t : Nat} (k : LK g nm E Q b t) {q0 q1 : Option Nat} {N : Nat} {I : zI} {Lx : zL} (h : Inv q0 q1 N I) : X g (mL nm) E Q (58 + 11 * t) (1345 + 85 * t) 980 (llo b g.2.1 t) [] N I Lx (zRw q0 q1) := x_weak (by omega) (by omega) (k q0 q1 N I Lx h)
theorem Inv.two1 {q0 q1 : Option Nat} {N : Nat} {I J I1 : zI} (h : Inv q0 q1 N I) (hJ : ∀ c, 39 ≤ c → J c = I c) (h1 : ∀ c, c < 14 ∨ 39 ≤ c → I1 c = J c) : Two I I1 := h.two.cong (fun _ _ => rfl) (fun c hc => by rw [h1 c (Or.inr (by omega)), hJ c (by omega)]) (by rw [h1 40 (Or.inr (by decide)), hJ 40 (by decide)]) (by rw [h1 40 (Or.inr (by decide)), hJ 40 (by decide)])
theorem Inv.seen {q0 q1 : Option Nat} {N : Nat} {I I1 : zI} (h : Inv q0 q1 N I) (h1 : ∀ c, c < 14 ∨ 39 ≤ c → I1 c = I c) (h33 : I1 33 0 = 0) : Inv q0 q1 N I1 := Inv_cong (fun c q => h1 c (by omega)) h33 (by rw [h1 40 (Or.inr (by decide))]) (by rw [h1 40 (Or.inr (by decide))]) h
theorem Inv.same {q0 q1 : Option Nat} {N : Nat} {I I2 : zI} (h : Inv q0 q1 N I) (h2 : ∀ c, ¬ zscr c → I2 c = I c) (h7 : I2 40 7 = I 40 7) (h9 : I2 40 9 = I 40 9) : Inv q0 q1 N I2 := Inv_cong (fun c q => h2 c (nscr (by omega))) (by rw [h2 33 (nscr (by decide))]; exact h.b0) h7 h9 h
theorem k_sig {I K : zI} (h : Rl I K) : ∀ i, i < 8 → ∃ k, k < 6 ∧ K 48 (2 * i) = nI k := fun i hi => by
  obtain ⟨k, hk, e⟩ := h.sh i hi
  exact ⟨k, hk, (k_X h hi).trans e⟩
/-- image(n): the class's contract, and the invariant behind both calls -/
theorem img_ct {g : zG} {Lx : zL} {q0 q1 : Option Nat} {N : Nat} {I : zI} (h : Inv q0 q1 N I) (w : Int32) : ∃ (v : Int32) (N' : Nat) (J : zI) (r0 r1 : Option Nat), Ct g yX8_image mX8_image [.ref (g.2.1 + 0), .int w] N I Lx (zRw q0 q1) (zA v N' J (zRw r0 r1)) ∧ v = kmgA w ∧ 58 ≤ N' ∧ ∀ I2, (∀ c, ¬ zscr c → I2 c = kmgI J w c) → I2 40 7 = kmgI J w 40 7 → I2 40 9 = kmgI J w 40 9 → Inv r0 r1 N' I2 := by
  by_cases z : zin w 0 1 = false
  · refine ⟨-2, N, I, q0, q1, ct_X8_image_no z, by unfold kmgA; rw [z, if_neg (by decide)], h.hc, fun I2 h2 h7 h9 => ?_⟩
    have e : kmgI I w = I := by unfold kmgI; rw [z, if_neg (by decide)]
    rw [e] at h2 h7 h9
    exact h.same h2 h7 h9
  obtain ⟨n, hn, rfl⟩ := zin_ex (b := 1) (by decide) (zin_tf z)
  rcases (show n = 0 ∨ n = 1 by omega) with rfl | rfl
  · rcases h.nn with ⟨rfl, rfl, rfl⟩ | ⟨rfl, rfl, rfl⟩ | ⟨rfl, rfl, rfl⟩ | ⟨rfl, rfl, rfl⟩ | ⟨rfl, rfl, rfl⟩
    · exact ⟨1, 69, zbec I 58 1, some 58, none, ct_X8_image_0_new58 h.narrow, rfl, by decide, fun I2 h2 h7 h9 => h.kept0 (m := 58) (N' := 69) (Or.inl rfl) (by decide) (by decide) (by decide) (Or.inr (Or.inl ⟨rfl, rfl, rfl⟩)) h2 h7 h9⟩
    · exact ⟨1, 69, zbec I 58 1, some 58, none, ct_X8_image_0_58 (by decide) h.narrow, rfl, by decide, fun I2 h2 h7 h9 => h.kept0 (m := 58) (N' := 69) (Or.inl rfl) (by decide) (by decide) (by decide) (Or.inr (Or.inl ⟨rfl, rfl, rfl⟩)) h2 h7 h9⟩
    · exact ⟨1, 80, zbec I 69 1, some 69, some 58, ct_X8_image_0_new69 h.narrow, rfl, by decide, fun I2 h2 h7 h9 => h.kept0 (m := 69) (N' := 80) (Or.inr rfl) (by decide) (by decide) (by decide) (Or.inr (Or.inr (Or.inr (Or.inr ⟨rfl, rfl, rfl⟩)))) h2 h7 h9⟩
    · exact ⟨1, 80, zbec I 58 1, some 58, some 69, ct_X8_image_0_58 (by decide) h.narrow, rfl, by decide, fun I2 h2 h7 h9 => h.kept0 (m := 58) (N' := 80) (Or.inl rfl) (by decide) (by decide) (by decide) (Or.inr (Or.inr (Or.inr (Or.inl ⟨rfl, rfl, rfl⟩)))) h2 h7 h9⟩
    · exact ⟨1, 80, zbec I 69 1, some 69, some 58, ct_X8_image_0_69 (by decide) h.narrow, rfl, by decide, fun I2 h2 h7 h9 => h.kept0 (m := 69) (N' := 80) (Or.inr rfl) (by decide) (by decide) (by decide) (Or.inr (Or.inr (Or.inr (Or.inr ⟨rfl, rfl, rfl⟩)))) h2 h7 h9⟩
  · rcases h.nn with ⟨rfl, rfl, rfl⟩ | ⟨rfl, rfl, rfl⟩ | ⟨rfl, rfl, rfl⟩ | ⟨rfl, rfl, rfl⟩ | ⟨rfl, rfl, rfl⟩
    · exact ⟨1, 69, zbec I 58 1, none, some 58, ct_X8_image_1_new58 h.narrow, rfl, by decide, fun I2 h2 h7 h9 => h.kept1 (m := 58) (N' := 69) (Or.inl rfl) (by decide) (by decide) (by decide) (Or.inr (Or.inr (Or.inl ⟨rfl, rfl, rfl⟩))) h2 h7 h9⟩
    · exact ⟨1, 80, zbec I 69 1, some 58, some 69, ct_X8_image_1_new69 h.narrow, rfl, by decide, fun I2 h2 h7 h9 => h.kept1 (m := 69) (N' := 80) (Or.inr rfl) (by decide) (by decide) (by decide) (Or.inr (Or.inr (Or.inr (Or.inl ⟨rfl, rfl, rfl⟩)))) h2 h7 h9⟩
    · exact ⟨1, 69, zbec I 58 1, none, some 58, ct_X8_image_1_58 (by decide) h.narrow, rfl, by decide, fun I2 h2 h7 h9 => h.kept1 (m := 58) (N' := 69) (Or.inl rfl) (by decide) (by decide) (by decide) (Or.inr (Or.inr (Or.inl ⟨rfl, rfl, rfl⟩))) h2 h7 h9⟩
    · exact ⟨1, 80, zbec I 69 1, some 58, some 69, ct_X8_image_1_69 (by decide) h.narrow, rfl, by decide, fun I2 h2 h7 h9 => h.kept1 (m := 69) (N' := 80) (Or.inr rfl) (by decide) (by decide) (by decide) (Or.inr (Or.inr (Or.inr (Or.inl ⟨rfl, rfl, rfl⟩)))) h2 h7 h9⟩
    · exact ⟨1, 80, zbec I 58 1, some 69, some 58, ct_X8_image_1_58 (by decide) h.narrow, rfl, by decide, fun I2 h2 h7 h9 => h.kept1 (m := 58) (N' := 80) (Or.inl rfl) (by decide) (by decide) (by decide) (Or.inr (Or.inr (Or.inr (Or.inr ⟨rfl, rfl, rfl⟩)))) h2 h7 h9⟩
theorem krsA_1 {J : zI} {n : Nat} (hn : n < 2) (h : ¬ J 57 n = 0) : krsA J (nI n) = 1 ∧ krsJ J (nI n) = krsI J n := by
  have e : zin (nI n) 0 1 = true := by
    rcases (show n = 0 ∨ n = 1 by omega) with rfl | rfl <;> decide
  unfold krsA krsJ
  rw [e, zx_nI (by omega), if_neg (by decide), if_neg h, if_pos ⟨rfl, h⟩]
  exact ⟨rfl, rfl⟩
theorem krsA_0 {J : zI} {n : Nat} (hn : n < 2) (h : J 57 n = 0) : krsA J (nI n) = -3 ∧ krsJ J (nI n) = J := by
  have e : zin (nI n) 0 1 = true := by
    rcases (show n = 0 ∨ n = 1 by omega) with rfl | rfl <;> decide
  unfold krsA krsJ
  rw [e, zx_nI (by omega), if_neg (by decide), if_pos h, if_neg (fun z => z.2 h)]
  exact ⟨rfl, rfl⟩
theorem rst_yes {q0 q1 : Option Nat} {N n m : Nat} {I : zI} (h : Inv q0 q1 N I) (hn : n < 2) (hi : Img (some m) N I n) : (1 : Int32) = krsA (zbec I 1 m) (nI n) ∧ ∀ I2, (∀ c, ¬ zscr c → I2 c = krsJ (zbec I 1 m) (nI n) c) → I2 40 7 = krsJ (zbec I 1 m) (nI n) 40 7 → I2 40 9 = krsJ (zbec I 1 m) (nI n) 40 9 → Inv q0 q1 N I2 := by
  have e : zbec I 1 m 57 = I 57 := zbec_out (by omega)
  obtain ⟨e1, e2⟩ := krsA_1 (J := zbec I 1 m) hn (by rw [e]; exact hi.kept)
  refine ⟨e1.symm, fun I2 h2 h7 h9 => ?_⟩
  rw [e2] at h2 h7 h9
  exact h.restored hi h2 h7 h9
theorem rst_no {q0 q1 : Option Nat} {N n : Nat} {I : zI} (h : Inv q0 q1 N I) (hn : n < 2) (hi : Img none N I n) : (-3 : Int32) = krsA I (nI n) ∧ ∀ I2, (∀ c, ¬ zscr c → I2 c = krsJ I (nI n) c) → I2 40 7 = krsJ I (nI n) 40 7 → I2 40 9 = krsJ I (nI n) 40 9 → Inv q0 q1 N I2 := by
  obtain ⟨e1, e2⟩ := krsA_0 (J := I) hn hi.none
  refine ⟨e1.symm, fun I2 h2 h7 h9 => ?_⟩
  rw [e2] at h2 h7 h9
  exact h.same h2 h7 h9
theorem rst_ct {g : zG} {Lx : zL} {q0 q1 : Option Nat} {N : Nat} {I : zI} (h : Inv q0 q1 N I) (w : Int32) : ∃ (v : Int32) (J : zI), Ct g yX8_restore mX8_restore [.ref (g.2.1 + 0), .int w] N I Lx (zRw q0 q1) (zA v N J (zRw q0 q1)) ∧ v = krsA J w ∧ ∀ I2, (∀ c, ¬ zscr c → I2 c = krsJ J w c) → I2 40 7 = krsJ J w 40 7 → I2 40 9 = krsJ J w 40 9 → Inv q0 q1 N I2 := by
  by_cases z : zin w 0 1 = false
  · refine ⟨-2, I, ct_X8_restore_no z, by unfold krsA; rw [if_pos z], fun I2 h2 h7 h9 => ?_⟩
    have e : krsJ I w = I := by unfold krsJ; rw [z, if_neg (fun y => absurd y.1 (by decide))]
    rw [e] at h2 h7 h9
    exact h.same h2 h7 h9
  obtain ⟨n, hn, rfl⟩ := zin_ex (b := 1) (by decide) (zin_tf z)
  have i0 := h.im0
  have i1 := h.im1
  rcases (show n = 0 ∨ n = 1 by omega) with rfl | rfl
  · rcases id h.nn with ⟨rfl, rfl, rfl⟩ | ⟨rfl, rfl, rfl⟩ | ⟨rfl, rfl, rfl⟩ | ⟨rfl, rfl, rfl⟩ | ⟨rfl, rfl, rfl⟩
    · exact ⟨-3, I, ct_X8_restore_0_none (by decide), rst_no h (by decide) i0⟩
    · exact ⟨1, zbec I 1 58, ct_X8_restore_0_58 (by decide) i0.narrow, rst_yes h (by decide) i0⟩
    · exact ⟨-3, I, ct_X8_restore_0_none (by decide), rst_no h (by decide) i0⟩
    · exact ⟨1, zbec I 1 58, ct_X8_restore_0_58 (by decide) i0.narrow, rst_yes h (by decide) i0⟩
    · exact ⟨1, zbec I 1 69, ct_X8_restore_0_69 (by decide) i0.narrow, rst_yes h (by decide) i0⟩
  · rcases id h.nn with ⟨rfl, rfl, rfl⟩ | ⟨rfl, rfl, rfl⟩ | ⟨rfl, rfl, rfl⟩ | ⟨rfl, rfl, rfl⟩ | ⟨rfl, rfl, rfl⟩
    · exact ⟨-3, I, ct_X8_restore_1_none (by decide), rst_no h (by decide) i1⟩
    · exact ⟨-3, I, ct_X8_restore_1_none (by decide), rst_no h (by decide) i1⟩
    · exact ⟨1, zbec I 1 58, ct_X8_restore_1_58 (by decide) i1.narrow, rst_yes h (by decide) i1⟩
    · exact ⟨1, zbec I 1 69, ct_X8_restore_1_69 (by decide) i1.narrow, rst_yes h (by decide) i1⟩
    · exact ⟨1, zbec I 1 58, ct_X8_restore_1_58 (by decide) i1.narrow, rst_yes h (by decide) i1⟩
