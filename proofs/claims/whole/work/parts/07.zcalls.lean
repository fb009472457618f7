abbrev zPost : Type := Option Value → Nat → zI → zL → zR → Prop
def zQ (g : zG) (P : zPost) : Array Value → State → Outcome → State → Prop := fun _ st o t => (∃ (r : Option Value) (N : Nat) (I : zI) (L : zL) (R : zR), o = .returned r ∧ P r N I L R ∧ zP g N I L R t.heap) ∧ va_F (fun q => g.2.1 ≤ q) st t
def zMQ (g : zG) (M : zM) (E : zE) (P : zPost) : State → Prop := match E with
  | (_, _, s, _, args, below, _, _) => MQ below (zQ g P) args s M.2.2.2.2.1.cells M.2.2.2.2.1.slots (fun q => g.2.1 ≤ q)
/-- a method's contract: from the world (N, I, L, R), called with av, it returns, and P holds of its answer and of the world behind it -/
def Ct (g : zG) (y : MethodName) (M : zM) (av : List Value) (N : Nat) (I : zI) (L : zL) (R : zR) (P : zPost) : Prop := Met g.1 y (Cond.code y M.1 M.2.2.1 M.2.2.2.1 :: wsL_law) M.2.2.2.2.1 (va_Pc av (fun U => zP g N I L R U.heap ∧ zS g U)) (zQ g P) M.2.2.2.2.1.cells M.2.2.2.2.1.slots (fun q => g.2.1 ≤ q)
/-- just this answer, just this world -/
def zD (r : Option Value) (N : Nat) (I : zI) (L : zL) (R : zR) : zPost := fun r' N' I' L' R' => r' = r ∧ N' = N ∧ I' = I ∧ L' = L ∧ R' = R
theorem zD_rf {r : Option Value} {N : Nat} {I : zI} {L : zL} {R : zR} : zD r N I L R r N I L R := ⟨rfl, rfl, rfl, rfl, rfl⟩
theorem zD_i {v v' : Int32} {N : Nat} {I I' : zI} {L : zL} {R : zR} (h : v = v') (hI : I = I') : zD (some (.int v')) N I' L R (some (.int v)) N I L R := ⟨by rw [h], rfl, hI, rfl, rfl⟩
/-- a method's words -/
def zMt (y : MethodName) (M : zM) (n : Nat) : Prop := Cond.code y M.1 M.2.2.1 M.2.2.2.1 ∈ wsL_law ∧ Cond.initialized y.cls ∈ wsL_law ∧ (y.cls ≠ "java/lang/invoke/MethodHandle" ∧ y.cls ≠ "java/lang/invoke/VarHandle") ∧ (parseMethodDescriptor y.desc).map (fun d => d.parameters.length) = some n
def zMv (y : MethodName) : Prop := Cond.instanceMethod y ∈ wsL_law ∧ Cond.selects y.cls y y ∈ wsL_law
theorem zgood {y : MethodName} {M : zM} (h : Cond.code y M.1 M.2.2.1 M.2.2.2.1 ∈ wsL_law) : GoodIn wsL_law (Cond.code y M.1 M.2.2.1 M.2.2.2.1 :: wsL_law) := by
  have key : ∀ w ∈ wsL_law, w ∈ wsL_law ∧ ((w.onTables && w.keeps) = true ∨ ∃ ty, w = .arrayClass ty) := fun w hw => ⟨hw, good_of_word (List.mem_filter.mp hw).2⟩
  intro w hw
  rcases List.mem_cons.mp hw with rfl | hw
  · exact key _ h
  · exact key _ hw
section ZCALLS
variable {g : zG} {M M2 : zM} {E : zE} {Q : State → Prop} {kc ks kc2 ks2 pc : Nat} {lo : List (Option Value)} {rest st : List Value} {N : Nat} {I : zI} {L : zL} {R : zR} {P P2 : zPost} {y : MethodName} {av As : List Value} {idx n k ci : Nat}
theorem Ct_of {lo0 : List (Option Value)} (hy : plainName y.cls = true) (hown : y.cls = M.2.1) (hnm : y.name = M.2.2.2.2.2) (hlo : zl 0 lo0 = lv_args 0 av) (hlen : (lg_sl av).length ≤ M.2.2.1) (body : ∀ E : zE, X g M E (zMQ g M E P) 0 0 0 lo0 [] N I L R) : Ct g y M av N I L R P := by
  refine Met.ofW (cc := M.1) (maxL := M.2.2.1) (ret := M.2.2.2.1) hy rfl ?_
  intro p e s m args below meth c s₁ B hml hv
  obtain ⟨rfl, hP, hS⟩ := hv
  have hts := atoms_spec (ws := Cond.code y M.1 M.2.2.1 M.2.2.2.1 :: wsL_law) B.pre
  have hown' : s.vm.findClass M.2.1 = some m.cls := by rw [← hown]; exact findClass_of_methodNamed B.named
  have hin := (name_of_methodNamed B.named B.method).1
  rw [lg_entry_eq]
  exact body (p, e, s, m, av.toArray, below, meth, c) ⟨B.exec, B.bytes, hml, hown', fun w hw => hts w (List.mem_cons_of_mem _ hw), hS, B.notSynchronized, B.returns, hin.trans hnm⟩ _ _ _ (hlo ▸ lv_entry av hlen) hP va_S.rf
theorem x_weak (hc : kc ≤ kc2) (hs : ks ≤ ks2) (h : X g M E Q kc2 ks2 pc lo st N I L R) : X g M E Q kc ks pc lo st N I L R := by
  obtain ⟨p, e, s, m, args, below, meth, c⟩ := E
  intro hx ls H locs hl hP hS
  exact W.widen hc hs (h hx ls H locs hl hP hS)
theorem x_iret {v : Int32} (hd : decode M.1 pc = .ok (.ireturn, 1)) (hr : M.2.2.2.1 = some .int) (hc : kc ≤ M.2.2.2.2.1.cells) (hs : ks ≤ M.2.2.2.2.1.slots) (h : P (some (.int v)) N I L R) : X g M E (zMQ g M E P) kc ks pc lo [.int v] N I L R := by
  refine x_weak hc hs ?_
  obtain ⟨p, e, s, m, args, below, meth, c⟩ := E
  intro hx ls H locs hl hP hS
  obtain ⟨hexec, hb, hml, hown, hts, hG, hlk, hrt, hmn⟩ := id hx
  exact W.iret hexec hb (hrt.trans hr) (fun t ht hW => ⟨⟨_, N, I, L, R, rfl, h, by rw [ht]; exact hP⟩, hS.F ht⟩) hS.2.2 hd
theorem x_zret {v : Int32} (hd : decode M.1 pc = .ok (.ireturn, 1)) (hr : M.2.2.2.1 = some .boolean) (hv : narrow .boolean (.int v) = .int v) (hc : kc ≤ M.2.2.2.2.1.cells) (hs : ks ≤ M.2.2.2.2.1.slots) (h : P (some (.int v)) N I L R) : X g M E (zMQ g M E P) kc ks pc lo [.int v] N I L R := by
  refine x_weak hc hs ?_
  obtain ⟨p, e, s, m, args, below, meth, c⟩ := E
  intro hx ls H locs hl hP hS
  obtain ⟨hexec, hb, hml, hown, hts, hG, hlk, hrt, hmn⟩ := id hx
  exact W.zret hexec hb (hrt.trans hr) hv (fun t ht hW => ⟨⟨_, N, I, L, R, rfl, h, by rw [ht]; exact hP⟩, hS.F ht⟩) hS.2.2 hd
theorem x_lret {v : Int64} (hd : decode M.1 pc = .ok (.lreturn, 1)) (hr : M.2.2.2.1 = some .long) (hc : kc ≤ M.2.2.2.2.1.cells) (hs : ks ≤ M.2.2.2.2.1.slots) (h : P (some (.long v)) N I L R) : X g M E (zMQ g M E P) kc ks pc lo [.long v] N I L R := by
  refine x_weak hc hs ?_
  obtain ⟨p, e, s, m, args, below, meth, c⟩ := E
  intro hx ls H locs hl hP hS
  obtain ⟨hexec, hb, hml, hown, hts, hG, hlk, hrt, hmn⟩ := id hx
  exact W.lret hexec hb (hrt.trans hr) (fun t ht hW => ⟨⟨_, N, I, L, R, rfl, h, by rw [ht]; exact hP⟩, hS.F ht⟩) hS.2.2 hd
theorem x_vret (hd : decode M.1 pc = .ok (.return_, 1)) (hr : M.2.2.2.1 = none) (hc : kc ≤ M.2.2.2.2.1.cells) (hs : ks ≤ M.2.2.2.2.1.slots) (h : P none N I L R) : X g M E (zMQ g M E P) kc ks pc lo [] N I L R := by
  refine x_weak hc hs ?_
  obtain ⟨p, e, s, m, args, below, meth, c⟩ := E
  intro hx ls H locs hl hP hS
  obtain ⟨hexec, hb, hml, hown, hts, hG, hlk, hrt, hmn⟩ := id hx
  exact W.vret hexec hb (hrt.trans hr) (fun t ht hW => ⟨⟨_, N, I, L, R, rfl, h, by rw [ht]; exact hP⟩, hS.F ht⟩) hS.2.2 hd
/-- behind a call -/
theorem zrun {p : Program} {e : Env} {s : State} {m : MethodId} {args : Array Value} {below : List Frame} {meth : Method} {c : Code} {H : Heap} {locs : List Loc} {ls : Array Slot} {st0 : List Value} {Rm : Room} {a : Array Value} {mc ms : Nat}
    (hr : va_Run p g.1 e Rm s m args below meth c H locs kc ks mc ms (F0 m pc ls st0) rest (zQ g P2 a) (fun q => g.2.1 ≤ q)) (hS : va_S (fun q => g.2.1 ≤ q) s.heap H locs)
    (kk : ∀ (r : Option Value) (N' : Nat) (I' : zI) (L' : zL) (R' : zR) (H1 : Heap) (locs1 : List Loc), P2 r N' I' L' R' → zP g N' I' L' R' H1 → va_S (fun q => g.2.1 ≤ q) s.heap H1 locs1 → W p g.1 e Rm s m args below meth c H1 locs1 (kc + mc) (ks + ms) Q (F0 m (pc + 3) ls (r.toList ++ rest))) : W p g.1 e Rm s m args below meth c H locs kc ks Q (F0 m pc ls st0) := by
  intro T hT X
  obtain ⟨v, st₀, t, T', L0, h0, X', hL, e1, e2, ⟨⟨r, N', I', L', R', hv, hp, hb⟩, hz, hk⟩, stp⟩ := hr T hT X
  cases hv
  rw [h0] at hz hk
  obtain ⟨t2, a1, b1⟩ := kk v N' I' L' R' T'.heap (locs ++ L0) hp (by rw [e1]; exact hb)
    ⟨Nat.le_trans hS.1 (by rw [e1]; exact hz), fun q h1 h2 => by rw [e1, hk q (Nat.lt_of_lt_of_le h1 hS.1) h2]; exact hS.2.1 q h1 h2, fun q hq => by
      rcases List.mem_append.mp hq with h | h
      · exact hS.2.2 q h
      · exact hL q h⟩ T' rfl X'
  exact ⟨t2, stp t2 a1, b1⟩
theorem zblind {av : List Value} : FrameBlind (va_Pc av (fun U => zP g N I L R U.heap ∧ zS g U)) := fun a U f mk q => ⟨q.1, q.2.1, zS.same (u := U) rfl q.2.2⟩
theorem zcallB {s : State} {args : Array Value} {own : String} (hts : ∀ w ∈ wsL_law, w.before args s = true) (hl : Cond.methodLink own idx y ∈ wsL_law) (hm : zMt y M2 n) (hR : M2.2.2.2.2.1.frames + 1 ≤ M.2.2.2.2.1.frames ∧ 8 + (M2.2.2.1 + 11) + M2.2.2.2.2.1.locals ≤ M.2.2.2.2.1.locals) : CallB M.2.2.2.2.1 s args own idx y M2.1 M2.2.2.1 M2.2.2.2.1 (Cond.code y M2.1 M2.2.2.1 M2.2.2.2.1 :: wsL_law) M2.2.2.2.2.1 M2.2.2.2.2.1.cells M2.2.2.2.2.1.slots n := by
  obtain ⟨h1, h2, h3, h4⟩ := hm
  refine ⟨rfl, rfl, hR.1, hR.2, pay_in hts (zgood h1), List.mem_cons_self, hts _ h1, hts _ h2, h3, fun sig h => ?_, hts _ hl⟩
  rw [h] at h4
  exact (Option.some.inj h4).symm
theorem zcallN {s : State} {args : Array Value} {own host : String} (hG : zS g s) (hts : ∀ w ∈ wsL_law, w.before args s = true) (hl : (own, idx, y, host) ∈ zNW) (hm : zMt y M2 n) (hR : M2.2.2.2.2.1.frames + 1 ≤ M.2.2.2.2.1.frames ∧ 8 + (M2.2.2.1 + 11) + M2.2.2.2.2.1.locals ≤ M.2.2.2.2.1.locals) : va_CN M.2.2.2.2.1 s args own idx y host M2.1 M2.2.2.1 M2.2.2.2.1 (Cond.code y M2.1 M2.2.2.1 M2.2.2.2.1 :: wsL_law) M2.2.2.2.2.1 M2.2.2.2.2.1.cells M2.2.2.2.2.1.slots n := by
  obtain ⟨h1, h2, h3, h4⟩ := hm
  refine ⟨⟨rfl, rfl, hR.1, hR.2, pay_in hts (zgood h1), List.mem_cons_self⟩, hts _ h1, hts _ h2, h3, fun sig h => ?_, va_Nw.use rfl (hG.2.1 _ hl)⟩
  rw [h] at h4
  exact (Option.some.inj h4).symm
theorem x_callV (hd : decode M.1 pc = .ok (.invokevirtual idx, 3)) (hl : Cond.methodLink M.2.1 idx y ∈ wsL_law) (hm : zMt y M2 n) (hi : zMv y) (ct : Ct g y M2 (.ref (g.2.1 + k) :: As) N I L R P2) (hk : k < N) (ht : (zt k).1 = ci + 4) (hcl : (zcl[ci]?).map (fun q => q.1) = some y.cls) (hst : st = As.reverse ++ .ref (g.2.1 + k) :: rest) (hn : As.length = n) (hw : (rest.map fun v => v.category).sum ≤ 8) (hR : M2.2.2.2.2.1.frames + 1 ≤ M.2.2.2.2.1.frames ∧ 8 + (M2.2.2.1 + 11) + M2.2.2.2.2.1.locals ≤ M.2.2.2.2.1.locals) (hcs : kc + M2.2.2.2.2.1.cells ≤ M.2.2.2.2.1.cells ∧ ks + M2.2.2.2.2.1.slots ≤ M.2.2.2.2.1.slots) (kk : ∀ (r : Option Value) (N' : Nat) (I' : zI) (L' : zL) (R' : zR), P2 r N' I' L' R' → X g M E Q (kc + M2.2.2.2.2.1.cells) (ks + M2.2.2.2.2.1.slots) (pc + 3) lo (r.toList ++ rest) N' I' L' R') : X g M E Q kc ks pc lo st N I L R := by
  obtain ⟨p, e, s, m, args, below, meth, c⟩ := E
  intro hx ls H locs hl hP hS
  obtain ⟨hexec, hb, hml, hown, hts, hG, hlk, hrt, hmn⟩ := id hx
  subst hst
  have he := hP.2 k _ (zw_at hk)
  rw [zc_o ht] at he
  have hrv : ∃ cell : Cell, H[g.2.1 + k]? = some cell ∧ cell.vm.isStatics = false ∧ s.vm.findClass y.cls = some cell.cls := by
    obtain ⟨q, h1, cell, g1, g2, g3, -⟩ := he
    have h2 : q.1 = y.cls := by
      have h3 : zcl[ci]? = some q := h1
      rw [h3] at hcl
      exact Option.some.inj hcl
    exact ⟨cell, g1, by rw [g3]; rfl, by rw [← h2, g2]; exact (hG.1.1 ci q h1).2.1⟩
  exact zrun (va_runV (As := As) (rest := rest) ⟨hexec, hb, hml, hown, hts⟩ ct ⟨zcallB hts ‹_› hm hR, hts _ hi.1, hts _ hi.2⟩ ⟨zblind, hrv, fun U hU hW => ⟨rfl, by rw [hU]; exact hP, hG.warm hW⟩⟩ rfl hn hl.1 rfl (lv_room hw) hd hcs) hS (fun r N' I' L' R' H1 locs1 h1 h2 h3 => kk r N' I' L' R' h1 hx ls H1 locs1 hl h2 h3)
theorem x_callS (hd : decode M.1 pc = .ok (.invokestatic idx, 3)) (hl : Cond.methodLink M.2.1 idx y ∈ wsL_law) (hm : zMt y M2 n) (hi : Cond.static y ∈ wsL_law) (ct : Ct g y M2 As N I L R P2) (hst : st = As.reverse ++ rest) (hn : As.length = n) (hw : (rest.map fun v => v.category).sum ≤ 8) (hR : M2.2.2.2.2.1.frames + 1 ≤ M.2.2.2.2.1.frames ∧ 8 + (M2.2.2.1 + 11) + M2.2.2.2.2.1.locals ≤ M.2.2.2.2.1.locals) (hcs : kc + M2.2.2.2.2.1.cells ≤ M.2.2.2.2.1.cells ∧ ks + M2.2.2.2.2.1.slots ≤ M.2.2.2.2.1.slots) (kk : ∀ (r : Option Value) (N' : Nat) (I' : zI) (L' : zL) (R' : zR), P2 r N' I' L' R' → X g M E Q (kc + M2.2.2.2.2.1.cells) (ks + M2.2.2.2.2.1.slots) (pc + 3) lo (r.toList ++ rest) N' I' L' R') : X g M E Q kc ks pc lo st N I L R := by
  obtain ⟨p, e, s, m, args, below, meth, c⟩ := E
  intro hx ls H locs hl hP hS
  obtain ⟨hexec, hb, hml, hown, hts, hG, hlk, hrt, hmn⟩ := id hx
  subst hst
  exact zrun (va_runS (As := As) (rest := rest) ⟨hexec, hb, hml, hown, hts⟩ ct ⟨zcallB hts ‹_› hm hR, hts _ hi⟩ ⟨zblind, fun U hU hW => ⟨rfl, by rw [hU]; exact hP, hG.warm hW⟩⟩ rfl hn hl.1 rfl (lv_room hw) hd hcs) hS (fun r N' I' L' R' H1 locs1 h1 h2 h3 => kk r N' I' L' R' h1 hx ls H1 locs1 hl h2 h3)
theorem x_callN {host : String} (hd : decode M.1 pc = .ok (.invokestatic idx, 3)) (hnw : (M.2.1, idx, y, host) ∈ zNW) (hm : zMt y M2 n) (hi : Cond.static y ∈ wsL_law) (ct : Ct g y M2 As N I L R P2) (hst : st = As.reverse ++ rest) (hn : As.length = n) (hw : (rest.map fun v => v.category).sum ≤ 8) (hR : M2.2.2.2.2.1.frames + 1 ≤ M.2.2.2.2.1.frames ∧ 8 + (M2.2.2.1 + 11) + M2.2.2.2.2.1.locals ≤ M.2.2.2.2.1.locals) (hcs : kc + M2.2.2.2.2.1.cells ≤ M.2.2.2.2.1.cells ∧ ks + M2.2.2.2.2.1.slots ≤ M.2.2.2.2.1.slots) (kk : ∀ (r : Option Value) (N' : Nat) (I' : zI) (L' : zL) (R' : zR), P2 r N' I' L' R' → X g M E Q (kc + M2.2.2.2.2.1.cells) (ks + M2.2.2.2.2.1.slots) (pc + 3) lo (r.toList ++ rest) N' I' L' R') : X g M E Q kc ks pc lo st N I L R := by
  obtain ⟨p, e, s, m, args, below, meth, c⟩ := E
  intro hx ls H locs hl hP hS
  obtain ⟨hexec, hb, hml, hown, hts, hG, hlk, hrt, hmn⟩ := id hx
  subst hst
  exact zrun (va_runSN (As := As) (rest := rest) ⟨hexec, hb, hml, hown, hts⟩ ct ⟨zcallN hG hts hnw hm hR, hts _ hi, trivial⟩ ⟨zblind, fun U hU hW => ⟨rfl, by rw [hU]; exact hP, hG.warm hW⟩⟩ rfl hn hl.1 rfl (lv_room hw) hd hcs) hS (fun r N' I' L' R' H1 locs1 h1 h2 h3 => kk r N' I' L' R' h1 hx ls H1 locs1 hl h2 h3)
theorem x_callI (hd : decode M.1 pc = .ok (.invokespecial idx, 3)) (hl : Cond.methodLink M.2.1 idx y ∈ wsL_law) (hm : zMt y M2 n) (hrn : M2.2.2.2.1 = none) (hi : Cond.instanceMethod y ∈ wsL_law) (hy1 : y.name = "<init>") (ct : Ct g y M2 (.ref (g.2.1 + k) :: As) N I L R P2) (hst : st = As.reverse ++ .ref (g.2.1 + k) :: rest) (hn : As.length = n) (hw : (rest.map fun v => v.category).sum ≤ 8) (hR : M2.2.2.2.2.1.frames + 1 ≤ M.2.2.2.2.1.frames ∧ 8 + (M2.2.2.1 + 11) + M2.2.2.2.2.1.locals ≤ M.2.2.2.2.1.locals) (hcs : kc + M2.2.2.2.2.1.cells ≤ M.2.2.2.2.1.cells ∧ ks + M2.2.2.2.2.1.slots ≤ M.2.2.2.2.1.slots) (kk : ∀ (r : Option Value) (N' : Nat) (I' : zI) (L' : zL) (R' : zR), P2 r N' I' L' R' → X g M E Q (kc + M2.2.2.2.2.1.cells) (ks + M2.2.2.2.2.1.slots) (pc + 3) lo (r.toList ++ rest) N' I' L' R') : X g M E Q kc ks pc lo st N I L R := by
  obtain ⟨p, e, s, m, args, below, meth, c⟩ := E
  intro hx ls H locs hl hP hS
  obtain ⟨hexec, hb, hml, hown, hts, hG, hlk, hrt, hmn⟩ := id hx
  subst hst
  have cb := zcallB (M := M) hts ‹_› hm hR
  obtain ⟨M21, M22, M23, M24, M25⟩ := M2
  have hrn : M24 = none := hrn
  subst hrn
  exact zrun (va_runI (As := As) (rest := rest) ⟨hexec, hb, hml, hown, hts⟩ ct ⟨cb, hy1, hts _ hi⟩ ⟨zblind, fun U hU hW => ⟨rfl, by rw [hU]; exact hP, hG.warm hW⟩⟩ rfl hn hl.1 rfl (lv_room hw) hd hcs) hS (fun r N' I' L' R' H1 locs1 h1 h2 h3 => kk r N' I' L' R' h1 hx ls H1 locs1 hl h2 h3)
theorem x_callIN {host : String} (hd : decode M.1 pc = .ok (.invokespecial idx, 3)) (hnw : (M.2.1, idx, y, host) ∈ zNW) (hm : zMt y M2 n) (hrn : M2.2.2.2.1 = none) (hi : Cond.instanceMethod y ∈ wsL_law) (hy1 : y.name = "<init>") (ct : Ct g y M2 (.ref (g.2.1 + k) :: As) N I L R P2) (hst : st = As.reverse ++ .ref (g.2.1 + k) :: rest) (hn : As.length = n) (hw : (rest.map fun v => v.category).sum ≤ 8) (hR : M2.2.2.2.2.1.frames + 1 ≤ M.2.2.2.2.1.frames ∧ 8 + (M2.2.2.1 + 11) + M2.2.2.2.2.1.locals ≤ M.2.2.2.2.1.locals) (hcs : kc + M2.2.2.2.2.1.cells ≤ M.2.2.2.2.1.cells ∧ ks + M2.2.2.2.2.1.slots ≤ M.2.2.2.2.1.slots) (kk : ∀ (r : Option Value) (N' : Nat) (I' : zI) (L' : zL) (R' : zR), P2 r N' I' L' R' → X g M E Q (kc + M2.2.2.2.2.1.cells) (ks + M2.2.2.2.2.1.slots) (pc + 3) lo (r.toList ++ rest) N' I' L' R') : X g M E Q kc ks pc lo st N I L R := by
  obtain ⟨p, e, s, m, args, below, meth, c⟩ := E
  intro hx ls H locs hl hP hS
  obtain ⟨hexec, hb, hml, hown, hts, hG, hlk, hrt, hmn⟩ := id hx
  subst hst
  have cb := zcallN (M := M) hG hts hnw hm hR
  obtain ⟨M21, M22, M23, M24, M25⟩ := M2
  have hrn : M24 = none := hrn
  subst hrn
  exact zrun (va_runIN (As := As) (rest := rest) ⟨hexec, hb, hml, hown, hts⟩ ct ⟨cb, hy1, hts _ hi⟩ ⟨zblind, fun U hU hW => ⟨rfl, by rw [hU]; exact hP, hG.warm hW⟩⟩ rfl hn hl.1 rfl (lv_room hw) hd hcs) hS (fun r N' I' L' R' H1 locs1 h1 h2 h3 => kk r N' I' L' R' h1 hx ls H1 locs1 hl h2 h3)
theorem x_callVi {v : Value} {N1 : Nat} {I1 : zI} {L1 : zL} {R1 : zR} (hd : decode M.1 pc = .ok (.invokevirtual idx, 3)) (hl : Cond.methodLink M.2.1 idx y ∈ wsL_law) (hm : zMt y M2 n) (hi : zMv y) (ct : Ct g y M2 (.ref (g.2.1 + k) :: As) N I L R (zD (some v) N1 I1 L1 R1)) (hk : k < N) (ht : (zt k).1 = ci + 4) (hcl : (zcl[ci]?).map (fun q => q.1) = some y.cls) (hst : st = As.reverse ++ .ref (g.2.1 + k) :: rest) (hn : As.length = n) (hw : (rest.map fun v => v.category).sum ≤ 8) (hR : M2.2.2.2.2.1.frames + 1 ≤ M.2.2.2.2.1.frames ∧ 8 + (M2.2.2.1 + 11) + M2.2.2.2.2.1.locals ≤ M.2.2.2.2.1.locals) (hz : M2.2.2.2.2.1.cells = 0 ∧ M2.2.2.2.2.1.slots = 0) (hcs : kc ≤ M.2.2.2.2.1.cells ∧ ks ≤ M.2.2.2.2.1.slots) (kk : X g M E Q kc ks (pc + 3) lo (v :: rest) N1 I1 L1 R1) : X g M E Q kc ks pc lo st N I L R := by
  refine x_callV hd hl hm hi ct hk ht hcl hst hn hw hR (by rw [hz.1, hz.2]; exact hcs) (fun r N' I' L' R' h => ?_)
  obtain ⟨rfl, rfl, rfl, rfl, rfl⟩ := h
  rw [hz.1, hz.2]
  exact kk
theorem x_callVv {N1 : Nat} {I1 : zI} {L1 : zL} {R1 : zR} (hd : decode M.1 pc = .ok (.invokevirtual idx, 3)) (hl : Cond.methodLink M.2.1 idx y ∈ wsL_law) (hm : zMt y M2 n) (hi : zMv y) (ct : Ct g y M2 (.ref (g.2.1 + k) :: As) N I L R (zD none N1 I1 L1 R1)) (hk : k < N) (ht : (zt k).1 = ci + 4) (hcl : (zcl[ci]?).map (fun q => q.1) = some y.cls) (hst : st = As.reverse ++ .ref (g.2.1 + k) :: rest) (hn : As.length = n) (hw : (rest.map fun v => v.category).sum ≤ 8) (hR : M2.2.2.2.2.1.frames + 1 ≤ M.2.2.2.2.1.frames ∧ 8 + (M2.2.2.1 + 11) + M2.2.2.2.2.1.locals ≤ M.2.2.2.2.1.locals) (hz : M2.2.2.2.2.1.cells = 0 ∧ M2.2.2.2.2.1.slots = 0) (hcs : kc ≤ M.2.2.2.2.1.cells ∧ ks ≤ M.2.2.2.2.1.slots) (kk : X g M E Q kc ks (pc + 3) lo rest N1 I1 L1 R1) : X g M E Q kc ks pc lo st N I L R := by
  refine x_callV hd hl hm hi ct hk ht hcl hst hn hw hR (by rw [hz.1, hz.2]; exact hcs) (fun r N' I' L' R' h => ?_)
  obtain ⟨rfl, rfl, rfl, rfl, rfl⟩ := h
  rw [hz.1, hz.2]
  exact kk
theorem x_callSi {v : Value} {N1 : Nat} {I1 : zI} {L1 : zL} {R1 : zR} (hd : decode M.1 pc = .ok (.invokestatic idx, 3)) (hl : Cond.methodLink M.2.1 idx y ∈ wsL_law) (hm : zMt y M2 n) (hi : Cond.static y ∈ wsL_law) (ct : Ct g y M2 As N I L R (zD (some v) N1 I1 L1 R1)) (hst : st = As.reverse ++ rest) (hn : As.length = n) (hw : (rest.map fun v => v.category).sum ≤ 8) (hR : M2.2.2.2.2.1.frames + 1 ≤ M.2.2.2.2.1.frames ∧ 8 + (M2.2.2.1 + 11) + M2.2.2.2.2.1.locals ≤ M.2.2.2.2.1.locals) (hz : M2.2.2.2.2.1.cells = 0 ∧ M2.2.2.2.2.1.slots = 0) (hcs : kc ≤ M.2.2.2.2.1.cells ∧ ks ≤ M.2.2.2.2.1.slots) (kk : X g M E Q kc ks (pc + 3) lo (v :: rest) N1 I1 L1 R1) : X g M E Q kc ks pc lo st N I L R := by
  refine x_callS hd hl hm hi ct hst hn hw hR (by rw [hz.1, hz.2]; exact hcs) (fun r N' I' L' R' h => ?_)
  obtain ⟨rfl, rfl, rfl, rfl, rfl⟩ := h
  rw [hz.1, hz.2]
  exact kk
theorem x_callSv {N1 : Nat} {I1 : zI} {L1 : zL} {R1 : zR} (hd : decode M.1 pc = .ok (.invokestatic idx, 3)) (hl : Cond.methodLink M.2.1 idx y ∈ wsL_law) (hm : zMt y M2 n) (hi : Cond.static y ∈ wsL_law) (ct : Ct g y M2 As N I L R (zD none N1 I1 L1 R1)) (hst : st = As.reverse ++ rest) (hn : As.length = n) (hw : (rest.map fun v => v.category).sum ≤ 8) (hR : M2.2.2.2.2.1.frames + 1 ≤ M.2.2.2.2.1.frames ∧ 8 + (M2.2.2.1 + 11) + M2.2.2.2.2.1.locals ≤ M.2.2.2.2.1.locals) (hz : M2.2.2.2.2.1.cells = 0 ∧ M2.2.2.2.2.1.slots = 0) (hcs : kc ≤ M.2.2.2.2.1.cells ∧ ks ≤ M.2.2.2.2.1.slots) (kk : X g M E Q kc ks (pc + 3) lo rest N1 I1 L1 R1) : X g M E Q kc ks pc lo st N I L R := by
  refine x_callS hd hl hm hi ct hst hn hw hR (by rw [hz.1, hz.2]; exact hcs) (fun r N' I' L' R' h => ?_)
  obtain ⟨rfl, rfl, rfl, rfl, rfl⟩ := h
  rw [hz.1, hz.2]
  exact kk
theorem x_callNi {host : String} {v : Value} {N1 : Nat} {I1 : zI} {L1 : zL} {R1 : zR} (hd : decode M.1 pc = .ok (.invokestatic idx, 3)) (hnw : (M.2.1, idx, y, host) ∈ zNW) (hm : zMt y M2 n) (hi : Cond.static y ∈ wsL_law) (ct : Ct g y M2 As N I L R (zD (some v) N1 I1 L1 R1)) (hst : st = As.reverse ++ rest) (hn : As.length = n) (hw : (rest.map fun v => v.category).sum ≤ 8) (hR : M2.2.2.2.2.1.frames + 1 ≤ M.2.2.2.2.1.frames ∧ 8 + (M2.2.2.1 + 11) + M2.2.2.2.2.1.locals ≤ M.2.2.2.2.1.locals) (hz : M2.2.2.2.2.1.cells = 0 ∧ M2.2.2.2.2.1.slots = 0) (hcs : kc ≤ M.2.2.2.2.1.cells ∧ ks ≤ M.2.2.2.2.1.slots) (kk : X g M E Q kc ks (pc + 3) lo (v :: rest) N1 I1 L1 R1) : X g M E Q kc ks pc lo st N I L R := by
  refine x_callN hd hnw hm hi ct hst hn hw hR (by rw [hz.1, hz.2]; exact hcs) (fun r N' I' L' R' h => ?_)
  obtain ⟨rfl, rfl, rfl, rfl, rfl⟩ := h
  rw [hz.1, hz.2]
  exact kk
theorem x_callNv {host : String} {N1 : Nat} {I1 : zI} {L1 : zL} {R1 : zR} (hd : decode M.1 pc = .ok (.invokestatic idx, 3)) (hnw : (M.2.1, idx, y, host) ∈ zNW) (hm : zMt y M2 n) (hi : Cond.static y ∈ wsL_law) (ct : Ct g y M2 As N I L R (zD none N1 I1 L1 R1)) (hst : st = As.reverse ++ rest) (hn : As.length = n) (hw : (rest.map fun v => v.category).sum ≤ 8) (hR : M2.2.2.2.2.1.frames + 1 ≤ M.2.2.2.2.1.frames ∧ 8 + (M2.2.2.1 + 11) + M2.2.2.2.2.1.locals ≤ M.2.2.2.2.1.locals) (hz : M2.2.2.2.2.1.cells = 0 ∧ M2.2.2.2.2.1.slots = 0) (hcs : kc ≤ M.2.2.2.2.1.cells ∧ ks ≤ M.2.2.2.2.1.slots) (kk : X g M E Q kc ks (pc + 3) lo rest N1 I1 L1 R1) : X g M E Q kc ks pc lo st N I L R := by
  refine x_callN hd hnw hm hi ct hst hn hw hR (by rw [hz.1, hz.2]; exact hcs) (fun r N' I' L' R' h => ?_)
  obtain ⟨rfl, rfl, rfl, rfl, rfl⟩ := h
  rw [hz.1, hz.2]
  exact kk
theorem x_obj (hd : decode M.1 pc = .ok (.invokespecial idx, 3)) (hl : Cond.methodLink M.2.1 idx objectInit ∈ wsL_law) (hi : Cond.instanceMethod objectInit ∈ wsL_law) (hc : Cond.code objectInit ⟨#[0xb1]⟩ 1 none ∈ wsL_law) (hw : (rest.map fun v => v.category).sum ≤ 8) (hf : 1 ≤ M.2.2.2.2.1.frames) (hlo : 20 ≤ M.2.2.2.2.1.locals) (kk : X g M E Q kc ks (pc + 3) lo rest N I L R) {a : Nat} : X g M E Q kc ks pc lo (.ref a :: rest) N I L R := by
  obtain ⟨p, e, s, m, args, below, meth, c⟩ := E
  intro hx ls H locs hl hP hS
  obtain ⟨hexec, hb, hml, hown, hts, hG, hlk, hrt, hmn⟩ := id hx
  have hlo2 := lv_room (m := m) (pc := pc) (ls := ls) (rest := .ref a :: rest) hw
  exact W.objInit hexec hb hown (hts _ ‹_›) (hts _ hi) (hts _ hc) rfl (by rw [hml]; exact hl.1) rfl hd hf (by omega) (kk hx ls H locs hl hP hS)
theorem x_mmax {u v : Int32} (hd : decode M.1 pc = .ok (.invokestatic idx, 3)) (hl : Cond.methodLink M.2.1 idx Lib.Math.max.name ∈ wsL_law) (h1 : Cond.static Lib.Math.max.name ∈ wsL_law) (h2 : Cond.initialized "java/lang/Math" ∈ wsL_law) (h3 : Cond.code Lib.Math.max.name Lib.Math.max.code 2 (some .int) ∈ wsL_law) (hw : (rest.map fun v => v.category).sum ≤ 8) (hf : 1 ≤ M.2.2.2.2.1.frames ∧ 21 ≤ M.2.2.2.2.1.locals) (hcs : kc ≤ M.2.2.2.2.1.cells ∧ ks ≤ M.2.2.2.2.1.slots) (kk : X g M E Q kc ks (pc + 3) lo (.int (if u < v then v else u) :: rest) N I L R) : X g M E Q kc ks pc lo (.int v :: .int u :: rest) N I L R := by
  obtain ⟨p, e, s, m, args, below, meth, c⟩ := E
  intro hx ls H locs hl hP hS
  obtain ⟨hexec, hb, hml, hown, hts, hG, hlk, hrt, hmn⟩ := id hx
  exact va_mmax hexec hb (by rw [hml]; exact hl.1.symm) hown (hts _ ‹_›) (hts _ h1) (hts _ h2) (hts _ h3) hf.1 (by omega) hcs.1 hcs.2 hd (kk hx ls H locs hl hP hS)
theorem x_mmin {u v : Int32} (hd : decode M.1 pc = .ok (.invokestatic idx, 3)) (hl : Cond.methodLink M.2.1 idx Lib.Math.min.name ∈ wsL_law) (h1 : Cond.static Lib.Math.min.name ∈ wsL_law) (h2 : Cond.initialized "java/lang/Math" ∈ wsL_law) (h3 : Cond.code Lib.Math.min.name Lib.Math.min.code 2 (some .int) ∈ wsL_law) (hw : (rest.map fun v => v.category).sum ≤ 8) (hf : 1 ≤ M.2.2.2.2.1.frames ∧ 21 ≤ M.2.2.2.2.1.locals) (hcs : kc ≤ M.2.2.2.2.1.cells ∧ ks ≤ M.2.2.2.2.1.slots) (kk : X g M E Q kc ks (pc + 3) lo (.int (if v < u then v else u) :: rest) N I L R) : X g M E Q kc ks pc lo (.int v :: .int u :: rest) N I L R := by
  obtain ⟨p, e, s, m, args, below, meth, c⟩ := E
  intro hx ls H locs hl hP hS
  obtain ⟨hexec, hb, hml, hown, hts, hG, hlk, hrt, hmn⟩ := id hx
  exact va_mmin hexec hb (by rw [hml]; exact hl.1.symm) hown (hts _ ‹_›) (hts _ h1) (hts _ h2) (hts _ h3) hf.1 (by omega) hcs.1 hcs.2 hd (kk hx ls H locs hl hP hS)
/-- a whole row copied over a row of the same length -/
theorem x_copy {k0 k1 n0 : Nat} {u : Int32} (hd : decode M.1 pc = .ok (.invokestatic idx, 3)) (hl : Cond.methodLink M.2.1 idx arraycopyName ∈ wsL_law) (h1 : Cond.native arraycopyName ∈ wsL_law) (h2 : Cond.static arraycopyName ∈ wsL_law) (h3 : Cond.initialized "java/lang/System" ∈ wsL_law) (hk0 : k0 < N) (hk1 : k1 < N) (ht0 : zt k0 = (0, n0)) (ht1 : zt k1 = (0, n0)) (hu : u = nI n0) (hw : (rest.map fun v => v.category).sum ≤ 8) (hf : 1 ≤ M.2.2.2.2.1.frames ∧ 8 + (nativeFrameWords "java/lang/System" "arraycopy" 5 + 11) ≤ M.2.2.2.2.1.locals) (kk : X g M E Q kc ks (pc + 3) lo rest N (fun a i => if a = k1 then (if i < n0 then I k0 i else I k1 i) else I a i) L R) : X g M E Q kc ks pc lo (.int u :: .int 0 :: .ref (g.2.1 + k1) :: .int 0 :: .ref (g.2.1 + k0) :: rest) N I L R := by
  obtain ⟨p, e, s, m, args, below, meth, c⟩ := E
  intro hx ls H locs hl hP hS
  obtain ⟨hexec, hb, hml, hown, hts, hG, hlk, hrt, hmn⟩ := id hx
  have hsm := zt_small ht0
  have hc0 := hP.2 k0 _ (zw_at hk0)
  have hc1 := hP.2 k1 _ (zw_at hk1)
  rw [zc_int ht0] at hc0
  rw [zc_int ht1] at hc1
  have hc0 : H[g.2.1 + k0]? = some (vp_cell (g.2.2.1 0) (n0, .inl (I k0))) := hc0
  have hc1 : H[g.2.1 + k1]? = some (vp_cell (g.2.2.1 0) (n0, .inl (I k1))) := hc1
  obtain ⟨-, kk0, hkk0, cm0, hkk00⟩ := (hG.1.2 0 _ rfl).1 n0 (fun j => .int (I k0 j))
  obtain ⟨-, kk1, hkk1, cm1, hkk11⟩ := (hG.1.2 0 _ rfl).1 n0 (fun j => .int (I k1 j))
  subst hu
  have hcl := nI_clamp hsm
  have hti := nI_toInt hsm
  intro T hT X
  obtain ⟨vm', X', step⟩ := X.arraycopy hexec hown (hts _ ‹Cond.methodLink M.2.1 idx arraycopyName ∈ wsL_law›) (hts _ h1) (hts _ h2) (hts _ h3) (src := g.2.1 + k0) (dst := g.2.1 + k1) (cs := vp_cell (g.2.2.1 0) (n0, .inl (I k0))) (cd := vp_cell (g.2.2.1 0) (n0, .inl (I k1))) (srcPos := 0) (destPos := 0) (n := nI n0) (by rw [hT]; exact hc0) (by rw [hT]; exact hc1)
    (fun _ h => by cases h) (fun _ h => by cases h) (fun h => by cases h) (fun h => by cases h) hkk0 hkk1 hkk00 hkk11 (by simp [refKind]) (by decide) (by decide) (nI_pos hsm)
    (by rw [hti]; show ¬ _ > ((arrV (g.2.2.1 0) n0 (fun j => .int (I k0 j))).slots.size : Int); rw [arrV_size]; simp)
    (by rw [hti]; show ¬ _ > ((arrV (g.2.2.1 0) n0 (fun j => .int (I k1 j))).slots.size : Int); rw [arrV_size]; simp)
    (fun vm₁ _ i hi => by
      rw [hcl] at hi
      have e0 : (0 : Int32).toNatClampNeg = 0 := rfl
      have e : (vp_cell (g.2.2.1 0) (n0, .inl (I k0))).slots.getD ((0 : Int32).toNatClampNeg + i) .null = .int (I k0 i) := by
        show (arrV (g.2.2.1 0) n0 (fun j => .int (I k0 j))).slots.getD _ _ = _
        rw [e0, Nat.zero_add, Array.getD_eq_getD_getElem?, arrV_read _ _ (by omega)]
        rfl
      refine ⟨?_, ?_⟩
      · rw [e]
        rfl
      · rw [e]
        exact trivial)
    (g := F0 m pc ls (.int (nI n0) :: .int 0 :: .ref (g.2.1 + k1) :: .int 0 :: .ref (g.2.1 + k0) :: rest)) rfl (by rw [hml]; exact hl.1) (rest := rest) rfl (by rw [hb]; exact hd) hf.1 (by show 2 * 0 + _ + _ ≤ _; omega)
  have e1 : copied (vp_cell (g.2.2.1 0) (n0, .inl (I k0))) (vp_cell (g.2.2.1 0) (n0, .inl (I k1))) 0 0 (nI n0) = vp_cell (g.2.2.1 0) (n0, .inl (va_cpy (I k0) (I k1) (0 : Int32).toNatClampNeg (0 : Int32).toNatClampNeg (nI n0).toNatClampNeg)) := va_copied (fun z => .int z) (g.2.2.1 0) (g.2.2.1 0) (I k0) (I k1) (by rw [hcl]; simp)
  rw [e1, hcl] at X' step
  have hl1 : g.2.1 + k1 < H.size := (Array.getElem?_eq_some_iff.mp hc1).1
  generalize hcell : vp_cell (g.2.2.1 0) (n0, .inl (va_cpy (I k0) (I k1) (0 : Int32).toNatClampNeg (0 : Int32).toNatClampNeg n0)) = cell at X' step
  have hheap : ((T.setVm vm').setCell (g.2.1 + k1) cell).heap = H.setIfInBounds (g.2.1 + k1) cell := by rw [← hT]; rfl
  have hrow : (fun i => if k1 = k1 then (if i < n0 then I k0 i else I k1 i) else I k1 i) = va_cpy (I k0) (I k1) (0 : Int32).toNatClampNeg (0 : Int32).toNatClampNeg n0 := by
    have e0 : (0 : Int32).toNatClampNeg = 0 := rfl
    funext i; simp [va_cpy, e0]
  have oq : ∀ q : Nat, q ≠ g.2.1 + k1 → (H.setIfInBounds (g.2.1 + k1) cell)[q]? = H[q]? := fun q hq => by simp [Array.getElem?_setIfInBounds, Ne.symm hq]
  obtain ⟨t, a1, b1⟩ := kk hx ls _ _ hl (zP_put (e := .inl (g.2.2.1 0, n0, .inl (va_cpy (I k0) (I k1) (0 : Int32).toNatClampNeg (0 : Int32).toNatClampNeg n0))) hP hk1 (by rw [zc_int ht1]; exact congrArg (fun f => Sum.inl (g.2.2.1 0, n0, Sum.inl f)) hrow) (show (H.setIfInBounds (g.2.1 + k1) cell)[g.2.1 + k1]? = some (vp_cell _ _) by rw [hcell]; simp [Array.getElem?_setIfInBounds, hl1]) (by simp) oq (fun j hj => zc_congr (fun a => by simp [hj]) (fun _ => rfl) (fun _ => rfl))) ⟨by simp; exact hS.1, fun q g1 g2 => by
      rw [oq q (fun e => g2 (by rw [e]; exact Nat.le_add_right _ _))]
      exact hS.2.1 q g1 g2, fun q hq => by
      rcases List.mem_append.mp hq with h | h
      · exact hS.2.2 q h
      · obtain ⟨z, -, hz⟩ := List.mem_map.mp h
        rw [← hz]
        exact Nat.le_add_right _ _⟩ _ hheap X'
  exact ⟨t, step t a1, b1⟩
/-- another world that shows the same -/
theorem x_same {I' : zI} {L' : zL} {R' : zR} (h : ∀ k, k < N → zc g.2.1 g.2.2.1 I' L' R' k = zc g.2.1 g.2.2.1 I L R k) (kk : X g M E Q kc ks pc lo st N I' L' R') : X g M E Q kc ks pc lo st N I L R := by
  obtain ⟨p, e, s, m, args, below, meth, c⟩ := E
  intro hx ls H locs hl hP hS
  obtain ⟨hexec, hb, hml, hown, hts, hG, hlk, hrt, hmn⟩ := id hx
  refine kk hx ls H locs hl ⟨hP.1, ?_⟩ hS
  have e : zw g.2.1 g.2.2.1 N I' L' R' = zw g.2.1 g.2.2.1 N I L R := by
    apply List.ext_getElem?
    intro i
    by_cases hi : i < N
    · rw [zw_at hi, zw_at hi, h i hi]
    · rw [List.getElem?_eq_none (by simp [zw]; omega), List.getElem?_eq_none (by simp [zw]; omega)]
  rw [e]
  exact hP.2
theorem x_eq {lo' : List (Option Value)} {I' : zI} {L' : zL} (hlo : lo = lo') (hI : I = I') (hL : L = L') (kk : X g M E Q kc ks pc lo' st N I' L' R) : X g M E Q kc ks pc lo st N I L R := by
  subst hlo; subst hI; subst hL
  exact kk
/-- a loop that counts from i0 up to n1 -/
theorem x_loop {inv : Nat → Prop} (lo' : Nat → List (Option Value)) (I' : Nat → zI) (L' : Nat → zL) (i0 n1 : Nat) (h0 : i0 ≤ n1) (hi : inv i0) (hlo : lo = lo' i0) (hI : I = I' i0) (hL : L = L' i0)
    (step : ∀ i, i0 ≤ i → i < n1 → inv i → (inv (i + 1) → X g M E Q kc ks pc (lo' (i + 1)) st N (I' (i + 1)) (L' (i + 1)) R) → X g M E Q kc ks pc (lo' i) st N (I' i) (L' i) R)
    (ex : inv n1 → X g M E Q kc ks pc (lo' n1) st N (I' n1) (L' n1) R) : X g M E Q kc ks pc lo st N I L R := by
  refine x_eq hlo hI hL ?_
  have key : ∀ d i, i0 ≤ i → i + d = n1 → inv i → X g M E Q kc ks pc (lo' i) st N (I' i) (L' i) R := by
    intro d
    induction d with
    | zero => intro i _ h2 h3; rw [show i = n1 by omega] at h3 ⊢; exact ex h3
    | succ d ih => intro i h1 h2 h3; exact step i h1 (by omega) h3 (fun h4 => ih (i + 1) (by omega) (by omega) h4)
  exact key (n1 - i0) i0 (Nat.le_refl _) (by omega) hi
/-- any loop: a measure falls -/
theorem x_while {σ : Type} (inv : σ → Prop) (μ : σ → Nat) (lo' : σ → List (Option Value)) (I' : σ → zI) (L' : σ → zL) (s0 : σ) (hi : inv s0) (hlo : lo = lo' s0) (hI : I = I' s0) (hL : L = L' s0)
    (step : ∀ s, inv s → (∀ s', inv s' → μ s' < μ s → X g M E Q kc ks pc (lo' s') st N (I' s') (L' s') R) → X g M E Q kc ks pc (lo' s) st N (I' s) (L' s) R) : X g M E Q kc ks pc lo st N I L R := by
  refine x_eq hlo hI hL ?_
  have key : ∀ d s, μ s < d → inv s → X g M E Q kc ks pc (lo' s) st N (I' s) (L' s) R := by
    intro d
    induction d with
    | zero => intro s h; omega
    | succ d ih => intro s h1 h2; exact step s h2 (fun s' h3 h4 => ih s' (by omega) h3)
  exact key (μ s0 + 1) s0 (by omega) hi
end ZCALLS
