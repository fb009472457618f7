/-! THE JUDGEMENT X: the machine, in a method's frame at pc with locals lo, stack st, over the world (N, I, L, R), comes to Q. M: what the method is (code, class, locals, return type, room). -/
abbrev zM : Type := ByteArray × String × Nat × Option FieldType × Room × String
abbrev zE : Type := Program × Env × State × MethodId × Array Value × List Frame × Method × Code
def zl : Nat → List (Option Value) → List (Nat × Value)
  | _, [] => []
  | k, none :: t => zl (k + 1) t
  | k, some v :: t => (k, v) :: zl (k + 1) t
def zok (g : zG) (M : zM) (E : zE) : Prop := match E with
  | (p, _, s, m, args, _, meth, c) => p.tables.exec = Jvm.exec ∧ c.code = M.1 ∧ c.maxLocals = M.2.2.1 ∧ s.vm.findClass M.2.1 = some m.cls ∧ (∀ w ∈ wsL_law, w.before args s = true) ∧ zS g s ∧ meth.locks = false ∧ meth.sig.returnType = M.2.2.2.1 ∧ meth.name = M.2.2.2.2.2
def zs (E : zE) : State := E.2.2.1
def X (g : zG) (M : zM) (E : zE) (Q : State → Prop) (kc ks pc : Nat) (lo : List (Option Value)) (st : List Value) (N : Nat) (I : zI) (L : zL) (R : zR) : Prop :=
  zok g M E → ∀ (ls : Array Slot) (H : Heap) (locs : List Loc), lv_has ls M.2.2.1 (zl 0 lo) → zP g N I L R H → va_S (fun q => g.2.1 ≤ q) (zs E).heap H locs →
    match E with
    | (p, e, s, m, args, below, meth, c) => W p g.1 e M.2.2.2.2.1 s m args below meth c H locs kc ks Q (F0 m pc ls st)
theorem zl_get {lo : List (Option Value)} {i : Nat} {v : Value} : ∀ {k : Nat}, lo[i]? = some (some v) → (k + i, v) ∈ zl k lo := by
  induction lo generalizing i with
  | nil => intro k h; simp at h
  | cons a t ih =>
    intro k h
    cases i with
    | zero =>
      rw [List.getElem?_cons_zero] at h
      cases h
      exact List.mem_cons_self
    | succ i =>
      rw [List.getElem?_cons_succ] at h
      have h2 := ih (k := k + 1) h
      have e : k + 1 + i = k + (i + 1) := by omega
      rw [e] at h2
      cases a with
      | none => exact h2
      | some w => exact List.mem_cons_of_mem _ h2
theorem zl_mem {lo : List (Option Value)} {q : Nat × Value} : ∀ {k : Nat}, q ∈ zl k lo → ∃ i, q.1 = k + i ∧ lo[i]? = some (some q.2) := by
  induction lo with
  | nil => intro k h; cases h
  | cons a t ih =>
    intro k h
    cases a with
    | none =>
      obtain ⟨i, h1, h2⟩ := ih (k := k + 1) h
      exact ⟨i + 1, by omega, by rw [List.getElem?_cons_succ]; exact h2⟩
    | some w =>
      rcases List.mem_cons.mp h with rfl | h
      · exact ⟨0, rfl, rfl⟩
      · obtain ⟨i, h1, h2⟩ := ih (k := k + 1) h
        exact ⟨i + 1, by omega, by rw [List.getElem?_cons_succ]; exact h2⟩
theorem zl_at {ls : Array Slot} {n i : Nat} {lo : List (Option Value)} {v : Value} (h : lv_has ls n (zl 0 lo)) (hi : lo[i]? = some (some v)) : ls[i]? = some (.val v) := by
  have h2 := h.2.2 _ (zl_get (k := 0) hi)
  rwa [show (0 + i, v).1 = i by simp] at h2
/-- no long stands just ahead of place i -/
def zfree (lo : List (Option Value)) : Nat → Bool
  | 0 => true
  | i + 1 => match lo[i]? with
    | some (some (.long _)) => false
    | some (some (.double _)) => false
    | _ => true
theorem zfree_of {lo : List (Option Value)} {i j : Nat} {v : Value} (h : zfree lo i = true) (hj : lo[j]? = some (some v)) (e : j + 1 = i) : ¬ v.category = 2 := by
  subst e
  simp only [zfree, hj] at h
  cases v <;> simp_all [Value.category]
theorem zl_put {ls : Array Slot} {n i : Nat} {lo : List (Option Value)} {v : Value} (hf : zfree lo i = true) (h : lv_has ls n ((i, v) :: (zl 0 lo).filter (fun q => !(q.1 == i) && !(q.1 + 1 == i && q.2.category == 2)))) : lv_has ls n (zl 0 (lo.set i (some v))) := by
  refine ⟨h.1, h.2.1, fun q hq => h.2.2 q ?_⟩
  obtain ⟨j, h1, h2⟩ := zl_mem hq
  have h1 : q.1 = j := by omega
  by_cases hj : j = i
  · subst hj
    by_cases hl : j < lo.length
    · rw [List.getElem?_set_self hl] at h2
      have e : q = (j, v) := by rw [← h1]; cases q; simp at h2; simp [h2]
      rw [e]; exact List.mem_cons_self
    · rw [List.getElem?_eq_none (by simp; omega)] at h2
      cases h2
  · rw [List.getElem?_set_ne (Ne.symm hj)] at h2
    refine List.mem_cons_of_mem _ (List.mem_filter.mpr ⟨?_, ?_⟩)
    · have h3 := zl_get (k := 0) h2
      rw [Nat.zero_add, ← h1] at h3
      exact h3
    · simp only [Bool.and_eq_true, Bool.not_eq_true', beq_eq_false_iff_ne, ne_eq, Bool.and_eq_false_iff]
      refine ⟨by rw [h1]; exact hj, ?_⟩
      by_cases e : j + 1 = i
      · exact Or.inr (zfree_of hf h2 e)
      · exact Or.inl (by rw [h1]; exact e)
theorem zl_put2 {ls : Array Slot} {n i : Nat} {lo : List (Option Value)} {v : Value} (hf : zfree lo i = true) (h : lv_has ls n ((i, v) :: (zl 0 lo).filter (fun q => !(q.1 == i) && (!(q.1 == i + 1) && !(q.1 + 1 == i && q.2.category == 2))))) : lv_has ls n (zl 0 ((lo.set (i + 1) none).set i (some v))) := by
  refine ⟨h.1, h.2.1, fun q hq => h.2.2 q ?_⟩
  obtain ⟨j, h1, h2⟩ := zl_mem hq
  have h1 : q.1 = j := by omega
  by_cases hj : j = i
  · subst hj
    by_cases hl : j < (lo.set (j + 1) none).length
    · rw [List.getElem?_set_self hl] at h2
      have e : q = (j, v) := by rw [← h1]; cases q; simp at h2; simp [h2]
      rw [e]; exact List.mem_cons_self
    · rw [List.getElem?_eq_none (by simp at hl ⊢; omega)] at h2
      cases h2
  · rw [List.getElem?_set_ne (Ne.symm hj)] at h2
    by_cases hj2 : j = i + 1
    · subst hj2
      by_cases hl : i + 1 < lo.length
      · rw [List.getElem?_set_self hl] at h2
        cases h2
      · rw [List.getElem?_eq_none (by simp; omega)] at h2
        cases h2
    · rw [List.getElem?_set_ne (Ne.symm hj2)] at h2
      refine List.mem_cons_of_mem _ (List.mem_filter.mpr ⟨?_, ?_⟩)
      · have h3 := zl_get (k := 0) h2
        rw [Nat.zero_add, ← h1] at h3
        exact h3
      · simp only [Bool.and_eq_true, Bool.not_eq_true', beq_eq_false_iff_ne, ne_eq, Bool.and_eq_false_iff]
        refine ⟨by rw [h1]; exact hj, by rw [h1]; exact hj2, ?_⟩
        by_cases e : j + 1 = i
        · exact Or.inr (zfree_of hf h2 e)
        · exact Or.inl (by rw [h1]; exact e)
theorem zl_lt {ls : Array Slot} {n i : Nat} {lo : List (Option Value)} {v : Value} (h : lv_has ls n (zl 0 lo)) (hi : lo[i]? = some (some v)) : i < n := by
  have h1 := zl_at h hi
  have h2 := lv_lt h1
  have h3 := h.1
  omega
section ZROWS
variable {g : zG} {M : zM} {E : zE} {Q : State → Prop} {kc ks pc : Nat} {lo : List (Option Value)} {rest : List Value} {N : Nat} {I : zI} {L : zL} {R : zR}
theorem x_iconst {n : Int} {v : Int32} (hd : decode M.1 pc = .ok (.iconst n, 1)) (hv : Int32.ofInt n = v) (k : X g M E Q kc ks (pc + 1) lo (.int v :: rest) N I L R) : X g M E Q kc ks pc lo rest N I L R := by
  obtain ⟨p, e, s, m, args, below, meth, c⟩ := E
  intro hx ls H locs hl hP hS
  obtain ⟨hexec, hb, hml, hown, hts, hG, hlk, hrt, hnm⟩ := id hx
  exact lv_iconst hexec hb hd hv (k hx ls H locs hl hP hS)
theorem x_bipush {n : Int} {v : Int32} (hd : decode M.1 pc = .ok (.bipush n, 2)) (hv : (Int8.ofInt n).toInt32 = v) (k : X g M E Q kc ks (pc + 2) lo (.int v :: rest) N I L R) : X g M E Q kc ks pc lo rest N I L R := by
  obtain ⟨p, e, s, m, args, below, meth, c⟩ := E
  intro hx ls H locs hl hP hS
  obtain ⟨hexec, hb, hml, hown, hts, hG, hlk, hrt, hnm⟩ := id hx
  exact lv_bipush hexec hb hd hv (k hx ls H locs hl hP hS)
theorem x_sipush {n : Int} {v : Int32} (hd : decode M.1 pc = .ok (.sipush n, 3)) (hv : (Int16.ofInt n).toInt32 = v) (k : X g M E Q kc ks (pc + 3) lo (.int v :: rest) N I L R) : X g M E Q kc ks pc lo rest N I L R := by
  obtain ⟨p, e, s, m, args, below, meth, c⟩ := E
  intro hx ls H locs hl hP hS
  obtain ⟨hexec, hb, hml, hown, hts, hG, hlk, hrt, hnm⟩ := id hx
  exact lv_sipush hexec hb hd hv (k hx ls H locs hl hP hS)
theorem x_lconst {n : Fin 2} {v : Int64} (hd : decode M.1 pc = .ok (.lconst n, 1)) (hv : Int64.ofNat (n : Nat) = v) (k : X g M E Q kc ks (pc + 1) lo (.long v :: rest) N I L R) : X g M E Q kc ks pc lo rest N I L R := by
  obtain ⟨p, e, s, m, args, below, meth, c⟩ := E
  intro hx ls H locs hl hP hS
  obtain ⟨hexec, hb, hml, hown, hts, hG, hlk, hrt, hnm⟩ := id hx
  exact lv_lconst hexec hb hd hv (k hx ls H locs hl hP hS)
theorem x_ldc {i : Nat} {v : Int32} (hd : decode M.1 pc = .ok (.ldc i, 2)) (hv : Cond.constant M.2.1 i v ∈ wsL_law) (k : X g M E Q kc ks (pc + 2) lo (.int v :: rest) N I L R) : X g M E Q kc ks pc lo rest N I L R := by
  obtain ⟨p, e, s, m, args, below, meth, c⟩ := E
  intro hx ls H locs hl hP hS
  obtain ⟨hexec, hb, hml, hown, hts, hG, hlk, hrt, hnm⟩ := id hx
  exact lv_ldc hexec hb hown (hts _ hv) hd (k hx ls H locs hl hP hS)
theorem x_ldcw {i : Nat} {v : Int32} (hd : decode M.1 pc = .ok (.ldc_w i, 3)) (hv : Cond.constant M.2.1 i v ∈ wsL_law) (k : X g M E Q kc ks (pc + 3) lo (.int v :: rest) N I L R) : X g M E Q kc ks pc lo rest N I L R := by
  obtain ⟨p, e, s, m, args, below, meth, c⟩ := E
  intro hx ls H locs hl hP hS
  obtain ⟨hexec, hb, hml, hown, hts, hG, hlk, hrt, hnm⟩ := id hx
  exact lv_ldcw hexec hb hown (hts _ hv) hd (k hx ls H locs hl hP hS)
theorem x_ldc2 {i : Nat} {v : Int64} (hd : decode M.1 pc = .ok (.ldc2_w i, 3)) (hv : Cond.constantLong M.2.1 i v ∈ wsL_law) (k : X g M E Q kc ks (pc + 3) lo (.long v :: rest) N I L R) : X g M E Q kc ks pc lo rest N I L R := by
  obtain ⟨p, e, s, m, args, below, meth, c⟩ := E
  intro hx ls H locs hl hP hS
  obtain ⟨hexec, hb, hml, hown, hts, hG, hlk, hrt, hnm⟩ := id hx
  exact lv_ldc2 hexec hb hown (hts _ hv) hd (k hx ls H locs hl hP hS)
theorem x_iload {i : Nat} {x : Int32} (hd : decode M.1 pc = .ok (.iload i, 2)) (hv : lo[i]? = some (some (.int x))) (k : X g M E Q kc ks (pc + 2) lo (.int x :: rest) N I L R) : X g M E Q kc ks pc lo rest N I L R := by
  obtain ⟨p, e, s, m, args, below, meth, c⟩ := E
  intro hx ls H locs hl hP hS
  obtain ⟨hexec, hb, hml, hown, hts, hG, hlk, hrt, hnm⟩ := id hx
  exact lv_iload hexec hb hd (zl_at hl hv) (k hx ls H locs hl hP hS)
theorem x_iload_n {n : Fin 4} {x : Int32} (hd : decode M.1 pc = .ok (.iload_n n, 1)) (hv : lo[(n : Nat)]? = some (some (.int x))) (k : X g M E Q kc ks (pc + 1) lo (.int x :: rest) N I L R) : X g M E Q kc ks pc lo rest N I L R := by
  obtain ⟨p, e, s, m, args, below, meth, c⟩ := E
  intro hx ls H locs hl hP hS
  obtain ⟨hexec, hb, hml, hown, hts, hG, hlk, hrt, hnm⟩ := id hx
  exact lv_iload_n hexec hb hd rfl (zl_at hl hv) (k hx ls H locs hl hP hS)
theorem x_lload {i : Nat} {x : Int64} (hd : decode M.1 pc = .ok (.lload i, 2)) (hv : lo[i]? = some (some (.long x))) (k : X g M E Q kc ks (pc + 2) lo (.long x :: rest) N I L R) : X g M E Q kc ks pc lo rest N I L R := by
  obtain ⟨p, e, s, m, args, below, meth, c⟩ := E
  intro hx ls H locs hl hP hS
  obtain ⟨hexec, hb, hml, hown, hts, hG, hlk, hrt, hnm⟩ := id hx
  exact lv_lload hexec hb hd (zl_at hl hv) (k hx ls H locs hl hP hS)
theorem x_lload_n {n : Fin 4} {x : Int64} (hd : decode M.1 pc = .ok (.lload_n n, 1)) (hv : lo[(n : Nat)]? = some (some (.long x))) (k : X g M E Q kc ks (pc + 1) lo (.long x :: rest) N I L R) : X g M E Q kc ks pc lo rest N I L R := by
  obtain ⟨p, e, s, m, args, below, meth, c⟩ := E
  intro hx ls H locs hl hP hS
  obtain ⟨hexec, hb, hml, hown, hts, hG, hlk, hrt, hnm⟩ := id hx
  exact lv_lload_n hexec hb hd rfl (zl_at hl hv) (k hx ls H locs hl hP hS)
theorem x_aload_n {n : Fin 4} {x : Nat} (hd : decode M.1 pc = .ok (.aload_n n, 1)) (hv : lo[(n : Nat)]? = some (some (.ref x))) (k : X g M E Q kc ks (pc + 1) lo (.ref x :: rest) N I L R) : X g M E Q kc ks pc lo rest N I L R := by
  obtain ⟨p, e, s, m, args, below, meth, c⟩ := E
  intro hx ls H locs hl hP hS
  obtain ⟨hexec, hb, hml, hown, hts, hG, hlk, hrt, hnm⟩ := id hx
  exact lv_aload_n hexec hb hd rfl (zl_at hl hv) (k hx ls H locs hl hP hS)
theorem x_istore {i : Nat} {x : Int32} {lo2 : List (Option Value)} (hd : decode M.1 pc = .ok (.istore i, 2)) (hi : i < M.2.2.1) (hf : zfree lo i = true) (hl2 : lo.set i (some (.int x)) = lo2) (k : X g M E Q kc ks (pc + 2) lo2 rest N I L R) : X g M E Q kc ks pc lo (.int x :: rest) N I L R := by
  obtain ⟨p, e, s, m, args, below, meth, c⟩ := E
  intro hx ls H locs hl hP hS
  obtain ⟨hexec, hb, hml, hown, hts, hG, hlk, hrt, hnm⟩ := id hx
  exact lv_istore hexec hb hd hl hi rfl (fun ls2 h2 => k hx ls2 H locs (hl2 ▸ zl_put hf h2) hP hS)
theorem x_istore_n {n : Fin 4} {x : Int32} {lo2 : List (Option Value)} (hd : decode M.1 pc = .ok (.istore_n n, 1)) (hi : (n : Nat) < M.2.2.1) (hf : zfree lo n = true) (hl2 : lo.set n (some (.int x)) = lo2) (k : X g M E Q kc ks (pc + 1) lo2 rest N I L R) : X g M E Q kc ks pc lo (.int x :: rest) N I L R := by
  obtain ⟨p, e, s, m, args, below, meth, c⟩ := E
  intro hx ls H locs hl hP hS
  obtain ⟨hexec, hb, hml, hown, hts, hG, hlk, hrt, hnm⟩ := id hx
  exact lv_istore_n hexec hb hd rfl hl hi rfl (fun ls2 h2 => k hx ls2 H locs (hl2 ▸ zl_put hf h2) hP hS)
theorem x_astore_n {n : Fin 4} {x : Nat} {lo2 : List (Option Value)} (hd : decode M.1 pc = .ok (.astore_n n, 1)) (hi : (n : Nat) < M.2.2.1) (hf : zfree lo n = true) (hl2 : lo.set n (some (.ref x)) = lo2) (k : X g M E Q kc ks (pc + 1) lo2 rest N I L R) : X g M E Q kc ks pc lo (.ref x :: rest) N I L R := by
  obtain ⟨p, e, s, m, args, below, meth, c⟩ := E
  intro hx ls H locs hl hP hS
  obtain ⟨hexec, hb, hml, hown, hts, hG, hlk, hrt, hnm⟩ := id hx
  exact lv_astore_n hexec hb hd rfl hl hi rfl (fun ls2 h2 => k hx ls2 H locs (hl2 ▸ zl_put hf h2) hP hS)
theorem x_lstore {i : Nat} {x : Int64} {lo2 : List (Option Value)} (hd : decode M.1 pc = .ok (.lstore i, 2)) (hi : i + 1 < M.2.2.1) (hf : zfree lo i = true) (hl2 : (lo.set (i + 1) none).set i (some (.long x)) = lo2) (k : X g M E Q kc ks (pc + 2) lo2 rest N I L R) : X g M E Q kc ks pc lo (.long x :: rest) N I L R := by
  obtain ⟨p, e, s, m, args, below, meth, c⟩ := E
  intro hx ls H locs hl hP hS
  obtain ⟨hexec, hb, hml, hown, hts, hG, hlk, hrt, hnm⟩ := id hx
  exact lv_lstore hexec hb hd hl hi rfl (fun ls2 h2 => k hx ls2 H locs (hl2 ▸ zl_put2 hf h2) hP hS)
theorem x_lstore_n {n : Fin 4} {x : Int64} {lo2 : List (Option Value)} (hd : decode M.1 pc = .ok (.lstore_n n, 1)) (hi : (n : Nat) + 1 < M.2.2.1) (hf : zfree lo n = true) (hl2 : (lo.set ((n : Nat) + 1) none).set n (some (.long x)) = lo2) (k : X g M E Q kc ks (pc + 1) lo2 rest N I L R) : X g M E Q kc ks pc lo (.long x :: rest) N I L R := by
  obtain ⟨p, e, s, m, args, below, meth, c⟩ := E
  intro hx ls H locs hl hP hS
  obtain ⟨hexec, hb, hml, hown, hts, hG, hlk, hrt, hnm⟩ := id hx
  exact lv_lstore_n hexec hb hd rfl hl hi rfl (fun ls2 h2 => k hx ls2 H locs (hl2 ▸ zl_put2 hf h2) hP hS)
theorem x_iinc {i : Nat} {n : Int} {x v : Int32} {lo2 : List (Option Value)} (hd : decode M.1 pc = .ok (.iinc i n, 3)) (hv : lo[i]? = some (some (.int x))) (hn : x + Int32.ofInt n = v) (hf : zfree lo i = true) (hl2 : lo.set i (some (.int v)) = lo2) (k : X g M E Q kc ks (pc + 3) lo2 rest N I L R) : X g M E Q kc ks pc lo rest N I L R := by
  obtain ⟨p, e, s, m, args, below, meth, c⟩ := E
  intro hx ls H locs hl hP hS
  obtain ⟨hexec, hb, hml, hown, hts, hG, hlk, hrt, hnm⟩ := id hx
  have hm := zl_get (k := 0) hv
  rw [Nat.zero_add] at hm
  obtain ⟨j, hj⟩ := List.getElem?_of_mem hm
  exact lv_iinc hexec hb hd hl hj hn (zl_lt hl hv) rfl (fun ls2 h2 => k hx ls2 H locs (hl2 ▸ zl_put hf h2) hP hS)
theorem x_iadd {x y : Int32} (hd : decode M.1 pc = .ok (.iadd, 1)) (k : X g M E Q kc ks (pc + 1) lo (.int (x + y) :: rest) N I L R) : X g M E Q kc ks pc lo (.int y :: .int x :: rest) N I L R := by
  obtain ⟨p, e, s, m, args, below, meth, c⟩ := E
  intro hx ls H locs hl hP hS
  obtain ⟨hexec, hb, hml, hown, hts, hG, hlk, hrt, hnm⟩ := id hx
  exact lv_iadd hexec hb hd (k hx ls H locs hl hP hS)
theorem x_isub {x y : Int32} (hd : decode M.1 pc = .ok (.isub, 1)) (k : X g M E Q kc ks (pc + 1) lo (.int (x - y) :: rest) N I L R) : X g M E Q kc ks pc lo (.int y :: .int x :: rest) N I L R := by
  obtain ⟨p, e, s, m, args, below, meth, c⟩ := E
  intro hx ls H locs hl hP hS
  obtain ⟨hexec, hb, hml, hown, hts, hG, hlk, hrt, hnm⟩ := id hx
  exact lv_isub hexec hb hd (k hx ls H locs hl hP hS)
theorem x_imul {x y : Int32} (hd : decode M.1 pc = .ok (.imul, 1)) (k : X g M E Q kc ks (pc + 1) lo (.int (x * y) :: rest) N I L R) : X g M E Q kc ks pc lo (.int y :: .int x :: rest) N I L R := by
  obtain ⟨p, e, s, m, args, below, meth, c⟩ := E
  intro hx ls H locs hl hP hS
  obtain ⟨hexec, hb, hml, hown, hts, hG, hlk, hrt, hnm⟩ := id hx
  exact lv_imul hexec hb hd (k hx ls H locs hl hP hS)
theorem x_iand {x y : Int32} (hd : decode M.1 pc = .ok (.iand, 1)) (k : X g M E Q kc ks (pc + 1) lo (.int (x &&& y) :: rest) N I L R) : X g M E Q kc ks pc lo (.int y :: .int x :: rest) N I L R := by
  obtain ⟨p, e, s, m, args, below, meth, c⟩ := E
  intro hx ls H locs hl hP hS
  obtain ⟨hexec, hb, hml, hown, hts, hG, hlk, hrt, hnm⟩ := id hx
  exact lv_iand hexec hb hd (k hx ls H locs hl hP hS)
theorem x_ior {x y : Int32} (hd : decode M.1 pc = .ok (.ior, 1)) (k : X g M E Q kc ks (pc + 1) lo (.int (x ||| y) :: rest) N I L R) : X g M E Q kc ks pc lo (.int y :: .int x :: rest) N I L R := by
  obtain ⟨p, e, s, m, args, below, meth, c⟩ := E
  intro hx ls H locs hl hP hS
  obtain ⟨hexec, hb, hml, hown, hts, hG, hlk, hrt, hnm⟩ := id hx
  exact lv_ior hexec hb hd (k hx ls H locs hl hP hS)
theorem x_ixor {x y : Int32} (hd : decode M.1 pc = .ok (.ixor, 1)) (k : X g M E Q kc ks (pc + 1) lo (.int (x ^^^ y) :: rest) N I L R) : X g M E Q kc ks pc lo (.int y :: .int x :: rest) N I L R := by
  obtain ⟨p, e, s, m, args, below, meth, c⟩ := E
  intro hx ls H locs hl hP hS
  obtain ⟨hexec, hb, hml, hown, hts, hG, hlk, hrt, hnm⟩ := id hx
  exact lv_ixor hexec hb hd (k hx ls H locs hl hP hS)
theorem x_ishl {x y : Int32} (hd : decode M.1 pc = .ok (.ishl, 1)) (k : X g M E Q kc ks (pc + 1) lo (.int (x <<< (y &&& 31)) :: rest) N I L R) : X g M E Q kc ks pc lo (.int y :: .int x :: rest) N I L R := by
  obtain ⟨p, e, s, m, args, below, meth, c⟩ := E
  intro hx ls H locs hl hP hS
  obtain ⟨hexec, hb, hml, hown, hts, hG, hlk, hrt, hnm⟩ := id hx
  exact lv_ishl hexec hb hd (k hx ls H locs hl hP hS)
theorem x_ishr {x y : Int32} (hd : decode M.1 pc = .ok (.ishr, 1)) (k : X g M E Q kc ks (pc + 1) lo (.int (x >>> (y &&& 31)) :: rest) N I L R) : X g M E Q kc ks pc lo (.int y :: .int x :: rest) N I L R := by
  obtain ⟨p, e, s, m, args, below, meth, c⟩ := E
  intro hx ls H locs hl hP hS
  obtain ⟨hexec, hb, hml, hown, hts, hG, hlk, hrt, hnm⟩ := id hx
  exact lv_ishr hexec hb hd (k hx ls H locs hl hP hS)
theorem x_iushr {x y : Int32} (hd : decode M.1 pc = .ok (.iushr, 1)) (k : X g M E Q kc ks (pc + 1) lo (.int ((x.toUInt32 >>> (y.toUInt32 &&& Int32.toUInt32 31)).toInt32) :: rest) N I L R) : X g M E Q kc ks pc lo (.int y :: .int x :: rest) N I L R := by
  obtain ⟨p, e, s, m, args, below, meth, c⟩ := E
  intro hx ls H locs hl hP hS
  obtain ⟨hexec, hb, hml, hown, hts, hG, hlk, hrt, hnm⟩ := id hx
  exact lv_iushr hexec hb hd rfl (k hx ls H locs hl hP hS)
theorem x_idiv {x y : Int32} (hd : decode M.1 pc = .ok (.idiv, 1)) (hne : ¬ y = 0) (k : X g M E Q kc ks (pc + 1) lo (.int (x / y) :: rest) N I L R) : X g M E Q kc ks pc lo (.int y :: .int x :: rest) N I L R := by
  obtain ⟨p, e, s, m, args, below, meth, c⟩ := E
  intro hx ls H locs hl hP hS
  obtain ⟨hexec, hb, hml, hown, hts, hG, hlk, hrt, hnm⟩ := id hx
  exact lv_idiv hexec hb hd hne (k hx ls H locs hl hP hS)
theorem x_irem {x y : Int32} (hd : decode M.1 pc = .ok (.irem, 1)) (hne : ¬ y = 0) (k : X g M E Q kc ks (pc + 1) lo (.int (x - x / y * y) :: rest) N I L R) : X g M E Q kc ks pc lo (.int y :: .int x :: rest) N I L R := by
  obtain ⟨p, e, s, m, args, below, meth, c⟩ := E
  intro hx ls H locs hl hP hS
  obtain ⟨hexec, hb, hml, hown, hts, hG, hlk, hrt, hnm⟩ := id hx
  exact lv_irem hexec hb hd hne (k hx ls H locs hl hP hS)
theorem x_ladd {x y : Int64} (hd : decode M.1 pc = .ok (.ladd, 1)) (k : X g M E Q kc ks (pc + 1) lo (.long (x + y) :: rest) N I L R) : X g M E Q kc ks pc lo (.long y :: .long x :: rest) N I L R := by
  obtain ⟨p, e, s, m, args, below, meth, c⟩ := E
  intro hx ls H locs hl hP hS
  obtain ⟨hexec, hb, hml, hown, hts, hG, hlk, hrt, hnm⟩ := id hx
  exact lv_ladd hexec hb hd (k hx ls H locs hl hP hS)
theorem x_lmul {x y : Int64} (hd : decode M.1 pc = .ok (.lmul, 1)) (k : X g M E Q kc ks (pc + 1) lo (.long (x * y) :: rest) N I L R) : X g M E Q kc ks pc lo (.long y :: .long x :: rest) N I L R := by
  obtain ⟨p, e, s, m, args, below, meth, c⟩ := E
  intro hx ls H locs hl hP hS
  obtain ⟨hexec, hb, hml, hown, hts, hG, hlk, hrt, hnm⟩ := id hx
  exact lv_lmul hexec hb hd (k hx ls H locs hl hP hS)
theorem x_ldiv {x y : Int64} (hd : decode M.1 pc = .ok (.ldiv, 1)) (hne : ¬ y = 0) (k : X g M E Q kc ks (pc + 1) lo (.long (x / y) :: rest) N I L R) : X g M E Q kc ks pc lo (.long y :: .long x :: rest) N I L R := by
  obtain ⟨p, e, s, m, args, below, meth, c⟩ := E
  intro hx ls H locs hl hP hS
  obtain ⟨hexec, hb, hml, hown, hts, hG, hlk, hrt, hnm⟩ := id hx
  exact lv_ldiv hexec hb hd hne (k hx ls H locs hl hP hS)
theorem x_lrem {x y : Int64} (hd : decode M.1 pc = .ok (.lrem, 1)) (hne : ¬ y = 0) (k : X g M E Q kc ks (pc + 1) lo (.long (x - x / y * y) :: rest) N I L R) : X g M E Q kc ks pc lo (.long y :: .long x :: rest) N I L R := by
  obtain ⟨p, e, s, m, args, below, meth, c⟩ := E
  intro hx ls H locs hl hP hS
  obtain ⟨hexec, hb, hml, hown, hts, hG, hlk, hrt, hnm⟩ := id hx
  exact lv_lrem hexec hb hd hne (k hx ls H locs hl hP hS)
theorem x_lcmp {x y : Int64} (hd : decode M.1 pc = .ok (.lcmp, 1)) (k : X g M E Q kc ks (pc + 1) lo (.int (lg_cmp x y) :: rest) N I L R) : X g M E Q kc ks pc lo (.long y :: .long x :: rest) N I L R := by
  obtain ⟨p, e, s, m, args, below, meth, c⟩ := E
  intro hx ls H locs hl hP hS
  obtain ⟨hexec, hb, hml, hown, hts, hG, hlk, hrt, hnm⟩ := id hx
  exact W.lcmp hexec hb hd (k hx ls H locs hl hP hS)
theorem x_i2l {x : Int32} (hd : decode M.1 pc = .ok (.i2l, 1)) (k : X g M E Q kc ks (pc + 1) lo (.long x.toInt64 :: rest) N I L R) : X g M E Q kc ks pc lo (.int x :: rest) N I L R := by
  obtain ⟨p, e, s, m, args, below, meth, c⟩ := E
  intro hx ls H locs hl hP hS
  obtain ⟨hexec, hb, hml, hown, hts, hG, hlk, hrt, hnm⟩ := id hx
  exact lv_i2l hexec hb hd rfl (k hx ls H locs hl hP hS)
theorem x_dup {v : Value} (hd : decode M.1 pc = .ok (.dup, 1)) (hv : v.category = 1) (k : X g M E Q kc ks (pc + 1) lo (v :: v :: rest) N I L R) : X g M E Q kc ks pc lo (v :: rest) N I L R := by
  obtain ⟨p, e, s, m, args, below, meth, c⟩ := E
  intro hx ls H locs hl hP hS
  obtain ⟨hexec, hb, hml, hown, hts, hG, hlk, hrt, hnm⟩ := id hx
  exact lv_dup hexec hb hd hv (k hx ls H locs hl hP hS)
theorem x_pop {v : Value} (hd : decode M.1 pc = .ok (.pop, 1)) (hv : v.category = 1) (k : X g M E Q kc ks (pc + 1) lo rest N I L R) : X g M E Q kc ks pc lo (v :: rest) N I L R := by
  obtain ⟨p, e, s, m, args, below, meth, c⟩ := E
  intro hx ls H locs hl hP hS
  obtain ⟨hexec, hb, hml, hown, hts, hG, hlk, hrt, hnm⟩ := id hx
  exact lv_pop hexec hb hd hv (k hx ls H locs hl hP hS)
theorem x_dup2 {v w : Value} (hd : decode M.1 pc = .ok (.dup2, 1)) (hv : v.category = 1) (hw : w.category = 1) (k : X g M E Q kc ks (pc + 1) lo (v :: w :: v :: w :: rest) N I L R) : X g M E Q kc ks pc lo (v :: w :: rest) N I L R := by
  obtain ⟨p, e, s, m, args, below, meth, c⟩ := E
  intro hx ls H locs hl hP hS
  obtain ⟨hexec, hb, hml, hown, hts, hG, hlk, hrt, hnm⟩ := id hx
  exact lv_dup2_11 hexec hb hd hv hw (k hx ls H locs hl hP hS)
theorem x_goto {off : Int} {tgt : Nat} (hd : decode M.1 pc = .ok (.goto off, 3)) (ht : (pc : Int) + off = (tgt : Int)) (k : X g M E Q kc ks tgt lo rest N I L R) : X g M E Q kc ks pc lo rest N I L R := by
  obtain ⟨p, e, s, m, args, below, meth, c⟩ := E
  intro hx ls H locs hl hP hS
  obtain ⟨hexec, hb, hml, hown, hts, hG, hlk, hrt, hnm⟩ := id hx
  exact lv_goto hexec hb hd ht (k hx ls H locs hl hP hS)
theorem x_ifnonnull {off : Int} {tgt a : Nat} (hd : decode M.1 pc = .ok (.ifnonnull off, 3)) (ht : (pc : Int) + off = (tgt : Int)) (k : X g M E Q kc ks tgt lo rest N I L R) : X g M E Q kc ks pc lo (.ref a :: rest) N I L R := by
  obtain ⟨p, e, s, m, args, below, meth, c⟩ := E
  intro hx ls H locs hl hP hS
  obtain ⟨hexec, hb, hml, hown, hts, hG, hlk, hrt, hnm⟩ := id hx
  exact lv_ifnonnull hexec hb hd ht (k hx ls H locs hl hP hS)
theorem x_ifnonnullN {off : Int} (hd : decode M.1 pc = .ok (.ifnonnull off, 3)) (k : X g M E Q kc ks (pc + 3) lo rest N I L R) : X g M E Q kc ks pc lo (.null :: rest) N I L R := by
  obtain ⟨p, e, s, m, args, below, meth, c⟩ := E
  intro hx ls H locs hl hP hS
  obtain ⟨hexec, hb, hml, hown, hts, hG, hlk, hrt, hnm⟩ := id hx
  exact lv_ifnonnullN hexec hb hd (k hx ls H locs hl hP hS)
theorem x_if_eq {x : Int32} {off : Int} {tgt : Nat} (hd : decode M.1 pc = .ok (.ifCond .eq off, 3)) (ht : (pc : Int) + off = (tgt : Int)) (kt : x = 0 → X g M E Q kc ks tgt lo rest N I L R) (kf : ¬ x = 0 → X g M E Q kc ks (pc + 3) lo rest N I L R) : X g M E Q kc ks pc lo (.int x :: rest) N I L R := by
  obtain ⟨p, e, s, m, args, below, meth, c⟩ := E
  intro hx ls H locs hl hP hS
  obtain ⟨hexec, hb, hml, hown, hts, hG, hlk, hrt, hnm⟩ := id hx
  exact lv_if_eq hexec hb hd ht (fun h => kt h hx ls H locs hl hP hS) (fun h => kf h hx ls H locs hl hP hS)
theorem x_icmp_eq {x y : Int32} {off : Int} {tgt : Nat} (hd : decode M.1 pc = .ok (.if_icmp .eq off, 3)) (ht : (pc : Int) + off = (tgt : Int)) (kt : x = y → X g M E Q kc ks tgt lo rest N I L R) (kf : ¬ x = y → X g M E Q kc ks (pc + 3) lo rest N I L R) : X g M E Q kc ks pc lo (.int y :: .int x :: rest) N I L R := by
  obtain ⟨p, e, s, m, args, below, meth, c⟩ := E
  intro hx ls H locs hl hP hS
  obtain ⟨hexec, hb, hml, hown, hts, hG, hlk, hrt, hnm⟩ := id hx
  exact lv_icmp_eq hexec hb hd ht (fun h => kt h hx ls H locs hl hP hS) (fun h => kf h hx ls H locs hl hP hS)
theorem x_if_ne {x : Int32} {off : Int} {tgt : Nat} (hd : decode M.1 pc = .ok (.ifCond .ne off, 3)) (ht : (pc : Int) + off = (tgt : Int)) (kt : ¬ x = 0 → X g M E Q kc ks tgt lo rest N I L R) (kf : x = 0 → X g M E Q kc ks (pc + 3) lo rest N I L R) : X g M E Q kc ks pc lo (.int x :: rest) N I L R := by
  obtain ⟨p, e, s, m, args, below, meth, c⟩ := E
  intro hx ls H locs hl hP hS
  obtain ⟨hexec, hb, hml, hown, hts, hG, hlk, hrt, hnm⟩ := id hx
  exact lv_if_ne hexec hb hd ht (fun h => kt h hx ls H locs hl hP hS) (fun h => kf h hx ls H locs hl hP hS)
theorem x_icmp_ne {x y : Int32} {off : Int} {tgt : Nat} (hd : decode M.1 pc = .ok (.if_icmp .ne off, 3)) (ht : (pc : Int) + off = (tgt : Int)) (kt : ¬ x = y → X g M E Q kc ks tgt lo rest N I L R) (kf : x = y → X g M E Q kc ks (pc + 3) lo rest N I L R) : X g M E Q kc ks pc lo (.int y :: .int x :: rest) N I L R := by
  obtain ⟨p, e, s, m, args, below, meth, c⟩ := E
  intro hx ls H locs hl hP hS
  obtain ⟨hexec, hb, hml, hown, hts, hG, hlk, hrt, hnm⟩ := id hx
  exact lv_icmp_ne hexec hb hd ht (fun h => kt h hx ls H locs hl hP hS) (fun h => kf h hx ls H locs hl hP hS)
theorem x_if_lt {x : Int32} {off : Int} {tgt : Nat} (hd : decode M.1 pc = .ok (.ifCond .lt off, 3)) (ht : (pc : Int) + off = (tgt : Int)) (kt : x < 0 → X g M E Q kc ks tgt lo rest N I L R) (kf : ¬ x < 0 → X g M E Q kc ks (pc + 3) lo rest N I L R) : X g M E Q kc ks pc lo (.int x :: rest) N I L R := by
  obtain ⟨p, e, s, m, args, below, meth, c⟩ := E
  intro hx ls H locs hl hP hS
  obtain ⟨hexec, hb, hml, hown, hts, hG, hlk, hrt, hnm⟩ := id hx
  exact lv_if_lt hexec hb hd ht (fun h => kt h hx ls H locs hl hP hS) (fun h => kf h hx ls H locs hl hP hS)
theorem x_icmp_lt {x y : Int32} {off : Int} {tgt : Nat} (hd : decode M.1 pc = .ok (.if_icmp .lt off, 3)) (ht : (pc : Int) + off = (tgt : Int)) (kt : x < y → X g M E Q kc ks tgt lo rest N I L R) (kf : ¬ x < y → X g M E Q kc ks (pc + 3) lo rest N I L R) : X g M E Q kc ks pc lo (.int y :: .int x :: rest) N I L R := by
  obtain ⟨p, e, s, m, args, below, meth, c⟩ := E
  intro hx ls H locs hl hP hS
  obtain ⟨hexec, hb, hml, hown, hts, hG, hlk, hrt, hnm⟩ := id hx
  exact lv_icmp_lt hexec hb hd ht (fun h => kt h hx ls H locs hl hP hS) (fun h => kf h hx ls H locs hl hP hS)
theorem x_if_ge {x : Int32} {off : Int} {tgt : Nat} (hd : decode M.1 pc = .ok (.ifCond .ge off, 3)) (ht : (pc : Int) + off = (tgt : Int)) (kt : 0 ≤ x → X g M E Q kc ks tgt lo rest N I L R) (kf : ¬ 0 ≤ x → X g M E Q kc ks (pc + 3) lo rest N I L R) : X g M E Q kc ks pc lo (.int x :: rest) N I L R := by
  obtain ⟨p, e, s, m, args, below, meth, c⟩ := E
  intro hx ls H locs hl hP hS
  obtain ⟨hexec, hb, hml, hown, hts, hG, hlk, hrt, hnm⟩ := id hx
  exact lv_if_ge hexec hb hd ht (fun h => kt h hx ls H locs hl hP hS) (fun h => kf h hx ls H locs hl hP hS)
theorem x_icmp_ge {x y : Int32} {off : Int} {tgt : Nat} (hd : decode M.1 pc = .ok (.if_icmp .ge off, 3)) (ht : (pc : Int) + off = (tgt : Int)) (kt : y ≤ x → X g M E Q kc ks tgt lo rest N I L R) (kf : ¬ y ≤ x → X g M E Q kc ks (pc + 3) lo rest N I L R) : X g M E Q kc ks pc lo (.int y :: .int x :: rest) N I L R := by
  obtain ⟨p, e, s, m, args, below, meth, c⟩ := E
  intro hx ls H locs hl hP hS
  obtain ⟨hexec, hb, hml, hown, hts, hG, hlk, hrt, hnm⟩ := id hx
  exact lv_icmp_ge hexec hb hd ht (fun h => kt h hx ls H locs hl hP hS) (fun h => kf h hx ls H locs hl hP hS)
theorem x_if_gt {x : Int32} {off : Int} {tgt : Nat} (hd : decode M.1 pc = .ok (.ifCond .gt off, 3)) (ht : (pc : Int) + off = (tgt : Int)) (kt : 0 < x → X g M E Q kc ks tgt lo rest N I L R) (kf : ¬ 0 < x → X g M E Q kc ks (pc + 3) lo rest N I L R) : X g M E Q kc ks pc lo (.int x :: rest) N I L R := by
  obtain ⟨p, e, s, m, args, below, meth, c⟩ := E
  intro hx ls H locs hl hP hS
  obtain ⟨hexec, hb, hml, hown, hts, hG, hlk, hrt, hnm⟩ := id hx
  exact lv_if_gt hexec hb hd ht (fun h => kt h hx ls H locs hl hP hS) (fun h => kf h hx ls H locs hl hP hS)
theorem x_icmp_gt {x y : Int32} {off : Int} {tgt : Nat} (hd : decode M.1 pc = .ok (.if_icmp .gt off, 3)) (ht : (pc : Int) + off = (tgt : Int)) (kt : y < x → X g M E Q kc ks tgt lo rest N I L R) (kf : ¬ y < x → X g M E Q kc ks (pc + 3) lo rest N I L R) : X g M E Q kc ks pc lo (.int y :: .int x :: rest) N I L R := by
  obtain ⟨p, e, s, m, args, below, meth, c⟩ := E
  intro hx ls H locs hl hP hS
  obtain ⟨hexec, hb, hml, hown, hts, hG, hlk, hrt, hnm⟩ := id hx
  exact lv_icmp_gt hexec hb hd ht (fun h => kt h hx ls H locs hl hP hS) (fun h => kf h hx ls H locs hl hP hS)
theorem x_if_le {x : Int32} {off : Int} {tgt : Nat} (hd : decode M.1 pc = .ok (.ifCond .le off, 3)) (ht : (pc : Int) + off = (tgt : Int)) (kt : x ≤ 0 → X g M E Q kc ks tgt lo rest N I L R) (kf : ¬ x ≤ 0 → X g M E Q kc ks (pc + 3) lo rest N I L R) : X g M E Q kc ks pc lo (.int x :: rest) N I L R := by
  obtain ⟨p, e, s, m, args, below, meth, c⟩ := E
  intro hx ls H locs hl hP hS
  obtain ⟨hexec, hb, hml, hown, hts, hG, hlk, hrt, hnm⟩ := id hx
  exact lv_if_le hexec hb hd ht (fun h => kt h hx ls H locs hl hP hS) (fun h => kf h hx ls H locs hl hP hS)
theorem x_icmp_le {x y : Int32} {off : Int} {tgt : Nat} (hd : decode M.1 pc = .ok (.if_icmp .le off, 3)) (ht : (pc : Int) + off = (tgt : Int)) (kt : x ≤ y → X g M E Q kc ks tgt lo rest N I L R) (kf : ¬ x ≤ y → X g M E Q kc ks (pc + 3) lo rest N I L R) : X g M E Q kc ks pc lo (.int y :: .int x :: rest) N I L R := by
  obtain ⟨p, e, s, m, args, below, meth, c⟩ := E
  intro hx ls H locs hl hP hS
  obtain ⟨hexec, hb, hml, hown, hts, hG, hlk, hrt, hnm⟩ := id hx
  exact lv_icmp_le hexec hb hd ht (fun h => kt h hx ls H locs hl hP hS) (fun h => kf h hx ls H locs hl hP hS)
theorem x_lookup {dflt : Int} {ps : Array (Int × Int)} {len : Nat} {x : Int32} {off : Int} {tgt : Nat} (hd : decode M.1 pc = .ok (.lookupswitch dflt ps, len)) (hp : (ps.toList.zip (ps.toList.drop 1)).all (fun (a, next) => a.1 < next.1) = true) (ho : Op.lookupswitch.offset ps.toList dflt x.toInt = off) (ht : (pc : Int) + off = (tgt : Int)) (k : X g M E Q kc ks tgt lo rest N I L R) : X g M E Q kc ks pc lo (.int x :: rest) N I L R := by
  obtain ⟨p, e, s, m, args, below, meth, c⟩ := E
  intro hx ls H locs hl hP hS
  obtain ⟨hexec, hb, hml, hown, hts, hG, hlk, hrt, hnm⟩ := id hx
  exact lv_lookup hexec hb hd hp ho ht (k hx ls H locs hl hP hS)
theorem x_tableOut {dflt lo1 hi : Int} {offs : Array Int} {len : Nat} {x : Int32} {tgt : Nat} (hd : decode M.1 pc = .ok (.tableswitch dflt lo1 hi offs, len)) (h : x.toInt < lo1 ∨ hi < x.toInt) (ht : (pc : Int) + dflt = (tgt : Int)) (k : X g M E Q kc ks tgt lo rest N I L R) : X g M E Q kc ks pc lo (.int x :: rest) N I L R := by
  obtain ⟨p, e, s, m, args, below, meth, c⟩ := E
  intro hx ls H locs hl hP hS
  obtain ⟨hexec, hb, hml, hown, hts, hG, hlk, hrt, hnm⟩ := id hx
  exact lv_tableOut hexec hb hd h ht (k hx ls H locs hl hP hS)
theorem x_tableIn {dflt lo1 hi : Int} {offs : Array Int} {len : Nat} {x : Int32} {off : Int} {tgt : Nat} (hd : decode M.1 pc = .ok (.tableswitch dflt lo1 hi offs, len)) (h1 : ¬ x.toInt < lo1) (h2 : ¬ hi < x.toInt) (ho : offs[(x.toInt - lo1).toNat]? = some off) (ht : (pc : Int) + off = (tgt : Int)) (k : X g M E Q kc ks tgt lo rest N I L R) : X g M E Q kc ks pc lo (.int x :: rest) N I L R := by
  obtain ⟨p, e, s, m, args, below, meth, c⟩ := E
  intro hx ls H locs hl hP hS
  obtain ⟨hexec, hb, hml, hown, hts, hG, hlk, hrt, hnm⟩ := id hx
  exact lv_tableIn hexec hb hd h1 h2 ho ht (k hx ls H locs hl hP hS)
end ZROWS
