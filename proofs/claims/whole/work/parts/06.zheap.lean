theorem z0_row (I : zI) (k : Nat) : z0 I k k = fun _ => 0 := by funext j; simp [z0]
theorem z0L_row (L : zL) (k : Nat) : z0L L k k = fun _ => 0 := by funext j; simp [z0L]
theorem zuL_row (L : zL) (k j : Nat) (v : Int64) : zuL L k j v k = vp_updL (L k) j v := by funext i; simp [zuL, vp_updL]
theorem zts_small : ∀ q ∈ zts, q.2 < 1000 := by decide +kernel
theorem zt_small0 {k t n : Nat} (h : zt k = (t, n)) : n < 1000 := by
  unfold zt at h
  rw [List.getD_eq_getElem?_getD] at h
  cases hq : zts[k]? with
  | none => rw [hq] at h; simp at h; omega
  | some q =>
    rw [hq] at h
    have := zts_small q (List.mem_of_getElem? hq)
    simp at h
    rw [h] at this
    exact this
theorem zt_small {k t n : Nat} (h : zt k = (t, n)) : n < 2 ^ 31 := by have := zt_small0 h; omega
theorem zt_small2 {k t n : Nat} (h : zt k = (t, n)) : n < 1000 := zt_small0 h
/-- a field that is reached: class own's pool entry idx is field j of class ci -/
def zFl (own : String) (idx ci j : Nat) : Prop := ∃ (C : String) (T : u_T) (n : Nat), zcl[ci]? = some (C, T, n) ∧ zcn ci = n ∧ (∀ w ∈ u_ws C T n, w ∈ wsL_law) ∧ Cond.fieldLink own idx C (T j).2.1 (T j).2.2.1 ∈ wsL_law ∧ (T j).1 = C ∧ j < n
/-- an int field that may be written -/
def zFp (own : String) (idx ci j : Nat) : Prop := ∃ (C : String) (T : u_T) (n : Nat) (ty : Nat → FieldType), zcl[ci]? = some (C, T, n) ∧ zcn ci = n ∧ (∀ w ∈ u_ws C T n, w ∈ wsL_law) ∧ Cond.fieldLink own idx C (T j).2.1 (T j).2.2.1 ∈ wsL_law ∧ (T j).1 = C ∧ j < n ∧ (∀ k, k < n → parseFieldDescriptor (T k).2.2.1 = some (ty k)) ∧ (∀ a, a < n → ∀ b, b < n → a ≠ b → (T a).2.1 ≠ (T b).2.1) ∧ (T j).2.2.2 = false ∧ ty j = .int ∧ zrf ci j = false
/-- a reference field of the class itself, written by its constructor -/
def zFq (own : String) (idx ci j : Nat) : Prop := ∃ (T : u_T) (n : Nat) (ty : Nat → FieldType), zcl[ci]? = some (own, T, n) ∧ zcn ci = n ∧ (∀ w ∈ u_ws own T n, w ∈ wsL_law) ∧ Cond.fieldLink own idx own (T j).2.1 (T j).2.2.1 ∈ wsL_law ∧ (T j).1 = own ∧ j < n ∧ (∀ k, k < n → parseFieldDescriptor (T k).2.2.1 = some (ty k)) ∧ (∀ a, a < n → ∀ b, b < n → a ≠ b → (T a).2.1 ≠ (T b).2.1) ∧ (T j).2.2.2 = true ∧ (∀ a : Nat, narrow (ty j) (.ref a) = .ref a ∧ fits (ty j) (.ref a) = true) ∧ zrf ci j = true
theorem zP_put {g : zG} {N : Nat} {I I' : zI} {L L' : zL} {R R' : zR} {H H1 : Heap} {k : Nat} {e : va_E} (hP : zP g N I L R H) (hk : k < N) (hz : zc g.2.1 g.2.2.1 I' L' R' k = e) (he : va_at g.2.2.2 zcl (g.2.1 + k, e) H1) (z : H1.size = H.size) (oq : ∀ q, q ≠ g.2.1 + k → H1[q]? = H[q]?) (ho : ∀ j, j ≠ k → zc g.2.1 g.2.2.1 I' L' R' j = zc g.2.1 g.2.2.1 I L R j) : zP g N I' L' R' H1 := by
  refine ⟨z.trans hP.1, ?_⟩
  rw [← zw_set hz ho]
  exact hP.2.set zw_D (zw_at hk) he oq
theorem zP_push {g : zG} {N : Nat} {I I' : zI} {L L' : zL} {R R' : zR} {H H1 : Heap} {e : va_E} (hP : zP g N I L R H) (hz : zc g.2.1 g.2.2.1 I' L' R' N = e) (he : va_at g.2.2.2 zcl (g.2.1 + N, e) H1) (z : H1.size = H.size + 1) (oq : ∀ q, q < H.size → H1[q]? = H[q]?) (ho : ∀ j, j < N → zc g.2.1 g.2.2.1 I' L' R' j = zc g.2.1 g.2.2.1 I L R j) : zP g (N + 1) I' L' R' H1 := by
  refine ⟨by rw [z, hP.1]; omega, ?_⟩
  rw [← zw_push hz ho]
  refine (hP.2.kept (fun k q hq => oq q.1 (hP.2 k q hq).lt)).app (fun k q hq => ?_)
  have hz : k < 1 := (List.getElem?_eq_some_iff.mp hq).1
  rw [show k = 0 by omega] at hq
  cases hq
  exact he
theorem va_S.push {A : Nat → Prop} {H0 H H1 : Heap} {locs : List Loc} (h : va_S A H0 H locs) (z : H1.size = H.size + 1) (oq : ∀ q : Nat, q < H.size → H1[q]? = H[q]?) : va_S A H0 H1 locs :=
  ⟨Nat.le_trans h.1 (by omega), fun x h1 h2 => (oq x (Nat.lt_of_lt_of_le h1 h.1)).trans (h.2.1 x h1 h2), h.2.2⟩
section ZHEAP
variable {g : zG} {M : zM} {E : zE} {Q : State → Prop} {kc ks pc : Nat} {lo : List (Option Value)} {rest : List Value} {N : Nat} {I : zI} {L : zL} {R : zR}
theorem zc_o {b : Nat} {D : Nat → ClassId} {I : zI} {L : zL} {R : zR} {k c : Nat} (h : (zt k).1 = c + 4) : zc b D I L R k = .inr (c, (List.range (zcn c)).map (fun j => if zrf c j = true then va_rf (zvr b (R k j)) else .int (I k j))) := zc_obj (n := (zt k).2) (by rw [← h])
theorem zfs_at {b c k j : Nat} {I : zI} {R : zR} (hj : j < zcn c) : ((List.range (zcn c)).map (fun j => if zrf c j = true then va_rf (zvr b (R k j)) else .int (I k j)))[j]? = some (if zrf c j = true then va_rf (zvr b (R k j)) else .int (I k j)) := by
  simp [List.getElem?_map, List.getElem?_range hj]
theorem zfs_set {b c k j : Nat} {v : Value} {I I' : zI} {R R' : zR} (hj : j < zcn c) (hv : (if zrf c j = true then va_rf (zvr b (R' k j)) else .int (I' k j)) = v) (ho : ∀ i, i ≠ j → I' k i = I k i ∧ R' k i = R k i) : ((List.range (zcn c)).map (fun j => if zrf c j = true then va_rf (zvr b (R' k j)) else .int (I' k j))) = ((List.range (zcn c)).map (fun j => if zrf c j = true then va_rf (zvr b (R k j)) else .int (I k j))).set j v := by
  apply List.ext_getElem?
  intro i
  by_cases hi : i < zcn c
  · rw [zfs_at hi]
    by_cases e : i = j
    · subst e
      rw [List.getElem?_set_self (by simpa using hi), hv]
    · rw [List.getElem?_set_ne (Ne.symm e), zfs_at hi, (ho i e).1, (ho i e).2]
  · rw [List.getElem?_eq_none (by simp; omega), List.getElem?_eq_none (by simp; omega)]
theorem x_get {idx ci j k : Nat} {v : Value} (hd : decode M.1 pc = .ok (.getfield idx, 3)) (hf : zFl M.2.1 idx ci j) (hk : k < N) (ht : (zt k).1 = ci + 4) (hv : (if zrf ci j = true then va_rf (zvr g.2.1 (R k j)) else .int (I k j)) = v) (kk : X g M E Q kc ks (pc + 3) lo (v :: rest) N I L R) : X g M E Q kc ks pc lo (.ref (g.2.1 + k) :: rest) N I L R := by
  obtain ⟨p, e, s, m, args, below, meth, c⟩ := E
  intro hx ls H locs hl hP hS
  obtain ⟨hexec, hb, hml, hown, hts, hG, hlk, hrt, hmn⟩ := id hx
  obtain ⟨C, T, n, hc, hn, hin, hlk2, hsm, hj⟩ := hf
  subst hn
  exact va_get (v := v) hexec hb hts hin hown hG.1 hP.2 k (by rw [zw_at hk, zc_o ht]) hc j hj (hts _ hlk2) (by rw [hsm]; exact fun _ h => h) (by rw [zfs_at hj, hv]) hd (kk hx ls H locs hl hP hS)
theorem x_getI {idx ci j k : Nat} (hd : decode M.1 pc = .ok (.getfield idx, 3)) (hf : zFl M.2.1 idx ci j) (hk : k < N) (ht : (zt k).1 = ci + 4) (hr : zrf ci j = false) (kk : X g M E Q kc ks (pc + 3) lo (.int (I k j) :: rest) N I L R) : X g M E Q kc ks pc lo (.ref (g.2.1 + k) :: rest) N I L R := x_get hd hf hk ht (by simp [hr]) kk
theorem x_getR {idx ci j k q : Nat} (hd : decode M.1 pc = .ok (.getfield idx, 3)) (hf : zFl M.2.1 idx ci j) (hk : k < N) (ht : (zt k).1 = ci + 4) (hr : zrf ci j = true) (hq : R k j = some q) (kk : X g M E Q kc ks (pc + 3) lo (.ref (g.2.1 + q) :: rest) N I L R) : X g M E Q kc ks pc lo (.ref (g.2.1 + k) :: rest) N I L R := x_get hd hf hk ht (by simp [hr, hq, zvr, va_rf]) kk
theorem x_putI {idx ci j k : Nat} {v : Int32} (hd : decode M.1 pc = .ok (.putfield idx, 3)) (hf : zFp M.2.1 idx ci j) (hk : k < N) (ht : (zt k).1 = ci + 4) (kk : X g M E Q kc ks (pc + 3) lo rest N (zu I k j v) L R) : X g M E Q kc ks pc lo (.int v :: .ref (g.2.1 + k) :: rest) N I L R := by
  obtain ⟨p, e, s, m, args, below, meth, c⟩ := E
  intro hx ls H locs hl hP hS
  obtain ⟨hexec, hb, hml, hown, hts, hG, hlk, hrt, hmn⟩ := id hx
  obtain ⟨C, T, n, ty, hc, hn, hin, hlk2, hsm, hj, hty, hnm, hfin, htj, hrf⟩ := hf
  subst hn
  have he := hP.2 k _ (zw_at hk)
  rw [zc_o ht] at he
  have hap := va_apart (own := M.2.1) hts hin ty hty hnm hG.1 hc
  obtain ⟨r, h1, cell, q1, q2, q3, q4⟩ := he
  have hr : r = (C, T, zcn ci) := Option.some.inj (h1.symm.trans hc)
  subst hr
  obtain ⟨hSl, hfc, kC, hkC, hkind⟩ := hG.1.1 ci _ hc
  obtain ⟨cf, kf, fi, f, hi, hsl⟩ := hSl j hj
  have hlay := hts _ (hin _ (u_in_lay hj))
  unfold u_lay at hlay
  rw [if_neg (by rw [hfin]; decide)] at hlay
  have hst := (u_facts hfc hkC (u_lays hts hin hj) hi).1
  have h6 := u_store (v := .int v) hfc hkC hkind hlay hi (by rw [hty j hj, htj]) rfl rfl
  refine W.putK hexec hb (f := f) ⟨hown, hts _ hlk2, ⟨_, _, _, by rw [← hsm]; exact hi⟩, hst⟩ (by rw [q2]; exact h6) q1 q3 (by rw [hsl]; exact k2_hasslot (q4 j hj)) rfl rfl hd fun H' e1 e2 e3 => ?_
  rw [hsl] at e1 ⊢
  refine kk hx ls H' _ hl (zP_put (e := .inr (ci, ((List.range (zcn ci)).map (fun j => if zrf ci j = true then va_rf (zvr g.2.1 (R k j)) else .int (I k j))).set j (.int v))) hP hk ?_ ⟨_, hc, t_OB.to (V := updV (vp_V ((List.range (zcn ci)).map (fun j => if zrf ci j = true then va_rf (zvr g.2.1 (R k j)) else .int (I k j)))) j (.int v)) ⟨_, e1, q2, q3, t_set q4 hap hj (.int v)⟩ (fun i _ => vp_updV_set (by simpa using hj) (.int v) i)⟩ e2 e3 ?_) (hS.put e2 e3 (Nat.le_add_right _ _))
  · rw [zc_o ht, zfs_set (I := I) (R := R) hj (v := .int v) (by simp [hrf, zu]) (fun i hi => ⟨zu_ne I v (Or.inr hi), rfl⟩)]
  · exact fun i hi => zc_congr (fun a => zu_ne I v (Or.inl hi)) (fun _ => rfl) (fun _ => rfl)
theorem x_putF {idx ci j k q : Nat} (hin2 : M.2.2.2.2.2 = "<init>") (hd : decode M.1 pc = .ok (.putfield idx, 3)) (hf : zFq M.2.1 idx ci j) (hk : k < N) (ht : (zt k).1 = ci + 4) (kk : X g M E Q kc ks (pc + 3) lo rest N I L (zuR R k j (some q))) : X g M E Q kc ks pc lo (.ref (g.2.1 + q) :: .ref (g.2.1 + k) :: rest) N I L R := by
  obtain ⟨p, e, s, m, args, below, meth, c⟩ := E
  intro hx ls H locs hl hP hS
  obtain ⟨hexec, hb, hml, hown, hts, hG, hlk, hrt, hmn⟩ := id hx
  obtain ⟨T, n, ty, hc, hn, hin, hlk2, hsm, hj, hty, hnm, hfin, hnf, hrf⟩ := hf
  subst hn
  have he := hP.2 k _ (zw_at hk)
  rw [zc_o ht] at he
  have hap := va_apart (own := M.2.1) hts hin ty hty hnm hG.1 hc
  obtain ⟨r, h1, cell, q1, q2, q3, q4⟩ := he
  have hr : r = (M.2.1, T, zcn ci) := Option.some.inj (h1.symm.trans hc)
  subst hr
  obtain ⟨hSl, hfc, kC, hkC, hkind⟩ := hG.1.1 ci _ hc
  obtain ⟨cf, kf, fi, f, hi, hsl⟩ := hSl j hj
  have hlay := hts _ (hin _ (u_in_lay hj))
  unfold u_lay at hlay
  rw [if_pos hfin] at hlay
  have hst := (u_facts hfc hkC (u_lays hts hin hj) hi).1
  have hcf : m.cls = cf := by
    obtain ⟨_, _, c', _, _, _, -, -, hf', -, -, -, hown2, -⟩ := Cond.laysFinal_spec hlay
    have e1 : c' = cf := by have := hi.symm.trans hf'; simp at this; exact this.1.symm
    rw [hsm] at hown2
    rw [← e1]; exact Option.some.inj (hown.symm.trans hown2)
  have h6 := u_fits (v := .ref (g.2.1 + q)) hfc hkC hkind (Or.inr hlay) hi (hty j hj) (hnf _).1 (hnf _).2
  refine W.putFinK hexec hb hown (hts _ hlk2) (by rw [← hsm]; exact hi) hst hcf (hmn.trans hin2) (by rw [q2]; exact h6) q1 q3 (by rw [hsl]; exact k2_hasslot (q4 j hj)) rfl rfl hd fun H' e1 e2 e3 => ?_
  rw [hsl] at e1 ⊢
  refine kk hx ls H' _ hl (zP_put (e := .inr (ci, ((List.range (zcn ci)).map (fun j => if zrf ci j = true then va_rf (zvr g.2.1 (R k j)) else .int (I k j))).set j (.ref (g.2.1 + q)))) hP hk ?_ ⟨_, hc, t_OB.to (V := updV (vp_V ((List.range (zcn ci)).map (fun j => if zrf ci j = true then va_rf (zvr g.2.1 (R k j)) else .int (I k j)))) j (.ref (g.2.1 + q))) ⟨_, e1, q2, q3, t_set q4 hap hj (.ref (g.2.1 + q))⟩ (fun i _ => vp_updV_set (by simpa using hj) (.ref (g.2.1 + q)) i)⟩ e2 e3 ?_) (hS.put e2 e3 (Nat.le_add_right _ _))
  · rw [zc_o ht, zfs_set (I := I) (R := R) hj (v := .ref (g.2.1 + q)) (by simp [hrf, zuR, zvr, va_rf]) (fun i hi => ⟨rfl, by simp [zuR, hi]⟩)]
  · exact fun i hi => zc_congr (fun _ => rfl) (fun _ => rfl) (fun a => by simp [zuR, hi])
/-- int rows -/
theorem zx_in {j : Int32} {i n : Nat} (hj : j = nI i) (hi : i < n) (hn : n < 2 ^ 31) : vp_in j n ∧ j.toNatClampNeg = i := by
  subst hj
  exact ⟨vp_in_nI hi hn, nI_clamp (by omega)⟩
theorem x_iald {k n : Nat} {j : Int32} (hd : decode M.1 pc = .ok (.iaload, 1)) (hk : k < N) (ht : zt k = (0, n)) (hin : vp_in j n) (kk : X g M E Q kc ks (pc + 1) lo (.int (I k j.toNatClampNeg) :: rest) N I L R) : X g M E Q kc ks pc lo (.int j :: .ref (g.2.1 + k) :: rest) N I L R := by
  obtain ⟨p, e, s, m, args, below, meth, c⟩ := E
  intro hx ls H locs hl hP hS
  obtain ⟨hexec, hb, hml, hown, hts, hG, hlk, hrt, hmn⟩ := id hx
  exact va_iald hexec hb hG.1 hP.2 k 0 (by rw [zw_at hk, zc_int ht]) rfl hin hd (kk hx ls H locs hl hP hS)
theorem x_ialdN {k n i : Nat} {j : Int32} (hd : decode M.1 pc = .ok (.iaload, 1)) (hk : k < N) (ht : zt k = (0, n)) (hj : j = nI i) (hi : i < n) (kk : X g M E Q kc ks (pc + 1) lo (.int (I k i) :: rest) N I L R) : X g M E Q kc ks pc lo (.int j :: .ref (g.2.1 + k) :: rest) N I L R := by
  have hn : n < 2 ^ 31 := zt_small ht
  have h := zx_in hj hi hn
  refine x_iald hd hk ht h.1 ?_
  rw [h.2]
  exact kk
theorem x_zald {k n i : Nat} {j : Int32} (hd : decode M.1 pc = .ok (.baload, 1)) (hk : k < N) (ht : zt k = (2, n)) (hj : j = nI i) (hi : i < n) (kk : X g M E Q kc ks (pc + 1) lo (.int (I k i) :: rest) N I L R) : X g M E Q kc ks pc lo (.int j :: .ref (g.2.1 + k) :: rest) N I L R := by
  obtain ⟨p, e, s, m, args, below, meth, c⟩ := E
  intro hx ls H locs hl hP hS
  obtain ⟨hexec, hb, hml, hown, hts, hG, hlk, hrt, hmn⟩ := id hx
  have h := zx_in hj hi (zt_small ht)
  refine va_zald hexec hb hG.1 hP.2 k 2 (by rw [zw_at hk, zc_bool ht]) rfl h.1 hd ?_
  rw [h.2]
  exact kk hx ls H locs hl hP hS
theorem x_lald {k n i : Nat} {j : Int32} (hd : decode M.1 pc = .ok (.laload, 1)) (hk : k < N) (ht : zt k = (1, n)) (hj : j = nI i) (hi : i < n) (kk : X g M E Q kc ks (pc + 1) lo (.long (L k i) :: rest) N I L R) : X g M E Q kc ks pc lo (.int j :: .ref (g.2.1 + k) :: rest) N I L R := by
  obtain ⟨p, e, s, m, args, below, meth, c⟩ := E
  intro hx ls H locs hl hP hS
  obtain ⟨hexec, hb, hml, hown, hts, hG, hlk, hrt, hmn⟩ := id hx
  have h := zx_in hj hi (zt_small ht)
  refine va_lald hexec hb hG.1 hP.2 k 1 (by rw [zw_at hk, zc_long ht]) rfl h.1 hd ?_
  rw [h.2]
  exact kk hx ls H locs hl hP hS
theorem x_aald {k n i : Nat} {j : Int32} (hd : decode M.1 pc = .ok (.aaload, 1)) (hk : k < N) (ht : zt k = (3, n)) (hj : j = nI i) (hi : i < n) (kk : X g M E Q kc ks (pc + 1) lo (va_rf (zvr g.2.1 (R k i)) :: rest) N I L R) : X g M E Q kc ks pc lo (.int j :: .ref (g.2.1 + k) :: rest) N I L R := by
  obtain ⟨p, e, s, m, args, below, meth, c⟩ := E
  intro hx ls H locs hl hP hS
  obtain ⟨hexec, hb, hml, hown, hts, hG, hlk, hrt, hmn⟩ := id hx
  have h := zx_in hj hi (zt_small ht)
  refine va_aldq hexec hb hG.1 hP.2 k 3 (by rw [zw_at hk, zc_ref ht]) rfl h.1 hd ?_
  rw [h.2]
  exact kk hx ls H locs hl hP hS
theorem x_alen {k n : Nat} {v : Int32} (hd : decode M.1 pc = .ok (.arraylength, 1)) (hk : k < N) (ht : zt k = (0, n)) (hv : Int32.ofNat n = v) (kk : X g M E Q kc ks (pc + 1) lo (.int v :: rest) N I L R) : X g M E Q kc ks pc lo (.ref (g.2.1 + k) :: rest) N I L R := by
  obtain ⟨p, e, s, m, args, below, meth, c⟩ := E
  intro hx ls H locs hl hP hS
  obtain ⟨hexec, hb, hml, hown, hts, hG, hlk, hrt, hmn⟩ := id hx
  exact va_alen hexec hb hG.1 hP.2 k 0 (by rw [zw_at hk, zc_int ht]) rfl hv hd (kk hx ls H locs hl hP hS)
theorem x_iast {k n i : Nat} {j v : Int32} (hd : decode M.1 pc = .ok (.iastore, 1)) (hk : k < N) (ht : zt k = (0, n)) (hj : j = nI i) (hi : i < n) (kk : X g M E Q kc ks (pc + 1) lo rest N (zu I k i v) L R) : X g M E Q kc ks pc lo (.int v :: .int j :: .ref (g.2.1 + k) :: rest) N I L R := by
  obtain ⟨p, e, s, m, args, below, meth, c⟩ := E
  intro hx ls H locs hl hP hS
  obtain ⟨hexec, hb, hml, hown, hts, hG, hlk, hrt, hmn⟩ := id hx
  obtain ⟨hin, hji⟩ := zx_in hj hi (zt_small ht)
  have ha := hP.2 k _ (zw_at hk)
  rw [zc_int ht] at ha
  refine W.iast hexec hb ha ((hG.1.2 0 _ rfl).1 n (fun j => .int (I k j))) (fun q => by cases q) (by show ¬ (j < 0 ∨ (arrV _ _ _).slots.size ≤ _); rw [arrV_size]; exact hin) rfl rfl hd fun H1 e z oq => ?_
  refine kk hx ls H1 _ hl (zP_put (e := .inl (g.2.2.1 0, n, .inl (upd (I k) i v))) hP hk (by rw [zc_int ht, zu_row]) ?_ z oq ?_) (hS.put z oq (Nat.le_add_right _ _))
  · show H1[_]? = some (vp_cell _ _)
    rw [e]
    rw [vp_cell_i, vp_cell_i, arrV_store, hji]
    congr 2
    funext q
    by_cases hq : q = i
    · subst hq
      simp [updV, upd]
    · simp [updV, upd, hq]
  · exact fun i hi => zc_congr (fun a => zu_ne I v (Or.inl hi)) (fun _ => rfl) (fun _ => rfl)
theorem x_zast {k n i : Nat} {j v : Int32} (hd : decode M.1 pc = .ok (.bastore, 1)) (hk : k < N) (ht : zt k = (2, n)) (hj : j = nI i) (hi : i < n) (hv : narrow .boolean (.int v) = .int v) (kk : X g M E Q kc ks (pc + 1) lo rest N (zu I k i v) L R) : X g M E Q kc ks pc lo (.int v :: .int j :: .ref (g.2.1 + k) :: rest) N I L R := by
  obtain ⟨p, e, s, m, args, below, meth, c⟩ := E
  intro hx ls H locs hl hP hS
  obtain ⟨hexec, hb, hml, hown, hts, hG, hlk, hrt, hmn⟩ := id hx
  obtain ⟨hin, hji⟩ := zx_in hj hi (zt_small ht)
  have ha := hP.2 k _ (zw_at hk)
  rw [zc_bool ht] at ha
  refine W.zast hexec hb ha ((hG.1.2 2 _ rfl).1 n (fun j => .int (I k j))) (fun q => by cases q) (by show ¬ (j < 0 ∨ (arrV _ _ _).slots.size ≤ _); rw [arrV_size]; exact hin) rfl rfl hd fun H1 e z oq => ?_
  refine kk hx ls H1 _ hl (zP_put (e := .inl (g.2.2.1 2, n, .inl (upd (I k) i v))) hP hk (by rw [zc_bool ht, zu_row]) ?_ z oq ?_) (hS.put z oq (Nat.le_add_right _ _))
  · show H1[_]? = some (vp_cell _ _)
    rw [e, hv]
    rw [vp_cell_i, vp_cell_i, arrV_store, hji]
    congr 2
    funext q
    by_cases hq : q = i
    · subst hq
      simp [updV, upd]
    · simp [updV, upd, hq]
  · exact fun i hi => zc_congr (fun a => zu_ne I v (Or.inl hi)) (fun _ => rfl) (fun _ => rfl)
theorem x_last {k n i : Nat} {j : Int32} {v : Int64} (hd : decode M.1 pc = .ok (.lastore, 1)) (hk : k < N) (ht : zt k = (1, n)) (hj : j = nI i) (hi : i < n) (kk : X g M E Q kc ks (pc + 1) lo rest N I (zuL L k i v) R) : X g M E Q kc ks pc lo (.long v :: .int j :: .ref (g.2.1 + k) :: rest) N I L R := by
  obtain ⟨p, e, s, m, args, below, meth, c⟩ := E
  intro hx ls H locs hl hP hS
  obtain ⟨hexec, hb, hml, hown, hts, hG, hlk, hrt, hmn⟩ := id hx
  obtain ⟨hin, hji⟩ := zx_in hj hi (zt_small ht)
  have ha := hP.2 k _ (zw_at hk)
  rw [zc_long ht] at ha
  refine W.last hexec hb ha ((hG.1.2 1 _ rfl).1 n (fun j => .long (L k j))) (fun q => by cases q) (by show ¬ (j < 0 ∨ (arrV _ _ _).slots.size ≤ _); rw [arrV_size]; exact hin) rfl rfl hd fun H1 e z oq => ?_
  refine kk hx ls H1 _ hl (zP_put (e := .inl (g.2.2.1 1, n, .inr (.inl (vp_updL (L k) i v)))) hP hk (by rw [zc_long ht, zuL_row]) ?_ z oq ?_) (hS.put z oq (Nat.le_add_right _ _))
  · show H1[_]? = some (vp_cell _ _)
    rw [e]
    rw [vp_cell_l, vp_cell_l, arrV_store, hji]
    congr 2
    funext q
    by_cases hq : q = i
    · subst hq
      simp [updV, vp_updL]
    · simp [updV, vp_updL, hq]
  · exact fun i hi => zc_congr (fun _ => rfl) (fun a => by simp [zuL, hi]) (fun _ => rfl)
theorem x_aast {k n i q : Nat} {j : Int32} (hd : decode M.1 pc = .ok (.aastore, 1)) (hk : k < N) (ht : zt k = (3, n)) (hj : j = nI i) (hi : i < n) (hq : q < N) (hqt : (zt q).1 = 3 + 4) (kk : X g M E Q kc ks (pc + 1) lo rest N I L (zuR R k i (some q))) : X g M E Q kc ks pc lo (.ref (g.2.1 + q) :: .int j :: .ref (g.2.1 + k) :: rest) N I L R := by
  obtain ⟨p, e, s, m, args, below, meth, c⟩ := E
  intro hx ls H locs hl hP hS
  obtain ⟨hexec, hb, hml, hown, hts, hG, hlk, hrt, hmn⟩ := id hx
  obtain ⟨hin, hji⟩ := zx_in hj hi (zt_small ht)
  have ha := hP.2 k _ (zw_at hk)
  rw [zc_ref ht] at ha
  have hv := hP.2 q _ (zw_at hq)
  rw [zc_o hqt] at hv
  obtain ⟨r', hr', cellV, g1, g2, g3, -⟩ := hv
  have hcls := (hG.1.1 3 (RX3, TX3, 13) rfl).2
  obtain ⟨kA, comp, k1, k2, k3, -⟩ := (hG.1.2 3 _ rfl).2
  have hcomp : comp = g.2.2.2.1 3 := Option.some.inj (k3.symm.trans hcls.1)
  subst hcomp
  obtain ⟨kC, hkC, -⟩ := id hcls.2
  refine W.aast hexec hb ha (fun q h => by cases h) (fun h => by cases h) k1 k2 rfl hkC ⟨fun q => hin (Or.inl q), by show _ < (arrV _ _ _).slots.size; rw [arrV_size]; exact Nat.not_le.mp fun q => hin (Or.inr q)⟩ g1 (fun q h => by rw [g3] at h; cases h) (by rw [g2]; exact hkC) (by rw [g2]; exact va_assign hcls) rfl rfl hd fun H1 e z oq => ?_
  refine kk hx ls H1 _ hl (zP_put (e := .inl (g.2.2.1 3, n, .inr (.inr (.inr (.inr (fun a => zvr g.2.1 (zuR R k i (some q) k a))))))) hP hk (by rw [zc_ref ht]) ?_ z oq ?_) (hS.put z oq (Nat.le_add_right _ _))
  · show H1[_]? = some (vp_cell _ _)
    rw [e]
    rw [vp_cell_q, vp_cell_q, arrV_store, hji]
    congr 2
    funext a
    by_cases ha : a = i
    · subst ha
      simp [updV, zuR, zvr, va_rf]
    · simp [updV, zuR, ha]
  · exact fun i hi => zc_congr (fun _ => rfl) (fun _ => rfl) (fun a => by simp [zuR, hi])
/-- new cells -/
theorem x_newI {n : Int32} {n0 : Nat} (hd : decode M.1 pc = .ok (.newarray .int, 2)) (hw : Cond.arrayClass .int ∈ wsL_law) (ht : zt N = (0, n0)) (hn : n = nI n0) (hc : kc + 1 ≤ M.2.2.2.2.1.cells) (hs : ks + n0 ≤ M.2.2.2.2.1.slots) (kk : X g M E Q (kc + 1) (ks + n0) (pc + 2) lo (.ref (g.2.1 + N) :: rest) (N + 1) (z0 I N) (z0L L N) (z0R R N)) : X g M E Q kc ks pc lo (.int n :: rest) N I L R := by
  obtain ⟨p, e, s, m, args, below, meth, c⟩ := E
  intro hx ls H locs hl hP hS
  obtain ⟨hexec, hb, hml, hown, hts, hG, hlk, hrt, hmn⟩ := id hx
  have hsm := zt_small ht
  subst hn
  refine va_newaK hexec hb (atype := .int) (hts _ hw) rfl hd rfl (nI_pos hsm) (nI_clamp hsm) (by have := zt_small2 ht; simp [newarray.typeOf, componentBytes]; omega) hc hs hP.1 fun H1 cA e1 z1 o1 hAr hNm => ?_
  have hcA : cA = g.2.2.1 0 := Option.some.inj (hNm.symm.trans (hG.1.2 0 _ rfl).2)
  subst hcA
  have hsz := hP.1
  refine kk hx ls H1 locs hl (zP_push (e := .inl (g.2.2.1 0, n0, .inl (fun _ => 0))) hP (by rw [zc_int ht, z0_row]) ?_ (by rw [z1, hsz]) (fun q hq => o1 q (by omega)) ?_) (hS.push (by rw [z1, hsz]) (fun q hq => o1 q (by omega)))
  · show H1[_]? = some (vp_cell _ _)
    rw [vp_cell_i]
    exact e1
  · exact fun j hj => zc_congr (fun a => by simp [z0, Nat.ne_of_lt hj]) (fun a => by simp [z0L, Nat.ne_of_lt hj]) (fun a => by simp [z0R, Nat.ne_of_lt hj])
theorem x_newZ {n : Int32} {n0 : Nat} (hd : decode M.1 pc = .ok (.newarray .boolean, 2)) (hw : Cond.arrayClass .boolean ∈ wsL_law) (ht : zt N = (2, n0)) (hn : n = nI n0) (hc : kc + 1 ≤ M.2.2.2.2.1.cells) (hs : ks + n0 ≤ M.2.2.2.2.1.slots) (kk : X g M E Q (kc + 1) (ks + n0) (pc + 2) lo (.ref (g.2.1 + N) :: rest) (N + 1) (z0 I N) (z0L L N) (z0R R N)) : X g M E Q kc ks pc lo (.int n :: rest) N I L R := by
  obtain ⟨p, e, s, m, args, below, meth, c⟩ := E
  intro hx ls H locs hl hP hS
  obtain ⟨hexec, hb, hml, hown, hts, hG, hlk, hrt, hmn⟩ := id hx
  have hsm := zt_small ht
  subst hn
  refine va_newaK hexec hb (atype := .boolean) (hts _ hw) rfl hd rfl (nI_pos hsm) (nI_clamp hsm) (by have := zt_small2 ht; simp [newarray.typeOf, componentBytes]; omega) hc hs hP.1 fun H1 cA e1 z1 o1 hAr hNm => ?_
  have hcA : cA = g.2.2.1 2 := Option.some.inj (hNm.symm.trans (hG.1.2 2 _ rfl).2)
  subst hcA
  have hsz := hP.1
  refine kk hx ls H1 locs hl (zP_push (e := .inl (g.2.2.1 2, n0, .inl (fun _ => 0))) hP (by rw [zc_bool ht, z0_row]) ?_ (by rw [z1, hsz]) (fun q hq => o1 q (by omega)) ?_) (hS.push (by rw [z1, hsz]) (fun q hq => o1 q (by omega)))
  · show H1[_]? = some (vp_cell _ _)
    rw [vp_cell_i]
    exact e1
  · exact fun j hj => zc_congr (fun a => by simp [z0, Nat.ne_of_lt hj]) (fun a => by simp [z0L, Nat.ne_of_lt hj]) (fun a => by simp [z0R, Nat.ne_of_lt hj])
theorem x_newJ {n : Int32} {n0 : Nat} (hd : decode M.1 pc = .ok (.newarray .long, 2)) (hw : Cond.arrayClass .long ∈ wsL_law) (ht : zt N = (1, n0)) (hn : n = nI n0) (hc : kc + 1 ≤ M.2.2.2.2.1.cells) (hs : ks + n0 ≤ M.2.2.2.2.1.slots) (kk : X g M E Q (kc + 1) (ks + n0) (pc + 2) lo (.ref (g.2.1 + N) :: rest) (N + 1) (z0 I N) (z0L L N) (z0R R N)) : X g M E Q kc ks pc lo (.int n :: rest) N I L R := by
  obtain ⟨p, e, s, m, args, below, meth, c⟩ := E
  intro hx ls H locs hl hP hS
  obtain ⟨hexec, hb, hml, hown, hts, hG, hlk, hrt, hmn⟩ := id hx
  have hsm := zt_small ht
  subst hn
  refine va_newaK hexec hb (atype := .long) (hts _ hw) rfl hd rfl (nI_pos hsm) (nI_clamp hsm) (by have := zt_small2 ht; simp [newarray.typeOf, componentBytes]; omega) hc hs hP.1 fun H1 cA e1 z1 o1 hAr hNm => ?_
  have hcA : cA = g.2.2.1 1 := Option.some.inj (hNm.symm.trans (hG.1.2 1 _ rfl).2)
  subst hcA
  have hsz := hP.1
  refine kk hx ls H1 locs hl (zP_push (e := .inl (g.2.2.1 1, n0, .inr (.inl (fun _ => 0)))) hP (by rw [zc_long ht, z0L_row]) ?_ (by rw [z1, hsz]) (fun q hq => o1 q (by omega)) ?_) (hS.push (by rw [z1, hsz]) (fun q hq => o1 q (by omega)))
  · show H1[_]? = some (vp_cell _ _)
    rw [vp_cell_l]
    exact e1
  · exact fun j hj => zc_congr (fun a => by simp [z0, Nat.ne_of_lt hj]) (fun a => by simp [z0L, Nat.ne_of_lt hj]) (fun a => by simp [z0R, Nat.ne_of_lt hj])
theorem x_newQ {idx : Nat} {n : Int32} {n0 : Nat} (hd : decode M.1 pc = .ok (.anewarray idx, 3)) (hw : Cond.classLink M.2.1 idx "MireWrestle$Mire" ∈ wsL_law) (ht : zt N = (3, n0)) (hn : n = nI n0) (hc : kc + 1 ≤ M.2.2.2.2.1.cells) (hs : ks + n0 ≤ M.2.2.2.2.1.slots) (kk : X g M E Q (kc + 1) (ks + n0) (pc + 3) lo (.ref (g.2.1 + N) :: rest) (N + 1) (z0 I N) (z0L L N) (z0R R N)) : X g M E Q kc ks pc lo (.int n :: rest) N I L R := by
  obtain ⟨p, e, s, m, args, below, meth, c⟩ := E
  intro hx ls H locs hl hP hS
  obtain ⟨hexec, hb, hml, hown, hts, hG, hlk, hrt, hmn⟩ := id hx
  have hsm := zt_small ht
  subst hn
  have hcl := nI_clamp hsm
  refine W.anew hexec hb hown (hts _ hw) (va_AO.use hG.2.2) rfl hd rfl (nI_pos hsm) (by rw [hcl]; have := zt_small2 ht; omega) hc (by rw [hcl]; exact hs) fun cA kA comp f1 f2 f3 f4 => ?_
  rw [hcl]
  generalize hH1 : H.push ({ cls := cA, slots := Array.replicate n0 .null, vm := .none } : Cell) = H1
  have z1 : H1.size = H.size + 1 := by rw [← hH1, Array.size_push]
  have e1 : H1[H.size]? = some (arrV cA n0 (fun _ => .null)) := by rw [← hH1, Array.getElem?_push_size, ← arrV_new]
  have o1 : ∀ q : Nat, q < H.size → H1[q]? = H[q]? := fun q hq => by rw [← hH1, Array.getElem?_push, if_neg (Nat.ne_of_lt hq)]
  obtain ⟨kA', comp', j1, j2, j3, j4⟩ := (hG.1.2 3 _ rfl).2
  have hcA : cA = g.2.2.1 3 := Option.some.inj (f1.symm.trans j4)
  subst hcA
  have hsz := hP.1
  rw [hsz] at e1 ⊢
  refine kk hx ls H1 locs hl (zP_push (e := .inl (g.2.2.1 3, n0, .inr (.inr (.inr (.inr (fun _ => none)))))) hP (by rw [zc_ref ht]; congr 7; funext j; simp [z0R, zvr]) ?_ z1 o1 ?_) (hS.push z1 o1)
  · show H1[_]? = some (vp_cell _ _)
    rw [vp_cell_q]
    exact e1
  · exact fun j hj => zc_congr (fun a => by simp [z0, Nat.ne_of_lt hj]) (fun a => by simp [z0L, Nat.ne_of_lt hj]) (fun a => by simp [z0R, Nat.ne_of_lt hj])
/-- what a class needs to be made -/
def zNw (own : String) (idx ci : Nat) : Prop := ∃ (C : String) (T : u_T) (n : Nat) (ty : Nat → FieldType), zcl[ci]? = some (C, T, n) ∧ zcn ci = n ∧ (∀ w ∈ u_ws C T n, w ∈ wsL_law) ∧ (∀ k, k < n → parseFieldDescriptor (T k).2.2.1 = some (ty k)) ∧ Cond.classLink own idx C ∈ wsL_law ∧ Cond.instantiable C n ∈ wsL_law ∧ Cond.initialized C ∈ wsL_law ∧ (∀ j, j < n → defaultValue (ty j) = if zrf ci j = true then .null else .int 0)
theorem x_new {idx ci : Nat} (hd : decode M.1 pc = .ok (.new idx, 3)) (hf : zNw M.2.1 idx ci) (ht : (zt N).1 = ci + 4) (hc : kc + 1 ≤ M.2.2.2.2.1.cells) (hs : ks + zcn ci ≤ M.2.2.2.2.1.slots) (kk : X g M E Q (kc + 1) (ks + zcn ci) (pc + 3) lo (.ref (g.2.1 + N) :: rest) (N + 1) (z0 I N) (z0L L N) (z0R R N)) : X g M E Q kc ks pc lo rest N I L R := by
  obtain ⟨p, e, s, m, args, below, meth, c⟩ := E
  intro hx ls H locs hl hP hS
  obtain ⟨hexec, hb, hml, hown, hts, hG, hlk, hrt, hmn⟩ := id hx
  obtain ⟨C, T, n, ty, hcl, hn, hin, hty, w1, w2, w3, hdef⟩ := hf
  subst hn
  have hKn := hG.1.1 ci _ hcl
  have hsz := hP.1
  refine W.newcK hexec hb hown (hts _ w1) (hts _ w2) (hts _ w3) rfl hd hc hs hKn.2.1 hsz fun H1 kC hkC e1 z1 o1 => ?_
  refine kk hx ls H1 locs hl (zP_push (e := .inr (ci, (List.range (zcn ci)).map (fun j => if zrf ci j = true then .null else .int 0))) hP (by rw [zc_o ht]; congr 2; apply List.map_congr_left; intro j _; simp [z0, z0R, zvr, va_rf]) ?_ (by rw [z1, hsz]) (fun q hq => o1 q (by omega)) ?_) (hS.push (by rw [z1, hsz]) (fun q hq => o1 q (by omega)))
  · refine ⟨_, hcl, (u_born ty hts hin hKn hkC e1 hty).to (fun j hj => ?_)⟩
    rw [hdef j hj]
    simp [vp_V, List.getD_eq_getElem?_getD, List.getElem?_map, List.getElem?_range hj]
  · exact fun j hj => zc_congr (fun a => by simp [z0, Nat.ne_of_lt hj]) (fun a => by simp [z0L, Nat.ne_of_lt hj]) (fun a => by simp [z0R, Nat.ne_of_lt hj])
end ZHEAP
