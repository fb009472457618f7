/-- rows -/
def zrow (I : zI) (k : Nat) (f : Nat → Int32) : zI := fun a => if a = k then f else I a
theorem zrow_k (I : zI) (k : Nat) (f : Nat → Int32) : zrow I k f k = f := by simp [zrow]
theorem zrow_ne (I : zI) {k a : Nat} (f : Nat → Int32) (h : a ≠ k) : zrow I k f a = I a := by simp [zrow, h]
theorem zrow_same (I : zI) (k : Nat) : zrow I k (I k) = I := by
  funext a
  by_cases h : a = k
  · subst h; simp [zrow]
  · simp [zrow, h]
theorem zu_zrow (I : zI) (k i : Nat) (f : Nat → Int32) (v : Int32) : zu (zrow I k f) k i v = zrow I k (upd f i v) := by
  funext a j
  by_cases h : a = k
  · subst h; simp [zu, zrow, upd]
  · simp [zu, zrow, h]
theorem zu_is (I : zI) (k i : Nat) (v : Int32) : zu I k i v = zrow I k (upd (I k) i v) := by
  funext a j
  by_cases h : a = k
  · subst h; simp [zu, zrow, upd]
  · simp [zu, zrow, h]
theorem zrn (I : zI) {k j a : Nat} (v : Int32) (h : a ≠ k) : zu I k j v a = I a := by funext i; simp [zu, h]
def zpre (i : Nat) (f h : Nat → Int32) : Nat → Int32 := fun j => if j < i then f j else h j
theorem zpre_0 (f h : Nat → Int32) : zpre 0 f h = h := by funext j; simp [zpre]
theorem zpre_at (i : Nat) (f h : Nat → Int32) : zpre i f h i = h i := by simp [zpre]
theorem zpre_s (i : Nat) (f h : Nat → Int32) : upd (zpre i f h) i (f i) = zpre (i + 1) f h := by
  funext j
  by_cases e : j = i
  · subst e; simp [upd, zpre]
  · by_cases q : j < i
    · simp [upd, zpre, e, q, show j < i + 1 by omega]
    · simp [upd, zpre, e, q, show ¬ j < i + 1 by omega]
theorem zpre_skip {i : Nat} {f h : Nat → Int32} (e : f i = h i) : zpre i f h = zpre (i + 1) f h := by
  rw [← zpre_s, e, ← zpre_at i f h]
  funext j
  by_cases q : j = i
  · subst q; simp [upd]
  · simp [upd, q]
/-! worlds that show the same -/
def zvis (k j : Nat) : Prop := match (zt k).1 with
  | 0 => j < (zt k).2
  | 2 => j < (zt k).2
  | 1 => False
  | 3 => False
  | c + 4 => j < zcn c ∧ zrf c j = false
theorem arrV_congr {c : ClassId} {n : Nat} {f h : Nat → Value} (e : ∀ j, j < n → f j = h j) : arrV c n f = arrV c n h := by
  unfold arrV
  congr 2
  funext j
  exact e j.val j.isLt
theorem zat_vis {dG : va_G} {b : Nat} {D : Nat → ClassId} {I I' : zI} {L : zL} {R : zR} {k : Nat} {H : Heap} (h : ∀ j, zvis k j → I' k j = I k j) (ha : va_at dG zcl (b + k, zc b D I L R k) H) : va_at dG zcl (b + k, zc b D I' L R k) H := by
  obtain ⟨t, n, hz⟩ : ∃ t n, zt k = (t, n) := ⟨_, _, rfl⟩
  unfold zvis at h
  rw [hz] at h
  match t, hz, h with
  | 0, hz, h =>
    rw [zc_int hz] at ha ⊢
    have ha : H[b + k]? = some (arrV (D 0) n (fun j => .int (I k j))) := ha
    show H[b + k]? = some (arrV (D 0) n (fun j => .int (I' k j)))
    rw [ha, arrV_congr (f := fun j => .int (I' k j)) (h := fun j => .int (I k j)) (fun j hj => congrArg Value.int (h j hj))]
  | 1, hz, h =>
    rw [zc_long hz] at ha ⊢
    exact ha
  | 2, hz, h =>
    rw [zc_bool hz] at ha ⊢
    have ha : H[b + k]? = some (arrV (D 2) n (fun j => .int (I k j))) := ha
    show H[b + k]? = some (arrV (D 2) n (fun j => .int (I' k j)))
    rw [ha, arrV_congr (f := fun j => .int (I' k j)) (h := fun j => .int (I k j)) (fun j hj => congrArg Value.int (h j hj))]
  | 3, hz, h =>
    rw [zc_ref hz] at ha ⊢
    exact ha
  | c + 4, hz, h =>
    rw [zc_obj hz] at ha ⊢
    have e : (List.range (zcn c)).map (fun j => if zrf c j = true then va_rf (zvr b (R k j)) else .int (I' k j)) = (List.range (zcn c)).map (fun j => if zrf c j = true then va_rf (zvr b (R k j)) else .int (I k j)) := by
      apply List.map_congr_left
      intro j hj
      by_cases q : zrf c j = true
      · simp [q]
      · have q2 : zrf c j = false := by simpa using q
        simp [q2, h j ⟨List.mem_range.mp hj, q2⟩]
    rw [e]
    exact ha
section ZB2
variable {g : zG} {M M2 : zM} {E : zE} {Q : State → Prop} {kc ks pc pc2 : Nat} {lo : List (Option Value)} {rest st : List Value} {N : Nat} {I : zI} {L : zL} {R : zR} {P : zPost} {idx : Nat}
theorem zP_vis {I' : zI} {H : Heap} (h : ∀ k, k < N → ∀ j, zvis k j → I' k j = I k j) (hP : zP g N I L R H) : zP g N I' L R H := by
  refine ⟨hP.1, fun k q hq => ?_⟩
  obtain ⟨hk, rfl⟩ := zw_some hq
  exact zat_vis (h k hk) (hP.2 k _ (zw_at hk))
theorem x_sameV {I' : zI} (h : ∀ k, k < N → ∀ j, zvis k j → I' k j = I k j) (kk : X g M E Q kc ks pc lo st N I' L R) : X g M E Q kc ks pc lo st N I L R := by
  obtain ⟨p, e, s, m, args, below, meth, c⟩ := E
  intro hx ls H locs hl hP hS
  exact kk hx ls H locs hl (zP_vis h hP) hS
theorem x_copyR {k0 k1 n0 : Nat} {u : Int32} (hd : decode M.1 pc = .ok (.invokestatic idx, 3)) (hl : Cond.methodLink M.2.1 idx arraycopyName ∈ wsL_law) (h1 : Cond.native arraycopyName ∈ wsL_law) (h2 : Cond.static arraycopyName ∈ wsL_law) (h3 : Cond.initialized "java/lang/System" ∈ wsL_law) (hk0 : k0 < N) (hk1 : k1 < N) (ht0 : zt k0 = (0, n0)) (ht1 : zt k1 = (0, n0)) (hu : u = nI n0) (hw : (rest.map fun v => v.category).sum ≤ 8) (hf : 1 ≤ M.2.2.2.2.1.frames ∧ 8 + (nativeFrameWords "java/lang/System" "arraycopy" 5 + 11) ≤ M.2.2.2.2.1.locals) (kk : X g M E Q kc ks (pc + 3) lo rest N (zrow I k1 (I k0)) L R) : X g M E Q kc ks pc lo (.int u :: .int 0 :: .ref (g.2.1 + k1) :: .int 0 :: .ref (g.2.1 + k0) :: rest) N I L R := by
  refine x_copy hd hl h1 h2 h3 hk0 hk1 ht0 ht1 hu hw hf (x_sameV (I' := zrow I k1 (I k0)) (fun k _ j hv => ?_) kk)
  by_cases e : k = k1
  · subst e
    simp only [zvis, ht1] at hv
    simp [zrow, hv]
  · simp [zrow, e]
end ZB2
