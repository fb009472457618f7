section
-- ===== PART A: goes FIRST, ahead of the names: the tables' words, and 'selects' of the private methods out of them =====
/-- a private method of a class that the tables say can be made, by its rows of tables_1 -/
def lw_okq (q : MethodName × Nat) : Prop := (q.1.cls ≠ "java/lang/invoke/MethodHandle" ∧ q.1.cls ≠ "java/lang/invoke/VarHandle") ∧ Cond.instantiable q.1.cls q.2 ∈ tables_1 ∧ Cond.privateMethod q.1 ∈ tables_1 ∧ Cond.instanceMethod q.1 ∈ tables_1
theorem lw_p0 : lw_okq (⟨"MireWrestle$Pad", "signAt", "(I)I"⟩, 2) := ⟨⟨by decide +kernel, by decide +kernel⟩, List.mem_of_getElem? (i := 86) (by decide +kernel), List.mem_of_getElem? (i := 322) (by decide +kernel), List.mem_of_getElem? (i := 323) (by decide +kernel)⟩
theorem lw_p1 : lw_okq (⟨"MireWrestle$Days", "begin", "(LMireWrestle$Mire;)V"⟩, 7) := ⟨⟨by decide +kernel, by decide +kernel⟩, List.mem_of_getElem? (i := 101) (by decide +kernel), List.mem_of_getElem? (i := 341) (by decide +kernel), List.mem_of_getElem? (i := 342) (by decide +kernel)⟩
theorem lw_p2 : lw_okq (⟨"MireWrestle$Mire", "takeHold", "(II)I"⟩, 13) := ⟨⟨by decide +kernel, by decide +kernel⟩, List.mem_of_getElem? (i := 23) (by decide +kernel), List.mem_of_getElem? (i := 370) (by decide +kernel), List.mem_of_getElem? (i := 371) (by decide +kernel)⟩
theorem lw_p3 : lw_okq (⟨"MireWrestle$Mire", "join", "(II)I"⟩, 13) := ⟨⟨by decide +kernel, by decide +kernel⟩, List.mem_of_getElem? (i := 23) (by decide +kernel), List.mem_of_getElem? (i := 386) (by decide +kernel), List.mem_of_getElem? (i := 387) (by decide +kernel)⟩
theorem lw_p4 : lw_okq (⟨"MireWrestle$Mire", "sitBy", "(I)I"⟩, 13) := ⟨⟨by decide +kernel, by decide +kernel⟩, List.mem_of_getElem? (i := 23) (by decide +kernel), List.mem_of_getElem? (i := 391) (by decide +kernel), List.mem_of_getElem? (i := 392) (by decide +kernel)⟩
theorem lw_p5 : lw_okq (⟨"MireWrestle$Mire", "rest", "()I"⟩, 13) := ⟨⟨by decide +kernel, by decide +kernel⟩, List.mem_of_getElem? (i := 23) (by decide +kernel), List.mem_of_getElem? (i := 395) (by decide +kernel), List.mem_of_getElem? (i := 396) (by decide +kernel)⟩
theorem lw_p6 : lw_okq (⟨"MireWrestle$Mire", "passHour", "()I"⟩, 13) := ⟨⟨by decide +kernel, by decide +kernel⟩, List.mem_of_getElem? (i := 23) (by decide +kernel), List.mem_of_getElem? (i := 399) (by decide +kernel), List.mem_of_getElem? (i := 400) (by decide +kernel)⟩
theorem lw_p7 : lw_okq (⟨"MireWrestle$Days", "noteDown", "()V"⟩, 7) := ⟨⟨by decide +kernel, by decide +kernel⟩, List.mem_of_getElem? (i := 101) (by decide +kernel), List.mem_of_getElem? (i := 403) (by decide +kernel), List.mem_of_getElem? (i := 404) (by decide +kernel)⟩
theorem lw_p8 : lw_okq (⟨"MireWrestle", "tryDays", "()Z"⟩, 8) := ⟨⟨by decide +kernel, by decide +kernel⟩, List.mem_of_getElem? (i := 15) (by decide +kernel), List.mem_of_getElem? (i := 412) (by decide +kernel), List.mem_of_getElem? (i := 413) (by decide +kernel)⟩
theorem lw_p9 : lw_okq (⟨"MireWrestle$Prices", "cheapest", "(LMireWrestle$Mire;II)I"⟩, 1) := ⟨⟨by decide +kernel, by decide +kernel⟩, List.mem_of_getElem? (i := 158) (by decide +kernel), List.mem_of_getElem? (i := 448) (by decide +kernel), List.mem_of_getElem? (i := 449) (by decide +kernel)⟩
theorem lw_p10 : lw_okq (⟨"MireWrestle$Orders", "leastOf", "(LMireWrestle$Mire;I)I"⟩, 4) := ⟨⟨by decide +kernel, by decide +kernel⟩, List.mem_of_getElem? (i := 168) (by decide +kernel), List.mem_of_getElem? (i := 469) (by decide +kernel), List.mem_of_getElem? (i := 470) (by decide +kernel)⟩
theorem lw_p11 : lw_okq (⟨"MireWrestle$Orders", "borneIfFirst", "(LMireWrestle$Mire;II)I"⟩, 4) := ⟨⟨by decide +kernel, by decide +kernel⟩, List.mem_of_getElem? (i := 168) (by decide +kernel), List.mem_of_getElem? (i := 475) (by decide +kernel), List.mem_of_getElem? (i := 476) (by decide +kernel)⟩
theorem lw_p12 : lw_okq (⟨"MireWrestle$Game", "settle", "(III)V"⟩, 2) := ⟨⟨by decide +kernel, by decide +kernel⟩, List.mem_of_getElem? (i := 203) (by decide +kernel), List.mem_of_getElem? (i := 576) (by decide +kernel), List.mem_of_getElem? (i := 577) (by decide +kernel)⟩
theorem lw_p13 : lw_okq (⟨"MireWrestle$Game", "leastSettled", "(III)I"⟩, 2) := ⟨⟨by decide +kernel, by decide +kernel⟩, List.mem_of_getElem? (i := 203) (by decide +kernel), List.mem_of_getElem? (i := 580) (by decide +kernel), List.mem_of_getElem? (i := 581) (by decide +kernel)⟩
theorem lw_p14 : lw_okq (⟨"MireWrestle$Game", "areAllWon", "(II)Z"⟩, 2) := ⟨⟨by decide +kernel, by decide +kernel⟩, List.mem_of_getElem? (i := 203) (by decide +kernel), List.mem_of_getElem? (i := 585) (by decide +kernel), List.mem_of_getElem? (i := 586) (by decide +kernel)⟩
theorem lw_p15 : lw_okq (⟨"MireWrestle$Days", "draw", "(II)V"⟩, 7) := ⟨⟨by decide +kernel, by decide +kernel⟩, List.mem_of_getElem? (i := 101) (by decide +kernel), List.mem_of_getElem? (i := 616) (by decide +kernel), List.mem_of_getElem? (i := 617) (by decide +kernel)⟩
def lw_privs_1 : List (MethodName × Nat) := [(⟨"MireWrestle$Pad", "signAt", "(I)I"⟩, 2), (⟨"MireWrestle$Days", "begin", "(LMireWrestle$Mire;)V"⟩, 7), (⟨"MireWrestle$Mire", "takeHold", "(II)I"⟩, 13), (⟨"MireWrestle$Mire", "join", "(II)I"⟩, 13), (⟨"MireWrestle$Mire", "sitBy", "(I)I"⟩, 13), (⟨"MireWrestle$Mire", "rest", "()I"⟩, 13), (⟨"MireWrestle$Mire", "passHour", "()I"⟩, 13), (⟨"MireWrestle$Days", "noteDown", "()V"⟩, 7), (⟨"MireWrestle", "tryDays", "()Z"⟩, 8), (⟨"MireWrestle$Prices", "cheapest", "(LMireWrestle$Mire;II)I"⟩, 1), (⟨"MireWrestle$Orders", "leastOf", "(LMireWrestle$Mire;I)I"⟩, 4), (⟨"MireWrestle$Orders", "borneIfFirst", "(LMireWrestle$Mire;II)I"⟩, 4), (⟨"MireWrestle$Game", "settle", "(III)V"⟩, 2), (⟨"MireWrestle$Game", "leastSettled", "(III)I"⟩, 2), (⟨"MireWrestle$Game", "areAllWon", "(II)Z"⟩, 2), (⟨"MireWrestle$Days", "draw", "(II)V"⟩, 7)]
theorem lw_r1 : ∀ q ∈ lw_privs_1, lw_okq q := List.forall_mem_cons.mpr ⟨lw_p0, List.forall_mem_cons.mpr ⟨lw_p1, List.forall_mem_cons.mpr ⟨lw_p2, List.forall_mem_cons.mpr ⟨lw_p3, List.forall_mem_cons.mpr ⟨lw_p4, List.forall_mem_cons.mpr ⟨lw_p5, List.forall_mem_cons.mpr ⟨lw_p6, List.forall_mem_cons.mpr ⟨lw_p7, List.forall_mem_cons.mpr ⟨lw_p8, List.forall_mem_cons.mpr ⟨lw_p9, List.forall_mem_cons.mpr ⟨lw_p10, List.forall_mem_cons.mpr ⟨lw_p11, List.forall_mem_cons.mpr ⟨lw_p12, List.forall_mem_cons.mpr ⟨lw_p13, List.forall_mem_cons.mpr ⟨lw_p14, List.forall_mem_cons.mpr ⟨lw_p15, fun _ h => absurd h List.not_mem_nil⟩⟩⟩⟩⟩⟩⟩⟩⟩⟩⟩⟩⟩⟩⟩⟩
theorem lw_p16 : lw_okq (⟨"MireWrestle", "toldOfGrief", "(II)I"⟩, 8) := ⟨⟨by decide +kernel, by decide +kernel⟩, List.mem_of_getElem? (i := 15) (by decide +kernel), List.mem_of_getElem? (i := 633) (by decide +kernel), List.mem_of_getElem? (i := 634) (by decide +kernel)⟩
theorem lw_p17 : lw_okq (⟨"MireWrestleModel", "faultOf", "()I"⟩, 24) := ⟨⟨by decide +kernel, by decide +kernel⟩, List.mem_of_getElem? (i := 637) (by decide +kernel), List.mem_of_getElem? (i := 755) (by decide +kernel), List.mem_of_getElem? (i := 756) (by decide +kernel)⟩
theorem lw_p18 : lw_okq (⟨"MireWrestleModel", "goDays", "()I"⟩, 24) := ⟨⟨by decide +kernel, by decide +kernel⟩, List.mem_of_getElem? (i := 637) (by decide +kernel), List.mem_of_getElem? (i := 763) (by decide +kernel), List.mem_of_getElem? (i := 764) (by decide +kernel)⟩
theorem lw_p19 : lw_okq (⟨"MireWrestleModel", "asNow", "()V"⟩, 24) := ⟨⟨by decide +kernel, by decide +kernel⟩, List.mem_of_getElem? (i := 637) (by decide +kernel), List.mem_of_getElem? (i := 767) (by decide +kernel), List.mem_of_getElem? (i := 768) (by decide +kernel)⟩
theorem lw_p20 : lw_okq (⟨"MireWrestleModel", "griefAct", "(III)I"⟩, 24) := ⟨⟨by decide +kernel, by decide +kernel⟩, List.mem_of_getElem? (i := 637) (by decide +kernel), List.mem_of_getElem? (i := 771) (by decide +kernel), List.mem_of_getElem? (i := 772) (by decide +kernel)⟩
theorem lw_p21 : lw_okq (⟨"MireWrestleModel", "join", "(II)I"⟩, 24) := ⟨⟨by decide +kernel, by decide +kernel⟩, List.mem_of_getElem? (i := 637) (by decide +kernel), List.mem_of_getElem? (i := 775) (by decide +kernel), List.mem_of_getElem? (i := 776) (by decide +kernel)⟩
theorem lw_p22 : lw_okq (⟨"MireWrestleModel", "stands", "(I)Z"⟩, 24) := ⟨⟨by decide +kernel, by decide +kernel⟩, List.mem_of_getElem? (i := 637) (by decide +kernel), List.mem_of_getElem? (i := 779) (by decide +kernel), List.mem_of_getElem? (i := 780) (by decide +kernel)⟩
theorem lw_p23 : lw_okq (⟨"MireWrestleModel", "sitBy", "(I)I"⟩, 24) := ⟨⟨by decide +kernel, by decide +kernel⟩, List.mem_of_getElem? (i := 637) (by decide +kernel), List.mem_of_getElem? (i := 786) (by decide +kernel), List.mem_of_getElem? (i := 787) (by decide +kernel)⟩
theorem lw_p24 : lw_okq (⟨"MireWrestleModel", "grip", "(II)I"⟩, 24) := ⟨⟨by decide +kernel, by decide +kernel⟩, List.mem_of_getElem? (i := 637) (by decide +kernel), List.mem_of_getElem? (i := 790) (by decide +kernel), List.mem_of_getElem? (i := 791) (by decide +kernel)⟩
theorem lw_p25 : lw_okq (⟨"MireWrestleModel", "rest", "()I"⟩, 24) := ⟨⟨by decide +kernel, by decide +kernel⟩, List.mem_of_getElem? (i := 637) (by decide +kernel), List.mem_of_getElem? (i := 794) (by decide +kernel), List.mem_of_getElem? (i := 795) (by decide +kernel)⟩
theorem lw_p26 : lw_okq (⟨"MireWrestleModel", "endHour", "()I"⟩, 24) := ⟨⟨by decide +kernel, by decide +kernel⟩, List.mem_of_getElem? (i := 637) (by decide +kernel), List.mem_of_getElem? (i := 798) (by decide +kernel), List.mem_of_getElem? (i := 799) (by decide +kernel)⟩
theorem lw_p27 : lw_okq (⟨"MireWrestleModel", "barOfDays", "()I"⟩, 24) := ⟨⟨by decide +kernel, by decide +kernel⟩, List.mem_of_getElem? (i := 637) (by decide +kernel), List.mem_of_getElem? (i := 806) (by decide +kernel), List.mem_of_getElem? (i := 807) (by decide +kernel)⟩
theorem lw_p28 : lw_okq (⟨"MireWrestleModel", "isThere", "(I)Z"⟩, 24) := ⟨⟨by decide +kernel, by decide +kernel⟩, List.mem_of_getElem? (i := 637) (by decide +kernel), List.mem_of_getElem? (i := 814) (by decide +kernel), List.mem_of_getElem? (i := 815) (by decide +kernel)⟩
theorem lw_p29 : lw_okq (⟨"MireWrestleModel", "fitsOf", "(I)I"⟩, 24) := ⟨⟨by decide +kernel, by decide +kernel⟩, List.mem_of_getElem? (i := 637) (by decide +kernel), List.mem_of_getElem? (i := 826) (by decide +kernel), List.mem_of_getElem? (i := 827) (by decide +kernel)⟩
theorem lw_p30 : lw_okq (⟨"MireWrestleModel", "leastOf", "(I)I"⟩, 24) := ⟨⟨by decide +kernel, by decide +kernel⟩, List.mem_of_getElem? (i := 637) (by decide +kernel), List.mem_of_getElem? (i := 834) (by decide +kernel), List.mem_of_getElem? (i := 835) (by decide +kernel)⟩
theorem lw_p31 : lw_okq (⟨"MireWrestleModel", "isFit", "(I)Z"⟩, 24) := ⟨⟨by decide +kernel, by decide +kernel⟩, List.mem_of_getElem? (i := 637) (by decide +kernel), List.mem_of_getElem? (i := 863) (by decide +kernel), List.mem_of_getElem? (i := 864) (by decide +kernel)⟩
def lw_privs_2 : List (MethodName × Nat) := [(⟨"MireWrestle", "toldOfGrief", "(II)I"⟩, 8), (⟨"MireWrestleModel", "faultOf", "()I"⟩, 24), (⟨"MireWrestleModel", "goDays", "()I"⟩, 24), (⟨"MireWrestleModel", "asNow", "()V"⟩, 24), (⟨"MireWrestleModel", "griefAct", "(III)I"⟩, 24), (⟨"MireWrestleModel", "join", "(II)I"⟩, 24), (⟨"MireWrestleModel", "stands", "(I)Z"⟩, 24), (⟨"MireWrestleModel", "sitBy", "(I)I"⟩, 24), (⟨"MireWrestleModel", "grip", "(II)I"⟩, 24), (⟨"MireWrestleModel", "rest", "()I"⟩, 24), (⟨"MireWrestleModel", "endHour", "()I"⟩, 24), (⟨"MireWrestleModel", "barOfDays", "()I"⟩, 24), (⟨"MireWrestleModel", "isThere", "(I)Z"⟩, 24), (⟨"MireWrestleModel", "fitsOf", "(I)I"⟩, 24), (⟨"MireWrestleModel", "leastOf", "(I)I"⟩, 24), (⟨"MireWrestleModel", "isFit", "(I)Z"⟩, 24)]
theorem lw_r2 : ∀ q ∈ lw_privs_2, lw_okq q := List.forall_mem_cons.mpr ⟨lw_p16, List.forall_mem_cons.mpr ⟨lw_p17, List.forall_mem_cons.mpr ⟨lw_p18, List.forall_mem_cons.mpr ⟨lw_p19, List.forall_mem_cons.mpr ⟨lw_p20, List.forall_mem_cons.mpr ⟨lw_p21, List.forall_mem_cons.mpr ⟨lw_p22, List.forall_mem_cons.mpr ⟨lw_p23, List.forall_mem_cons.mpr ⟨lw_p24, List.forall_mem_cons.mpr ⟨lw_p25, List.forall_mem_cons.mpr ⟨lw_p26, List.forall_mem_cons.mpr ⟨lw_p27, List.forall_mem_cons.mpr ⟨lw_p28, List.forall_mem_cons.mpr ⟨lw_p29, List.forall_mem_cons.mpr ⟨lw_p30, List.forall_mem_cons.mpr ⟨lw_p31, fun _ h => absurd h List.not_mem_nil⟩⟩⟩⟩⟩⟩⟩⟩⟩⟩⟩⟩⟩⟩⟩⟩
theorem lw_p32 : lw_okq (⟨"MireWrestleModel", "layMud", "()V"⟩, 24) := ⟨⟨by decide +kernel, by decide +kernel⟩, List.mem_of_getElem? (i := 637) (by decide +kernel), List.mem_of_getElem? (i := 875) (by decide +kernel), List.mem_of_getElem? (i := 876) (by decide +kernel)⟩
def lw_privs_3 : List (MethodName × Nat) := [(⟨"MireWrestleModel", "layMud", "()V"⟩, 24)]
theorem lw_r3 : ∀ q ∈ lw_privs_3, lw_okq q := List.forall_mem_cons.mpr ⟨lw_p32, fun _ h => absurd h List.not_mem_nil⟩
def lw_privs : List (MethodName × Nat) := lw_privs_1 ++ (lw_privs_2 ++ (lw_privs_3))
def lw_tbl : List Cond := k2_sels lw_privs ++ tables_1
theorem lw_privs_ok : ∀ q ∈ lw_privs, lw_okq q := by
  show ∀ q ∈ lw_privs_1 ++ (lw_privs_2 ++ (lw_privs_3)), lw_okq q
  exact List.forall_mem_append.mpr ⟨lw_r1, List.forall_mem_append.mpr ⟨lw_r2, lw_r3⟩⟩
end
section
/-! ===== BEGIN words of one list among another's, by their places ===== -/
theorem goodIn_r {big : List Cond} (ws : List Cond) (ps : List Nat) (hp : ws = ps.filterMap (fun i => big[i]?)) (h : ws.all goodWord = true) : GoodIn big ws := by
  intro w hw
  have h1 := List.all_eq_true.mp h w hw
  rw [hp] at hw
  obtain ⟨i, -, hi⟩ := List.mem_filterMap.mp hw
  have hm : w ∈ big := by first | exact List.mem_of_getElem? hi | exact List.getElem?_mem hi
  exact ⟨hm, good_of_word h1⟩
theorem goodIn_app {big a b : List Cond} (ha : GoodIn big a) (hb : GoodIn big b) : GoodIn big (a ++ b) := fun w h => (List.mem_append.mp h).elim (ha w) (hb w)
theorem goodIn_ca {big a b : List Cond} {c : Cond} (ha : GoodIn big (c :: a)) (hb : GoodIn big b) : GoodIn big (c :: (a ++ b)) := fun w h => (List.mem_cons.mp h).elim (fun e => ha w (List.mem_cons.mpr (Or.inl e))) (fun h => (List.mem_append.mp h).elim (fun h => ha w (List.mem_cons.mpr (Or.inr h))) (hb w))
theorem goodIn_sub {big ws : List Cond} (hm : ∀ w ∈ ws, w ∈ big) (h : ws.all goodWord = true) : GoodIn big ws := fun w hw => ⟨hm w hw, good_of_word (List.all_eq_true.mp h w hw)⟩
/-! ===== END ===== -/

/-! ===== BEGIN printed: names, fields, word lists, decode rows ===== -/
def RX0 : String := "MireWrestle$Act"
def TX0 : u_T := fun k => match k with
  | 0 => ("MireWrestle$Act", "kind", "I", false)
  | 1 => ("MireWrestle$Act", "grief", "I", false)
  | _ => ("MireWrestle$Act", "other", "I", false)
def tyX0 : Nat → FieldType := fun k => match k with
  | 0 => .int
  | 1 => .int
  | _ => .int
abbrev wsX00 : List Cond := u_ws RX0 TX0 3
theorem nmX0 : ∀ a, a < 3 → ∀ b, b < 3 → a ≠ b → (TX0 a).2.1 ≠ (TX0 b).2.1 := by decide +kernel
theorem tyX0_ok : ∀ k, k < 3 → parseFieldDescriptor (TX0 k).2.2.1 = some (tyX0 k) := by decide +kernel
abbrev cX0_init : ByteArray := prog_2_method_1_code
def yX0_init : MethodName := ⟨RX0, "<init>", "()V"⟩
abbrev cX0_become : ByteArray := prog_2_method_2_code
def yX0_become : MethodName := ⟨RX0, "become", "(III)V"⟩
def RX1 : String := "MireWrestle$Days"
def TX1 : u_T := fun k => match k with
  | 0 => ("MireWrestle$Days", "behind", "LMireWrestle$Mire;", true)
  | 1 => ("MireWrestle$Days", "act", "LMireWrestle$Act;", true)
  | 2 => ("MireWrestle$Days", "acts", "I", false)
  | 3 => ("MireWrestle$Days", "why", "I", false)
  | 4 => ("MireWrestle$Days", "down", "I", false)
  | 5 => ("MireWrestle$Days", "firstDownAct", "I", false)
  | _ => ("MireWrestle$Days", "firstDown", "I", false)
def tyX1 : Nat → FieldType := fun k => match k with
  | 0 => .object "MireWrestle$Mire"
  | 1 => .object "MireWrestle$Act"
  | 2 => .int
  | 3 => .int
  | 4 => .int
  | 5 => .int
  | _ => .int
abbrev wsX10 : List Cond := u_ws RX1 TX1 7
theorem nmX1 : ∀ a, a < 7 → ∀ b, b < 7 → a ≠ b → (TX1 a).2.1 ≠ (TX1 b).2.1 := by decide +kernel
theorem tyX1_ok : ∀ k, k < 7 → parseFieldDescriptor (TX1 k).2.2.1 = some (tyX1 k) := by decide +kernel
abbrev cX1_init : ByteArray := prog_3_method_1_code
def yX1_init : MethodName := ⟨RX1, "<init>", "()V"⟩
abbrev cX1_run : ByteArray := prog_3_method_2_code
def yX1_run : MethodName := ⟨RX1, "run", "(LMireWrestle$Pad;LMireWrestle$Mire;)V"⟩
abbrev cX1_begin : ByteArray := prog_3_method_3_code
def yX1_begin : MethodName := ⟨RX1, "begin", "(LMireWrestle$Mire;)V"⟩
abbrev cX1_noteDown : ByteArray := prog_3_method_4_code
def yX1_noteDown : MethodName := ⟨RX1, "noteDown", "()V"⟩
abbrev cX1_runYear : ByteArray := prog_3_method_5_code
def yX1_runYear : MethodName := ⟨RX1, "runYear", "(IILMireWrestle$Mire;)V"⟩
abbrev cX1_draw : ByteArray := prog_3_method_6_code
def yX1_draw : MethodName := ⟨RX1, "draw", "(II)V"⟩
def RX2 : String := "MireWrestle$Game"
def TX2 : u_T := fun k => match k with
  | 0 => ("MireWrestle$Game", "who", "[I", true)
  | _ => ("MireWrestle$Game", "moves", "[I", true)
def tyX2 : Nat → FieldType := fun k => match k with
  | 0 => .array .int
  | _ => .array .int
abbrev wsX20 : List Cond := u_ws RX2 TX2 2
theorem nmX2 : ∀ a, a < 2 → ∀ b, b < 2 → a ≠ b → (TX2 a).2.1 ≠ (TX2 b).2.1 := by decide +kernel
theorem tyX2_ok : ∀ k, k < 2 → parseFieldDescriptor (TX2 k).2.2.1 = some (tyX2 k) := by decide +kernel
abbrev cX2_init : ByteArray := prog_4_method_1_code
def yX2_init : MethodName := ⟨RX2, "<init>", "()V"⟩
abbrev cX2_solve : ByteArray := prog_4_method_2_code
def yX2_solve : MethodName := ⟨RX2, "solve", "([I)V"⟩
abbrev cX2_settle : ByteArray := prog_4_method_3_code
def yX2_settle : MethodName := ⟨RX2, "settle", "(III)V"⟩
abbrev cX2_leastSettled : ByteArray := prog_4_method_4_code
def yX2_leastSettled : MethodName := ⟨RX2, "leastSettled", "(III)I"⟩
abbrev cX2_areAllWon : ByteArray := prog_4_method_5_code
def yX2_areAllWon : MethodName := ⟨RX2, "areAllWon", "(II)Z"⟩
abbrev cX2_firstMove : ByteArray := prog_4_method_6_code
def yX2_firstMove : MethodName := ⟨RX2, "firstMove", "([II)I"⟩
def RX3 : String := "MireWrestle$Mire"
def TX3 : u_T := fun k => match k with
  | 0 => ("MireWrestle$Mire", "strength", "[I", true)
  | 1 => ("MireWrestle$Mire", "marks", "[I", true)
  | 2 => ("MireWrestle$Mire", "grips", "[I", true)
  | 3 => ("MireWrestle$Mire", "force", "[I", true)
  | 4 => ("MireWrestle$Mire", "takes", "[I", true)
  | 5 => ("MireWrestle$Mire", "first", "[I", true)
  | 6 => ("MireWrestle$Mire", "last", "[I", true)
  | 7 => ("MireWrestle$Mire", "leads", "[I", true)
  | 8 => ("MireWrestle$Mire", "sightHold", "[I", true)
  | 9 => ("MireWrestle$Mire", "sightFits", "[Z", true)
  | 10 => ("MireWrestle$Mire", "sights", "I", false)
  | 11 => ("MireWrestle$Mire", "breath", "I", false)
  | _ => ("MireWrestle$Mire", "hour", "I", false)
def tyX3 : Nat → FieldType := fun k => match k with
  | 0 => .array .int
  | 1 => .array .int
  | 2 => .array .int
  | 3 => .array .int
  | 4 => .array .int
  | 5 => .array .int
  | 6 => .array .int
  | 7 => .array .int
  | 8 => .array .int
  | 9 => .array .boolean
  | 10 => .int
  | 11 => .int
  | _ => .int
abbrev wsX30 : List Cond := u_ws RX3 TX3 13
theorem nmX3 : ∀ a, a < 13 → ∀ b, b < 13 → a ≠ b → (TX3 a).2.1 ≠ (TX3 b).2.1 := by decide +kernel
theorem tyX3_ok : ∀ k, k < 13 → parseFieldDescriptor (TX3 k).2.2.1 = some (tyX3 k) := by decide +kernel
abbrev cX3_init : ByteArray := prog_5_method_1_code
def yX3_init : MethodName := ⟨RX3, "<init>", "()V"⟩
abbrev cX3_become : ByteArray := prog_5_method_2_code
def yX3_become : MethodName := ⟨RX3, "become", "(LMireWrestle$Mire;)V"⟩
abbrev cX3_isThere : ByteArray := prog_5_method_3_code
def yX3_isThere : MethodName := ⟨RX3, "isThere", "(I)Z"⟩
abbrev cX3_griefsThere : ByteArray := prog_5_method_4_code
def yX3_griefsThere : MethodName := ⟨RX3, "griefsThere", "()I"⟩
abbrev cX3_griefPart : ByteArray := prog_5_method_5_code
def yX3_griefPart : MethodName := ⟨RX3, "griefPart", "(II)I"⟩
abbrev cX3_holdAsNumber : ByteArray := prog_5_method_6_code
def yX3_holdAsNumber : MethodName := ⟨RX3, "holdAsNumber", "(I)I"⟩
abbrev cX3_coatAsNumber : ByteArray := prog_5_method_7_code
def yX3_coatAsNumber : MethodName := ⟨RX3, "coatAsNumber", "(I)I"⟩
abbrev cX3_countMoves : ByteArray := prog_5_method_8_code
def yX3_countMoves : MethodName := ⟨RX3, "countMoves", "()I"⟩
abbrev cX3_holdsThatFit : ByteArray := prog_5_method_9_code
def yX3_holdsThatFit : MethodName := ⟨RX3, "holdsThatFit", "(I)I"⟩
abbrev cX3_attempt : ByteArray := prog_5_method_10_code
def yX3_attempt : MethodName := ⟨RX3, "attempt", "(LMireWrestle$Act;)I"⟩
abbrev cX3_takeHold : ByteArray := prog_5_method_11_code
def yX3_takeHold : MethodName := ⟨RX3, "takeHold", "(II)I"⟩
abbrev cX3_join : ByteArray := prog_5_method_12_code
def yX3_join : MethodName := ⟨RX3, "join", "(II)I"⟩
abbrev cX3_sitBy : ByteArray := prog_5_method_13_code
def yX3_sitBy : MethodName := ⟨RX3, "sitBy", "(I)I"⟩
abbrev cX3_rest : ByteArray := prog_5_method_14_code
def yX3_rest : MethodName := ⟨RX3, "rest", "()I"⟩
abbrev cX3_passHour : ByteArray := prog_5_method_15_code
def yX3_passHour : MethodName := ⟨RX3, "passHour", "()I"⟩
abbrev cX3_strengthOf : ByteArray := prog_5_method_16_code
def yX3_strengthOf : MethodName := ⟨RX3, "strengthOf", "(I)I"⟩
abbrev cX3_marksOf : ByteArray := prog_5_method_17_code
def yX3_marksOf : MethodName := ⟨RX3, "marksOf", "(I)I"⟩
abbrev cX3_leastSetWith : ByteArray := prog_5_method_18_code
def yX3_leastSetWith : MethodName := ⟨RX3, "leastSetWith", "(I)I"⟩
abbrev cX3_hoursOf : ByteArray := prog_5_method_19_code
def yX3_hoursOf : MethodName := ⟨RX3, "hoursOf", "(I)I"⟩
abbrev cX3_fewestCoatsFor : ByteArray := prog_5_method_20_code
def yX3_fewestCoatsFor : MethodName := ⟨RX3, "fewestCoatsFor", "(I)I"⟩
abbrev cX3_addSight : ByteArray := prog_5_method_21_code
def yX3_addSight : MethodName := ⟨RX3, "addSight", "(IZ)Z"⟩
abbrev cX3_isAsSeen : ByteArray := prog_5_method_22_code
def yX3_isAsSeen : MethodName := ⟨RX3, "isAsSeen", "(I)Z"⟩
def RX4 : String := "MireWrestle$Orders"
def TX4 : u_T := fun k => match k with
  | 0 => ("MireWrestle$Orders", "prices", "LMireWrestle$Prices;", true)
  | 1 => ("MireWrestle$Orders", "hours", "[I", true)
  | 2 => ("MireWrestle$Orders", "borne", "[I", true)
  | _ => ("MireWrestle$Orders", "taken", "I", false)
def tyX4 : Nat → FieldType := fun k => match k with
  | 0 => .object "MireWrestle$Prices"
  | 1 => .array .int
  | 2 => .array .int
  | _ => .int
abbrev wsX40 : List Cond := u_ws RX4 TX4 4
theorem nmX4 : ∀ a, a < 4 → ∀ b, b < 4 → a ≠ b → (TX4 a).2.1 ≠ (TX4 b).2.1 := by decide +kernel
theorem tyX4_ok : ∀ k, k < 4 → parseFieldDescriptor (TX4 k).2.2.1 = some (tyX4 k) := by decide +kernel
abbrev cX4_init : ByteArray := prog_6_method_1_code
def yX4_init : MethodName := ⟨RX4, "<init>", "()V"⟩
abbrev cX4_work : ByteArray := prog_6_method_2_code
def yX4_work : MethodName := ⟨RX4, "work", "(LMireWrestle$Mire;)V"⟩
abbrev cX4_leastOf : ByteArray := prog_6_method_3_code
def yX4_leastOf : MethodName := ⟨RX4, "leastOf", "(LMireWrestle$Mire;I)I"⟩
abbrev cX4_borneIfFirst : ByteArray := prog_6_method_4_code
def yX4_borneIfFirst : MethodName := ⟨RX4, "borneIfFirst", "(LMireWrestle$Mire;II)I"⟩
abbrev cX4_leastBorne : ByteArray := prog_6_method_5_code
def yX4_leastBorne : MethodName := ⟨RX4, "leastBorne", "()I"⟩
abbrev cX4_firstTaken : ByteArray := prog_6_method_6_code
def yX4_firstTaken : MethodName := ⟨RX4, "firstTaken", "(LMireWrestle$Mire;)I"⟩
def RX5 : String := "MireWrestle$Pad"
def TX5 : u_T := fun k => match k with
  | 0 => ("MireWrestle$Pad", "signs", "[I", true)
  | _ => ("MireWrestle$Pad", "count", "I", false)
def tyX5 : Nat → FieldType := fun k => match k with
  | 0 => .array .int
  | _ => .int
abbrev wsX50 : List Cond := u_ws RX5 TX5 2
theorem nmX5 : ∀ a, a < 2 → ∀ b, b < 2 → a ≠ b → (TX5 a).2.1 ≠ (TX5 b).2.1 := by decide +kernel
theorem tyX5_ok : ∀ k, k < 2 → parseFieldDescriptor (TX5 k).2.2.1 = some (tyX5 k) := by decide +kernel
abbrev cX5_init : ByteArray := prog_7_method_1_code
def yX5_init : MethodName := ⟨RX5, "<init>", "()V"⟩
abbrev cX5_write : ByteArray := prog_7_method_2_code
def yX5_write : MethodName := ⟨RX5, "write", "(I)Z"⟩
abbrev cX5_findFault : ByteArray := prog_7_method_3_code
def yX5_findFault : MethodName := ⟨RX5, "findFault", "()I"⟩
abbrev cX5_awaitedAfter : ByteArray := prog_7_method_4_code
def yX5_awaitedAfter : MethodName := ⟨RX5, "awaitedAfter", "(II)I"⟩
abbrev cX5_read : ByteArray := prog_7_method_5_code
def yX5_read : MethodName := ⟨RX5, "read", "(ILMireWrestle$Act;)I"⟩
abbrev cX5_signAt : ByteArray := prog_7_method_6_code
def yX5_signAt : MethodName := ⟨RX5, "signAt", "(I)I"⟩
abbrev cX5_isLetter : ByteArray := prog_7_method_7_code
def yX5_isLetter : MethodName := ⟨RX5, "isLetter", "(I)Z"⟩
def RX6 : String := "MireWrestle$Prices"
def TX6 : u_T := fun k => match k with
  | _ => ("MireWrestle$Prices", "price", "[I", true)
def tyX6 : Nat → FieldType := fun k => match k with
  | _ => .array .int
abbrev wsX60 : List Cond := u_ws RX6 TX6 1
theorem nmX6 : ∀ a, a < 1 → ∀ b, b < 1 → a ≠ b → (TX6 a).2.1 ≠ (TX6 b).2.1 := by decide +kernel
theorem tyX6_ok : ∀ k, k < 1 → parseFieldDescriptor (TX6 k).2.2.1 = some (tyX6 k) := by decide +kernel
abbrev cX6_init : ByteArray := prog_8_method_1_code
def yX6_init : MethodName := ⟨RX6, "<init>", "()V"⟩
abbrev cX6_priceOf : ByteArray := prog_8_method_2_code
def yX6_priceOf : MethodName := ⟨RX6, "priceOf", "(LMireWrestle$Mire;I)I"⟩
abbrev cX6_cheapest : ByteArray := prog_8_method_3_code
def yX6_cheapest : MethodName := ⟨RX6, "cheapest", "(LMireWrestle$Mire;II)I"⟩
def RX7 : String := "MireWrestle$Shapes"
def TX7 : u_T := fun k => match k with
  | 0 => ("MireWrestle$Shapes", "left", "[I", true)
  | _ => ("MireWrestle$Shapes", "count", "I", false)
def tyX7 : Nat → FieldType := fun k => match k with
  | 0 => .array .int
  | _ => .int
abbrev wsX70 : List Cond := u_ws RX7 TX7 2
theorem nmX7 : ∀ a, a < 2 → ∀ b, b < 2 → a ≠ b → (TX7 a).2.1 ≠ (TX7 b).2.1 := by decide +kernel
theorem tyX7_ok : ∀ k, k < 2 → parseFieldDescriptor (TX7 k).2.2.1 = some (tyX7 k) := by decide +kernel
abbrev cX7_init : ByteArray := prog_9_method_1_code
def yX7_init : MethodName := ⟨RX7, "<init>", "()V"⟩
abbrev cX7_find : ByteArray := prog_9_method_2_code
def yX7_find : MethodName := ⟨RX7, "find", "(LMireWrestle$Mire;)V"⟩
abbrev cX7_shapeAt : ByteArray := prog_9_method_3_code
def yX7_shapeAt : MethodName := ⟨RX7, "shapeAt", "(I)I"⟩
abbrev cX7_holdToTry : ByteArray := prog_9_method_4_code
def yX7_holdToTry : MethodName := ⟨RX7, "holdToTry", "(LMireWrestle$Mire;)I"⟩
abbrev cX7_mostLeftBy : ByteArray := prog_9_method_5_code
def yX7_mostLeftBy : MethodName := ⟨RX7, "mostLeftBy", "(I)I"⟩
def RX8 : String := "MireWrestle"
def TX8 : u_T := fun k => match k with
  | 0 => ("MireWrestle", "mire", "LMireWrestle$Mire;", true)
  | 1 => ("MireWrestle", "pad", "LMireWrestle$Pad;", true)
  | 2 => ("MireWrestle", "days", "LMireWrestle$Days;", true)
  | 3 => ("MireWrestle", "prices", "LMireWrestle$Prices;", true)
  | 4 => ("MireWrestle", "orders", "LMireWrestle$Orders;", true)
  | 5 => ("MireWrestle", "shapes", "LMireWrestle$Shapes;", true)
  | 6 => ("MireWrestle", "game", "LMireWrestle$Game;", true)
  | _ => ("MireWrestle", "images", "[LMireWrestle$Mire;", true)
def tyX8 : Nat → FieldType := fun k => match k with
  | 0 => .object "MireWrestle$Mire"
  | 1 => .object "MireWrestle$Pad"
  | 2 => .object "MireWrestle$Days"
  | 3 => .object "MireWrestle$Prices"
  | 4 => .object "MireWrestle$Orders"
  | 5 => .object "MireWrestle$Shapes"
  | 6 => .object "MireWrestle$Game"
  | _ => .array (.object "MireWrestle$Mire")
abbrev wsX80 : List Cond := u_ws RX8 TX8 8
theorem nmX8 : ∀ a, a < 8 → ∀ b, b < 8 → a ≠ b → (TX8 a).2.1 ≠ (TX8 b).2.1 := by decide +kernel
theorem tyX8_ok : ∀ k, k < 8 → parseFieldDescriptor (TX8 k).2.2.1 = some (tyX8 k) := by decide +kernel
abbrev cX8_init : ByteArray := prog_1_method_1_code
def yX8_init : MethodName := ⟨RX8, "<init>", "()V"⟩
abbrev cX8_grief : ByteArray := prog_1_method_2_code
def yX8_grief : MethodName := ⟨RX8, "grief", "(III)I"⟩
abbrev cX8_hold : ByteArray := prog_1_method_3_code
def yX8_hold : MethodName := ⟨RX8, "hold", "(IIII)I"⟩
abbrev cX8_breath : ByteArray := prog_1_method_4_code
def yX8_breath : MethodName := ⟨RX8, "breath", "(I)I"⟩
abbrev cX8_coat : ByteArray := prog_1_method_5_code
def yX8_coat : MethodName := ⟨RX8, "coat", "(III)I"⟩
abbrev cX8_move : ByteArray := prog_1_method_6_code
def yX8_move : MethodName := ⟨RX8, "move", "(IIZ)I"⟩
abbrev cX8_say : ByteArray := prog_1_method_7_code
def yX8_say : MethodName := ⟨RX8, "say", "(I)I"⟩
abbrev cX8_wipe : ByteArray := prog_1_method_8_code
def yX8_wipe : MethodName := ⟨RX8, "wipe", "()I"⟩
abbrev cX8_fault : ByteArray := prog_1_method_9_code
def yX8_fault : MethodName := ⟨RX8, "fault", "()I"⟩
abbrev cX8_judge : ByteArray := prog_1_method_10_code
def yX8_judge : MethodName := ⟨RX8, "judge", "(I)I"⟩
abbrev cX8_done : ByteArray := prog_1_method_11_code
def yX8_done : MethodName := ⟨RX8, "done", "()I"⟩
abbrev cX8_behind : ByteArray := prog_1_method_12_code
def yX8_behind : MethodName := ⟨RX8, "behind", "(II)I"⟩
abbrev cX8_then : ByteArray := prog_1_method_13_code
def yX8_then : MethodName := ⟨RX8, "then", "(I)I"⟩
abbrev cX8_fitting : ByteArray := prog_1_method_14_code
def yX8_fitting : MethodName := ⟨RX8, "fitting", "(I)I"⟩
abbrev cX8_least : ByteArray := prog_1_method_15_code
def yX8_least : MethodName := ⟨RX8, "least", "(II)I"⟩
abbrev cX8_order : ByteArray := prog_1_method_16_code
def yX8_order : MethodName := ⟨RX8, "order", "(I)I"⟩
abbrev cX8_make : ByteArray := prog_1_method_17_code
def yX8_make : MethodName := ⟨RX8, "make", "(II)I"⟩
abbrev cX8_ring : ByteArray := prog_1_method_18_code
def yX8_ring : MethodName := ⟨RX8, "ring", "(III)I"⟩
abbrev cX8_seen : ByteArray := prog_1_method_19_code
def yX8_seen : MethodName := ⟨RX8, "seen", "(IZ)I"⟩
abbrev cX8_forget : ByteArray := prog_1_method_20_code
def yX8_forget : MethodName := ⟨RX8, "forget", "()I"⟩
abbrev cX8_shape : ByteArray := prog_1_method_21_code
def yX8_shape : MethodName := ⟨RX8, "shape", "(I)I"⟩
abbrev cX8_ask : ByteArray := prog_1_method_22_code
def yX8_ask : MethodName := ⟨RX8, "ask", "(I)I"⟩
abbrev cX8_play : ByteArray := prog_1_method_23_code
def yX8_play : MethodName := ⟨RX8, "play", "(II)I"⟩
abbrev cX8_themselves : ByteArray := prog_1_method_24_code
def yX8_themselves : MethodName := ⟨RX8, "themselves", "(IIII)J"⟩
abbrev cX8_year : ByteArray := prog_1_method_25_code
def yX8_year : MethodName := ⟨RX8, "year", "(III)I"⟩
abbrev cX8_image : ByteArray := prog_1_method_26_code
def yX8_image : MethodName := ⟨RX8, "image", "(I)I"⟩
abbrev cX8_restore : ByteArray := prog_1_method_27_code
def yX8_restore : MethodName := ⟨RX8, "restore", "(I)I"⟩
abbrev cX8_told : ByteArray := prog_1_method_28_code
def yX8_told : MethodName := ⟨RX8, "told", "(I)I"⟩
abbrev cX8_toldOfGrief : ByteArray := prog_1_method_29_code
def yX8_toldOfGrief : MethodName := ⟨RX8, "toldOfGrief", "(II)I"⟩
abbrev cX8_tryDays : ByteArray := prog_1_method_30_code
def yX8_tryDays : MethodName := ⟨RX8, "tryDays", "()Z"⟩
abbrev cX8_isFrom : ByteArray := prog_1_method_31_code
def yX8_isFrom : MethodName := ⟨RX8, "isFrom", "(III)Z"⟩
abbrev cX8_isHold : ByteArray := prog_1_method_32_code
def yX8_isHold : MethodName := ⟨RX8, "isHold", "(I)Z"⟩
abbrev cX8_isState : ByteArray := prog_1_method_33_code
def yX8_isState : MethodName := ⟨RX8, "isState", "(I)Z"⟩
abbrev cX8_isSetOfMarks : ByteArray := prog_1_method_34_code
def yX8_isSetOfMarks : MethodName := ⟨RX8, "isSetOfMarks", "(I)Z"⟩
abbrev cX8_areHours : ByteArray := prog_1_method_35_code
def yX8_areHours : MethodName := ⟨RX8, "areHours", "(II)Z"⟩
abbrev cX8_isIn : ByteArray := prog_1_method_36_code
def yX8_isIn : MethodName := ⟨RX8, "isIn", "(II)Z"⟩
abbrev cX8_isWithin : ByteArray := prog_1_method_37_code
def yX8_isWithin : MethodName := ⟨RX8, "isWithin", "(II)Z"⟩
abbrev cX8_hoursFrom : ByteArray := prog_1_method_38_code
def yX8_hoursFrom : MethodName := ⟨RX8, "hoursFrom", "(II)I"⟩
abbrev cX8_choose : ByteArray := prog_1_method_39_code
def yX8_choose : MethodName := ⟨RX8, "choose", "(II)J"⟩
abbrev cX8_power : ByteArray := prog_1_method_40_code
def yX8_power : MethodName := ⟨RX8, "power", "(JI)J"⟩
abbrev cX8_copyRow : ByteArray := prog_1_method_41_code
def yX8_copyRow : MethodName := ⟨RX8, "copyRow", "([I[I)V"⟩
def RX9 : String := "MireWrestleModel"
def TX9 : u_T := fun k => match k with
  | 0 => ("MireWrestleModel", "book", "[I", true)
  | 1 => ("MireWrestleModel", "now", "[I", true)
  | 2 => ("MireWrestleModel", "grips", "[I", true)
  | 3 => ("MireWrestleModel", "force", "[I", true)
  | 4 => ("MireWrestleModel", "takes", "[I", true)
  | 5 => ("MireWrestleModel", "coats", "[I", true)
  | 6 => ("MireWrestleModel", "moves", "[I", true)
  | 7 => ("MireWrestleModel", "sights", "I", false)
  | 8 => ("MireWrestleModel", "sight", "[I", true)
  | 9 => ("MireWrestleModel", "signs", "I", false)
  | 10 => ("MireWrestleModel", "pad", "[I", true)
  | 11 => ("MireWrestleModel", "downMany", "I", false)
  | 12 => ("MireWrestleModel", "downAt", "I", false)
  | 13 => ("MireWrestleModel", "downWhich", "I", false)
  | 14 => ("MireWrestleModel", "reason", "I", false)
  | 15 => ("MireWrestleModel", "acts", "I", false)
  | 16 => ("MireWrestleModel", "cost", "[I", true)
  | 17 => ("MireWrestleModel", "hours", "[I", true)
  | 18 => ("MireWrestleModel", "borne", "[I", true)
  | 19 => ("MireWrestleModel", "who", "[I", true)
  | 20 => ("MireWrestleModel", "often", "[I", true)
  | 21 => ("MireWrestleModel", "ways", "[J", true)
  | 22 => ("MireWrestleModel", "image", "[I", true)
  | _ => ("MireWrestleModel", "isKept", "[Z", true)
def tyX9 : Nat → FieldType := fun k => match k with
  | 0 => .array .int
  | 1 => .array .int
  | 2 => .array .int
  | 3 => .array .int
  | 4 => .array .int
  | 5 => .array .int
  | 6 => .array .int
  | 7 => .int
  | 8 => .array .int
  | 9 => .int
  | 10 => .array .int
  | 11 => .int
  | 12 => .int
  | 13 => .int
  | 14 => .int
  | 15 => .int
  | 16 => .array .int
  | 17 => .array .int
  | 18 => .array .int
  | 19 => .array .int
  | 20 => .array .int
  | 21 => .array .long
  | 22 => .array .int
  | _ => .array .boolean
abbrev wsX90 : List Cond := u_ws RX9 TX9 24
theorem nmX9 : ∀ a, a < 24 → ∀ b, b < 24 → a ≠ b → (TX9 a).2.1 ≠ (TX9 b).2.1 := by decide +kernel
theorem tyX9_ok : ∀ k, k < 24 → parseFieldDescriptor (TX9 k).2.2.1 = some (tyX9 k) := by decide +kernel
abbrev cX9_init : ByteArray := prog_11_method_1_code
def yX9_init : MethodName := ⟨RX9, "<init>", "()V"⟩
abbrev cX9_in : ByteArray := prog_11_method_2_code
def yX9_in : MethodName := ⟨RX9, "in", "(III)Z"⟩
abbrev cX9_has : ByteArray := prog_11_method_3_code
def yX9_has : MethodName := ⟨RX9, "has", "(II)Z"⟩
abbrev cX9_bits : ByteArray := prog_11_method_4_code
def yX9_bits : MethodName := ⟨RX9, "bits", "(I)I"⟩
abbrev cX9_isThere : ByteArray := prog_11_method_5_code
def yX9_isThere : MethodName := ⟨RX9, "isThere", "(I)Z"⟩
abbrev cX9_grief : ByteArray := prog_11_method_6_code
def yX9_grief : MethodName := ⟨RX9, "grief", "(III)I"⟩
abbrev cX9_hold : ByteArray := prog_11_method_7_code
def yX9_hold : MethodName := ⟨RX9, "hold", "(IIII)I"⟩
abbrev cX9_breath : ByteArray := prog_11_method_8_code
def yX9_breath : MethodName := ⟨RX9, "breath", "(I)I"⟩
abbrev cX9_coat : ByteArray := prog_11_method_9_code
def yX9_coat : MethodName := ⟨RX9, "coat", "(III)I"⟩
abbrev cX9_move : ByteArray := prog_11_method_10_code
def yX9_move : MethodName := ⟨RX9, "move", "(IIZ)I"⟩
abbrev cX9_say : ByteArray := prog_11_method_11_code
def yX9_say : MethodName := ⟨RX9, "say", "(I)I"⟩
abbrev cX9_wipe : ByteArray := prog_11_method_12_code
def yX9_wipe : MethodName := ⟨RX9, "wipe", "()I"⟩
abbrev cX9_faultOf : ByteArray := prog_11_method_13_code
def yX9_faultOf : MethodName := ⟨RX9, "faultOf", "()I"⟩
abbrev cX9_fault : ByteArray := prog_11_method_14_code
def yX9_fault : MethodName := ⟨RX9, "fault", "()I"⟩
abbrev cX9_asNow : ByteArray := prog_11_method_15_code
def yX9_asNow : MethodName := ⟨RX9, "asNow", "()V"⟩
abbrev cX9_stands : ByteArray := prog_11_method_16_code
def yX9_stands : MethodName := ⟨RX9, "stands", "(I)Z"⟩
abbrev cX9_grip : ByteArray := prog_11_method_17_code
def yX9_grip : MethodName := ⟨RX9, "grip", "(II)I"⟩
abbrev cX9_join : ByteArray := prog_11_method_18_code
def yX9_join : MethodName := ⟨RX9, "join", "(II)I"⟩
abbrev cX9_sitBy : ByteArray := prog_11_method_19_code
def yX9_sitBy : MethodName := ⟨RX9, "sitBy", "(I)I"⟩
abbrev cX9_rest : ByteArray := prog_11_method_20_code
def yX9_rest : MethodName := ⟨RX9, "rest", "()I"⟩
abbrev cX9_endHour : ByteArray := prog_11_method_21_code
def yX9_endHour : MethodName := ⟨RX9, "endHour", "()I"⟩
abbrev cX9_griefAct : ByteArray := prog_11_method_22_code
def yX9_griefAct : MethodName := ⟨RX9, "griefAct", "(III)I"⟩
abbrev cX9_goDays : ByteArray := prog_11_method_23_code
def yX9_goDays : MethodName := ⟨RX9, "goDays", "()I"⟩
abbrev cX9_judge : ByteArray := prog_11_method_24_code
def yX9_judge : MethodName := ⟨RX9, "judge", "(I)I"⟩
abbrev cX9_barOfDays : ByteArray := prog_11_method_25_code
def yX9_barOfDays : MethodName := ⟨RX9, "barOfDays", "()I"⟩
abbrev cX9_done : ByteArray := prog_11_method_26_code
def yX9_done : MethodName := ⟨RX9, "done", "()I"⟩
abbrev cX9_behind : ByteArray := prog_11_method_27_code
def yX9_behind : MethodName := ⟨RX9, "behind", "(II)I"⟩
abbrev cX9_then : ByteArray := prog_11_method_28_code
def yX9_then : MethodName := ⟨RX9, "then", "(I)I"⟩
abbrev cX9_fitsOf : ByteArray := prog_11_method_29_code
def yX9_fitsOf : MethodName := ⟨RX9, "fitsOf", "(I)I"⟩
abbrev cX9_fitting : ByteArray := prog_11_method_30_code
def yX9_fitting : MethodName := ⟨RX9, "fitting", "(I)I"⟩
abbrev cX9_leastOf : ByteArray := prog_11_method_31_code
def yX9_leastOf : MethodName := ⟨RX9, "leastOf", "(I)I"⟩
abbrev cX9_least : ByteArray := prog_11_method_32_code
def yX9_least : MethodName := ⟨RX9, "least", "(II)I"⟩
abbrev cX9_order : ByteArray := prog_11_method_33_code
def yX9_order : MethodName := ⟨RX9, "order", "(I)I"⟩
abbrev cX9_make : ByteArray := prog_11_method_34_code
def yX9_make : MethodName := ⟨RX9, "make", "(II)I"⟩
abbrev cX9_ring : ByteArray := prog_11_method_35_code
def yX9_ring : MethodName := ⟨RX9, "ring", "(III)I"⟩
abbrev cX9_seen : ByteArray := prog_11_method_36_code
def yX9_seen : MethodName := ⟨RX9, "seen", "(IZ)I"⟩
abbrev cX9_forget : ByteArray := prog_11_method_37_code
def yX9_forget : MethodName := ⟨RX9, "forget", "()I"⟩
abbrev cX9_isFit : ByteArray := prog_11_method_38_code
def yX9_isFit : MethodName := ⟨RX9, "isFit", "(I)Z"⟩
abbrev cX9_shape : ByteArray := prog_11_method_39_code
def yX9_shape : MethodName := ⟨RX9, "shape", "(I)I"⟩
abbrev cX9_ask : ByteArray := prog_11_method_40_code
def yX9_ask : MethodName := ⟨RX9, "ask", "(I)I"⟩
abbrev cX9_layMud : ByteArray := prog_11_method_41_code
def yX9_layMud : MethodName := ⟨RX9, "layMud", "()V"⟩
abbrev cX9_play : ByteArray := prog_11_method_42_code
def yX9_play : MethodName := ⟨RX9, "play", "(II)I"⟩
abbrev cX9_themselves : ByteArray := prog_11_method_43_code
def yX9_themselves : MethodName := ⟨RX9, "themselves", "(IIII)J"⟩
abbrev cX9_year : ByteArray := prog_11_method_44_code
def yX9_year : MethodName := ⟨RX9, "year", "(III)I"⟩
abbrev cX9_image : ByteArray := prog_11_method_45_code
def yX9_image : MethodName := ⟨RX9, "image", "(I)I"⟩
abbrev cX9_restore : ByteArray := prog_11_method_46_code
def yX9_restore : MethodName := ⟨RX9, "restore", "(I)I"⟩
abbrev cX9_told : ByteArray := prog_11_method_47_code
def yX9_told : MethodName := ⟨RX9, "told", "(I)I"⟩
def RJ6 : String := "java/lang/Integer"
def TJ6 : u_T := fun k => match k with
  | _ => ("", "", "", false)
def tyJ6 : Nat → FieldType := fun k => match k with
  | _ => .int
abbrev wsJ60 : List Cond := u_ws RJ6 TJ6 0
theorem nmJ6 : ∀ a, a < 0 → ∀ b, b < 0 → a ≠ b → (TJ6 a).2.1 ≠ (TJ6 b).2.1 := by decide +kernel
theorem tyJ6_ok : ∀ k, k < 0 → parseFieldDescriptor (TJ6 k).2.2.1 = some (tyJ6 k) := by decide +kernel
abbrev cJ6_bitCount_0f7a4 : ByteArray := prog_12_method_49_code
def yJ6_bitCount_0f7a4 : MethodName := ⟨RJ6, "bitCount", "(I)I"⟩
def RJ9 : String := "java/lang/Math"
def TJ9 : u_T := fun k => match k with
  | _ => ("", "", "", false)
def tyJ9 : Nat → FieldType := fun k => match k with
  | _ => .int
abbrev wsJ90 : List Cond := u_ws RJ9 TJ9 0
theorem nmJ9 : ∀ a, a < 0 → ∀ b, b < 0 → a ≠ b → (TJ9 a).2.1 ≠ (TJ9 b).2.1 := by decide +kernel
theorem tyJ9_ok : ∀ k, k < 0 → parseFieldDescriptor (TJ9 k).2.2.1 = some (tyJ9 k) := by decide +kernel
abbrev cJ9_max_7cf53 : ByteArray := prog_13_method_65_code
def yJ9_max_7cf53 : MethodName := ⟨RJ9, "max", "(II)I"⟩
abbrev cJ9_min_7cf53 : ByteArray := prog_13_method_69_code
def yJ9_min_7cf53 : MethodName := ⟨RJ9, "min", "(II)I"⟩
def RJ10 : String := "java/lang/System"
def TJ10 : u_T := fun k => match k with
  | _ => ("", "", "", false)
def tyJ10 : Nat → FieldType := fun k => match k with
  | _ => .int
abbrev wsJ100 : List Cond := u_ws RJ10 TJ10 0
theorem nmJ10 : ∀ a, a < 0 → ∀ b, b < 0 → a ≠ b → (TJ10 a).2.1 ≠ (TJ10 b).2.1 := by decide +kernel
theorem tyJ10_ok : ∀ k, k < 0 → parseFieldDescriptor (TJ10 k).2.2.1 = some (tyJ10 k) := by decide +kernel
def RL : String := "MireWrestleLaw"
abbrev cL_law : ByteArray := code
def yL_law : MethodName := ⟨RL, "law", "([I)Z"⟩
abbrev vwCl : List vw_C := [(RX0, TX0, 3), (RX1, TX1, 7), (RX2, TX2, 2), (RX3, TX3, 13), (RX4, TX4, 4), (RX5, TX5, 2), (RX6, TX6, 1), (RX7, TX7, 2), (RX8, TX8, 8), (RX9, TX9, 24)]
/-- the words of the tables that last -/
def wsL_law : List Cond := lw_tbl.filter goodWord
theorem wsL_law_in : ∀ w ∈ wsL_law, w ∈ lw_tbl := fun w h => (List.mem_filter.mp h).1
theorem zmem {w : Cond} (i : Nat) (h : lw_tbl[i]? = some w) (hg : goodWord w = true) : w ∈ wsL_law := List.mem_filter.mpr ⟨List.mem_of_getElem? h, hg⟩
theorem zin_of {ws : List Cond} (ps : List Nat) (h : ws.map some = ps.map (fun i => lw_tbl[i]?)) (hg : ws.all goodWord = true) : ∀ w ∈ ws, w ∈ wsL_law := by
  intro w hw
  have h1 : some w ∈ ps.map (fun i => lw_tbl[i]?) := by rw [← h]; exact List.mem_map.mpr ⟨w, hw, rfl⟩
  obtain ⟨i, -, hi⟩ := List.mem_map.mp h1
  exact zmem i hi (List.all_eq_true.mp hg w hw)
end
section
theorem dX0_init_0 : decode cX0_init 0 = .ok (.aload_n 0, 1) := by decide +kernel
theorem dX0_init_1 : decode cX0_init 1 = .ok (.invokespecial 1, 3) := by decide +kernel
theorem dX0_init_4 : decode cX0_init 4 = .ok (.aload_n 0, 1) := by decide +kernel
theorem dX0_init_5 : decode cX0_init 5 = .ok (.iconst 4, 1) := by decide +kernel
theorem dX0_init_6 : decode cX0_init 6 = .ok (.putfield 9, 3) := by decide +kernel
theorem dX0_init_9 : decode cX0_init 9 = .ok (.aload_n 0, 1) := by decide +kernel
theorem dX0_init_10 : decode cX0_init 10 = .ok (.iconst 0, 1) := by decide +kernel
theorem dX0_init_11 : decode cX0_init 11 = .ok (.putfield 13, 3) := by decide +kernel
theorem dX0_init_14 : decode cX0_init 14 = .ok (.aload_n 0, 1) := by decide +kernel
theorem dX0_init_15 : decode cX0_init 15 = .ok (.iconst 0, 1) := by decide +kernel
theorem dX0_init_16 : decode cX0_init 16 = .ok (.putfield 16, 3) := by decide +kernel
theorem dX0_init_19 : decode cX0_init 19 = .ok (.return_, 1) := by decide +kernel
theorem dX0_become_0 : decode cX0_become 0 = .ok (.aload_n 0, 1) := by decide +kernel
theorem dX0_become_1 : decode cX0_become 1 = .ok (.iload_n 1, 1) := by decide +kernel
theorem dX0_become_2 : decode cX0_become 2 = .ok (.putfield 9, 3) := by decide +kernel
theorem dX0_become_5 : decode cX0_become 5 = .ok (.aload_n 0, 1) := by decide +kernel
theorem dX0_become_6 : decode cX0_become 6 = .ok (.iload_n 2, 1) := by decide +kernel
theorem dX0_become_7 : decode cX0_become 7 = .ok (.putfield 13, 3) := by decide +kernel
theorem dX0_become_10 : decode cX0_become 10 = .ok (.aload_n 0, 1) := by decide +kernel
theorem dX0_become_11 : decode cX0_become 11 = .ok (.iload_n 3, 1) := by decide +kernel
theorem dX0_become_12 : decode cX0_become 12 = .ok (.putfield 16, 3) := by decide +kernel
theorem dX0_become_15 : decode cX0_become 15 = .ok (.return_, 1) := by decide +kernel
theorem dX1_init_0 : decode cX1_init 0 = .ok (.aload_n 0, 1) := by decide +kernel
theorem dX1_init_1 : decode cX1_init 1 = .ok (.invokespecial 3, 3) := by decide +kernel
theorem dX1_init_4 : decode cX1_init 4 = .ok (.aload_n 0, 1) := by decide +kernel
theorem dX1_init_5 : decode cX1_init 5 = .ok (.new 9, 3) := by decide +kernel
theorem dX1_init_8 : decode cX1_init 8 = .ok (.dup, 1) := by decide +kernel
theorem dX1_init_9 : decode cX1_init 9 = .ok (.invokespecial 11, 3) := by decide +kernel
theorem dX1_init_12 : decode cX1_init 12 = .ok (.putfield 12, 3) := by decide +kernel
theorem dX1_init_15 : decode cX1_init 15 = .ok (.aload_n 0, 1) := by decide +kernel
theorem dX1_init_16 : decode cX1_init 16 = .ok (.new 18, 3) := by decide +kernel
theorem dX1_init_19 : decode cX1_init 19 = .ok (.dup, 1) := by decide +kernel
theorem dX1_init_20 : decode cX1_init 20 = .ok (.invokespecial 20, 3) := by decide +kernel
theorem dX1_init_23 : decode cX1_init 23 = .ok (.putfield 21, 3) := by decide +kernel
theorem dX1_init_26 : decode cX1_init 26 = .ok (.aload_n 0, 1) := by decide +kernel
theorem dX1_init_27 : decode cX1_init 27 = .ok (.iconst 0, 1) := by decide +kernel
theorem dX1_init_28 : decode cX1_init 28 = .ok (.putfield 25, 3) := by decide +kernel
theorem dX1_init_31 : decode cX1_init 31 = .ok (.aload_n 0, 1) := by decide +kernel
theorem dX1_init_32 : decode cX1_init 32 = .ok (.iconst 0, 1) := by decide +kernel
theorem dX1_init_33 : decode cX1_init 33 = .ok (.putfield 29, 3) := by decide +kernel
theorem dX1_init_36 : decode cX1_init 36 = .ok (.aload_n 0, 1) := by decide +kernel
theorem dX1_init_37 : decode cX1_init 37 = .ok (.iconst 0, 1) := by decide +kernel
theorem dX1_init_38 : decode cX1_init 38 = .ok (.putfield 32, 3) := by decide +kernel
theorem dX1_init_41 : decode cX1_init 41 = .ok (.aload_n 0, 1) := by decide +kernel
theorem dX1_init_42 : decode cX1_init 42 = .ok (.bipush (-6), 2) := by decide +kernel
theorem dX1_init_44 : decode cX1_init 44 = .ok (.putfield 35, 3) := by decide +kernel
theorem dX1_init_47 : decode cX1_init 47 = .ok (.aload_n 0, 1) := by decide +kernel
theorem dX1_init_48 : decode cX1_init 48 = .ok (.bipush (-6), 2) := by decide +kernel
theorem dX1_init_50 : decode cX1_init 50 = .ok (.putfield 38, 3) := by decide +kernel
theorem dX1_init_53 : decode cX1_init 53 = .ok (.return_, 1) := by decide +kernel
theorem dX1_run_0 : decode cX1_run 0 = .ok (.aload_n 0, 1) := by decide +kernel
theorem dX1_run_1 : decode cX1_run 1 = .ok (.aload_n 2, 1) := by decide +kernel
theorem dX1_run_2 : decode cX1_run 2 = .ok (.invokevirtual 41, 3) := by decide +kernel
theorem dX1_run_5 : decode cX1_run 5 = .ok (.iconst 0, 1) := by decide +kernel
theorem dX1_run_6 : decode cX1_run 6 = .ok (.istore_n 3, 1) := by decide +kernel
theorem dX1_run_7 : decode cX1_run 7 = .ok (.iconst 0, 1) := by decide +kernel
theorem dX1_run_8 : decode cX1_run 8 = .ok (.istore 4, 2) := by decide +kernel
theorem dX1_run_10 : decode cX1_run 10 = .ok (.iload 4, 2) := by decide +kernel
theorem dX1_run_12 : decode cX1_run 12 = .ok (.bipush 60, 2) := by decide +kernel
theorem dX1_run_14 : decode cX1_run 14 = .ok (.if_icmp .ge 66, 3) := by decide +kernel
theorem dX1_run_17 : decode cX1_run 17 = .ok (.iload_n 3, 1) := by decide +kernel
theorem dX1_run_18 : decode cX1_run 18 = .ok (.aload_n 1, 1) := by decide +kernel
theorem dX1_run_19 : decode cX1_run 19 = .ok (.getfield 45, 3) := by decide +kernel
theorem dX1_run_22 : decode cX1_run 22 = .ok (.if_icmp .ge 58, 3) := by decide +kernel
theorem dX1_run_25 : decode cX1_run 25 = .ok (.iload_n 3, 1) := by decide +kernel
theorem dX1_run_26 : decode cX1_run 26 = .ok (.aload_n 1, 1) := by decide +kernel
theorem dX1_run_27 : decode cX1_run 27 = .ok (.iload_n 3, 1) := by decide +kernel
theorem dX1_run_28 : decode cX1_run 28 = .ok (.aload_n 0, 1) := by decide +kernel
theorem dX1_run_29 : decode cX1_run 29 = .ok (.getfield 21, 3) := by decide +kernel
theorem dX1_run_32 : decode cX1_run 32 = .ok (.invokevirtual 50, 3) := by decide +kernel
theorem dX1_run_35 : decode cX1_run 35 = .ok (.iadd, 1) := by decide +kernel
theorem dX1_run_36 : decode cX1_run 36 = .ok (.istore_n 3, 1) := by decide +kernel
theorem dX1_run_37 : decode cX1_run 37 = .ok (.aload_n 0, 1) := by decide +kernel
theorem dX1_run_38 : decode cX1_run 38 = .ok (.aload_n 0, 1) := by decide +kernel
theorem dX1_run_39 : decode cX1_run 39 = .ok (.getfield 12, 3) := by decide +kernel
theorem dX1_run_42 : decode cX1_run 42 = .ok (.aload_n 0, 1) := by decide +kernel
theorem dX1_run_43 : decode cX1_run 43 = .ok (.getfield 21, 3) := by decide +kernel
theorem dX1_run_46 : decode cX1_run 46 = .ok (.invokevirtual 54, 3) := by decide +kernel
theorem dX1_run_49 : decode cX1_run 49 = .ok (.putfield 29, 3) := by decide +kernel
theorem dX1_run_52 : decode cX1_run 52 = .ok (.aload_n 0, 1) := by decide +kernel
theorem dX1_run_53 : decode cX1_run 53 = .ok (.getfield 29, 3) := by decide +kernel
theorem dX1_run_56 : decode cX1_run 56 = .ok (.ifCond .eq 4, 3) := by decide +kernel
theorem dX1_run_59 : decode cX1_run 59 = .ok (.return_, 1) := by decide +kernel
theorem dX1_run_60 : decode cX1_run 60 = .ok (.aload_n 0, 1) := by decide +kernel
theorem dX1_run_61 : decode cX1_run 61 = .ok (.invokevirtual 58, 3) := by decide +kernel
theorem dX1_run_64 : decode cX1_run 64 = .ok (.aload_n 0, 1) := by decide +kernel
theorem dX1_run_65 : decode cX1_run 65 = .ok (.dup, 1) := by decide +kernel
theorem dX1_run_66 : decode cX1_run 66 = .ok (.getfield 25, 3) := by decide +kernel
theorem dX1_run_69 : decode cX1_run 69 = .ok (.iconst 1, 1) := by decide +kernel
theorem dX1_run_70 : decode cX1_run 70 = .ok (.iadd, 1) := by decide +kernel
theorem dX1_run_71 : decode cX1_run 71 = .ok (.putfield 25, 3) := by decide +kernel
theorem dX1_run_74 : decode cX1_run 74 = .ok (.iinc 4 1, 3) := by decide +kernel
theorem dX1_run_77 : decode cX1_run 77 = .ok (.goto (-67), 3) := by decide +kernel
theorem dX1_run_80 : decode cX1_run 80 = .ok (.return_, 1) := by decide +kernel
theorem dX1_begin_0 : decode cX1_begin 0 = .ok (.aload_n 0, 1) := by decide +kernel
theorem dX1_begin_1 : decode cX1_begin 1 = .ok (.getfield 12, 3) := by decide +kernel
theorem dX1_begin_4 : decode cX1_begin 4 = .ok (.aload_n 1, 1) := by decide +kernel
theorem dX1_begin_5 : decode cX1_begin 5 = .ok (.invokevirtual 61, 3) := by decide +kernel
theorem dX1_begin_8 : decode cX1_begin 8 = .ok (.aload_n 0, 1) := by decide +kernel
theorem dX1_begin_9 : decode cX1_begin 9 = .ok (.iconst 0, 1) := by decide +kernel
theorem dX1_begin_10 : decode cX1_begin 10 = .ok (.putfield 25, 3) := by decide +kernel
theorem dX1_begin_13 : decode cX1_begin 13 = .ok (.aload_n 0, 1) := by decide +kernel
theorem dX1_begin_14 : decode cX1_begin 14 = .ok (.iconst 0, 1) := by decide +kernel
theorem dX1_begin_15 : decode cX1_begin 15 = .ok (.putfield 29, 3) := by decide +kernel
theorem dX1_begin_18 : decode cX1_begin 18 = .ok (.aload_n 0, 1) := by decide +kernel
theorem dX1_begin_19 : decode cX1_begin 19 = .ok (.iconst 0, 1) := by decide +kernel
theorem dX1_begin_20 : decode cX1_begin 20 = .ok (.putfield 32, 3) := by decide +kernel
theorem dX1_begin_23 : decode cX1_begin 23 = .ok (.aload_n 0, 1) := by decide +kernel
theorem dX1_begin_24 : decode cX1_begin 24 = .ok (.bipush (-6), 2) := by decide +kernel
theorem dX1_begin_26 : decode cX1_begin 26 = .ok (.putfield 35, 3) := by decide +kernel
theorem dX1_begin_29 : decode cX1_begin 29 = .ok (.aload_n 0, 1) := by decide +kernel
theorem dX1_begin_30 : decode cX1_begin 30 = .ok (.bipush (-6), 2) := by decide +kernel
theorem dX1_begin_32 : decode cX1_begin 32 = .ok (.putfield 38, 3) := by decide +kernel
theorem dX1_begin_35 : decode cX1_begin 35 = .ok (.return_, 1) := by decide +kernel
theorem dX1_noteDown_0 : decode cX1_noteDown 0 = .ok (.aload_n 0, 1) := by decide +kernel
theorem dX1_noteDown_1 : decode cX1_noteDown 1 = .ok (.getfield 21, 3) := by decide +kernel
theorem dX1_noteDown_4 : decode cX1_noteDown 4 = .ok (.getfield 64, 3) := by decide +kernel
theorem dX1_noteDown_7 : decode cX1_noteDown 7 = .ok (.ifCond .ne 20, 3) := by decide +kernel
theorem dX1_noteDown_10 : decode cX1_noteDown 10 = .ok (.aload_n 0, 1) := by decide +kernel
theorem dX1_noteDown_11 : decode cX1_noteDown 11 = .ok (.getfield 12, 3) := by decide +kernel
theorem dX1_noteDown_14 : decode cX1_noteDown 14 = .ok (.aload_n 0, 1) := by decide +kernel
theorem dX1_noteDown_15 : decode cX1_noteDown 15 = .ok (.getfield 21, 3) := by decide +kernel
theorem dX1_noteDown_18 : decode cX1_noteDown 18 = .ok (.getfield 67, 3) := by decide +kernel
theorem dX1_noteDown_21 : decode cX1_noteDown 21 = .ok (.invokevirtual 70, 3) := by decide +kernel
theorem dX1_noteDown_24 : decode cX1_noteDown 24 = .ok (.ifCond .eq 4, 3) := by decide +kernel
theorem dX1_noteDown_27 : decode cX1_noteDown 27 = .ok (.return_, 1) := by decide +kernel
theorem dX1_noteDown_28 : decode cX1_noteDown 28 = .ok (.aload_n 0, 1) := by decide +kernel
theorem dX1_noteDown_29 : decode cX1_noteDown 29 = .ok (.getfield 32, 3) := by decide +kernel
theorem dX1_noteDown_32 : decode cX1_noteDown 32 = .ok (.ifCond .ne 22, 3) := by decide +kernel
theorem dX1_noteDown_35 : decode cX1_noteDown 35 = .ok (.aload_n 0, 1) := by decide +kernel
theorem dX1_noteDown_36 : decode cX1_noteDown 36 = .ok (.aload_n 0, 1) := by decide +kernel
theorem dX1_noteDown_37 : decode cX1_noteDown 37 = .ok (.getfield 25, 3) := by decide +kernel
theorem dX1_noteDown_40 : decode cX1_noteDown 40 = .ok (.putfield 35, 3) := by decide +kernel
theorem dX1_noteDown_43 : decode cX1_noteDown 43 = .ok (.aload_n 0, 1) := by decide +kernel
theorem dX1_noteDown_44 : decode cX1_noteDown 44 = .ok (.aload_n 0, 1) := by decide +kernel
theorem dX1_noteDown_45 : decode cX1_noteDown 45 = .ok (.getfield 21, 3) := by decide +kernel
theorem dX1_noteDown_48 : decode cX1_noteDown 48 = .ok (.getfield 67, 3) := by decide +kernel
theorem dX1_noteDown_51 : decode cX1_noteDown 51 = .ok (.putfield 38, 3) := by decide +kernel
theorem dX1_noteDown_54 : decode cX1_noteDown 54 = .ok (.aload_n 0, 1) := by decide +kernel
theorem dX1_noteDown_55 : decode cX1_noteDown 55 = .ok (.dup, 1) := by decide +kernel
theorem dX1_noteDown_56 : decode cX1_noteDown 56 = .ok (.getfield 32, 3) := by decide +kernel
theorem dX1_noteDown_59 : decode cX1_noteDown 59 = .ok (.iconst 1, 1) := by decide +kernel
theorem dX1_noteDown_60 : decode cX1_noteDown 60 = .ok (.iadd, 1) := by decide +kernel
theorem dX1_noteDown_61 : decode cX1_noteDown 61 = .ok (.putfield 32, 3) := by decide +kernel
theorem dX1_noteDown_64 : decode cX1_noteDown 64 = .ok (.return_, 1) := by decide +kernel
theorem dX1_runYear_0 : decode cX1_runYear 0 = .ok (.aload_n 0, 1) := by decide +kernel
theorem dX1_runYear_1 : decode cX1_runYear 1 = .ok (.getfield 12, 3) := by decide +kernel
theorem dX1_runYear_4 : decode cX1_runYear 4 = .ok (.aload_n 3, 1) := by decide +kernel
theorem dX1_runYear_5 : decode cX1_runYear 5 = .ok (.invokevirtual 61, 3) := by decide +kernel
theorem dX1_runYear_8 : decode cX1_runYear 8 = .ok (.iload_n 1, 1) := by decide +kernel
theorem dX1_runYear_9 : decode cX1_runYear 9 = .ok (.istore 4, 2) := by decide +kernel
theorem dX1_runYear_11 : decode cX1_runYear 11 = .ok (.iconst 0, 1) := by decide +kernel
theorem dX1_runYear_12 : decode cX1_runYear 12 = .ok (.istore 5, 2) := by decide +kernel
theorem dX1_runYear_14 : decode cX1_runYear 14 = .ok (.iload 5, 2) := by decide +kernel
theorem dX1_runYear_16 : decode cX1_runYear 16 = .ok (.iload_n 2, 1) := by decide +kernel
theorem dX1_runYear_17 : decode cX1_runYear 17 = .ok (.if_icmp .ge 48, 3) := by decide +kernel
theorem dX1_runYear_20 : decode cX1_runYear 20 = .ok (.bipush 75, 2) := by decide +kernel
theorem dX1_runYear_22 : decode cX1_runYear 22 = .ok (.iload 4, 2) := by decide +kernel
theorem dX1_runYear_24 : decode cX1_runYear 24 = .ok (.imul, 1) := by decide +kernel
theorem dX1_runYear_25 : decode cX1_runYear 25 = .ok (.bipush 74, 2) := by decide +kernel
theorem dX1_runYear_27 : decode cX1_runYear 27 = .ok (.iadd, 1) := by decide +kernel
theorem dX1_runYear_28 : decode cX1_runYear 28 = .ok (.ldc 74, 2) := by decide +kernel
theorem dX1_runYear_30 : decode cX1_runYear 30 = .ok (.irem, 1) := by decide +kernel
theorem dX1_runYear_31 : decode cX1_runYear 31 = .ok (.istore 4, 2) := by decide +kernel
theorem dX1_runYear_33 : decode cX1_runYear 33 = .ok (.aload_n 0, 1) := by decide +kernel
theorem dX1_runYear_34 : decode cX1_runYear 34 = .ok (.iload 4, 2) := by decide +kernel
theorem dX1_runYear_36 : decode cX1_runYear 36 = .ok (.bipush 8, 2) := by decide +kernel
theorem dX1_runYear_38 : decode cX1_runYear 38 = .ok (.irem, 1) := by decide +kernel
theorem dX1_runYear_39 : decode cX1_runYear 39 = .ok (.iload 4, 2) := by decide +kernel
theorem dX1_runYear_41 : decode cX1_runYear 41 = .ok (.bipush 8, 2) := by decide +kernel
theorem dX1_runYear_43 : decode cX1_runYear 43 = .ok (.idiv, 1) := by decide +kernel
theorem dX1_runYear_44 : decode cX1_runYear 44 = .ok (.invokevirtual 75, 3) := by decide +kernel
theorem dX1_runYear_47 : decode cX1_runYear 47 = .ok (.aload_n 0, 1) := by decide +kernel
theorem dX1_runYear_48 : decode cX1_runYear 48 = .ok (.getfield 12, 3) := by decide +kernel
theorem dX1_runYear_51 : decode cX1_runYear 51 = .ok (.aload_n 0, 1) := by decide +kernel
theorem dX1_runYear_52 : decode cX1_runYear 52 = .ok (.getfield 21, 3) := by decide +kernel
theorem dX1_runYear_55 : decode cX1_runYear 55 = .ok (.invokevirtual 54, 3) := by decide +kernel
theorem dX1_runYear_58 : decode cX1_runYear 58 = .ok (.pop, 1) := by decide +kernel
theorem dX1_runYear_59 : decode cX1_runYear 59 = .ok (.iinc 5 1, 3) := by decide +kernel
theorem dX1_runYear_62 : decode cX1_runYear 62 = .ok (.goto (-48), 3) := by decide +kernel
theorem dX1_runYear_65 : decode cX1_runYear 65 = .ok (.return_, 1) := by decide +kernel
theorem dX1_draw_0 : decode cX1_draw 0 = .ok (.iload_n 1, 1) := by decide +kernel
theorem dX1_draw_1 : decode cX1_draw 1 = .ok (.iconst 4, 1) := by decide +kernel
theorem dX1_draw_2 : decode cX1_draw 2 = .ok (.if_icmp .ge 25, 3) := by decide +kernel
theorem dX1_draw_5 : decode cX1_draw 5 = .ok (.aload_n 0, 1) := by decide +kernel
theorem dX1_draw_6 : decode cX1_draw 6 = .ok (.getfield 21, 3) := by decide +kernel
theorem dX1_draw_9 : decode cX1_draw 9 = .ok (.iconst 0, 1) := by decide +kernel
theorem dX1_draw_10 : decode cX1_draw 10 = .ok (.iload_n 2, 1) := by decide +kernel
theorem dX1_draw_11 : decode cX1_draw 11 = .ok (.bipush 6, 2) := by decide +kernel
theorem dX1_draw_13 : decode cX1_draw 13 = .ok (.idiv, 1) := by decide +kernel
theorem dX1_draw_14 : decode cX1_draw 14 = .ok (.bipush 6, 2) := by decide +kernel
theorem dX1_draw_16 : decode cX1_draw 16 = .ok (.irem, 1) := by decide +kernel
theorem dX1_draw_17 : decode cX1_draw 17 = .ok (.iload_n 2, 1) := by decide +kernel
theorem dX1_draw_18 : decode cX1_draw 18 = .ok (.bipush 6, 2) := by decide +kernel
theorem dX1_draw_20 : decode cX1_draw 20 = .ok (.irem, 1) := by decide +kernel
theorem dX1_draw_21 : decode cX1_draw 21 = .ok (.invokevirtual 79, 3) := by decide +kernel
theorem dX1_draw_24 : decode cX1_draw 24 = .ok (.goto 43, 3) := by decide +kernel
theorem dX1_draw_27 : decode cX1_draw 27 = .ok (.iload_n 1, 1) := by decide +kernel
theorem dX1_draw_28 : decode cX1_draw 28 = .ok (.iconst 4, 1) := by decide +kernel
theorem dX1_draw_29 : decode cX1_draw 29 = .ok (.if_icmp .ne 19, 3) := by decide +kernel
theorem dX1_draw_32 : decode cX1_draw 32 = .ok (.aload_n 0, 1) := by decide +kernel
theorem dX1_draw_33 : decode cX1_draw 33 = .ok (.getfield 21, 3) := by decide +kernel
theorem dX1_draw_36 : decode cX1_draw 36 = .ok (.iconst 2, 1) := by decide +kernel
theorem dX1_draw_37 : decode cX1_draw 37 = .ok (.iload_n 2, 1) := by decide +kernel
theorem dX1_draw_38 : decode cX1_draw 38 = .ok (.bipush 6, 2) := by decide +kernel
theorem dX1_draw_40 : decode cX1_draw 40 = .ok (.irem, 1) := by decide +kernel
theorem dX1_draw_41 : decode cX1_draw 41 = .ok (.iconst 0, 1) := by decide +kernel
theorem dX1_draw_42 : decode cX1_draw 42 = .ok (.invokevirtual 79, 3) := by decide +kernel
theorem dX1_draw_45 : decode cX1_draw 45 = .ok (.goto 22, 3) := by decide +kernel
theorem dX1_draw_48 : decode cX1_draw 48 = .ok (.aload_n 0, 1) := by decide +kernel
theorem dX1_draw_49 : decode cX1_draw 49 = .ok (.getfield 21, 3) := by decide +kernel
theorem dX1_draw_52 : decode cX1_draw 52 = .ok (.iload_n 1, 1) := by decide +kernel
theorem dX1_draw_53 : decode cX1_draw 53 = .ok (.iconst 5, 1) := by decide +kernel
theorem dX1_draw_54 : decode cX1_draw 54 = .ok (.if_icmp .ne 7, 3) := by decide +kernel
theorem dX1_draw_57 : decode cX1_draw 57 = .ok (.iconst 3, 1) := by decide +kernel
theorem dX1_draw_58 : decode cX1_draw 58 = .ok (.goto 4, 3) := by decide +kernel
theorem dX1_draw_61 : decode cX1_draw 61 = .ok (.iconst 4, 1) := by decide +kernel
theorem dX1_draw_62 : decode cX1_draw 62 = .ok (.iconst 0, 1) := by decide +kernel
theorem dX1_draw_63 : decode cX1_draw 63 = .ok (.iconst 0, 1) := by decide +kernel
theorem dX1_draw_64 : decode cX1_draw 64 = .ok (.invokevirtual 79, 3) := by decide +kernel
theorem dX1_draw_67 : decode cX1_draw 67 = .ok (.return_, 1) := by decide +kernel
theorem dX2_init_0 : decode cX2_init 0 = .ok (.aload_n 0, 1) := by decide +kernel
theorem dX2_init_1 : decode cX2_init 1 = .ok (.invokespecial 3, 3) := by decide +kernel
theorem dX2_init_4 : decode cX2_init 4 = .ok (.aload_n 0, 1) := by decide +kernel
theorem dX2_init_5 : decode cX2_init 5 = .ok (.bipush 10, 2) := by decide +kernel
theorem dX2_init_7 : decode cX2_init 7 = .ok (.newarray .int, 2) := by decide +kernel
theorem dX2_init_9 : decode cX2_init 9 = .ok (.putfield 9, 3) := by decide +kernel
theorem dX2_init_12 : decode cX2_init 12 = .ok (.aload_n 0, 1) := by decide +kernel
theorem dX2_init_13 : decode cX2_init 13 = .ok (.bipush 10, 2) := by decide +kernel
theorem dX2_init_15 : decode cX2_init 15 = .ok (.newarray .int, 2) := by decide +kernel
theorem dX2_init_17 : decode cX2_init 17 = .ok (.putfield 15, 3) := by decide +kernel
theorem dX2_init_20 : decode cX2_init 20 = .ok (.return_, 1) := by decide +kernel
theorem dX2_solve_0 : decode cX2_solve 0 = .ok (.iconst 0, 1) := by decide +kernel
theorem dX2_solve_1 : decode cX2_solve 1 = .ok (.istore_n 2, 1) := by decide +kernel
theorem dX2_solve_2 : decode cX2_solve 2 = .ok (.iload_n 2, 1) := by decide +kernel
theorem dX2_solve_3 : decode cX2_solve 3 = .ok (.bipush 10, 2) := by decide +kernel
theorem dX2_solve_5 : decode cX2_solve 5 = .ok (.if_icmp .ge 24, 3) := by decide +kernel
theorem dX2_solve_8 : decode cX2_solve 8 = .ok (.aload_n 0, 1) := by decide +kernel
theorem dX2_solve_9 : decode cX2_solve 9 = .ok (.getfield 9, 3) := by decide +kernel
theorem dX2_solve_12 : decode cX2_solve 12 = .ok (.iload_n 2, 1) := by decide +kernel
theorem dX2_solve_13 : decode cX2_solve 13 = .ok (.iconst 2, 1) := by decide +kernel
theorem dX2_solve_14 : decode cX2_solve 14 = .ok (.iastore, 1) := by decide +kernel
theorem dX2_solve_15 : decode cX2_solve 15 = .ok (.aload_n 0, 1) := by decide +kernel
theorem dX2_solve_16 : decode cX2_solve 16 = .ok (.getfield 15, 3) := by decide +kernel
theorem dX2_solve_19 : decode cX2_solve 19 = .ok (.iload_n 2, 1) := by decide +kernel
theorem dX2_solve_20 : decode cX2_solve 20 = .ok (.bipush (-6), 2) := by decide +kernel
theorem dX2_solve_22 : decode cX2_solve 22 = .ok (.iastore, 1) := by decide +kernel
theorem dX2_solve_23 : decode cX2_solve 23 = .ok (.iinc 2 1, 3) := by decide +kernel
theorem dX2_solve_26 : decode cX2_solve 26 = .ok (.goto (-24), 3) := by decide +kernel
theorem dX2_solve_29 : decode cX2_solve 29 = .ok (.iconst 0, 1) := by decide +kernel
theorem dX2_solve_30 : decode cX2_solve 30 = .ok (.istore_n 2, 1) := by decide +kernel
theorem dX2_solve_31 : decode cX2_solve 31 = .ok (.iload_n 2, 1) := by decide +kernel
theorem dX2_solve_32 : decode cX2_solve 32 = .ok (.bipush 10, 2) := by decide +kernel
theorem dX2_solve_34 : decode cX2_solve 34 = .ok (.if_icmp .ge 42, 3) := by decide +kernel
theorem dX2_solve_37 : decode cX2_solve 37 = .ok (.iconst 0, 1) := by decide +kernel
theorem dX2_solve_38 : decode cX2_solve 38 = .ok (.istore_n 3, 1) := by decide +kernel
theorem dX2_solve_39 : decode cX2_solve 39 = .ok (.iload_n 3, 1) := by decide +kernel
theorem dX2_solve_40 : decode cX2_solve 40 = .ok (.bipush 10, 2) := by decide +kernel
theorem dX2_solve_42 : decode cX2_solve 42 = .ok (.if_icmp .ge 28, 3) := by decide +kernel
theorem dX2_solve_45 : decode cX2_solve 45 = .ok (.aload_n 0, 1) := by decide +kernel
theorem dX2_solve_46 : decode cX2_solve 46 = .ok (.getfield 9, 3) := by decide +kernel
theorem dX2_solve_49 : decode cX2_solve 49 = .ok (.iload_n 3, 1) := by decide +kernel
theorem dX2_solve_50 : decode cX2_solve 50 = .ok (.iaload, 1) := by decide +kernel
theorem dX2_solve_51 : decode cX2_solve 51 = .ok (.iconst 2, 1) := by decide +kernel
theorem dX2_solve_52 : decode cX2_solve 52 = .ok (.if_icmp .ne 12, 3) := by decide +kernel
theorem dX2_solve_55 : decode cX2_solve 55 = .ok (.aload_n 0, 1) := by decide +kernel
theorem dX2_solve_56 : decode cX2_solve 56 = .ok (.aload_n 1, 1) := by decide +kernel
theorem dX2_solve_57 : decode cX2_solve 57 = .ok (.iload_n 3, 1) := by decide +kernel
theorem dX2_solve_58 : decode cX2_solve 58 = .ok (.iaload, 1) := by decide +kernel
theorem dX2_solve_59 : decode cX2_solve 59 = .ok (.iload_n 3, 1) := by decide +kernel
theorem dX2_solve_60 : decode cX2_solve 60 = .ok (.iload_n 2, 1) := by decide +kernel
theorem dX2_solve_61 : decode cX2_solve 61 = .ok (.invokevirtual 18, 3) := by decide +kernel
theorem dX2_solve_64 : decode cX2_solve 64 = .ok (.iinc 3 1, 3) := by decide +kernel
theorem dX2_solve_67 : decode cX2_solve 67 = .ok (.goto (-28), 3) := by decide +kernel
theorem dX2_solve_70 : decode cX2_solve 70 = .ok (.iinc 2 1, 3) := by decide +kernel
theorem dX2_solve_73 : decode cX2_solve 73 = .ok (.goto (-42), 3) := by decide +kernel
theorem dX2_solve_76 : decode cX2_solve 76 = .ok (.return_, 1) := by decide +kernel
theorem dX2_settle_0 : decode cX2_settle 0 = .ok (.aload_n 0, 1) := by decide +kernel
theorem dX2_settle_1 : decode cX2_settle 1 = .ok (.iload_n 1, 1) := by decide +kernel
theorem dX2_settle_2 : decode cX2_settle 2 = .ok (.iconst 0, 1) := by decide +kernel
theorem dX2_settle_3 : decode cX2_settle 3 = .ok (.iload_n 3, 1) := by decide +kernel
theorem dX2_settle_4 : decode cX2_settle 4 = .ok (.invokevirtual 22, 3) := by decide +kernel
theorem dX2_settle_7 : decode cX2_settle 7 = .ok (.bipush (-6), 2) := by decide +kernel
theorem dX2_settle_9 : decode cX2_settle 9 = .ok (.if_icmp .eq 20, 3) := by decide +kernel
theorem dX2_settle_12 : decode cX2_settle 12 = .ok (.aload_n 0, 1) := by decide +kernel
theorem dX2_settle_13 : decode cX2_settle 13 = .ok (.getfield 9, 3) := by decide +kernel
theorem dX2_settle_16 : decode cX2_settle 16 = .ok (.iload_n 2, 1) := by decide +kernel
theorem dX2_settle_17 : decode cX2_settle 17 = .ok (.iconst 1, 1) := by decide +kernel
theorem dX2_settle_18 : decode cX2_settle 18 = .ok (.iastore, 1) := by decide +kernel
theorem dX2_settle_19 : decode cX2_settle 19 = .ok (.aload_n 0, 1) := by decide +kernel
theorem dX2_settle_20 : decode cX2_settle 20 = .ok (.getfield 15, 3) := by decide +kernel
theorem dX2_settle_23 : decode cX2_settle 23 = .ok (.iload_n 2, 1) := by decide +kernel
theorem dX2_settle_24 : decode cX2_settle 24 = .ok (.iload_n 3, 1) := by decide +kernel
theorem dX2_settle_25 : decode cX2_settle 25 = .ok (.iastore, 1) := by decide +kernel
theorem dX2_settle_26 : decode cX2_settle 26 = .ok (.goto 26, 3) := by decide +kernel
theorem dX2_settle_29 : decode cX2_settle 29 = .ok (.aload_n 0, 1) := by decide +kernel
theorem dX2_settle_30 : decode cX2_settle 30 = .ok (.iload_n 1, 1) := by decide +kernel
theorem dX2_settle_31 : decode cX2_settle 31 = .ok (.iload_n 3, 1) := by decide +kernel
theorem dX2_settle_32 : decode cX2_settle 32 = .ok (.invokevirtual 26, 3) := by decide +kernel
theorem dX2_settle_35 : decode cX2_settle 35 = .ok (.ifCond .eq 17, 3) := by decide +kernel
theorem dX2_settle_38 : decode cX2_settle 38 = .ok (.aload_n 0, 1) := by decide +kernel
theorem dX2_settle_39 : decode cX2_settle 39 = .ok (.getfield 9, 3) := by decide +kernel
theorem dX2_settle_42 : decode cX2_settle 42 = .ok (.iload_n 2, 1) := by decide +kernel
theorem dX2_settle_43 : decode cX2_settle 43 = .ok (.iconst 0, 1) := by decide +kernel
theorem dX2_settle_44 : decode cX2_settle 44 = .ok (.iastore, 1) := by decide +kernel
theorem dX2_settle_45 : decode cX2_settle 45 = .ok (.aload_n 0, 1) := by decide +kernel
theorem dX2_settle_46 : decode cX2_settle 46 = .ok (.getfield 15, 3) := by decide +kernel
theorem dX2_settle_49 : decode cX2_settle 49 = .ok (.iload_n 2, 1) := by decide +kernel
theorem dX2_settle_50 : decode cX2_settle 50 = .ok (.iload_n 3, 1) := by decide +kernel
theorem dX2_settle_51 : decode cX2_settle 51 = .ok (.iastore, 1) := by decide +kernel
theorem dX2_settle_52 : decode cX2_settle 52 = .ok (.return_, 1) := by decide +kernel
theorem dX2_leastSettled_0 : decode cX2_leastSettled 0 = .ok (.iconst 0, 1) := by decide +kernel
theorem dX2_leastSettled_1 : decode cX2_leastSettled 1 = .ok (.istore 4, 2) := by decide +kernel
theorem dX2_leastSettled_3 : decode cX2_leastSettled 3 = .ok (.iload 4, 2) := by decide +kernel
theorem dX2_leastSettled_5 : decode cX2_leastSettled 5 = .ok (.bipush 10, 2) := by decide +kernel
theorem dX2_leastSettled_7 : decode cX2_leastSettled 7 = .ok (.if_icmp .ge 43, 3) := by decide +kernel
theorem dX2_leastSettled_10 : decode cX2_leastSettled 10 = .ok (.iload_n 1, 1) := by decide +kernel
theorem dX2_leastSettled_11 : decode cX2_leastSettled 11 = .ok (.iload 4, 2) := by decide +kernel
theorem dX2_leastSettled_13 : decode cX2_leastSettled 13 = .ok (.invokestatic 30, 3) := by decide +kernel
theorem dX2_leastSettled_16 : decode cX2_leastSettled 16 = .ok (.ifCond .eq 28, 3) := by decide +kernel
theorem dX2_leastSettled_19 : decode cX2_leastSettled 19 = .ok (.aload_n 0, 1) := by decide +kernel
theorem dX2_leastSettled_20 : decode cX2_leastSettled 20 = .ok (.getfield 9, 3) := by decide +kernel
theorem dX2_leastSettled_23 : decode cX2_leastSettled 23 = .ok (.iload 4, 2) := by decide +kernel
theorem dX2_leastSettled_25 : decode cX2_leastSettled 25 = .ok (.iaload, 1) := by decide +kernel
theorem dX2_leastSettled_26 : decode cX2_leastSettled 26 = .ok (.iload_n 2, 1) := by decide +kernel
theorem dX2_leastSettled_27 : decode cX2_leastSettled 27 = .ok (.if_icmp .ne 17, 3) := by decide +kernel
theorem dX2_leastSettled_30 : decode cX2_leastSettled 30 = .ok (.aload_n 0, 1) := by decide +kernel
theorem dX2_leastSettled_31 : decode cX2_leastSettled 31 = .ok (.getfield 15, 3) := by decide +kernel
theorem dX2_leastSettled_34 : decode cX2_leastSettled 34 = .ok (.iload 4, 2) := by decide +kernel
theorem dX2_leastSettled_36 : decode cX2_leastSettled 36 = .ok (.iaload, 1) := by decide +kernel
theorem dX2_leastSettled_37 : decode cX2_leastSettled 37 = .ok (.iload_n 3, 1) := by decide +kernel
theorem dX2_leastSettled_38 : decode cX2_leastSettled 38 = .ok (.if_icmp .ge 6, 3) := by decide +kernel
theorem dX2_leastSettled_41 : decode cX2_leastSettled 41 = .ok (.iload 4, 2) := by decide +kernel
theorem dX2_leastSettled_43 : decode cX2_leastSettled 43 = .ok (.ireturn, 1) := by decide +kernel
theorem dX2_leastSettled_44 : decode cX2_leastSettled 44 = .ok (.iinc 4 1, 3) := by decide +kernel
theorem dX2_leastSettled_47 : decode cX2_leastSettled 47 = .ok (.goto (-44), 3) := by decide +kernel
theorem dX2_leastSettled_50 : decode cX2_leastSettled 50 = .ok (.bipush (-6), 2) := by decide +kernel
theorem dX2_leastSettled_52 : decode cX2_leastSettled 52 = .ok (.ireturn, 1) := by decide +kernel
theorem dX2_areAllWon_0 : decode cX2_areAllWon 0 = .ok (.iconst 0, 1) := by decide +kernel
theorem dX2_areAllWon_1 : decode cX2_areAllWon 1 = .ok (.istore_n 3, 1) := by decide +kernel
theorem dX2_areAllWon_2 : decode cX2_areAllWon 2 = .ok (.iload_n 3, 1) := by decide +kernel
theorem dX2_areAllWon_3 : decode cX2_areAllWon 3 = .ok (.bipush 10, 2) := by decide +kernel
theorem dX2_areAllWon_5 : decode cX2_areAllWon 5 = .ok (.if_icmp .ge 39, 3) := by decide +kernel
theorem dX2_areAllWon_8 : decode cX2_areAllWon 8 = .ok (.iload_n 1, 1) := by decide +kernel
theorem dX2_areAllWon_9 : decode cX2_areAllWon 9 = .ok (.iload_n 3, 1) := by decide +kernel
theorem dX2_areAllWon_10 : decode cX2_areAllWon 10 = .ok (.invokestatic 30, 3) := by decide +kernel
theorem dX2_areAllWon_13 : decode cX2_areAllWon 13 = .ok (.ifCond .eq 25, 3) := by decide +kernel
theorem dX2_areAllWon_16 : decode cX2_areAllWon 16 = .ok (.aload_n 0, 1) := by decide +kernel
theorem dX2_areAllWon_17 : decode cX2_areAllWon 17 = .ok (.getfield 9, 3) := by decide +kernel
theorem dX2_areAllWon_20 : decode cX2_areAllWon 20 = .ok (.iload_n 3, 1) := by decide +kernel
theorem dX2_areAllWon_21 : decode cX2_areAllWon 21 = .ok (.iaload, 1) := by decide +kernel
theorem dX2_areAllWon_22 : decode cX2_areAllWon 22 = .ok (.iconst 1, 1) := by decide +kernel
theorem dX2_areAllWon_23 : decode cX2_areAllWon 23 = .ok (.if_icmp .ne 13, 3) := by decide +kernel
theorem dX2_areAllWon_26 : decode cX2_areAllWon 26 = .ok (.aload_n 0, 1) := by decide +kernel
theorem dX2_areAllWon_27 : decode cX2_areAllWon 27 = .ok (.getfield 15, 3) := by decide +kernel
theorem dX2_areAllWon_30 : decode cX2_areAllWon 30 = .ok (.iload_n 3, 1) := by decide +kernel
theorem dX2_areAllWon_31 : decode cX2_areAllWon 31 = .ok (.iaload, 1) := by decide +kernel
theorem dX2_areAllWon_32 : decode cX2_areAllWon 32 = .ok (.iload_n 2, 1) := by decide +kernel
theorem dX2_areAllWon_33 : decode cX2_areAllWon 33 = .ok (.if_icmp .lt 5, 3) := by decide +kernel
theorem dX2_areAllWon_36 : decode cX2_areAllWon 36 = .ok (.iconst 0, 1) := by decide +kernel
theorem dX2_areAllWon_37 : decode cX2_areAllWon 37 = .ok (.ireturn, 1) := by decide +kernel
theorem dX2_areAllWon_38 : decode cX2_areAllWon 38 = .ok (.iinc 3 1, 3) := by decide +kernel
theorem dX2_areAllWon_41 : decode cX2_areAllWon 41 = .ok (.goto (-39), 3) := by decide +kernel
theorem dX2_areAllWon_44 : decode cX2_areAllWon 44 = .ok (.iconst 1, 1) := by decide +kernel
theorem dX2_areAllWon_45 : decode cX2_areAllWon 45 = .ok (.ireturn, 1) := by decide +kernel
theorem dX2_firstMove_0 : decode cX2_firstMove 0 = .ok (.aload_n 0, 1) := by decide +kernel
theorem dX2_firstMove_1 : decode cX2_firstMove 1 = .ok (.getfield 9, 3) := by decide +kernel
theorem dX2_firstMove_4 : decode cX2_firstMove 4 = .ok (.iload_n 2, 1) := by decide +kernel
theorem dX2_firstMove_5 : decode cX2_firstMove 5 = .ok (.iaload, 1) := by decide +kernel
theorem dX2_firstMove_6 : decode cX2_firstMove 6 = .ok (.iconst 1, 1) := by decide +kernel
theorem dX2_firstMove_7 : decode cX2_firstMove 7 = .ok (.if_icmp .ne 20, 3) := by decide +kernel
theorem dX2_firstMove_10 : decode cX2_firstMove 10 = .ok (.aload_n 0, 1) := by decide +kernel
theorem dX2_firstMove_11 : decode cX2_firstMove 11 = .ok (.aload_n 1, 1) := by decide +kernel
theorem dX2_firstMove_12 : decode cX2_firstMove 12 = .ok (.iload_n 2, 1) := by decide +kernel
theorem dX2_firstMove_13 : decode cX2_firstMove 13 = .ok (.iaload, 1) := by decide +kernel
theorem dX2_firstMove_14 : decode cX2_firstMove 14 = .ok (.iconst 0, 1) := by decide +kernel
theorem dX2_firstMove_15 : decode cX2_firstMove 15 = .ok (.aload_n 0, 1) := by decide +kernel
theorem dX2_firstMove_16 : decode cX2_firstMove 16 = .ok (.getfield 15, 3) := by decide +kernel
theorem dX2_firstMove_19 : decode cX2_firstMove 19 = .ok (.iload_n 2, 1) := by decide +kernel
theorem dX2_firstMove_20 : decode cX2_firstMove 20 = .ok (.iaload, 1) := by decide +kernel
theorem dX2_firstMove_21 : decode cX2_firstMove 21 = .ok (.invokevirtual 22, 3) := by decide +kernel
theorem dX2_firstMove_24 : decode cX2_firstMove 24 = .ok (.goto 5, 3) := by decide +kernel
theorem dX2_firstMove_27 : decode cX2_firstMove 27 = .ok (.bipush (-6), 2) := by decide +kernel
theorem dX2_firstMove_29 : decode cX2_firstMove 29 = .ok (.ireturn, 1) := by decide +kernel
theorem dX3_init_0 : decode cX3_init 0 = .ok (.aload_n 0, 1) := by decide +kernel
theorem dX3_init_1 : decode cX3_init 1 = .ok (.invokespecial 3, 3) := by decide +kernel
theorem dX3_init_4 : decode cX3_init 4 = .ok (.aload_n 0, 1) := by decide +kernel
theorem dX3_init_5 : decode cX3_init 5 = .ok (.bipush 6, 2) := by decide +kernel
theorem dX3_init_7 : decode cX3_init 7 = .ok (.newarray .int, 2) := by decide +kernel
theorem dX3_init_9 : decode cX3_init 9 = .ok (.putfield 9, 3) := by decide +kernel
theorem dX3_init_12 : decode cX3_init 12 = .ok (.aload_n 0, 1) := by decide +kernel
theorem dX3_init_13 : decode cX3_init 13 = .ok (.bipush 6, 2) := by decide +kernel
theorem dX3_init_15 : decode cX3_init 15 = .ok (.newarray .int, 2) := by decide +kernel
theorem dX3_init_17 : decode cX3_init 17 = .ok (.putfield 15, 3) := by decide +kernel
theorem dX3_init_20 : decode cX3_init 20 = .ok (.aload_n 0, 1) := by decide +kernel
theorem dX3_init_21 : decode cX3_init 21 = .ok (.bipush 6, 2) := by decide +kernel
theorem dX3_init_23 : decode cX3_init 23 = .ok (.newarray .int, 2) := by decide +kernel
theorem dX3_init_25 : decode cX3_init 25 = .ok (.putfield 18, 3) := by decide +kernel
theorem dX3_init_28 : decode cX3_init 28 = .ok (.aload_n 0, 1) := by decide +kernel
theorem dX3_init_29 : decode cX3_init 29 = .ok (.bipush 6, 2) := by decide +kernel
theorem dX3_init_31 : decode cX3_init 31 = .ok (.newarray .int, 2) := by decide +kernel
theorem dX3_init_33 : decode cX3_init 33 = .ok (.putfield 21, 3) := by decide +kernel
theorem dX3_init_36 : decode cX3_init 36 = .ok (.aload_n 0, 1) := by decide +kernel
theorem dX3_init_37 : decode cX3_init 37 = .ok (.bipush 6, 2) := by decide +kernel
theorem dX3_init_39 : decode cX3_init 39 = .ok (.newarray .int, 2) := by decide +kernel
theorem dX3_init_41 : decode cX3_init 41 = .ok (.putfield 24, 3) := by decide +kernel
theorem dX3_init_44 : decode cX3_init 44 = .ok (.aload_n 0, 1) := by decide +kernel
theorem dX3_init_45 : decode cX3_init 45 = .ok (.bipush 8, 2) := by decide +kernel
theorem dX3_init_47 : decode cX3_init 47 = .ok (.newarray .int, 2) := by decide +kernel
theorem dX3_init_49 : decode cX3_init 49 = .ok (.putfield 27, 3) := by decide +kernel
theorem dX3_init_52 : decode cX3_init 52 = .ok (.aload_n 0, 1) := by decide +kernel
theorem dX3_init_53 : decode cX3_init 53 = .ok (.bipush 8, 2) := by decide +kernel
theorem dX3_init_55 : decode cX3_init 55 = .ok (.newarray .int, 2) := by decide +kernel
theorem dX3_init_57 : decode cX3_init 57 = .ok (.putfield 30, 3) := by decide +kernel
theorem dX3_init_60 : decode cX3_init 60 = .ok (.aload_n 0, 1) := by decide +kernel
theorem dX3_init_61 : decode cX3_init 61 = .ok (.bipush 10, 2) := by decide +kernel
theorem dX3_init_63 : decode cX3_init 63 = .ok (.newarray .int, 2) := by decide +kernel
theorem dX3_init_65 : decode cX3_init 65 = .ok (.putfield 33, 3) := by decide +kernel
theorem dX3_init_68 : decode cX3_init 68 = .ok (.aload_n 0, 1) := by decide +kernel
theorem dX3_init_69 : decode cX3_init 69 = .ok (.bipush 8, 2) := by decide +kernel
theorem dX3_init_71 : decode cX3_init 71 = .ok (.newarray .int, 2) := by decide +kernel
theorem dX3_init_73 : decode cX3_init 73 = .ok (.putfield 36, 3) := by decide +kernel
theorem dX3_init_76 : decode cX3_init 76 = .ok (.aload_n 0, 1) := by decide +kernel
theorem dX3_init_77 : decode cX3_init 77 = .ok (.bipush 8, 2) := by decide +kernel
theorem dX3_init_79 : decode cX3_init 79 = .ok (.newarray .boolean, 2) := by decide +kernel
theorem dX3_init_81 : decode cX3_init 81 = .ok (.putfield 39, 3) := by decide +kernel
theorem dX3_init_84 : decode cX3_init 84 = .ok (.aload_n 0, 1) := by decide +kernel
theorem dX3_init_85 : decode cX3_init 85 = .ok (.iconst 0, 1) := by decide +kernel
theorem dX3_init_86 : decode cX3_init 86 = .ok (.putfield 43, 3) := by decide +kernel
theorem dX3_init_89 : decode cX3_init 89 = .ok (.aload_n 0, 1) := by decide +kernel
theorem dX3_init_90 : decode cX3_init 90 = .ok (.bipush 50, 2) := by decide +kernel
theorem dX3_init_92 : decode cX3_init 92 = .ok (.putfield 47, 3) := by decide +kernel
theorem dX3_init_95 : decode cX3_init 95 = .ok (.aload_n 0, 1) := by decide +kernel
theorem dX3_init_96 : decode cX3_init 96 = .ok (.iconst 0, 1) := by decide +kernel
theorem dX3_init_97 : decode cX3_init 97 = .ok (.putfield 50, 3) := by decide +kernel
theorem dX3_init_100 : decode cX3_init 100 = .ok (.iconst 0, 1) := by decide +kernel
theorem dX3_init_101 : decode cX3_init 101 = .ok (.istore_n 1, 1) := by decide +kernel
theorem dX3_init_102 : decode cX3_init 102 = .ok (.iload_n 1, 1) := by decide +kernel
theorem dX3_init_103 : decode cX3_init 103 = .ok (.bipush 6, 2) := by decide +kernel
theorem dX3_init_105 : decode cX3_init 105 = .ok (.if_icmp .ge 23, 3) := by decide +kernel
theorem dX3_init_108 : decode cX3_init 108 = .ok (.aload_n 0, 1) := by decide +kernel
theorem dX3_init_109 : decode cX3_init 109 = .ok (.getfield 21, 3) := by decide +kernel
theorem dX3_init_112 : decode cX3_init 112 = .ok (.iload_n 1, 1) := by decide +kernel
theorem dX3_init_113 : decode cX3_init 113 = .ok (.iconst 5, 1) := by decide +kernel
theorem dX3_init_114 : decode cX3_init 114 = .ok (.iastore, 1) := by decide +kernel
theorem dX3_init_115 : decode cX3_init 115 = .ok (.aload_n 0, 1) := by decide +kernel
theorem dX3_init_116 : decode cX3_init 116 = .ok (.getfield 24, 3) := by decide +kernel
theorem dX3_init_119 : decode cX3_init 119 = .ok (.iload_n 1, 1) := by decide +kernel
theorem dX3_init_120 : decode cX3_init 120 = .ok (.iconst 2, 1) := by decide +kernel
theorem dX3_init_121 : decode cX3_init 121 = .ok (.iastore, 1) := by decide +kernel
theorem dX3_init_122 : decode cX3_init 122 = .ok (.iinc 1 1, 3) := by decide +kernel
theorem dX3_init_125 : decode cX3_init 125 = .ok (.goto (-23), 3) := by decide +kernel
theorem dX3_init_128 : decode cX3_init 128 = .ok (.return_, 1) := by decide +kernel
theorem dX3_become_0 : decode cX3_become 0 = .ok (.aload_n 1, 1) := by decide +kernel
theorem dX3_become_1 : decode cX3_become 1 = .ok (.getfield 9, 3) := by decide +kernel
theorem dX3_become_4 : decode cX3_become 4 = .ok (.aload_n 0, 1) := by decide +kernel
theorem dX3_become_5 : decode cX3_become 5 = .ok (.getfield 9, 3) := by decide +kernel
theorem dX3_become_8 : decode cX3_become 8 = .ok (.invokestatic 53, 3) := by decide +kernel
theorem dX3_become_11 : decode cX3_become 11 = .ok (.aload_n 1, 1) := by decide +kernel
theorem dX3_become_12 : decode cX3_become 12 = .ok (.getfield 15, 3) := by decide +kernel
theorem dX3_become_15 : decode cX3_become 15 = .ok (.aload_n 0, 1) := by decide +kernel
theorem dX3_become_16 : decode cX3_become 16 = .ok (.getfield 15, 3) := by decide +kernel
theorem dX3_become_19 : decode cX3_become 19 = .ok (.invokestatic 53, 3) := by decide +kernel
theorem dX3_become_22 : decode cX3_become 22 = .ok (.aload_n 1, 1) := by decide +kernel
theorem dX3_become_23 : decode cX3_become 23 = .ok (.getfield 18, 3) := by decide +kernel
theorem dX3_become_26 : decode cX3_become 26 = .ok (.aload_n 0, 1) := by decide +kernel
theorem dX3_become_27 : decode cX3_become 27 = .ok (.getfield 18, 3) := by decide +kernel
theorem dX3_become_30 : decode cX3_become 30 = .ok (.invokestatic 53, 3) := by decide +kernel
theorem dX3_become_33 : decode cX3_become 33 = .ok (.aload_n 1, 1) := by decide +kernel
theorem dX3_become_34 : decode cX3_become 34 = .ok (.getfield 21, 3) := by decide +kernel
theorem dX3_become_37 : decode cX3_become 37 = .ok (.aload_n 0, 1) := by decide +kernel
theorem dX3_become_38 : decode cX3_become 38 = .ok (.getfield 21, 3) := by decide +kernel
theorem dX3_become_41 : decode cX3_become 41 = .ok (.invokestatic 53, 3) := by decide +kernel
theorem dX3_become_44 : decode cX3_become 44 = .ok (.aload_n 1, 1) := by decide +kernel
theorem dX3_become_45 : decode cX3_become 45 = .ok (.getfield 24, 3) := by decide +kernel
theorem dX3_become_48 : decode cX3_become 48 = .ok (.aload_n 0, 1) := by decide +kernel
theorem dX3_become_49 : decode cX3_become 49 = .ok (.getfield 24, 3) := by decide +kernel
theorem dX3_become_52 : decode cX3_become 52 = .ok (.invokestatic 53, 3) := by decide +kernel
theorem dX3_become_55 : decode cX3_become 55 = .ok (.aload_n 1, 1) := by decide +kernel
theorem dX3_become_56 : decode cX3_become 56 = .ok (.getfield 27, 3) := by decide +kernel
theorem dX3_become_59 : decode cX3_become 59 = .ok (.aload_n 0, 1) := by decide +kernel
theorem dX3_become_60 : decode cX3_become 60 = .ok (.getfield 27, 3) := by decide +kernel
theorem dX3_become_63 : decode cX3_become 63 = .ok (.invokestatic 53, 3) := by decide +kernel
theorem dX3_become_66 : decode cX3_become 66 = .ok (.aload_n 1, 1) := by decide +kernel
theorem dX3_become_67 : decode cX3_become 67 = .ok (.getfield 30, 3) := by decide +kernel
theorem dX3_become_70 : decode cX3_become 70 = .ok (.aload_n 0, 1) := by decide +kernel
theorem dX3_become_71 : decode cX3_become 71 = .ok (.getfield 30, 3) := by decide +kernel
theorem dX3_become_74 : decode cX3_become 74 = .ok (.invokestatic 53, 3) := by decide +kernel
theorem dX3_become_77 : decode cX3_become 77 = .ok (.aload_n 1, 1) := by decide +kernel
theorem dX3_become_78 : decode cX3_become 78 = .ok (.getfield 33, 3) := by decide +kernel
theorem dX3_become_81 : decode cX3_become 81 = .ok (.aload_n 0, 1) := by decide +kernel
theorem dX3_become_82 : decode cX3_become 82 = .ok (.getfield 33, 3) := by decide +kernel
theorem dX3_become_85 : decode cX3_become 85 = .ok (.invokestatic 53, 3) := by decide +kernel
theorem dX3_become_88 : decode cX3_become 88 = .ok (.aload_n 1, 1) := by decide +kernel
theorem dX3_become_89 : decode cX3_become 89 = .ok (.getfield 36, 3) := by decide +kernel
theorem dX3_become_92 : decode cX3_become 92 = .ok (.aload_n 0, 1) := by decide +kernel
theorem dX3_become_93 : decode cX3_become 93 = .ok (.getfield 36, 3) := by decide +kernel
theorem dX3_become_96 : decode cX3_become 96 = .ok (.invokestatic 53, 3) := by decide +kernel
theorem dX3_become_99 : decode cX3_become 99 = .ok (.iconst 0, 1) := by decide +kernel
theorem dX3_become_100 : decode cX3_become 100 = .ok (.istore_n 2, 1) := by decide +kernel
theorem dX3_become_101 : decode cX3_become 101 = .ok (.iload_n 2, 1) := by decide +kernel
theorem dX3_become_102 : decode cX3_become 102 = .ok (.bipush 8, 2) := by decide +kernel
theorem dX3_become_104 : decode cX3_become 104 = .ok (.if_icmp .ge 21, 3) := by decide +kernel
theorem dX3_become_107 : decode cX3_become 107 = .ok (.aload_n 0, 1) := by decide +kernel
theorem dX3_become_108 : decode cX3_become 108 = .ok (.getfield 39, 3) := by decide +kernel
theorem dX3_become_111 : decode cX3_become 111 = .ok (.iload_n 2, 1) := by decide +kernel
theorem dX3_become_112 : decode cX3_become 112 = .ok (.aload_n 1, 1) := by decide +kernel
theorem dX3_become_113 : decode cX3_become 113 = .ok (.getfield 39, 3) := by decide +kernel
theorem dX3_become_116 : decode cX3_become 116 = .ok (.iload_n 2, 1) := by decide +kernel
theorem dX3_become_117 : decode cX3_become 117 = .ok (.baload, 1) := by decide +kernel
theorem dX3_become_118 : decode cX3_become 118 = .ok (.bastore, 1) := by decide +kernel
theorem dX3_become_119 : decode cX3_become 119 = .ok (.iinc 2 1, 3) := by decide +kernel
theorem dX3_become_122 : decode cX3_become 122 = .ok (.goto (-21), 3) := by decide +kernel
theorem dX3_become_125 : decode cX3_become 125 = .ok (.aload_n 0, 1) := by decide +kernel
theorem dX3_become_126 : decode cX3_become 126 = .ok (.aload_n 1, 1) := by decide +kernel
theorem dX3_become_127 : decode cX3_become 127 = .ok (.getfield 43, 3) := by decide +kernel
theorem dX3_become_130 : decode cX3_become 130 = .ok (.putfield 43, 3) := by decide +kernel
theorem dX3_become_133 : decode cX3_become 133 = .ok (.aload_n 0, 1) := by decide +kernel
theorem dX3_become_134 : decode cX3_become 134 = .ok (.aload_n 1, 1) := by decide +kernel
theorem dX3_become_135 : decode cX3_become 135 = .ok (.getfield 47, 3) := by decide +kernel
theorem dX3_become_138 : decode cX3_become 138 = .ok (.putfield 47, 3) := by decide +kernel
theorem dX3_become_141 : decode cX3_become 141 = .ok (.aload_n 0, 1) := by decide +kernel
theorem dX3_become_142 : decode cX3_become 142 = .ok (.aload_n 1, 1) := by decide +kernel
theorem dX3_become_143 : decode cX3_become 143 = .ok (.getfield 50, 3) := by decide +kernel
theorem dX3_become_146 : decode cX3_become 146 = .ok (.putfield 50, 3) := by decide +kernel
theorem dX3_become_149 : decode cX3_become 149 = .ok (.return_, 1) := by decide +kernel
theorem dX3_isThere_0 : decode cX3_isThere 0 = .ok (.iload_n 1, 1) := by decide +kernel
theorem dX3_isThere_1 : decode cX3_isThere 1 = .ok (.iconst 0, 1) := by decide +kernel
theorem dX3_isThere_2 : decode cX3_isThere 2 = .ok (.iconst 5, 1) := by decide +kernel
theorem dX3_isThere_3 : decode cX3_isThere 3 = .ok (.invokestatic 57, 3) := by decide +kernel
theorem dX3_isThere_6 : decode cX3_isThere 6 = .ok (.ifCond .eq 16, 3) := by decide +kernel
theorem dX3_isThere_9 : decode cX3_isThere 9 = .ok (.aload_n 0, 1) := by decide +kernel
theorem dX3_isThere_10 : decode cX3_isThere 10 = .ok (.getfield 9, 3) := by decide +kernel
theorem dX3_isThere_13 : decode cX3_isThere 13 = .ok (.iload_n 1, 1) := by decide +kernel
theorem dX3_isThere_14 : decode cX3_isThere 14 = .ok (.iaload, 1) := by decide +kernel
theorem dX3_isThere_15 : decode cX3_isThere 15 = .ok (.ifCond .le 7, 3) := by decide +kernel
theorem dX3_isThere_18 : decode cX3_isThere 18 = .ok (.iconst 1, 1) := by decide +kernel
theorem dX3_isThere_19 : decode cX3_isThere 19 = .ok (.goto 4, 3) := by decide +kernel
theorem dX3_isThere_22 : decode cX3_isThere 22 = .ok (.iconst 0, 1) := by decide +kernel
theorem dX3_isThere_23 : decode cX3_isThere 23 = .ok (.ireturn, 1) := by decide +kernel
theorem dX3_griefsThere_0 : decode cX3_griefsThere 0 = .ok (.iconst 0, 1) := by decide +kernel
theorem dX3_griefsThere_1 : decode cX3_griefsThere 1 = .ok (.istore_n 1, 1) := by decide +kernel
theorem dX3_griefsThere_2 : decode cX3_griefsThere 2 = .ok (.iconst 0, 1) := by decide +kernel
theorem dX3_griefsThere_3 : decode cX3_griefsThere 3 = .ok (.istore_n 2, 1) := by decide +kernel
theorem dX3_griefsThere_4 : decode cX3_griefsThere 4 = .ok (.iload_n 2, 1) := by decide +kernel
theorem dX3_griefsThere_5 : decode cX3_griefsThere 5 = .ok (.bipush 6, 2) := by decide +kernel
theorem dX3_griefsThere_7 : decode cX3_griefsThere 7 = .ok (.if_icmp .ge 24, 3) := by decide +kernel
theorem dX3_griefsThere_10 : decode cX3_griefsThere 10 = .ok (.aload_n 0, 1) := by decide +kernel
theorem dX3_griefsThere_11 : decode cX3_griefsThere 11 = .ok (.getfield 9, 3) := by decide +kernel
theorem dX3_griefsThere_14 : decode cX3_griefsThere 14 = .ok (.iload_n 2, 1) := by decide +kernel
theorem dX3_griefsThere_15 : decode cX3_griefsThere 15 = .ok (.iaload, 1) := by decide +kernel
theorem dX3_griefsThere_16 : decode cX3_griefsThere 16 = .ok (.ifCond .le 9, 3) := by decide +kernel
theorem dX3_griefsThere_19 : decode cX3_griefsThere 19 = .ok (.iload_n 1, 1) := by decide +kernel
theorem dX3_griefsThere_20 : decode cX3_griefsThere 20 = .ok (.iconst 1, 1) := by decide +kernel
theorem dX3_griefsThere_21 : decode cX3_griefsThere 21 = .ok (.iload_n 2, 1) := by decide +kernel
theorem dX3_griefsThere_22 : decode cX3_griefsThere 22 = .ok (.ishl, 1) := by decide +kernel
theorem dX3_griefsThere_23 : decode cX3_griefsThere 23 = .ok (.ior, 1) := by decide +kernel
theorem dX3_griefsThere_24 : decode cX3_griefsThere 24 = .ok (.istore_n 1, 1) := by decide +kernel
theorem dX3_griefsThere_25 : decode cX3_griefsThere 25 = .ok (.iinc 2 1, 3) := by decide +kernel
theorem dX3_griefsThere_28 : decode cX3_griefsThere 28 = .ok (.goto (-24), 3) := by decide +kernel
theorem dX3_griefsThere_31 : decode cX3_griefsThere 31 = .ok (.iload_n 1, 1) := by decide +kernel
theorem dX3_griefsThere_32 : decode cX3_griefsThere 32 = .ok (.ireturn, 1) := by decide +kernel
theorem dX3_griefPart_0 : decode cX3_griefPart 0 = .ok (.iload_n 2, 1) := by decide +kernel
theorem dX3_griefPart_1 : decode cX3_griefPart 1 = .ok (.ifCond .ne 12, 3) := by decide +kernel
theorem dX3_griefPart_4 : decode cX3_griefPart 4 = .ok (.aload_n 0, 1) := by decide +kernel
theorem dX3_griefPart_5 : decode cX3_griefPart 5 = .ok (.getfield 9, 3) := by decide +kernel
theorem dX3_griefPart_8 : decode cX3_griefPart 8 = .ok (.iload_n 1, 1) := by decide +kernel
theorem dX3_griefPart_9 : decode cX3_griefPart 9 = .ok (.iaload, 1) := by decide +kernel
theorem dX3_griefPart_10 : decode cX3_griefPart 10 = .ok (.goto 9, 3) := by decide +kernel
theorem dX3_griefPart_13 : decode cX3_griefPart 13 = .ok (.aload_n 0, 1) := by decide +kernel
theorem dX3_griefPart_14 : decode cX3_griefPart 14 = .ok (.getfield 15, 3) := by decide +kernel
theorem dX3_griefPart_17 : decode cX3_griefPart 17 = .ok (.iload_n 1, 1) := by decide +kernel
theorem dX3_griefPart_18 : decode cX3_griefPart 18 = .ok (.iaload, 1) := by decide +kernel
theorem dX3_griefPart_19 : decode cX3_griefPart 19 = .ok (.ireturn, 1) := by decide +kernel
theorem dX3_holdAsNumber_0 : decode cX3_holdAsNumber 0 = .ok (.sipush 1000, 3) := by decide +kernel
theorem dX3_holdAsNumber_3 : decode cX3_holdAsNumber 3 = .ok (.aload_n 0, 1) := by decide +kernel
theorem dX3_holdAsNumber_4 : decode cX3_holdAsNumber 4 = .ok (.getfield 18, 3) := by decide +kernel
theorem dX3_holdAsNumber_7 : decode cX3_holdAsNumber 7 = .ok (.iload_n 1, 1) := by decide +kernel
theorem dX3_holdAsNumber_8 : decode cX3_holdAsNumber 8 = .ok (.iaload, 1) := by decide +kernel
theorem dX3_holdAsNumber_9 : decode cX3_holdAsNumber 9 = .ok (.imul, 1) := by decide +kernel
theorem dX3_holdAsNumber_10 : decode cX3_holdAsNumber 10 = .ok (.bipush 10, 2) := by decide +kernel
theorem dX3_holdAsNumber_12 : decode cX3_holdAsNumber 12 = .ok (.aload_n 0, 1) := by decide +kernel
theorem dX3_holdAsNumber_13 : decode cX3_holdAsNumber 13 = .ok (.getfield 21, 3) := by decide +kernel
theorem dX3_holdAsNumber_16 : decode cX3_holdAsNumber 16 = .ok (.iload_n 1, 1) := by decide +kernel
theorem dX3_holdAsNumber_17 : decode cX3_holdAsNumber 17 = .ok (.iaload, 1) := by decide +kernel
theorem dX3_holdAsNumber_18 : decode cX3_holdAsNumber 18 = .ok (.imul, 1) := by decide +kernel
theorem dX3_holdAsNumber_19 : decode cX3_holdAsNumber 19 = .ok (.iadd, 1) := by decide +kernel
theorem dX3_holdAsNumber_20 : decode cX3_holdAsNumber 20 = .ok (.aload_n 0, 1) := by decide +kernel
theorem dX3_holdAsNumber_21 : decode cX3_holdAsNumber 21 = .ok (.getfield 24, 3) := by decide +kernel
theorem dX3_holdAsNumber_24 : decode cX3_holdAsNumber 24 = .ok (.iload_n 1, 1) := by decide +kernel
theorem dX3_holdAsNumber_25 : decode cX3_holdAsNumber 25 = .ok (.iaload, 1) := by decide +kernel
theorem dX3_holdAsNumber_26 : decode cX3_holdAsNumber 26 = .ok (.iadd, 1) := by decide +kernel
theorem dX3_holdAsNumber_27 : decode cX3_holdAsNumber 27 = .ok (.ireturn, 1) := by decide +kernel
theorem dX3_coatAsNumber_0 : decode cX3_coatAsNumber 0 = .ok (.bipush 100, 2) := by decide +kernel
theorem dX3_coatAsNumber_2 : decode cX3_coatAsNumber 2 = .ok (.aload_n 0, 1) := by decide +kernel
theorem dX3_coatAsNumber_3 : decode cX3_coatAsNumber 3 = .ok (.getfield 27, 3) := by decide +kernel
theorem dX3_coatAsNumber_6 : decode cX3_coatAsNumber 6 = .ok (.iload_n 1, 1) := by decide +kernel
theorem dX3_coatAsNumber_7 : decode cX3_coatAsNumber 7 = .ok (.iaload, 1) := by decide +kernel
theorem dX3_coatAsNumber_8 : decode cX3_coatAsNumber 8 = .ok (.imul, 1) := by decide +kernel
theorem dX3_coatAsNumber_9 : decode cX3_coatAsNumber 9 = .ok (.aload_n 0, 1) := by decide +kernel
theorem dX3_coatAsNumber_10 : decode cX3_coatAsNumber 10 = .ok (.getfield 30, 3) := by decide +kernel
theorem dX3_coatAsNumber_13 : decode cX3_coatAsNumber 13 = .ok (.iload_n 1, 1) := by decide +kernel
theorem dX3_coatAsNumber_14 : decode cX3_coatAsNumber 14 = .ok (.iaload, 1) := by decide +kernel
theorem dX3_coatAsNumber_15 : decode cX3_coatAsNumber 15 = .ok (.iadd, 1) := by decide +kernel
theorem dX3_coatAsNumber_16 : decode cX3_coatAsNumber 16 = .ok (.ireturn, 1) := by decide +kernel
theorem dX3_countMoves_0 : decode cX3_countMoves 0 = .ok (.iconst 0, 1) := by decide +kernel
theorem dX3_countMoves_1 : decode cX3_countMoves 1 = .ok (.istore_n 1, 1) := by decide +kernel
theorem dX3_countMoves_2 : decode cX3_countMoves 2 = .ok (.iconst 0, 1) := by decide +kernel
theorem dX3_countMoves_3 : decode cX3_countMoves 3 = .ok (.istore_n 2, 1) := by decide +kernel
theorem dX3_countMoves_4 : decode cX3_countMoves 4 = .ok (.iload_n 2, 1) := by decide +kernel
theorem dX3_countMoves_5 : decode cX3_countMoves 5 = .ok (.bipush 10, 2) := by decide +kernel
theorem dX3_countMoves_7 : decode cX3_countMoves 7 = .ok (.if_icmp .ge 21, 3) := by decide +kernel
theorem dX3_countMoves_10 : decode cX3_countMoves 10 = .ok (.iload_n 1, 1) := by decide +kernel
theorem dX3_countMoves_11 : decode cX3_countMoves 11 = .ok (.aload_n 0, 1) := by decide +kernel
theorem dX3_countMoves_12 : decode cX3_countMoves 12 = .ok (.getfield 33, 3) := by decide +kernel
theorem dX3_countMoves_15 : decode cX3_countMoves 15 = .ok (.iload_n 2, 1) := by decide +kernel
theorem dX3_countMoves_16 : decode cX3_countMoves 16 = .ok (.iaload, 1) := by decide +kernel
theorem dX3_countMoves_17 : decode cX3_countMoves 17 = .ok (.invokestatic 61, 3) := by decide +kernel
theorem dX3_countMoves_20 : decode cX3_countMoves 20 = .ok (.iadd, 1) := by decide +kernel
theorem dX3_countMoves_21 : decode cX3_countMoves 21 = .ok (.istore_n 1, 1) := by decide +kernel
theorem dX3_countMoves_22 : decode cX3_countMoves 22 = .ok (.iinc 2 1, 3) := by decide +kernel
theorem dX3_countMoves_25 : decode cX3_countMoves 25 = .ok (.goto (-21), 3) := by decide +kernel
theorem dX3_countMoves_28 : decode cX3_countMoves 28 = .ok (.iload_n 1, 1) := by decide +kernel
theorem dX3_countMoves_29 : decode cX3_countMoves 29 = .ok (.ireturn, 1) := by decide +kernel
theorem dX3_holdsThatFit_0 : decode cX3_holdsThatFit 0 = .ok (.iconst 0, 1) := by decide +kernel
theorem dX3_holdsThatFit_1 : decode cX3_holdsThatFit 1 = .ok (.istore_n 2, 1) := by decide +kernel
theorem dX3_holdsThatFit_2 : decode cX3_holdsThatFit 2 = .ok (.iconst 0, 1) := by decide +kernel
theorem dX3_holdsThatFit_3 : decode cX3_holdsThatFit 3 = .ok (.istore_n 3, 1) := by decide +kernel
theorem dX3_holdsThatFit_4 : decode cX3_holdsThatFit 4 = .ok (.iload_n 3, 1) := by decide +kernel
theorem dX3_holdsThatFit_5 : decode cX3_holdsThatFit 5 = .ok (.bipush 6, 2) := by decide +kernel
theorem dX3_holdsThatFit_7 : decode cX3_holdsThatFit 7 = .ok (.if_icmp .ge 33, 3) := by decide +kernel
theorem dX3_holdsThatFit_10 : decode cX3_holdsThatFit 10 = .ok (.aload_n 0, 1) := by decide +kernel
theorem dX3_holdsThatFit_11 : decode cX3_holdsThatFit 11 = .ok (.getfield 18, 3) := by decide +kernel
theorem dX3_holdsThatFit_14 : decode cX3_holdsThatFit 14 = .ok (.iload_n 3, 1) := by decide +kernel
theorem dX3_holdsThatFit_15 : decode cX3_holdsThatFit 15 = .ok (.iaload, 1) := by decide +kernel
theorem dX3_holdsThatFit_16 : decode cX3_holdsThatFit 16 = .ok (.aload_n 0, 1) := by decide +kernel
theorem dX3_holdsThatFit_17 : decode cX3_holdsThatFit 17 = .ok (.getfield 15, 3) := by decide +kernel
theorem dX3_holdsThatFit_20 : decode cX3_holdsThatFit 20 = .ok (.iload_n 1, 1) := by decide +kernel
theorem dX3_holdsThatFit_21 : decode cX3_holdsThatFit 21 = .ok (.iaload, 1) := by decide +kernel
theorem dX3_holdsThatFit_22 : decode cX3_holdsThatFit 22 = .ok (.invokestatic 67, 3) := by decide +kernel
theorem dX3_holdsThatFit_25 : decode cX3_holdsThatFit 25 = .ok (.ifCond .eq 9, 3) := by decide +kernel
theorem dX3_holdsThatFit_28 : decode cX3_holdsThatFit 28 = .ok (.iload_n 2, 1) := by decide +kernel
theorem dX3_holdsThatFit_29 : decode cX3_holdsThatFit 29 = .ok (.iconst 1, 1) := by decide +kernel
theorem dX3_holdsThatFit_30 : decode cX3_holdsThatFit 30 = .ok (.iload_n 3, 1) := by decide +kernel
theorem dX3_holdsThatFit_31 : decode cX3_holdsThatFit 31 = .ok (.ishl, 1) := by decide +kernel
theorem dX3_holdsThatFit_32 : decode cX3_holdsThatFit 32 = .ok (.ior, 1) := by decide +kernel
theorem dX3_holdsThatFit_33 : decode cX3_holdsThatFit 33 = .ok (.istore_n 2, 1) := by decide +kernel
theorem dX3_holdsThatFit_34 : decode cX3_holdsThatFit 34 = .ok (.iinc 3 1, 3) := by decide +kernel
theorem dX3_holdsThatFit_37 : decode cX3_holdsThatFit 37 = .ok (.goto (-33), 3) := by decide +kernel
theorem dX3_holdsThatFit_40 : decode cX3_holdsThatFit 40 = .ok (.iload_n 2, 1) := by decide +kernel
theorem dX3_holdsThatFit_41 : decode cX3_holdsThatFit 41 = .ok (.ireturn, 1) := by decide +kernel
theorem dX3_attempt_0 : decode cX3_attempt 0 = .ok (.aload_n 1, 1) := by decide +kernel
theorem dX3_attempt_1 : decode cX3_attempt 1 = .ok (.getfield 71, 3) := by decide +kernel
theorem dX3_attempt_4 : decode cX3_attempt 4 = .ok (.tableswitch 72 0 3 #[32, 45, 58, 67], 32) := by decide +kernel
theorem dX3_attempt_36 : decode cX3_attempt 36 = .ok (.aload_n 0, 1) := by decide +kernel
theorem dX3_attempt_37 : decode cX3_attempt 37 = .ok (.aload_n 1, 1) := by decide +kernel
theorem dX3_attempt_38 : decode cX3_attempt 38 = .ok (.getfield 76, 3) := by decide +kernel
theorem dX3_attempt_41 : decode cX3_attempt 41 = .ok (.aload_n 1, 1) := by decide +kernel
theorem dX3_attempt_42 : decode cX3_attempt 42 = .ok (.getfield 79, 3) := by decide +kernel
theorem dX3_attempt_45 : decode cX3_attempt 45 = .ok (.invokevirtual 82, 3) := by decide +kernel
theorem dX3_attempt_48 : decode cX3_attempt 48 = .ok (.ireturn, 1) := by decide +kernel
theorem dX3_attempt_49 : decode cX3_attempt 49 = .ok (.aload_n 0, 1) := by decide +kernel
theorem dX3_attempt_50 : decode cX3_attempt 50 = .ok (.aload_n 1, 1) := by decide +kernel
theorem dX3_attempt_51 : decode cX3_attempt 51 = .ok (.getfield 76, 3) := by decide +kernel
theorem dX3_attempt_54 : decode cX3_attempt 54 = .ok (.aload_n 1, 1) := by decide +kernel
theorem dX3_attempt_55 : decode cX3_attempt 55 = .ok (.getfield 79, 3) := by decide +kernel
theorem dX3_attempt_58 : decode cX3_attempt 58 = .ok (.invokevirtual 86, 3) := by decide +kernel
theorem dX3_attempt_61 : decode cX3_attempt 61 = .ok (.ireturn, 1) := by decide +kernel
theorem dX3_attempt_62 : decode cX3_attempt 62 = .ok (.aload_n 0, 1) := by decide +kernel
theorem dX3_attempt_63 : decode cX3_attempt 63 = .ok (.aload_n 1, 1) := by decide +kernel
theorem dX3_attempt_64 : decode cX3_attempt 64 = .ok (.getfield 76, 3) := by decide +kernel
theorem dX3_attempt_67 : decode cX3_attempt 67 = .ok (.invokevirtual 89, 3) := by decide +kernel
theorem dX3_attempt_70 : decode cX3_attempt 70 = .ok (.ireturn, 1) := by decide +kernel
theorem dX3_attempt_71 : decode cX3_attempt 71 = .ok (.aload_n 0, 1) := by decide +kernel
theorem dX3_attempt_72 : decode cX3_attempt 72 = .ok (.invokevirtual 92, 3) := by decide +kernel
theorem dX3_attempt_75 : decode cX3_attempt 75 = .ok (.ireturn, 1) := by decide +kernel
theorem dX3_attempt_76 : decode cX3_attempt 76 = .ok (.aload_n 0, 1) := by decide +kernel
theorem dX3_attempt_77 : decode cX3_attempt 77 = .ok (.invokevirtual 96, 3) := by decide +kernel
theorem dX3_attempt_80 : decode cX3_attempt 80 = .ok (.ireturn, 1) := by decide +kernel
theorem dX3_takeHold_0 : decode cX3_takeHold 0 = .ok (.aload_n 0, 1) := by decide +kernel
theorem dX3_takeHold_1 : decode cX3_takeHold 1 = .ok (.iload_n 1, 1) := by decide +kernel
theorem dX3_takeHold_2 : decode cX3_takeHold 2 = .ok (.invokevirtual 99, 3) := by decide +kernel
theorem dX3_takeHold_5 : decode cX3_takeHold 5 = .ok (.ifCond .ne 5, 3) := by decide +kernel
theorem dX3_takeHold_8 : decode cX3_takeHold 8 = .ok (.iconst 1, 1) := by decide +kernel
theorem dX3_takeHold_9 : decode cX3_takeHold 9 = .ok (.ireturn, 1) := by decide +kernel
theorem dX3_takeHold_10 : decode cX3_takeHold 10 = .ok (.iload_n 2, 1) := by decide +kernel
theorem dX3_takeHold_11 : decode cX3_takeHold 11 = .ok (.invokestatic 103, 3) := by decide +kernel
theorem dX3_takeHold_14 : decode cX3_takeHold 14 = .ok (.ifCond .eq 21, 3) := by decide +kernel
theorem dX3_takeHold_17 : decode cX3_takeHold 17 = .ok (.aload_n 0, 1) := by decide +kernel
theorem dX3_takeHold_18 : decode cX3_takeHold 18 = .ok (.getfield 18, 3) := by decide +kernel
theorem dX3_takeHold_21 : decode cX3_takeHold 21 = .ok (.iload_n 2, 1) := by decide +kernel
theorem dX3_takeHold_22 : decode cX3_takeHold 22 = .ok (.iaload, 1) := by decide +kernel
theorem dX3_takeHold_23 : decode cX3_takeHold 23 = .ok (.aload_n 0, 1) := by decide +kernel
theorem dX3_takeHold_24 : decode cX3_takeHold 24 = .ok (.getfield 15, 3) := by decide +kernel
theorem dX3_takeHold_27 : decode cX3_takeHold 27 = .ok (.iload_n 1, 1) := by decide +kernel
theorem dX3_takeHold_28 : decode cX3_takeHold 28 = .ok (.iaload, 1) := by decide +kernel
theorem dX3_takeHold_29 : decode cX3_takeHold 29 = .ok (.invokestatic 67, 3) := by decide +kernel
theorem dX3_takeHold_32 : decode cX3_takeHold 32 = .ok (.ifCond .ne 5, 3) := by decide +kernel
theorem dX3_takeHold_35 : decode cX3_takeHold 35 = .ok (.iconst 2, 1) := by decide +kernel
theorem dX3_takeHold_36 : decode cX3_takeHold 36 = .ok (.ireturn, 1) := by decide +kernel
theorem dX3_takeHold_37 : decode cX3_takeHold 37 = .ok (.aload_n 0, 1) := by decide +kernel
theorem dX3_takeHold_38 : decode cX3_takeHold 38 = .ok (.getfield 47, 3) := by decide +kernel
theorem dX3_takeHold_41 : decode cX3_takeHold 41 = .ok (.aload_n 0, 1) := by decide +kernel
theorem dX3_takeHold_42 : decode cX3_takeHold 42 = .ok (.getfield 24, 3) := by decide +kernel
theorem dX3_takeHold_45 : decode cX3_takeHold 45 = .ok (.iload_n 2, 1) := by decide +kernel
theorem dX3_takeHold_46 : decode cX3_takeHold 46 = .ok (.iaload, 1) := by decide +kernel
theorem dX3_takeHold_47 : decode cX3_takeHold 47 = .ok (.if_icmp .ge 5, 3) := by decide +kernel
theorem dX3_takeHold_50 : decode cX3_takeHold 50 = .ok (.iconst 3, 1) := by decide +kernel
theorem dX3_takeHold_51 : decode cX3_takeHold 51 = .ok (.ireturn, 1) := by decide +kernel
theorem dX3_takeHold_52 : decode cX3_takeHold 52 = .ok (.aload_n 0, 1) := by decide +kernel
theorem dX3_takeHold_53 : decode cX3_takeHold 53 = .ok (.dup, 1) := by decide +kernel
theorem dX3_takeHold_54 : decode cX3_takeHold 54 = .ok (.getfield 47, 3) := by decide +kernel
theorem dX3_takeHold_57 : decode cX3_takeHold 57 = .ok (.aload_n 0, 1) := by decide +kernel
theorem dX3_takeHold_58 : decode cX3_takeHold 58 = .ok (.getfield 24, 3) := by decide +kernel
theorem dX3_takeHold_61 : decode cX3_takeHold 61 = .ok (.iload_n 2, 1) := by decide +kernel
theorem dX3_takeHold_62 : decode cX3_takeHold 62 = .ok (.iaload, 1) := by decide +kernel
theorem dX3_takeHold_63 : decode cX3_takeHold 63 = .ok (.isub, 1) := by decide +kernel
theorem dX3_takeHold_64 : decode cX3_takeHold 64 = .ok (.putfield 47, 3) := by decide +kernel
theorem dX3_takeHold_67 : decode cX3_takeHold 67 = .ok (.aload_n 0, 1) := by decide +kernel
theorem dX3_takeHold_68 : decode cX3_takeHold 68 = .ok (.getfield 9, 3) := by decide +kernel
theorem dX3_takeHold_71 : decode cX3_takeHold 71 = .ok (.iload_n 1, 1) := by decide +kernel
theorem dX3_takeHold_72 : decode cX3_takeHold 72 = .ok (.aload_n 0, 1) := by decide +kernel
theorem dX3_takeHold_73 : decode cX3_takeHold 73 = .ok (.getfield 9, 3) := by decide +kernel
theorem dX3_takeHold_76 : decode cX3_takeHold 76 = .ok (.iload_n 1, 1) := by decide +kernel
theorem dX3_takeHold_77 : decode cX3_takeHold 77 = .ok (.iaload, 1) := by decide +kernel
theorem dX3_takeHold_78 : decode cX3_takeHold 78 = .ok (.aload_n 0, 1) := by decide +kernel
theorem dX3_takeHold_79 : decode cX3_takeHold 79 = .ok (.getfield 21, 3) := by decide +kernel
theorem dX3_takeHold_82 : decode cX3_takeHold 82 = .ok (.iload_n 2, 1) := by decide +kernel
theorem dX3_takeHold_83 : decode cX3_takeHold 83 = .ok (.iaload, 1) := by decide +kernel
theorem dX3_takeHold_84 : decode cX3_takeHold 84 = .ok (.isub, 1) := by decide +kernel
theorem dX3_takeHold_85 : decode cX3_takeHold 85 = .ok (.iconst 0, 1) := by decide +kernel
theorem dX3_takeHold_86 : decode cX3_takeHold 86 = .ok (.invokestatic 106, 3) := by decide +kernel
theorem dX3_takeHold_89 : decode cX3_takeHold 89 = .ok (.iastore, 1) := by decide +kernel
theorem dX3_takeHold_90 : decode cX3_takeHold 90 = .ok (.iconst 0, 1) := by decide +kernel
theorem dX3_takeHold_91 : decode cX3_takeHold 91 = .ok (.ireturn, 1) := by decide +kernel
theorem dX3_join_0 : decode cX3_join 0 = .ok (.aload_n 0, 1) := by decide +kernel
theorem dX3_join_1 : decode cX3_join 1 = .ok (.iload_n 1, 1) := by decide +kernel
theorem dX3_join_2 : decode cX3_join 2 = .ok (.invokevirtual 99, 3) := by decide +kernel
theorem dX3_join_5 : decode cX3_join 5 = .ok (.ifCond .eq 11, 3) := by decide +kernel
theorem dX3_join_8 : decode cX3_join 8 = .ok (.aload_n 0, 1) := by decide +kernel
theorem dX3_join_9 : decode cX3_join 9 = .ok (.iload_n 2, 1) := by decide +kernel
theorem dX3_join_10 : decode cX3_join 10 = .ok (.invokevirtual 99, 3) := by decide +kernel
theorem dX3_join_13 : decode cX3_join 13 = .ok (.ifCond .ne 5, 3) := by decide +kernel
theorem dX3_join_16 : decode cX3_join 16 = .ok (.iconst 1, 1) := by decide +kernel
theorem dX3_join_17 : decode cX3_join 17 = .ok (.ireturn, 1) := by decide +kernel
theorem dX3_join_18 : decode cX3_join 18 = .ok (.iload_n 1, 1) := by decide +kernel
theorem dX3_join_19 : decode cX3_join 19 = .ok (.iload_n 2, 1) := by decide +kernel
theorem dX3_join_20 : decode cX3_join 20 = .ok (.if_icmp .ne 5, 3) := by decide +kernel
theorem dX3_join_23 : decode cX3_join 23 = .ok (.iconst 4, 1) := by decide +kernel
theorem dX3_join_24 : decode cX3_join 24 = .ok (.ireturn, 1) := by decide +kernel
theorem dX3_join_25 : decode cX3_join 25 = .ok (.aload_n 0, 1) := by decide +kernel
theorem dX3_join_26 : decode cX3_join 26 = .ok (.getfield 9, 3) := by decide +kernel
theorem dX3_join_29 : decode cX3_join 29 = .ok (.iload_n 1, 1) := by decide +kernel
theorem dX3_join_30 : decode cX3_join 30 = .ok (.aload_n 0, 1) := by decide +kernel
theorem dX3_join_31 : decode cX3_join 31 = .ok (.getfield 9, 3) := by decide +kernel
theorem dX3_join_34 : decode cX3_join 34 = .ok (.iload_n 1, 1) := by decide +kernel
theorem dX3_join_35 : decode cX3_join 35 = .ok (.iaload, 1) := by decide +kernel
theorem dX3_join_36 : decode cX3_join 36 = .ok (.aload_n 0, 1) := by decide +kernel
theorem dX3_join_37 : decode cX3_join 37 = .ok (.getfield 9, 3) := by decide +kernel
theorem dX3_join_40 : decode cX3_join 40 = .ok (.iload_n 2, 1) := by decide +kernel
theorem dX3_join_41 : decode cX3_join 41 = .ok (.iaload, 1) := by decide +kernel
theorem dX3_join_42 : decode cX3_join 42 = .ok (.iadd, 1) := by decide +kernel
theorem dX3_join_43 : decode cX3_join 43 = .ok (.bipush 99, 2) := by decide +kernel
theorem dX3_join_45 : decode cX3_join 45 = .ok (.invokestatic 111, 3) := by decide +kernel
theorem dX3_join_48 : decode cX3_join 48 = .ok (.iastore, 1) := by decide +kernel
theorem dX3_join_49 : decode cX3_join 49 = .ok (.aload_n 0, 1) := by decide +kernel
theorem dX3_join_50 : decode cX3_join 50 = .ok (.getfield 15, 3) := by decide +kernel
theorem dX3_join_53 : decode cX3_join 53 = .ok (.iload_n 1, 1) := by decide +kernel
theorem dX3_join_54 : decode cX3_join 54 = .ok (.dup2, 1) := by decide +kernel
theorem dX3_join_55 : decode cX3_join 55 = .ok (.iaload, 1) := by decide +kernel
theorem dX3_join_56 : decode cX3_join 56 = .ok (.aload_n 0, 1) := by decide +kernel
theorem dX3_join_57 : decode cX3_join 57 = .ok (.getfield 15, 3) := by decide +kernel
theorem dX3_join_60 : decode cX3_join 60 = .ok (.iload_n 2, 1) := by decide +kernel
theorem dX3_join_61 : decode cX3_join 61 = .ok (.iaload, 1) := by decide +kernel
theorem dX3_join_62 : decode cX3_join 62 = .ok (.ior, 1) := by decide +kernel
theorem dX3_join_63 : decode cX3_join 63 = .ok (.iastore, 1) := by decide +kernel
theorem dX3_join_64 : decode cX3_join 64 = .ok (.aload_n 0, 1) := by decide +kernel
theorem dX3_join_65 : decode cX3_join 65 = .ok (.getfield 9, 3) := by decide +kernel
theorem dX3_join_68 : decode cX3_join 68 = .ok (.iload_n 2, 1) := by decide +kernel
theorem dX3_join_69 : decode cX3_join 69 = .ok (.iconst 0, 1) := by decide +kernel
theorem dX3_join_70 : decode cX3_join 70 = .ok (.iastore, 1) := by decide +kernel
theorem dX3_join_71 : decode cX3_join 71 = .ok (.iconst 0, 1) := by decide +kernel
theorem dX3_join_72 : decode cX3_join 72 = .ok (.ireturn, 1) := by decide +kernel
theorem dX3_sitBy_0 : decode cX3_sitBy 0 = .ok (.aload_n 0, 1) := by decide +kernel
theorem dX3_sitBy_1 : decode cX3_sitBy 1 = .ok (.iload_n 1, 1) := by decide +kernel
theorem dX3_sitBy_2 : decode cX3_sitBy 2 = .ok (.invokevirtual 99, 3) := by decide +kernel
theorem dX3_sitBy_5 : decode cX3_sitBy 5 = .ok (.ifCond .ne 5, 3) := by decide +kernel
theorem dX3_sitBy_8 : decode cX3_sitBy 8 = .ok (.iconst 1, 1) := by decide +kernel
theorem dX3_sitBy_9 : decode cX3_sitBy 9 = .ok (.ireturn, 1) := by decide +kernel
theorem dX3_sitBy_10 : decode cX3_sitBy 10 = .ok (.aload_n 0, 1) := by decide +kernel
theorem dX3_sitBy_11 : decode cX3_sitBy 11 = .ok (.getfield 47, 3) := by decide +kernel
theorem dX3_sitBy_14 : decode cX3_sitBy 14 = .ok (.bipush 10, 2) := by decide +kernel
theorem dX3_sitBy_16 : decode cX3_sitBy 16 = .ok (.if_icmp .ge 5, 3) := by decide +kernel
theorem dX3_sitBy_19 : decode cX3_sitBy 19 = .ok (.iconst 3, 1) := by decide +kernel
theorem dX3_sitBy_20 : decode cX3_sitBy 20 = .ok (.ireturn, 1) := by decide +kernel
theorem dX3_sitBy_21 : decode cX3_sitBy 21 = .ok (.aload_n 0, 1) := by decide +kernel
theorem dX3_sitBy_22 : decode cX3_sitBy 22 = .ok (.dup, 1) := by decide +kernel
theorem dX3_sitBy_23 : decode cX3_sitBy 23 = .ok (.getfield 47, 3) := by decide +kernel
theorem dX3_sitBy_26 : decode cX3_sitBy 26 = .ok (.bipush 10, 2) := by decide +kernel
theorem dX3_sitBy_28 : decode cX3_sitBy 28 = .ok (.isub, 1) := by decide +kernel
theorem dX3_sitBy_29 : decode cX3_sitBy 29 = .ok (.putfield 47, 3) := by decide +kernel
theorem dX3_sitBy_32 : decode cX3_sitBy 32 = .ok (.aload_n 0, 1) := by decide +kernel
theorem dX3_sitBy_33 : decode cX3_sitBy 33 = .ok (.getfield 9, 3) := by decide +kernel
theorem dX3_sitBy_36 : decode cX3_sitBy 36 = .ok (.iload_n 1, 1) := by decide +kernel
theorem dX3_sitBy_37 : decode cX3_sitBy 37 = .ok (.aload_n 0, 1) := by decide +kernel
theorem dX3_sitBy_38 : decode cX3_sitBy 38 = .ok (.getfield 9, 3) := by decide +kernel
theorem dX3_sitBy_41 : decode cX3_sitBy 41 = .ok (.iload_n 1, 1) := by decide +kernel
theorem dX3_sitBy_42 : decode cX3_sitBy 42 = .ok (.iaload, 1) := by decide +kernel
theorem dX3_sitBy_43 : decode cX3_sitBy 43 = .ok (.iconst 2, 1) := by decide +kernel
theorem dX3_sitBy_44 : decode cX3_sitBy 44 = .ok (.idiv, 1) := by decide +kernel
theorem dX3_sitBy_45 : decode cX3_sitBy 45 = .ok (.iconst 1, 1) := by decide +kernel
theorem dX3_sitBy_46 : decode cX3_sitBy 46 = .ok (.invokestatic 106, 3) := by decide +kernel
theorem dX3_sitBy_49 : decode cX3_sitBy 49 = .ok (.iastore, 1) := by decide +kernel
theorem dX3_sitBy_50 : decode cX3_sitBy 50 = .ok (.iconst 0, 1) := by decide +kernel
theorem dX3_sitBy_51 : decode cX3_sitBy 51 = .ok (.ireturn, 1) := by decide +kernel
theorem dX3_rest_0 : decode cX3_rest 0 = .ok (.aload_n 0, 1) := by decide +kernel
theorem dX3_rest_1 : decode cX3_rest 1 = .ok (.getfield 47, 3) := by decide +kernel
theorem dX3_rest_4 : decode cX3_rest 4 = .ok (.bipush 99, 2) := by decide +kernel
theorem dX3_rest_6 : decode cX3_rest 6 = .ok (.if_icmp .ne 5, 3) := by decide +kernel
theorem dX3_rest_9 : decode cX3_rest 9 = .ok (.iconst 5, 1) := by decide +kernel
theorem dX3_rest_10 : decode cX3_rest 10 = .ok (.ireturn, 1) := by decide +kernel
theorem dX3_rest_11 : decode cX3_rest 11 = .ok (.aload_n 0, 1) := by decide +kernel
theorem dX3_rest_12 : decode cX3_rest 12 = .ok (.aload_n 0, 1) := by decide +kernel
theorem dX3_rest_13 : decode cX3_rest 13 = .ok (.getfield 47, 3) := by decide +kernel
theorem dX3_rest_16 : decode cX3_rest 16 = .ok (.bipush 20, 2) := by decide +kernel
theorem dX3_rest_18 : decode cX3_rest 18 = .ok (.iadd, 1) := by decide +kernel
theorem dX3_rest_19 : decode cX3_rest 19 = .ok (.bipush 99, 2) := by decide +kernel
theorem dX3_rest_21 : decode cX3_rest 21 = .ok (.invokestatic 111, 3) := by decide +kernel
theorem dX3_rest_24 : decode cX3_rest 24 = .ok (.putfield 47, 3) := by decide +kernel
theorem dX3_rest_27 : decode cX3_rest 27 = .ok (.iconst 0, 1) := by decide +kernel
theorem dX3_rest_28 : decode cX3_rest 28 = .ok (.ireturn, 1) := by decide +kernel
theorem dX3_passHour_0 : decode cX3_passHour 0 = .ok (.aload_n 0, 1) := by decide +kernel
theorem dX3_passHour_1 : decode cX3_passHour 1 = .ok (.getfield 50, 3) := by decide +kernel
theorem dX3_passHour_4 : decode cX3_passHour 4 = .ok (.bipush 99, 2) := by decide +kernel
theorem dX3_passHour_6 : decode cX3_passHour 6 = .ok (.if_icmp .ne 6, 3) := by decide +kernel
theorem dX3_passHour_9 : decode cX3_passHour 9 = .ok (.bipush 6, 2) := by decide +kernel
theorem dX3_passHour_11 : decode cX3_passHour 11 = .ok (.ireturn, 1) := by decide +kernel
theorem dX3_passHour_12 : decode cX3_passHour 12 = .ok (.aload_n 0, 1) := by decide +kernel
theorem dX3_passHour_13 : decode cX3_passHour 13 = .ok (.dup, 1) := by decide +kernel
theorem dX3_passHour_14 : decode cX3_passHour 14 = .ok (.getfield 50, 3) := by decide +kernel
theorem dX3_passHour_17 : decode cX3_passHour 17 = .ok (.iconst 1, 1) := by decide +kernel
theorem dX3_passHour_18 : decode cX3_passHour 18 = .ok (.iadd, 1) := by decide +kernel
theorem dX3_passHour_19 : decode cX3_passHour 19 = .ok (.putfield 50, 3) := by decide +kernel
theorem dX3_passHour_22 : decode cX3_passHour 22 = .ok (.aload_n 0, 1) := by decide +kernel
theorem dX3_passHour_23 : decode cX3_passHour 23 = .ok (.aload_n 0, 1) := by decide +kernel
theorem dX3_passHour_24 : decode cX3_passHour 24 = .ok (.getfield 47, 3) := by decide +kernel
theorem dX3_passHour_27 : decode cX3_passHour 27 = .ok (.iconst 5, 1) := by decide +kernel
theorem dX3_passHour_28 : decode cX3_passHour 28 = .ok (.iadd, 1) := by decide +kernel
theorem dX3_passHour_29 : decode cX3_passHour 29 = .ok (.bipush 99, 2) := by decide +kernel
theorem dX3_passHour_31 : decode cX3_passHour 31 = .ok (.invokestatic 111, 3) := by decide +kernel
theorem dX3_passHour_34 : decode cX3_passHour 34 = .ok (.putfield 47, 3) := by decide +kernel
theorem dX3_passHour_37 : decode cX3_passHour 37 = .ok (.iconst 0, 1) := by decide +kernel
theorem dX3_passHour_38 : decode cX3_passHour 38 = .ok (.istore_n 1, 1) := by decide +kernel
theorem dX3_passHour_39 : decode cX3_passHour 39 = .ok (.iload_n 1, 1) := by decide +kernel
theorem dX3_passHour_40 : decode cX3_passHour 40 = .ok (.bipush 6, 2) := by decide +kernel
theorem dX3_passHour_42 : decode cX3_passHour 42 = .ok (.if_icmp .ge 37, 3) := by decide +kernel
theorem dX3_passHour_45 : decode cX3_passHour 45 = .ok (.aload_n 0, 1) := by decide +kernel
theorem dX3_passHour_46 : decode cX3_passHour 46 = .ok (.getfield 9, 3) := by decide +kernel
theorem dX3_passHour_49 : decode cX3_passHour 49 = .ok (.iload_n 1, 1) := by decide +kernel
theorem dX3_passHour_50 : decode cX3_passHour 50 = .ok (.iaload, 1) := by decide +kernel
theorem dX3_passHour_51 : decode cX3_passHour 51 = .ok (.ifCond .le 22, 3) := by decide +kernel
theorem dX3_passHour_54 : decode cX3_passHour 54 = .ok (.aload_n 0, 1) := by decide +kernel
theorem dX3_passHour_55 : decode cX3_passHour 55 = .ok (.getfield 9, 3) := by decide +kernel
theorem dX3_passHour_58 : decode cX3_passHour 58 = .ok (.iload_n 1, 1) := by decide +kernel
theorem dX3_passHour_59 : decode cX3_passHour 59 = .ok (.aload_n 0, 1) := by decide +kernel
theorem dX3_passHour_60 : decode cX3_passHour 60 = .ok (.getfield 9, 3) := by decide +kernel
theorem dX3_passHour_63 : decode cX3_passHour 63 = .ok (.iload_n 1, 1) := by decide +kernel
theorem dX3_passHour_64 : decode cX3_passHour 64 = .ok (.iaload, 1) := by decide +kernel
theorem dX3_passHour_65 : decode cX3_passHour 65 = .ok (.iconst 3, 1) := by decide +kernel
theorem dX3_passHour_66 : decode cX3_passHour 66 = .ok (.iadd, 1) := by decide +kernel
theorem dX3_passHour_67 : decode cX3_passHour 67 = .ok (.bipush 99, 2) := by decide +kernel
theorem dX3_passHour_69 : decode cX3_passHour 69 = .ok (.invokestatic 111, 3) := by decide +kernel
theorem dX3_passHour_72 : decode cX3_passHour 72 = .ok (.iastore, 1) := by decide +kernel
theorem dX3_passHour_73 : decode cX3_passHour 73 = .ok (.iinc 1 1, 3) := by decide +kernel
theorem dX3_passHour_76 : decode cX3_passHour 76 = .ok (.goto (-37), 3) := by decide +kernel
theorem dX3_passHour_79 : decode cX3_passHour 79 = .ok (.iconst 0, 1) := by decide +kernel
theorem dX3_passHour_80 : decode cX3_passHour 80 = .ok (.ireturn, 1) := by decide +kernel
theorem dX3_strengthOf_0 : decode cX3_strengthOf 0 = .ok (.iconst 0, 1) := by decide +kernel
theorem dX3_strengthOf_1 : decode cX3_strengthOf 1 = .ok (.istore_n 2, 1) := by decide +kernel
theorem dX3_strengthOf_2 : decode cX3_strengthOf 2 = .ok (.iconst 0, 1) := by decide +kernel
theorem dX3_strengthOf_3 : decode cX3_strengthOf 3 = .ok (.istore_n 3, 1) := by decide +kernel
theorem dX3_strengthOf_4 : decode cX3_strengthOf 4 = .ok (.iload_n 3, 1) := by decide +kernel
theorem dX3_strengthOf_5 : decode cX3_strengthOf 5 = .ok (.bipush 6, 2) := by decide +kernel
theorem dX3_strengthOf_7 : decode cX3_strengthOf 7 = .ok (.if_icmp .ge 26, 3) := by decide +kernel
theorem dX3_strengthOf_10 : decode cX3_strengthOf 10 = .ok (.iload_n 1, 1) := by decide +kernel
theorem dX3_strengthOf_11 : decode cX3_strengthOf 11 = .ok (.iload_n 3, 1) := by decide +kernel
theorem dX3_strengthOf_12 : decode cX3_strengthOf 12 = .ok (.invokestatic 114, 3) := by decide +kernel
theorem dX3_strengthOf_15 : decode cX3_strengthOf 15 = .ok (.ifCond .eq 12, 3) := by decide +kernel
theorem dX3_strengthOf_18 : decode cX3_strengthOf 18 = .ok (.iload_n 2, 1) := by decide +kernel
theorem dX3_strengthOf_19 : decode cX3_strengthOf 19 = .ok (.aload_n 0, 1) := by decide +kernel
theorem dX3_strengthOf_20 : decode cX3_strengthOf 20 = .ok (.getfield 9, 3) := by decide +kernel
theorem dX3_strengthOf_23 : decode cX3_strengthOf 23 = .ok (.iload_n 3, 1) := by decide +kernel
theorem dX3_strengthOf_24 : decode cX3_strengthOf 24 = .ok (.iaload, 1) := by decide +kernel
theorem dX3_strengthOf_25 : decode cX3_strengthOf 25 = .ok (.iadd, 1) := by decide +kernel
theorem dX3_strengthOf_26 : decode cX3_strengthOf 26 = .ok (.istore_n 2, 1) := by decide +kernel
theorem dX3_strengthOf_27 : decode cX3_strengthOf 27 = .ok (.iinc 3 1, 3) := by decide +kernel
theorem dX3_strengthOf_30 : decode cX3_strengthOf 30 = .ok (.goto (-26), 3) := by decide +kernel
theorem dX3_strengthOf_33 : decode cX3_strengthOf 33 = .ok (.iload_n 2, 1) := by decide +kernel
theorem dX3_strengthOf_34 : decode cX3_strengthOf 34 = .ok (.ireturn, 1) := by decide +kernel
theorem dX3_marksOf_0 : decode cX3_marksOf 0 = .ok (.iconst 0, 1) := by decide +kernel
theorem dX3_marksOf_1 : decode cX3_marksOf 1 = .ok (.istore_n 2, 1) := by decide +kernel
theorem dX3_marksOf_2 : decode cX3_marksOf 2 = .ok (.iconst 0, 1) := by decide +kernel
theorem dX3_marksOf_3 : decode cX3_marksOf 3 = .ok (.istore_n 3, 1) := by decide +kernel
theorem dX3_marksOf_4 : decode cX3_marksOf 4 = .ok (.iload_n 3, 1) := by decide +kernel
theorem dX3_marksOf_5 : decode cX3_marksOf 5 = .ok (.bipush 6, 2) := by decide +kernel
theorem dX3_marksOf_7 : decode cX3_marksOf 7 = .ok (.if_icmp .ge 26, 3) := by decide +kernel
theorem dX3_marksOf_10 : decode cX3_marksOf 10 = .ok (.iload_n 1, 1) := by decide +kernel
theorem dX3_marksOf_11 : decode cX3_marksOf 11 = .ok (.iload_n 3, 1) := by decide +kernel
theorem dX3_marksOf_12 : decode cX3_marksOf 12 = .ok (.invokestatic 114, 3) := by decide +kernel
theorem dX3_marksOf_15 : decode cX3_marksOf 15 = .ok (.ifCond .eq 12, 3) := by decide +kernel
theorem dX3_marksOf_18 : decode cX3_marksOf 18 = .ok (.iload_n 2, 1) := by decide +kernel
theorem dX3_marksOf_19 : decode cX3_marksOf 19 = .ok (.aload_n 0, 1) := by decide +kernel
theorem dX3_marksOf_20 : decode cX3_marksOf 20 = .ok (.getfield 15, 3) := by decide +kernel
theorem dX3_marksOf_23 : decode cX3_marksOf 23 = .ok (.iload_n 3, 1) := by decide +kernel
theorem dX3_marksOf_24 : decode cX3_marksOf 24 = .ok (.iaload, 1) := by decide +kernel
theorem dX3_marksOf_25 : decode cX3_marksOf 25 = .ok (.ior, 1) := by decide +kernel
theorem dX3_marksOf_26 : decode cX3_marksOf 26 = .ok (.istore_n 2, 1) := by decide +kernel
theorem dX3_marksOf_27 : decode cX3_marksOf 27 = .ok (.iinc 3 1, 3) := by decide +kernel
theorem dX3_marksOf_30 : decode cX3_marksOf 30 = .ok (.goto (-26), 3) := by decide +kernel
theorem dX3_marksOf_33 : decode cX3_marksOf 33 = .ok (.iload_n 2, 1) := by decide +kernel
theorem dX3_marksOf_34 : decode cX3_marksOf 34 = .ok (.ireturn, 1) := by decide +kernel
theorem dX3_leastSetWith_0 : decode cX3_leastSetWith 0 = .ok (.aload_n 0, 1) := by decide +kernel
theorem dX3_leastSetWith_1 : decode cX3_leastSetWith 1 = .ok (.invokevirtual 117, 3) := by decide +kernel
theorem dX3_leastSetWith_4 : decode cX3_leastSetWith 4 = .ok (.istore_n 2, 1) := by decide +kernel
theorem dX3_leastSetWith_5 : decode cX3_leastSetWith 5 = .ok (.bipush (-6), 2) := by decide +kernel
theorem dX3_leastSetWith_7 : decode cX3_leastSetWith 7 = .ok (.istore_n 3, 1) := by decide +kernel
theorem dX3_leastSetWith_8 : decode cX3_leastSetWith 8 = .ok (.iconst 0, 1) := by decide +kernel
theorem dX3_leastSetWith_9 : decode cX3_leastSetWith 9 = .ok (.istore 4, 2) := by decide +kernel
theorem dX3_leastSetWith_11 : decode cX3_leastSetWith 11 = .ok (.iload 4, 2) := by decide +kernel
theorem dX3_leastSetWith_13 : decode cX3_leastSetWith 13 = .ok (.bipush 64, 2) := by decide +kernel
theorem dX3_leastSetWith_15 : decode cX3_leastSetWith 15 = .ok (.if_icmp .ge 51, 3) := by decide +kernel
theorem dX3_leastSetWith_18 : decode cX3_leastSetWith 18 = .ok (.iload 4, 2) := by decide +kernel
theorem dX3_leastSetWith_20 : decode cX3_leastSetWith 20 = .ok (.iload_n 2, 1) := by decide +kernel
theorem dX3_leastSetWith_21 : decode cX3_leastSetWith 21 = .ok (.invokestatic 67, 3) := by decide +kernel
theorem dX3_leastSetWith_24 : decode cX3_leastSetWith 24 = .ok (.ifCond .eq 36, 3) := by decide +kernel
theorem dX3_leastSetWith_27 : decode cX3_leastSetWith 27 = .ok (.aload_n 0, 1) := by decide +kernel
theorem dX3_leastSetWith_28 : decode cX3_leastSetWith 28 = .ok (.iload 4, 2) := by decide +kernel
theorem dX3_leastSetWith_30 : decode cX3_leastSetWith 30 = .ok (.invokevirtual 120, 3) := by decide +kernel
theorem dX3_leastSetWith_33 : decode cX3_leastSetWith 33 = .ok (.iload_n 1, 1) := by decide +kernel
theorem dX3_leastSetWith_34 : decode cX3_leastSetWith 34 = .ok (.if_icmp .ne 26, 3) := by decide +kernel
theorem dX3_leastSetWith_37 : decode cX3_leastSetWith 37 = .ok (.iload_n 3, 1) := by decide +kernel
theorem dX3_leastSetWith_38 : decode cX3_leastSetWith 38 = .ok (.bipush (-6), 2) := by decide +kernel
theorem dX3_leastSetWith_40 : decode cX3_leastSetWith 40 = .ok (.if_icmp .eq 17, 3) := by decide +kernel
theorem dX3_leastSetWith_43 : decode cX3_leastSetWith 43 = .ok (.aload_n 0, 1) := by decide +kernel
theorem dX3_leastSetWith_44 : decode cX3_leastSetWith 44 = .ok (.iload 4, 2) := by decide +kernel
theorem dX3_leastSetWith_46 : decode cX3_leastSetWith 46 = .ok (.invokevirtual 123, 3) := by decide +kernel
theorem dX3_leastSetWith_49 : decode cX3_leastSetWith 49 = .ok (.aload_n 0, 1) := by decide +kernel
theorem dX3_leastSetWith_50 : decode cX3_leastSetWith 50 = .ok (.iload_n 3, 1) := by decide +kernel
theorem dX3_leastSetWith_51 : decode cX3_leastSetWith 51 = .ok (.invokevirtual 123, 3) := by decide +kernel
theorem dX3_leastSetWith_54 : decode cX3_leastSetWith 54 = .ok (.if_icmp .ge 6, 3) := by decide +kernel
theorem dX3_leastSetWith_57 : decode cX3_leastSetWith 57 = .ok (.iload 4, 2) := by decide +kernel
theorem dX3_leastSetWith_59 : decode cX3_leastSetWith 59 = .ok (.istore_n 3, 1) := by decide +kernel
theorem dX3_leastSetWith_60 : decode cX3_leastSetWith 60 = .ok (.iinc 4 1, 3) := by decide +kernel
theorem dX3_leastSetWith_63 : decode cX3_leastSetWith 63 = .ok (.goto (-52), 3) := by decide +kernel
theorem dX3_leastSetWith_66 : decode cX3_leastSetWith 66 = .ok (.iload_n 3, 1) := by decide +kernel
theorem dX3_leastSetWith_67 : decode cX3_leastSetWith 67 = .ok (.ireturn, 1) := by decide +kernel
theorem dX3_hoursOf_0 : decode cX3_hoursOf 0 = .ok (.iconst 0, 1) := by decide +kernel
theorem dX3_hoursOf_1 : decode cX3_hoursOf 1 = .ok (.istore_n 2, 1) := by decide +kernel
theorem dX3_hoursOf_2 : decode cX3_hoursOf 2 = .ok (.iconst 0, 1) := by decide +kernel
theorem dX3_hoursOf_3 : decode cX3_hoursOf 3 = .ok (.istore_n 3, 1) := by decide +kernel
theorem dX3_hoursOf_4 : decode cX3_hoursOf 4 = .ok (.iload_n 3, 1) := by decide +kernel
theorem dX3_hoursOf_5 : decode cX3_hoursOf 5 = .ok (.bipush 8, 2) := by decide +kernel
theorem dX3_hoursOf_7 : decode cX3_hoursOf 7 = .ok (.if_icmp .ge 35, 3) := by decide +kernel
theorem dX3_hoursOf_10 : decode cX3_hoursOf 10 = .ok (.iload_n 1, 1) := by decide +kernel
theorem dX3_hoursOf_11 : decode cX3_hoursOf 11 = .ok (.iload_n 3, 1) := by decide +kernel
theorem dX3_hoursOf_12 : decode cX3_hoursOf 12 = .ok (.invokestatic 114, 3) := by decide +kernel
theorem dX3_hoursOf_15 : decode cX3_hoursOf 15 = .ok (.ifCond .eq 21, 3) := by decide +kernel
theorem dX3_hoursOf_18 : decode cX3_hoursOf 18 = .ok (.iload_n 2, 1) := by decide +kernel
theorem dX3_hoursOf_19 : decode cX3_hoursOf 19 = .ok (.aload_n 0, 1) := by decide +kernel
theorem dX3_hoursOf_20 : decode cX3_hoursOf 20 = .ok (.getfield 27, 3) := by decide +kernel
theorem dX3_hoursOf_23 : decode cX3_hoursOf 23 = .ok (.iload_n 3, 1) := by decide +kernel
theorem dX3_hoursOf_24 : decode cX3_hoursOf 24 = .ok (.iaload, 1) := by decide +kernel
theorem dX3_hoursOf_25 : decode cX3_hoursOf 25 = .ok (.aload_n 0, 1) := by decide +kernel
theorem dX3_hoursOf_26 : decode cX3_hoursOf 26 = .ok (.getfield 30, 3) := by decide +kernel
theorem dX3_hoursOf_29 : decode cX3_hoursOf 29 = .ok (.iload_n 3, 1) := by decide +kernel
theorem dX3_hoursOf_30 : decode cX3_hoursOf 30 = .ok (.iaload, 1) := by decide +kernel
theorem dX3_hoursOf_31 : decode cX3_hoursOf 31 = .ok (.invokestatic 126, 3) := by decide +kernel
theorem dX3_hoursOf_34 : decode cX3_hoursOf 34 = .ok (.ior, 1) := by decide +kernel
theorem dX3_hoursOf_35 : decode cX3_hoursOf 35 = .ok (.istore_n 2, 1) := by decide +kernel
theorem dX3_hoursOf_36 : decode cX3_hoursOf 36 = .ok (.iinc 3 1, 3) := by decide +kernel
theorem dX3_hoursOf_39 : decode cX3_hoursOf 39 = .ok (.goto (-35), 3) := by decide +kernel
theorem dX3_hoursOf_42 : decode cX3_hoursOf 42 = .ok (.iload_n 2, 1) := by decide +kernel
theorem dX3_hoursOf_43 : decode cX3_hoursOf 43 = .ok (.ireturn, 1) := by decide +kernel
theorem dX3_fewestCoatsFor_0 : decode cX3_fewestCoatsFor 0 = .ok (.bipush (-6), 2) := by decide +kernel
theorem dX3_fewestCoatsFor_2 : decode cX3_fewestCoatsFor 2 = .ok (.istore_n 2, 1) := by decide +kernel
theorem dX3_fewestCoatsFor_3 : decode cX3_fewestCoatsFor 3 = .ok (.iconst 0, 1) := by decide +kernel
theorem dX3_fewestCoatsFor_4 : decode cX3_fewestCoatsFor 4 = .ok (.istore_n 3, 1) := by decide +kernel
theorem dX3_fewestCoatsFor_5 : decode cX3_fewestCoatsFor 5 = .ok (.iload_n 3, 1) := by decide +kernel
theorem dX3_fewestCoatsFor_6 : decode cX3_fewestCoatsFor 6 = .ok (.sipush 256, 3) := by decide +kernel
theorem dX3_fewestCoatsFor_9 : decode cX3_fewestCoatsFor 9 = .ok (.if_icmp .ge 40, 3) := by decide +kernel
theorem dX3_fewestCoatsFor_12 : decode cX3_fewestCoatsFor 12 = .ok (.iload_n 2, 1) := by decide +kernel
theorem dX3_fewestCoatsFor_13 : decode cX3_fewestCoatsFor 13 = .ok (.bipush (-6), 2) := by decide +kernel
theorem dX3_fewestCoatsFor_15 : decode cX3_fewestCoatsFor 15 = .ok (.if_icmp .eq 14, 3) := by decide +kernel
theorem dX3_fewestCoatsFor_18 : decode cX3_fewestCoatsFor 18 = .ok (.iload_n 3, 1) := by decide +kernel
theorem dX3_fewestCoatsFor_19 : decode cX3_fewestCoatsFor 19 = .ok (.invokestatic 61, 3) := by decide +kernel
theorem dX3_fewestCoatsFor_22 : decode cX3_fewestCoatsFor 22 = .ok (.iload_n 2, 1) := by decide +kernel
theorem dX3_fewestCoatsFor_23 : decode cX3_fewestCoatsFor 23 = .ok (.invokestatic 61, 3) := by decide +kernel
theorem dX3_fewestCoatsFor_26 : decode cX3_fewestCoatsFor 26 = .ok (.if_icmp .ge 17, 3) := by decide +kernel
theorem dX3_fewestCoatsFor_29 : decode cX3_fewestCoatsFor 29 = .ok (.iload_n 1, 1) := by decide +kernel
theorem dX3_fewestCoatsFor_30 : decode cX3_fewestCoatsFor 30 = .ok (.aload_n 0, 1) := by decide +kernel
theorem dX3_fewestCoatsFor_31 : decode cX3_fewestCoatsFor 31 = .ok (.iload_n 3, 1) := by decide +kernel
theorem dX3_fewestCoatsFor_32 : decode cX3_fewestCoatsFor 32 = .ok (.invokevirtual 129, 3) := by decide +kernel
theorem dX3_fewestCoatsFor_35 : decode cX3_fewestCoatsFor 35 = .ok (.invokestatic 67, 3) := by decide +kernel
theorem dX3_fewestCoatsFor_38 : decode cX3_fewestCoatsFor 38 = .ok (.ifCond .eq 5, 3) := by decide +kernel
theorem dX3_fewestCoatsFor_41 : decode cX3_fewestCoatsFor 41 = .ok (.iload_n 3, 1) := by decide +kernel
theorem dX3_fewestCoatsFor_42 : decode cX3_fewestCoatsFor 42 = .ok (.istore_n 2, 1) := by decide +kernel
theorem dX3_fewestCoatsFor_43 : decode cX3_fewestCoatsFor 43 = .ok (.iinc 3 1, 3) := by decide +kernel
theorem dX3_fewestCoatsFor_46 : decode cX3_fewestCoatsFor 46 = .ok (.goto (-41), 3) := by decide +kernel
theorem dX3_fewestCoatsFor_49 : decode cX3_fewestCoatsFor 49 = .ok (.iload_n 2, 1) := by decide +kernel
theorem dX3_fewestCoatsFor_50 : decode cX3_fewestCoatsFor 50 = .ok (.ireturn, 1) := by decide +kernel
theorem dX3_addSight_0 : decode cX3_addSight 0 = .ok (.aload_n 0, 1) := by decide +kernel
theorem dX3_addSight_1 : decode cX3_addSight 1 = .ok (.getfield 43, 3) := by decide +kernel
theorem dX3_addSight_4 : decode cX3_addSight 4 = .ok (.bipush 8, 2) := by decide +kernel
theorem dX3_addSight_6 : decode cX3_addSight 6 = .ok (.if_icmp .lt 5, 3) := by decide +kernel
theorem dX3_addSight_9 : decode cX3_addSight 9 = .ok (.iconst 0, 1) := by decide +kernel
theorem dX3_addSight_10 : decode cX3_addSight 10 = .ok (.ireturn, 1) := by decide +kernel
theorem dX3_addSight_11 : decode cX3_addSight 11 = .ok (.aload_n 0, 1) := by decide +kernel
theorem dX3_addSight_12 : decode cX3_addSight 12 = .ok (.getfield 36, 3) := by decide +kernel
theorem dX3_addSight_15 : decode cX3_addSight 15 = .ok (.aload_n 0, 1) := by decide +kernel
theorem dX3_addSight_16 : decode cX3_addSight 16 = .ok (.getfield 43, 3) := by decide +kernel
theorem dX3_addSight_19 : decode cX3_addSight 19 = .ok (.iload_n 1, 1) := by decide +kernel
theorem dX3_addSight_20 : decode cX3_addSight 20 = .ok (.iastore, 1) := by decide +kernel
theorem dX3_addSight_21 : decode cX3_addSight 21 = .ok (.aload_n 0, 1) := by decide +kernel
theorem dX3_addSight_22 : decode cX3_addSight 22 = .ok (.getfield 39, 3) := by decide +kernel
theorem dX3_addSight_25 : decode cX3_addSight 25 = .ok (.aload_n 0, 1) := by decide +kernel
theorem dX3_addSight_26 : decode cX3_addSight 26 = .ok (.getfield 43, 3) := by decide +kernel
theorem dX3_addSight_29 : decode cX3_addSight 29 = .ok (.iload_n 2, 1) := by decide +kernel
theorem dX3_addSight_30 : decode cX3_addSight 30 = .ok (.bastore, 1) := by decide +kernel
theorem dX3_addSight_31 : decode cX3_addSight 31 = .ok (.aload_n 0, 1) := by decide +kernel
theorem dX3_addSight_32 : decode cX3_addSight 32 = .ok (.dup, 1) := by decide +kernel
theorem dX3_addSight_33 : decode cX3_addSight 33 = .ok (.getfield 43, 3) := by decide +kernel
theorem dX3_addSight_36 : decode cX3_addSight 36 = .ok (.iconst 1, 1) := by decide +kernel
theorem dX3_addSight_37 : decode cX3_addSight 37 = .ok (.iadd, 1) := by decide +kernel
theorem dX3_addSight_38 : decode cX3_addSight 38 = .ok (.putfield 43, 3) := by decide +kernel
theorem dX3_addSight_41 : decode cX3_addSight 41 = .ok (.iconst 1, 1) := by decide +kernel
theorem dX3_addSight_42 : decode cX3_addSight 42 = .ok (.ireturn, 1) := by decide +kernel
theorem dX3_isAsSeen_0 : decode cX3_isAsSeen 0 = .ok (.iconst 0, 1) := by decide +kernel
theorem dX3_isAsSeen_1 : decode cX3_isAsSeen 1 = .ok (.istore_n 2, 1) := by decide +kernel
theorem dX3_isAsSeen_2 : decode cX3_isAsSeen 2 = .ok (.iload_n 2, 1) := by decide +kernel
theorem dX3_isAsSeen_3 : decode cX3_isAsSeen 3 = .ok (.aload_n 0, 1) := by decide +kernel
theorem dX3_isAsSeen_4 : decode cX3_isAsSeen 4 = .ok (.getfield 43, 3) := by decide +kernel
theorem dX3_isAsSeen_7 : decode cX3_isAsSeen 7 = .ok (.if_icmp .ge 41, 3) := by decide +kernel
theorem dX3_isAsSeen_10 : decode cX3_isAsSeen 10 = .ok (.iload_n 2, 1) := by decide +kernel
theorem dX3_isAsSeen_11 : decode cX3_isAsSeen 11 = .ok (.bipush 8, 2) := by decide +kernel
theorem dX3_isAsSeen_13 : decode cX3_isAsSeen 13 = .ok (.if_icmp .ge 35, 3) := by decide +kernel
theorem dX3_isAsSeen_16 : decode cX3_isAsSeen 16 = .ok (.aload_n 0, 1) := by decide +kernel
theorem dX3_isAsSeen_17 : decode cX3_isAsSeen 17 = .ok (.getfield 18, 3) := by decide +kernel
theorem dX3_isAsSeen_20 : decode cX3_isAsSeen 20 = .ok (.aload_n 0, 1) := by decide +kernel
theorem dX3_isAsSeen_21 : decode cX3_isAsSeen 21 = .ok (.getfield 36, 3) := by decide +kernel
theorem dX3_isAsSeen_24 : decode cX3_isAsSeen 24 = .ok (.iload_n 2, 1) := by decide +kernel
theorem dX3_isAsSeen_25 : decode cX3_isAsSeen 25 = .ok (.iaload, 1) := by decide +kernel
theorem dX3_isAsSeen_26 : decode cX3_isAsSeen 26 = .ok (.iaload, 1) := by decide +kernel
theorem dX3_isAsSeen_27 : decode cX3_isAsSeen 27 = .ok (.iload_n 1, 1) := by decide +kernel
theorem dX3_isAsSeen_28 : decode cX3_isAsSeen 28 = .ok (.invokestatic 67, 3) := by decide +kernel
theorem dX3_isAsSeen_31 : decode cX3_isAsSeen 31 = .ok (.aload_n 0, 1) := by decide +kernel
theorem dX3_isAsSeen_32 : decode cX3_isAsSeen 32 = .ok (.getfield 39, 3) := by decide +kernel
theorem dX3_isAsSeen_35 : decode cX3_isAsSeen 35 = .ok (.iload_n 2, 1) := by decide +kernel
theorem dX3_isAsSeen_36 : decode cX3_isAsSeen 36 = .ok (.baload, 1) := by decide +kernel
theorem dX3_isAsSeen_37 : decode cX3_isAsSeen 37 = .ok (.if_icmp .eq 5, 3) := by decide +kernel
theorem dX3_isAsSeen_40 : decode cX3_isAsSeen 40 = .ok (.iconst 0, 1) := by decide +kernel
theorem dX3_isAsSeen_41 : decode cX3_isAsSeen 41 = .ok (.ireturn, 1) := by decide +kernel
theorem dX3_isAsSeen_42 : decode cX3_isAsSeen 42 = .ok (.iinc 2 1, 3) := by decide +kernel
theorem dX3_isAsSeen_45 : decode cX3_isAsSeen 45 = .ok (.goto (-43), 3) := by decide +kernel
theorem dX3_isAsSeen_48 : decode cX3_isAsSeen 48 = .ok (.iconst 1, 1) := by decide +kernel
theorem dX3_isAsSeen_49 : decode cX3_isAsSeen 49 = .ok (.ireturn, 1) := by decide +kernel
theorem dX4_init_0 : decode cX4_init 0 = .ok (.aload_n 0, 1) := by decide +kernel
theorem dX4_init_1 : decode cX4_init 1 = .ok (.invokespecial 3, 3) := by decide +kernel
theorem dX4_init_4 : decode cX4_init 4 = .ok (.aload_n 0, 1) := by decide +kernel
theorem dX4_init_5 : decode cX4_init 5 = .ok (.new 9, 3) := by decide +kernel
theorem dX4_init_8 : decode cX4_init 8 = .ok (.dup, 1) := by decide +kernel
theorem dX4_init_9 : decode cX4_init 9 = .ok (.invokespecial 11, 3) := by decide +kernel
theorem dX4_init_12 : decode cX4_init 12 = .ok (.putfield 12, 3) := by decide +kernel
theorem dX4_init_15 : decode cX4_init 15 = .ok (.aload_n 0, 1) := by decide +kernel
theorem dX4_init_16 : decode cX4_init 16 = .ok (.bipush 6, 2) := by decide +kernel
theorem dX4_init_18 : decode cX4_init 18 = .ok (.newarray .int, 2) := by decide +kernel
theorem dX4_init_20 : decode cX4_init 20 = .ok (.putfield 18, 3) := by decide +kernel
theorem dX4_init_23 : decode cX4_init 23 = .ok (.aload_n 0, 1) := by decide +kernel
theorem dX4_init_24 : decode cX4_init 24 = .ok (.bipush 64, 2) := by decide +kernel
theorem dX4_init_26 : decode cX4_init 26 = .ok (.newarray .int, 2) := by decide +kernel
theorem dX4_init_28 : decode cX4_init 28 = .ok (.putfield 22, 3) := by decide +kernel
theorem dX4_init_31 : decode cX4_init 31 = .ok (.aload_n 0, 1) := by decide +kernel
theorem dX4_init_32 : decode cX4_init 32 = .ok (.iconst 0, 1) := by decide +kernel
theorem dX4_init_33 : decode cX4_init 33 = .ok (.putfield 25, 3) := by decide +kernel
theorem dX4_init_36 : decode cX4_init 36 = .ok (.return_, 1) := by decide +kernel
theorem dX4_work_0 : decode cX4_work 0 = .ok (.aload_n 0, 1) := by decide +kernel
theorem dX4_work_1 : decode cX4_work 1 = .ok (.iconst 0, 1) := by decide +kernel
theorem dX4_work_2 : decode cX4_work 2 = .ok (.putfield 25, 3) := by decide +kernel
theorem dX4_work_5 : decode cX4_work 5 = .ok (.iconst 0, 1) := by decide +kernel
theorem dX4_work_6 : decode cX4_work 6 = .ok (.istore_n 2, 1) := by decide +kernel
theorem dX4_work_7 : decode cX4_work 7 = .ok (.iload_n 2, 1) := by decide +kernel
theorem dX4_work_8 : decode cX4_work 8 = .ok (.bipush 6, 2) := by decide +kernel
theorem dX4_work_10 : decode cX4_work 10 = .ok (.if_icmp .ge 61, 3) := by decide +kernel
theorem dX4_work_13 : decode cX4_work 13 = .ok (.aload_n 1, 1) := by decide +kernel
theorem dX4_work_14 : decode cX4_work 14 = .ok (.iload_n 2, 1) := by decide +kernel
theorem dX4_work_15 : decode cX4_work 15 = .ok (.invokevirtual 29, 3) := by decide +kernel
theorem dX4_work_18 : decode cX4_work 18 = .ok (.ifCond .eq 15, 3) := by decide +kernel
theorem dX4_work_21 : decode cX4_work 21 = .ok (.aload_n 0, 1) := by decide +kernel
theorem dX4_work_22 : decode cX4_work 22 = .ok (.getfield 12, 3) := by decide +kernel
theorem dX4_work_25 : decode cX4_work 25 = .ok (.aload_n 1, 1) := by decide +kernel
theorem dX4_work_26 : decode cX4_work 26 = .ok (.iload_n 2, 1) := by decide +kernel
theorem dX4_work_27 : decode cX4_work 27 = .ok (.invokevirtual 35, 3) := by decide +kernel
theorem dX4_work_30 : decode cX4_work 30 = .ok (.goto 5, 3) := by decide +kernel
theorem dX4_work_33 : decode cX4_work 33 = .ok (.bipush (-6), 2) := by decide +kernel
theorem dX4_work_35 : decode cX4_work 35 = .ok (.istore_n 3, 1) := by decide +kernel
theorem dX4_work_36 : decode cX4_work 36 = .ok (.iload_n 3, 1) := by decide +kernel
theorem dX4_work_37 : decode cX4_work 37 = .ok (.bipush (-6), 2) := by decide +kernel
theorem dX4_work_39 : decode cX4_work 39 = .ok (.if_icmp .eq 26, 3) := by decide +kernel
theorem dX4_work_42 : decode cX4_work 42 = .ok (.aload_n 0, 1) := by decide +kernel
theorem dX4_work_43 : decode cX4_work 43 = .ok (.dup, 1) := by decide +kernel
theorem dX4_work_44 : decode cX4_work 44 = .ok (.getfield 25, 3) := by decide +kernel
theorem dX4_work_47 : decode cX4_work 47 = .ok (.iconst 1, 1) := by decide +kernel
theorem dX4_work_48 : decode cX4_work 48 = .ok (.iload_n 2, 1) := by decide +kernel
theorem dX4_work_49 : decode cX4_work 49 = .ok (.ishl, 1) := by decide +kernel
theorem dX4_work_50 : decode cX4_work 50 = .ok (.ior, 1) := by decide +kernel
theorem dX4_work_51 : decode cX4_work 51 = .ok (.putfield 25, 3) := by decide +kernel
theorem dX4_work_54 : decode cX4_work 54 = .ok (.aload_n 0, 1) := by decide +kernel
theorem dX4_work_55 : decode cX4_work 55 = .ok (.getfield 18, 3) := by decide +kernel
theorem dX4_work_58 : decode cX4_work 58 = .ok (.iload_n 2, 1) := by decide +kernel
theorem dX4_work_59 : decode cX4_work 59 = .ok (.iload_n 3, 1) := by decide +kernel
theorem dX4_work_60 : decode cX4_work 60 = .ok (.sipush 1000, 3) := by decide +kernel
theorem dX4_work_63 : decode cX4_work 63 = .ok (.irem, 1) := by decide +kernel
theorem dX4_work_64 : decode cX4_work 64 = .ok (.iastore, 1) := by decide +kernel
theorem dX4_work_65 : decode cX4_work 65 = .ok (.iinc 2 1, 3) := by decide +kernel
theorem dX4_work_68 : decode cX4_work 68 = .ok (.goto (-61), 3) := by decide +kernel
theorem dX4_work_71 : decode cX4_work 71 = .ok (.iconst 1, 1) := by decide +kernel
theorem dX4_work_72 : decode cX4_work 72 = .ok (.istore_n 2, 1) := by decide +kernel
theorem dX4_work_73 : decode cX4_work 73 = .ok (.iload_n 2, 1) := by decide +kernel
theorem dX4_work_74 : decode cX4_work 74 = .ok (.aload_n 0, 1) := by decide +kernel
theorem dX4_work_75 : decode cX4_work 75 = .ok (.getfield 25, 3) := by decide +kernel
theorem dX4_work_78 : decode cX4_work 78 = .ok (.if_icmp .gt 32, 3) := by decide +kernel
theorem dX4_work_81 : decode cX4_work 81 = .ok (.iload_n 2, 1) := by decide +kernel
theorem dX4_work_82 : decode cX4_work 82 = .ok (.aload_n 0, 1) := by decide +kernel
theorem dX4_work_83 : decode cX4_work 83 = .ok (.getfield 25, 3) := by decide +kernel
theorem dX4_work_86 : decode cX4_work 86 = .ok (.invokestatic 39, 3) := by decide +kernel
theorem dX4_work_89 : decode cX4_work 89 = .ok (.ifCond .eq 15, 3) := by decide +kernel
theorem dX4_work_92 : decode cX4_work 92 = .ok (.aload_n 0, 1) := by decide +kernel
theorem dX4_work_93 : decode cX4_work 93 = .ok (.getfield 22, 3) := by decide +kernel
theorem dX4_work_96 : decode cX4_work 96 = .ok (.iload_n 2, 1) := by decide +kernel
theorem dX4_work_97 : decode cX4_work 97 = .ok (.aload_n 0, 1) := by decide +kernel
theorem dX4_work_98 : decode cX4_work 98 = .ok (.aload_n 1, 1) := by decide +kernel
theorem dX4_work_99 : decode cX4_work 99 = .ok (.iload_n 2, 1) := by decide +kernel
theorem dX4_work_100 : decode cX4_work 100 = .ok (.invokevirtual 43, 3) := by decide +kernel
theorem dX4_work_103 : decode cX4_work 103 = .ok (.iastore, 1) := by decide +kernel
theorem dX4_work_104 : decode cX4_work 104 = .ok (.iinc 2 1, 3) := by decide +kernel
theorem dX4_work_107 : decode cX4_work 107 = .ok (.goto (-34), 3) := by decide +kernel
theorem dX4_work_110 : decode cX4_work 110 = .ok (.return_, 1) := by decide +kernel
theorem dX4_leastOf_0 : decode cX4_leastOf 0 = .ok (.ldc 46, 2) := by decide +kernel
theorem dX4_leastOf_2 : decode cX4_leastOf 2 = .ok (.istore_n 3, 1) := by decide +kernel
theorem dX4_leastOf_3 : decode cX4_leastOf 3 = .ok (.iconst 0, 1) := by decide +kernel
theorem dX4_leastOf_4 : decode cX4_leastOf 4 = .ok (.istore 4, 2) := by decide +kernel
theorem dX4_leastOf_6 : decode cX4_leastOf 6 = .ok (.iload 4, 2) := by decide +kernel
theorem dX4_leastOf_8 : decode cX4_leastOf 8 = .ok (.bipush 6, 2) := by decide +kernel
theorem dX4_leastOf_10 : decode cX4_leastOf 10 = .ok (.if_icmp .ge 31, 3) := by decide +kernel
theorem dX4_leastOf_13 : decode cX4_leastOf 13 = .ok (.iload_n 2, 1) := by decide +kernel
theorem dX4_leastOf_14 : decode cX4_leastOf 14 = .ok (.iload 4, 2) := by decide +kernel
theorem dX4_leastOf_16 : decode cX4_leastOf 16 = .ok (.invokestatic 47, 3) := by decide +kernel
theorem dX4_leastOf_19 : decode cX4_leastOf 19 = .ok (.ifCond .eq 16, 3) := by decide +kernel
theorem dX4_leastOf_22 : decode cX4_leastOf 22 = .ok (.iload_n 3, 1) := by decide +kernel
theorem dX4_leastOf_23 : decode cX4_leastOf 23 = .ok (.aload_n 0, 1) := by decide +kernel
theorem dX4_leastOf_24 : decode cX4_leastOf 24 = .ok (.aload_n 1, 1) := by decide +kernel
theorem dX4_leastOf_25 : decode cX4_leastOf 25 = .ok (.iload_n 2, 1) := by decide +kernel
theorem dX4_leastOf_26 : decode cX4_leastOf 26 = .ok (.iload 4, 2) := by decide +kernel
theorem dX4_leastOf_28 : decode cX4_leastOf 28 = .ok (.invokevirtual 50, 3) := by decide +kernel
theorem dX4_leastOf_31 : decode cX4_leastOf 31 = .ok (.invokestatic 54, 3) := by decide +kernel
theorem dX4_leastOf_34 : decode cX4_leastOf 34 = .ok (.istore_n 3, 1) := by decide +kernel
theorem dX4_leastOf_35 : decode cX4_leastOf 35 = .ok (.iinc 4 1, 3) := by decide +kernel
theorem dX4_leastOf_38 : decode cX4_leastOf 38 = .ok (.goto (-32), 3) := by decide +kernel
theorem dX4_leastOf_41 : decode cX4_leastOf 41 = .ok (.iload_n 3, 1) := by decide +kernel
theorem dX4_leastOf_42 : decode cX4_leastOf 42 = .ok (.ireturn, 1) := by decide +kernel
theorem dX4_borneIfFirst_0 : decode cX4_borneIfFirst 0 = .ok (.aload_n 1, 1) := by decide +kernel
theorem dX4_borneIfFirst_1 : decode cX4_borneIfFirst 1 = .ok (.iload_n 2, 1) := by decide +kernel
theorem dX4_borneIfFirst_2 : decode cX4_borneIfFirst 2 = .ok (.invokevirtual 60, 3) := by decide +kernel
theorem dX4_borneIfFirst_5 : decode cX4_borneIfFirst 5 = .ok (.aload_n 0, 1) := by decide +kernel
theorem dX4_borneIfFirst_6 : decode cX4_borneIfFirst 6 = .ok (.getfield 18, 3) := by decide +kernel
theorem dX4_borneIfFirst_9 : decode cX4_borneIfFirst 9 = .ok (.iload_n 3, 1) := by decide +kernel
theorem dX4_borneIfFirst_10 : decode cX4_borneIfFirst 10 = .ok (.iaload, 1) := by decide +kernel
theorem dX4_borneIfFirst_11 : decode cX4_borneIfFirst 11 = .ok (.imul, 1) := by decide +kernel
theorem dX4_borneIfFirst_12 : decode cX4_borneIfFirst 12 = .ok (.aload_n 0, 1) := by decide +kernel
theorem dX4_borneIfFirst_13 : decode cX4_borneIfFirst 13 = .ok (.getfield 22, 3) := by decide +kernel
theorem dX4_borneIfFirst_16 : decode cX4_borneIfFirst 16 = .ok (.iload_n 2, 1) := by decide +kernel
theorem dX4_borneIfFirst_17 : decode cX4_borneIfFirst 17 = .ok (.iconst 1, 1) := by decide +kernel
theorem dX4_borneIfFirst_18 : decode cX4_borneIfFirst 18 = .ok (.iload_n 3, 1) := by decide +kernel
theorem dX4_borneIfFirst_19 : decode cX4_borneIfFirst 19 = .ok (.ishl, 1) := by decide +kernel
theorem dX4_borneIfFirst_20 : decode cX4_borneIfFirst 20 = .ok (.iconst (-1), 1) := by decide +kernel
theorem dX4_borneIfFirst_21 : decode cX4_borneIfFirst 21 = .ok (.ixor, 1) := by decide +kernel
theorem dX4_borneIfFirst_22 : decode cX4_borneIfFirst 22 = .ok (.iand, 1) := by decide +kernel
theorem dX4_borneIfFirst_23 : decode cX4_borneIfFirst 23 = .ok (.iaload, 1) := by decide +kernel
theorem dX4_borneIfFirst_24 : decode cX4_borneIfFirst 24 = .ok (.iadd, 1) := by decide +kernel
theorem dX4_borneIfFirst_25 : decode cX4_borneIfFirst 25 = .ok (.ireturn, 1) := by decide +kernel
theorem dX4_leastBorne_0 : decode cX4_leastBorne 0 = .ok (.aload_n 0, 1) := by decide +kernel
theorem dX4_leastBorne_1 : decode cX4_leastBorne 1 = .ok (.getfield 22, 3) := by decide +kernel
theorem dX4_leastBorne_4 : decode cX4_leastBorne 4 = .ok (.aload_n 0, 1) := by decide +kernel
theorem dX4_leastBorne_5 : decode cX4_leastBorne 5 = .ok (.getfield 25, 3) := by decide +kernel
theorem dX4_leastBorne_8 : decode cX4_leastBorne 8 = .ok (.iaload, 1) := by decide +kernel
theorem dX4_leastBorne_9 : decode cX4_leastBorne 9 = .ok (.ireturn, 1) := by decide +kernel
theorem dX4_firstTaken_0 : decode cX4_firstTaken 0 = .ok (.iconst 0, 1) := by decide +kernel
theorem dX4_firstTaken_1 : decode cX4_firstTaken 1 = .ok (.istore_n 2, 1) := by decide +kernel
theorem dX4_firstTaken_2 : decode cX4_firstTaken 2 = .ok (.iload_n 2, 1) := by decide +kernel
theorem dX4_firstTaken_3 : decode cX4_firstTaken 3 = .ok (.bipush 6, 2) := by decide +kernel
theorem dX4_firstTaken_5 : decode cX4_firstTaken 5 = .ok (.if_icmp .ge 44, 3) := by decide +kernel
theorem dX4_firstTaken_8 : decode cX4_firstTaken 8 = .ok (.aload_n 0, 1) := by decide +kernel
theorem dX4_firstTaken_9 : decode cX4_firstTaken 9 = .ok (.getfield 25, 3) := by decide +kernel
theorem dX4_firstTaken_12 : decode cX4_firstTaken 12 = .ok (.iload_n 2, 1) := by decide +kernel
theorem dX4_firstTaken_13 : decode cX4_firstTaken 13 = .ok (.invokestatic 47, 3) := by decide +kernel
theorem dX4_firstTaken_16 : decode cX4_firstTaken 16 = .ok (.ifCond .eq 27, 3) := by decide +kernel
theorem dX4_firstTaken_19 : decode cX4_firstTaken 19 = .ok (.aload_n 0, 1) := by decide +kernel
theorem dX4_firstTaken_20 : decode cX4_firstTaken 20 = .ok (.aload_n 1, 1) := by decide +kernel
theorem dX4_firstTaken_21 : decode cX4_firstTaken 21 = .ok (.aload_n 0, 1) := by decide +kernel
theorem dX4_firstTaken_22 : decode cX4_firstTaken 22 = .ok (.getfield 25, 3) := by decide +kernel
theorem dX4_firstTaken_25 : decode cX4_firstTaken 25 = .ok (.iload_n 2, 1) := by decide +kernel
theorem dX4_firstTaken_26 : decode cX4_firstTaken 26 = .ok (.invokevirtual 50, 3) := by decide +kernel
theorem dX4_firstTaken_29 : decode cX4_firstTaken 29 = .ok (.aload_n 0, 1) := by decide +kernel
theorem dX4_firstTaken_30 : decode cX4_firstTaken 30 = .ok (.getfield 22, 3) := by decide +kernel
theorem dX4_firstTaken_33 : decode cX4_firstTaken 33 = .ok (.aload_n 0, 1) := by decide +kernel
theorem dX4_firstTaken_34 : decode cX4_firstTaken 34 = .ok (.getfield 25, 3) := by decide +kernel
theorem dX4_firstTaken_37 : decode cX4_firstTaken 37 = .ok (.iaload, 1) := by decide +kernel
theorem dX4_firstTaken_38 : decode cX4_firstTaken 38 = .ok (.if_icmp .ne 5, 3) := by decide +kernel
theorem dX4_firstTaken_41 : decode cX4_firstTaken 41 = .ok (.iload_n 2, 1) := by decide +kernel
theorem dX4_firstTaken_42 : decode cX4_firstTaken 42 = .ok (.ireturn, 1) := by decide +kernel
theorem dX4_firstTaken_43 : decode cX4_firstTaken 43 = .ok (.iinc 2 1, 3) := by decide +kernel
theorem dX4_firstTaken_46 : decode cX4_firstTaken 46 = .ok (.goto (-44), 3) := by decide +kernel
theorem dX4_firstTaken_49 : decode cX4_firstTaken 49 = .ok (.bipush (-6), 2) := by decide +kernel
theorem dX4_firstTaken_51 : decode cX4_firstTaken 51 = .ok (.ireturn, 1) := by decide +kernel
theorem dX5_init_0 : decode cX5_init 0 = .ok (.aload_n 0, 1) := by decide +kernel
theorem dX5_init_1 : decode cX5_init 1 = .ok (.invokespecial 3, 3) := by decide +kernel
theorem dX5_init_4 : decode cX5_init 4 = .ok (.aload_n 0, 1) := by decide +kernel
theorem dX5_init_5 : decode cX5_init 5 = .ok (.bipush 60, 2) := by decide +kernel
theorem dX5_init_7 : decode cX5_init 7 = .ok (.newarray .int, 2) := by decide +kernel
theorem dX5_init_9 : decode cX5_init 9 = .ok (.putfield 9, 3) := by decide +kernel
theorem dX5_init_12 : decode cX5_init 12 = .ok (.aload_n 0, 1) := by decide +kernel
theorem dX5_init_13 : decode cX5_init 13 = .ok (.iconst 0, 1) := by decide +kernel
theorem dX5_init_14 : decode cX5_init 14 = .ok (.putfield 15, 3) := by decide +kernel
theorem dX5_init_17 : decode cX5_init 17 = .ok (.return_, 1) := by decide +kernel
theorem dX5_write_0 : decode cX5_write 0 = .ok (.aload_n 0, 1) := by decide +kernel
theorem dX5_write_1 : decode cX5_write 1 = .ok (.getfield 15, 3) := by decide +kernel
theorem dX5_write_4 : decode cX5_write 4 = .ok (.bipush 60, 2) := by decide +kernel
theorem dX5_write_6 : decode cX5_write 6 = .ok (.if_icmp .lt 5, 3) := by decide +kernel
theorem dX5_write_9 : decode cX5_write 9 = .ok (.iconst 0, 1) := by decide +kernel
theorem dX5_write_10 : decode cX5_write 10 = .ok (.ireturn, 1) := by decide +kernel
theorem dX5_write_11 : decode cX5_write 11 = .ok (.aload_n 0, 1) := by decide +kernel
theorem dX5_write_12 : decode cX5_write 12 = .ok (.getfield 9, 3) := by decide +kernel
theorem dX5_write_15 : decode cX5_write 15 = .ok (.aload_n 0, 1) := by decide +kernel
theorem dX5_write_16 : decode cX5_write 16 = .ok (.getfield 15, 3) := by decide +kernel
theorem dX5_write_19 : decode cX5_write 19 = .ok (.iload_n 1, 1) := by decide +kernel
theorem dX5_write_20 : decode cX5_write 20 = .ok (.iastore, 1) := by decide +kernel
theorem dX5_write_21 : decode cX5_write 21 = .ok (.aload_n 0, 1) := by decide +kernel
theorem dX5_write_22 : decode cX5_write 22 = .ok (.dup, 1) := by decide +kernel
theorem dX5_write_23 : decode cX5_write 23 = .ok (.getfield 15, 3) := by decide +kernel
theorem dX5_write_26 : decode cX5_write 26 = .ok (.iconst 1, 1) := by decide +kernel
theorem dX5_write_27 : decode cX5_write 27 = .ok (.iadd, 1) := by decide +kernel
theorem dX5_write_28 : decode cX5_write 28 = .ok (.putfield 15, 3) := by decide +kernel
theorem dX5_write_31 : decode cX5_write 31 = .ok (.iconst 1, 1) := by decide +kernel
theorem dX5_write_32 : decode cX5_write 32 = .ok (.ireturn, 1) := by decide +kernel
theorem dX5_findFault_0 : decode cX5_findFault 0 = .ok (.iconst 0, 1) := by decide +kernel
theorem dX5_findFault_1 : decode cX5_findFault 1 = .ok (.istore_n 1, 1) := by decide +kernel
theorem dX5_findFault_2 : decode cX5_findFault 2 = .ok (.iconst 0, 1) := by decide +kernel
theorem dX5_findFault_3 : decode cX5_findFault 3 = .ok (.istore_n 2, 1) := by decide +kernel
theorem dX5_findFault_4 : decode cX5_findFault 4 = .ok (.iload_n 2, 1) := by decide +kernel
theorem dX5_findFault_5 : decode cX5_findFault 5 = .ok (.aload_n 0, 1) := by decide +kernel
theorem dX5_findFault_6 : decode cX5_findFault 6 = .ok (.getfield 15, 3) := by decide +kernel
theorem dX5_findFault_9 : decode cX5_findFault 9 = .ok (.if_icmp .ge 26, 3) := by decide +kernel
theorem dX5_findFault_12 : decode cX5_findFault 12 = .ok (.iload_n 1, 1) := by decide +kernel
theorem dX5_findFault_13 : decode cX5_findFault 13 = .ok (.aload_n 0, 1) := by decide +kernel
theorem dX5_findFault_14 : decode cX5_findFault 14 = .ok (.iload_n 2, 1) := by decide +kernel
theorem dX5_findFault_15 : decode cX5_findFault 15 = .ok (.invokevirtual 19, 3) := by decide +kernel
theorem dX5_findFault_18 : decode cX5_findFault 18 = .ok (.invokestatic 23, 3) := by decide +kernel
theorem dX5_findFault_21 : decode cX5_findFault 21 = .ok (.istore_n 1, 1) := by decide +kernel
theorem dX5_findFault_22 : decode cX5_findFault 22 = .ok (.iload_n 1, 1) := by decide +kernel
theorem dX5_findFault_23 : decode cX5_findFault 23 = .ok (.iconst (-1), 1) := by decide +kernel
theorem dX5_findFault_24 : decode cX5_findFault 24 = .ok (.if_icmp .ne 5, 3) := by decide +kernel
theorem dX5_findFault_27 : decode cX5_findFault 27 = .ok (.iload_n 2, 1) := by decide +kernel
theorem dX5_findFault_28 : decode cX5_findFault 28 = .ok (.ireturn, 1) := by decide +kernel
theorem dX5_findFault_29 : decode cX5_findFault 29 = .ok (.iinc 2 1, 3) := by decide +kernel
theorem dX5_findFault_32 : decode cX5_findFault 32 = .ok (.goto (-28), 3) := by decide +kernel
theorem dX5_findFault_35 : decode cX5_findFault 35 = .ok (.iload_n 1, 1) := by decide +kernel
theorem dX5_findFault_36 : decode cX5_findFault 36 = .ok (.ifCond .ne 8, 3) := by decide +kernel
theorem dX5_findFault_39 : decode cX5_findFault 39 = .ok (.bipush (-6), 2) := by decide +kernel
theorem dX5_findFault_41 : decode cX5_findFault 41 = .ok (.goto 7, 3) := by decide +kernel
theorem dX5_findFault_44 : decode cX5_findFault 44 = .ok (.aload_n 0, 1) := by decide +kernel
theorem dX5_findFault_45 : decode cX5_findFault 45 = .ok (.getfield 15, 3) := by decide +kernel
theorem dX5_findFault_48 : decode cX5_findFault 48 = .ok (.ireturn, 1) := by decide +kernel
theorem dX5_awaitedAfter_0 : decode cX5_awaitedAfter 0 = .ok (.iload_n 0, 1) := by decide +kernel
theorem dX5_awaitedAfter_1 : decode cX5_awaitedAfter 1 = .ok (.lookupswitch 85 #[(0, 27), (1, 54)], 27) := by decide +kernel
theorem dX5_awaitedAfter_28 : decode cX5_awaitedAfter 28 = .ok (.iload_n 1, 1) := by decide +kernel
theorem dX5_awaitedAfter_29 : decode cX5_awaitedAfter 29 = .ok (.invokestatic 27, 3) := by decide +kernel
theorem dX5_awaitedAfter_32 : decode cX5_awaitedAfter 32 = .ok (.ifCond .eq 5, 3) := by decide +kernel
theorem dX5_awaitedAfter_35 : decode cX5_awaitedAfter 35 = .ok (.iconst 1, 1) := by decide +kernel
theorem dX5_awaitedAfter_36 : decode cX5_awaitedAfter 36 = .ok (.ireturn, 1) := by decide +kernel
theorem dX5_awaitedAfter_37 : decode cX5_awaitedAfter 37 = .ok (.iload_n 1, 1) := by decide +kernel
theorem dX5_awaitedAfter_38 : decode cX5_awaitedAfter 38 = .ok (.bipush 126, 2) := by decide +kernel
theorem dX5_awaitedAfter_40 : decode cX5_awaitedAfter 40 = .ok (.if_icmp .eq 9, 3) := by decide +kernel
theorem dX5_awaitedAfter_43 : decode cX5_awaitedAfter 43 = .ok (.iload_n 1, 1) := by decide +kernel
theorem dX5_awaitedAfter_44 : decode cX5_awaitedAfter 44 = .ok (.bipush 46, 2) := by decide +kernel
theorem dX5_awaitedAfter_46 : decode cX5_awaitedAfter 46 = .ok (.if_icmp .ne 7, 3) := by decide +kernel
theorem dX5_awaitedAfter_49 : decode cX5_awaitedAfter 49 = .ok (.iconst 0, 1) := by decide +kernel
theorem dX5_awaitedAfter_50 : decode cX5_awaitedAfter 50 = .ok (.goto 4, 3) := by decide +kernel
theorem dX5_awaitedAfter_53 : decode cX5_awaitedAfter 53 = .ok (.iconst (-1), 1) := by decide +kernel
theorem dX5_awaitedAfter_54 : decode cX5_awaitedAfter 54 = .ok (.ireturn, 1) := by decide +kernel
theorem dX5_awaitedAfter_55 : decode cX5_awaitedAfter 55 = .ok (.iload_n 1, 1) := by decide +kernel
theorem dX5_awaitedAfter_56 : decode cX5_awaitedAfter 56 = .ok (.bipush 43, 2) := by decide +kernel
theorem dX5_awaitedAfter_58 : decode cX5_awaitedAfter 58 = .ok (.if_icmp .ne 5, 3) := by decide +kernel
theorem dX5_awaitedAfter_61 : decode cX5_awaitedAfter 61 = .ok (.iconst 2, 1) := by decide +kernel
theorem dX5_awaitedAfter_62 : decode cX5_awaitedAfter 62 = .ok (.ireturn, 1) := by decide +kernel
theorem dX5_awaitedAfter_63 : decode cX5_awaitedAfter 63 = .ok (.iload_n 1, 1) := by decide +kernel
theorem dX5_awaitedAfter_64 : decode cX5_awaitedAfter 64 = .ok (.bipush 95, 2) := by decide +kernel
theorem dX5_awaitedAfter_66 : decode cX5_awaitedAfter 66 = .ok (.if_icmp .eq 14, 3) := by decide +kernel
theorem dX5_awaitedAfter_69 : decode cX5_awaitedAfter 69 = .ok (.iload_n 1, 1) := by decide +kernel
theorem dX5_awaitedAfter_70 : decode cX5_awaitedAfter 70 = .ok (.bipush 48, 2) := by decide +kernel
theorem dX5_awaitedAfter_72 : decode cX5_awaitedAfter 72 = .ok (.bipush 53, 2) := by decide +kernel
theorem dX5_awaitedAfter_74 : decode cX5_awaitedAfter 74 = .ok (.invokestatic 31, 3) := by decide +kernel
theorem dX5_awaitedAfter_77 : decode cX5_awaitedAfter 77 = .ok (.ifCond .eq 7, 3) := by decide +kernel
theorem dX5_awaitedAfter_80 : decode cX5_awaitedAfter 80 = .ok (.iconst 0, 1) := by decide +kernel
theorem dX5_awaitedAfter_81 : decode cX5_awaitedAfter 81 = .ok (.goto 4, 3) := by decide +kernel
theorem dX5_awaitedAfter_84 : decode cX5_awaitedAfter 84 = .ok (.iconst (-1), 1) := by decide +kernel
theorem dX5_awaitedAfter_85 : decode cX5_awaitedAfter 85 = .ok (.ireturn, 1) := by decide +kernel
theorem dX5_awaitedAfter_86 : decode cX5_awaitedAfter 86 = .ok (.iload_n 1, 1) := by decide +kernel
theorem dX5_awaitedAfter_87 : decode cX5_awaitedAfter 87 = .ok (.invokestatic 27, 3) := by decide +kernel
theorem dX5_awaitedAfter_90 : decode cX5_awaitedAfter 90 = .ok (.ifCond .eq 7, 3) := by decide +kernel
theorem dX5_awaitedAfter_93 : decode cX5_awaitedAfter 93 = .ok (.iconst 0, 1) := by decide +kernel
theorem dX5_awaitedAfter_94 : decode cX5_awaitedAfter 94 = .ok (.goto 4, 3) := by decide +kernel
theorem dX5_awaitedAfter_97 : decode cX5_awaitedAfter 97 = .ok (.iconst (-1), 1) := by decide +kernel
theorem dX5_awaitedAfter_98 : decode cX5_awaitedAfter 98 = .ok (.ireturn, 1) := by decide +kernel
theorem dX5_read_0 : decode cX5_read 0 = .ok (.aload_n 0, 1) := by decide +kernel
theorem dX5_read_1 : decode cX5_read 1 = .ok (.iload_n 1, 1) := by decide +kernel
theorem dX5_read_2 : decode cX5_read 2 = .ok (.invokevirtual 19, 3) := by decide +kernel
theorem dX5_read_5 : decode cX5_read 5 = .ok (.istore_n 3, 1) := by decide +kernel
theorem dX5_read_6 : decode cX5_read 6 = .ok (.iload_n 3, 1) := by decide +kernel
theorem dX5_read_7 : decode cX5_read 7 = .ok (.invokestatic 27, 3) := by decide +kernel
theorem dX5_read_10 : decode cX5_read 10 = .ok (.ifCond .ne 22, 3) := by decide +kernel
theorem dX5_read_13 : decode cX5_read 13 = .ok (.aload_n 2, 1) := by decide +kernel
theorem dX5_read_14 : decode cX5_read 14 = .ok (.iload_n 3, 1) := by decide +kernel
theorem dX5_read_15 : decode cX5_read 15 = .ok (.bipush 126, 2) := by decide +kernel
theorem dX5_read_17 : decode cX5_read 17 = .ok (.if_icmp .ne 7, 3) := by decide +kernel
theorem dX5_read_20 : decode cX5_read 20 = .ok (.iconst 3, 1) := by decide +kernel
theorem dX5_read_21 : decode cX5_read 21 = .ok (.goto 4, 3) := by decide +kernel
theorem dX5_read_24 : decode cX5_read 24 = .ok (.iconst 4, 1) := by decide +kernel
theorem dX5_read_25 : decode cX5_read 25 = .ok (.iconst 0, 1) := by decide +kernel
theorem dX5_read_26 : decode cX5_read 26 = .ok (.iconst 0, 1) := by decide +kernel
theorem dX5_read_27 : decode cX5_read 27 = .ok (.invokevirtual 37, 3) := by decide +kernel
theorem dX5_read_30 : decode cX5_read 30 = .ok (.iconst 1, 1) := by decide +kernel
theorem dX5_read_31 : decode cX5_read 31 = .ok (.ireturn, 1) := by decide +kernel
theorem dX5_read_32 : decode cX5_read 32 = .ok (.aload_n 0, 1) := by decide +kernel
theorem dX5_read_33 : decode cX5_read 33 = .ok (.iload_n 1, 1) := by decide +kernel
theorem dX5_read_34 : decode cX5_read 34 = .ok (.iconst 1, 1) := by decide +kernel
theorem dX5_read_35 : decode cX5_read 35 = .ok (.iadd, 1) := by decide +kernel
theorem dX5_read_36 : decode cX5_read 36 = .ok (.invokevirtual 19, 3) := by decide +kernel
theorem dX5_read_39 : decode cX5_read 39 = .ok (.istore 4, 2) := by decide +kernel
theorem dX5_read_41 : decode cX5_read 41 = .ok (.iload 4, 2) := by decide +kernel
theorem dX5_read_43 : decode cX5_read 43 = .ok (.bipush 43, 2) := by decide +kernel
theorem dX5_read_45 : decode cX5_read 45 = .ok (.if_icmp .ne 24, 3) := by decide +kernel
theorem dX5_read_48 : decode cX5_read 48 = .ok (.aload_n 2, 1) := by decide +kernel
theorem dX5_read_49 : decode cX5_read 49 = .ok (.iconst 1, 1) := by decide +kernel
theorem dX5_read_50 : decode cX5_read 50 = .ok (.iload_n 3, 1) := by decide +kernel
theorem dX5_read_51 : decode cX5_read 51 = .ok (.bipush 65, 2) := by decide +kernel
theorem dX5_read_53 : decode cX5_read 53 = .ok (.isub, 1) := by decide +kernel
theorem dX5_read_54 : decode cX5_read 54 = .ok (.aload_n 0, 1) := by decide +kernel
theorem dX5_read_55 : decode cX5_read 55 = .ok (.iload_n 1, 1) := by decide +kernel
theorem dX5_read_56 : decode cX5_read 56 = .ok (.iconst 2, 1) := by decide +kernel
theorem dX5_read_57 : decode cX5_read 57 = .ok (.iadd, 1) := by decide +kernel
theorem dX5_read_58 : decode cX5_read 58 = .ok (.invokevirtual 19, 3) := by decide +kernel
theorem dX5_read_61 : decode cX5_read 61 = .ok (.bipush 65, 2) := by decide +kernel
theorem dX5_read_63 : decode cX5_read 63 = .ok (.isub, 1) := by decide +kernel
theorem dX5_read_64 : decode cX5_read 64 = .ok (.invokevirtual 37, 3) := by decide +kernel
theorem dX5_read_67 : decode cX5_read 67 = .ok (.iconst 3, 1) := by decide +kernel
theorem dX5_read_68 : decode cX5_read 68 = .ok (.ireturn, 1) := by decide +kernel
theorem dX5_read_69 : decode cX5_read 69 = .ok (.aload_n 2, 1) := by decide +kernel
theorem dX5_read_70 : decode cX5_read 70 = .ok (.iload 4, 2) := by decide +kernel
theorem dX5_read_72 : decode cX5_read 72 = .ok (.bipush 95, 2) := by decide +kernel
theorem dX5_read_74 : decode cX5_read 74 = .ok (.if_icmp .ne 7, 3) := by decide +kernel
theorem dX5_read_77 : decode cX5_read 77 = .ok (.iconst 2, 1) := by decide +kernel
theorem dX5_read_78 : decode cX5_read 78 = .ok (.goto 4, 3) := by decide +kernel
theorem dX5_read_81 : decode cX5_read 81 = .ok (.iconst 0, 1) := by decide +kernel
theorem dX5_read_82 : decode cX5_read 82 = .ok (.iload_n 3, 1) := by decide +kernel
theorem dX5_read_83 : decode cX5_read 83 = .ok (.bipush 65, 2) := by decide +kernel
theorem dX5_read_85 : decode cX5_read 85 = .ok (.isub, 1) := by decide +kernel
theorem dX5_read_86 : decode cX5_read 86 = .ok (.iload 4, 2) := by decide +kernel
theorem dX5_read_88 : decode cX5_read 88 = .ok (.bipush 48, 2) := by decide +kernel
theorem dX5_read_90 : decode cX5_read 90 = .ok (.isub, 1) := by decide +kernel
theorem dX5_read_91 : decode cX5_read 91 = .ok (.invokevirtual 37, 3) := by decide +kernel
theorem dX5_read_94 : decode cX5_read 94 = .ok (.iconst 2, 1) := by decide +kernel
theorem dX5_read_95 : decode cX5_read 95 = .ok (.ireturn, 1) := by decide +kernel
theorem dX5_signAt_0 : decode cX5_signAt 0 = .ok (.iload_n 1, 1) := by decide +kernel
theorem dX5_signAt_1 : decode cX5_signAt 1 = .ok (.aload_n 0, 1) := by decide +kernel
theorem dX5_signAt_2 : decode cX5_signAt 2 = .ok (.getfield 15, 3) := by decide +kernel
theorem dX5_signAt_5 : decode cX5_signAt 5 = .ok (.if_icmp .ge 22, 3) := by decide +kernel
theorem dX5_signAt_8 : decode cX5_signAt 8 = .ok (.iload_n 1, 1) := by decide +kernel
theorem dX5_signAt_9 : decode cX5_signAt 9 = .ok (.iconst 0, 1) := by decide +kernel
theorem dX5_signAt_10 : decode cX5_signAt 10 = .ok (.bipush 59, 2) := by decide +kernel
theorem dX5_signAt_12 : decode cX5_signAt 12 = .ok (.invokestatic 31, 3) := by decide +kernel
theorem dX5_signAt_15 : decode cX5_signAt 15 = .ok (.ifCond .eq 12, 3) := by decide +kernel
theorem dX5_signAt_18 : decode cX5_signAt 18 = .ok (.aload_n 0, 1) := by decide +kernel
theorem dX5_signAt_19 : decode cX5_signAt 19 = .ok (.getfield 9, 3) := by decide +kernel
theorem dX5_signAt_22 : decode cX5_signAt 22 = .ok (.iload_n 1, 1) := by decide +kernel
theorem dX5_signAt_23 : decode cX5_signAt 23 = .ok (.iaload, 1) := by decide +kernel
theorem dX5_signAt_24 : decode cX5_signAt 24 = .ok (.goto 4, 3) := by decide +kernel
theorem dX5_signAt_27 : decode cX5_signAt 27 = .ok (.iconst 0, 1) := by decide +kernel
theorem dX5_signAt_28 : decode cX5_signAt 28 = .ok (.ireturn, 1) := by decide +kernel
theorem dX5_isLetter_0 : decode cX5_isLetter 0 = .ok (.iload_n 0, 1) := by decide +kernel
theorem dX5_isLetter_1 : decode cX5_isLetter 1 = .ok (.bipush 65, 2) := by decide +kernel
theorem dX5_isLetter_3 : decode cX5_isLetter 3 = .ok (.bipush 70, 2) := by decide +kernel
theorem dX5_isLetter_5 : decode cX5_isLetter 5 = .ok (.invokestatic 31, 3) := by decide +kernel
theorem dX5_isLetter_8 : decode cX5_isLetter 8 = .ok (.ireturn, 1) := by decide +kernel
theorem dX6_init_0 : decode cX6_init 0 = .ok (.aload_n 0, 1) := by decide +kernel
theorem dX6_init_1 : decode cX6_init 1 = .ok (.invokespecial 3, 3) := by decide +kernel
theorem dX6_init_4 : decode cX6_init 4 = .ok (.aload_n 0, 1) := by decide +kernel
theorem dX6_init_5 : decode cX6_init 5 = .ok (.bipush 100, 2) := by decide +kernel
theorem dX6_init_7 : decode cX6_init 7 = .ok (.newarray .int, 2) := by decide +kernel
theorem dX6_init_9 : decode cX6_init 9 = .ok (.putfield 9, 3) := by decide +kernel
theorem dX6_init_12 : decode cX6_init 12 = .ok (.return_, 1) := by decide +kernel
theorem dX6_priceOf_0 : decode cX6_priceOf 0 = .ok (.aload_n 1, 1) := by decide +kernel
theorem dX6_priceOf_1 : decode cX6_priceOf 1 = .ok (.iload_n 2, 1) := by decide +kernel
theorem dX6_priceOf_2 : decode cX6_priceOf 2 = .ok (.invokevirtual 15, 3) := by decide +kernel
theorem dX6_priceOf_5 : decode cX6_priceOf 5 = .ok (.istore_n 3, 1) := by decide +kernel
theorem dX6_priceOf_6 : decode cX6_priceOf 6 = .ok (.aload_n 1, 1) := by decide +kernel
theorem dX6_priceOf_7 : decode cX6_priceOf 7 = .ok (.getfield 21, 3) := by decide +kernel
theorem dX6_priceOf_10 : decode cX6_priceOf 10 = .ok (.iload_n 2, 1) := by decide +kernel
theorem dX6_priceOf_11 : decode cX6_priceOf 11 = .ok (.iaload, 1) := by decide +kernel
theorem dX6_priceOf_12 : decode cX6_priceOf 12 = .ok (.istore 4, 2) := by decide +kernel
theorem dX6_priceOf_14 : decode cX6_priceOf 14 = .ok (.iload_n 3, 1) := by decide +kernel
theorem dX6_priceOf_15 : decode cX6_priceOf 15 = .ok (.ifCond .eq 14, 3) := by decide +kernel
theorem dX6_priceOf_18 : decode cX6_priceOf 18 = .ok (.iload 4, 2) := by decide +kernel
theorem dX6_priceOf_20 : decode cX6_priceOf 20 = .ok (.iconst 0, 1) := by decide +kernel
theorem dX6_priceOf_21 : decode cX6_priceOf 21 = .ok (.bipush 99, 2) := by decide +kernel
theorem dX6_priceOf_23 : decode cX6_priceOf 23 = .ok (.invokestatic 24, 3) := by decide +kernel
theorem dX6_priceOf_26 : decode cX6_priceOf 26 = .ok (.ifCond .ne 6, 3) := by decide +kernel
theorem dX6_priceOf_29 : decode cX6_priceOf 29 = .ok (.bipush (-6), 2) := by decide +kernel
theorem dX6_priceOf_31 : decode cX6_priceOf 31 = .ok (.ireturn, 1) := by decide +kernel
theorem dX6_priceOf_32 : decode cX6_priceOf 32 = .ok (.aload_n 0, 1) := by decide +kernel
theorem dX6_priceOf_33 : decode cX6_priceOf 33 = .ok (.getfield 9, 3) := by decide +kernel
theorem dX6_priceOf_36 : decode cX6_priceOf 36 = .ok (.iconst 0, 1) := by decide +kernel
theorem dX6_priceOf_37 : decode cX6_priceOf 37 = .ok (.iconst 0, 1) := by decide +kernel
theorem dX6_priceOf_38 : decode cX6_priceOf 38 = .ok (.iastore, 1) := by decide +kernel
theorem dX6_priceOf_39 : decode cX6_priceOf 39 = .ok (.iconst 1, 1) := by decide +kernel
theorem dX6_priceOf_40 : decode cX6_priceOf 40 = .ok (.istore 5, 2) := by decide +kernel
theorem dX6_priceOf_42 : decode cX6_priceOf 42 = .ok (.iload 5, 2) := by decide +kernel
theorem dX6_priceOf_44 : decode cX6_priceOf 44 = .ok (.iload 4, 2) := by decide +kernel
theorem dX6_priceOf_46 : decode cX6_priceOf 46 = .ok (.if_icmp .gt 24, 3) := by decide +kernel
theorem dX6_priceOf_49 : decode cX6_priceOf 49 = .ok (.aload_n 0, 1) := by decide +kernel
theorem dX6_priceOf_50 : decode cX6_priceOf 50 = .ok (.getfield 9, 3) := by decide +kernel
theorem dX6_priceOf_53 : decode cX6_priceOf 53 = .ok (.iload 5, 2) := by decide +kernel
theorem dX6_priceOf_55 : decode cX6_priceOf 55 = .ok (.aload_n 0, 1) := by decide +kernel
theorem dX6_priceOf_56 : decode cX6_priceOf 56 = .ok (.aload_n 1, 1) := by decide +kernel
theorem dX6_priceOf_57 : decode cX6_priceOf 57 = .ok (.iload_n 3, 1) := by decide +kernel
theorem dX6_priceOf_58 : decode cX6_priceOf 58 = .ok (.iload 5, 2) := by decide +kernel
theorem dX6_priceOf_60 : decode cX6_priceOf 60 = .ok (.invokevirtual 28, 3) := by decide +kernel
theorem dX6_priceOf_63 : decode cX6_priceOf 63 = .ok (.iastore, 1) := by decide +kernel
theorem dX6_priceOf_64 : decode cX6_priceOf 64 = .ok (.iinc 5 1, 3) := by decide +kernel
theorem dX6_priceOf_67 : decode cX6_priceOf 67 = .ok (.goto (-25), 3) := by decide +kernel
theorem dX6_priceOf_70 : decode cX6_priceOf 70 = .ok (.aload_n 0, 1) := by decide +kernel
theorem dX6_priceOf_71 : decode cX6_priceOf 71 = .ok (.getfield 9, 3) := by decide +kernel
theorem dX6_priceOf_74 : decode cX6_priceOf 74 = .ok (.iload 4, 2) := by decide +kernel
theorem dX6_priceOf_76 : decode cX6_priceOf 76 = .ok (.iaload, 1) := by decide +kernel
theorem dX6_priceOf_77 : decode cX6_priceOf 77 = .ok (.ireturn, 1) := by decide +kernel
theorem dX6_cheapest_0 : decode cX6_cheapest 0 = .ok (.ldc 32, 2) := by decide +kernel
theorem dX6_cheapest_2 : decode cX6_cheapest 2 = .ok (.istore 4, 2) := by decide +kernel
theorem dX6_cheapest_4 : decode cX6_cheapest 4 = .ok (.iconst 0, 1) := by decide +kernel
theorem dX6_cheapest_5 : decode cX6_cheapest 5 = .ok (.istore 5, 2) := by decide +kernel
theorem dX6_cheapest_7 : decode cX6_cheapest 7 = .ok (.iload 5, 2) := by decide +kernel
theorem dX6_cheapest_9 : decode cX6_cheapest 9 = .ok (.bipush 6, 2) := by decide +kernel
theorem dX6_cheapest_11 : decode cX6_cheapest 11 = .ok (.if_icmp .ge 61, 3) := by decide +kernel
theorem dX6_cheapest_14 : decode cX6_cheapest 14 = .ok (.iload_n 2, 1) := by decide +kernel
theorem dX6_cheapest_15 : decode cX6_cheapest 15 = .ok (.iload 5, 2) := by decide +kernel
theorem dX6_cheapest_17 : decode cX6_cheapest 17 = .ok (.invokestatic 33, 3) := by decide +kernel
theorem dX6_cheapest_20 : decode cX6_cheapest 20 = .ok (.ifCond .eq 46, 3) := by decide +kernel
theorem dX6_cheapest_23 : decode cX6_cheapest 23 = .ok (.iload_n 3, 1) := by decide +kernel
theorem dX6_cheapest_24 : decode cX6_cheapest 24 = .ok (.aload_n 1, 1) := by decide +kernel
theorem dX6_cheapest_25 : decode cX6_cheapest 25 = .ok (.getfield 37, 3) := by decide +kernel
theorem dX6_cheapest_28 : decode cX6_cheapest 28 = .ok (.iload 5, 2) := by decide +kernel
theorem dX6_cheapest_30 : decode cX6_cheapest 30 = .ok (.iaload, 1) := by decide +kernel
theorem dX6_cheapest_31 : decode cX6_cheapest 31 = .ok (.isub, 1) := by decide +kernel
theorem dX6_cheapest_32 : decode cX6_cheapest 32 = .ok (.iconst 0, 1) := by decide +kernel
theorem dX6_cheapest_33 : decode cX6_cheapest 33 = .ok (.invokestatic 40, 3) := by decide +kernel
theorem dX6_cheapest_36 : decode cX6_cheapest 36 = .ok (.istore 6, 2) := by decide +kernel
theorem dX6_cheapest_38 : decode cX6_cheapest 38 = .ok (.iload 4, 2) := by decide +kernel
theorem dX6_cheapest_40 : decode cX6_cheapest 40 = .ok (.aload_n 0, 1) := by decide +kernel
theorem dX6_cheapest_41 : decode cX6_cheapest 41 = .ok (.getfield 9, 3) := by decide +kernel
theorem dX6_cheapest_44 : decode cX6_cheapest 44 = .ok (.iload 6, 2) := by decide +kernel
theorem dX6_cheapest_46 : decode cX6_cheapest 46 = .ok (.iaload, 1) := by decide +kernel
theorem dX6_cheapest_47 : decode cX6_cheapest 47 = .ok (.sipush 1000, 3) := by decide +kernel
theorem dX6_cheapest_50 : decode cX6_cheapest 50 = .ok (.aload_n 1, 1) := by decide +kernel
theorem dX6_cheapest_51 : decode cX6_cheapest 51 = .ok (.getfield 46, 3) := by decide +kernel
theorem dX6_cheapest_54 : decode cX6_cheapest 54 = .ok (.iload 5, 2) := by decide +kernel
theorem dX6_cheapest_56 : decode cX6_cheapest 56 = .ok (.iaload, 1) := by decide +kernel
theorem dX6_cheapest_57 : decode cX6_cheapest 57 = .ok (.imul, 1) := by decide +kernel
theorem dX6_cheapest_58 : decode cX6_cheapest 58 = .ok (.iadd, 1) := by decide +kernel
theorem dX6_cheapest_59 : decode cX6_cheapest 59 = .ok (.iconst 1, 1) := by decide +kernel
theorem dX6_cheapest_60 : decode cX6_cheapest 60 = .ok (.iadd, 1) := by decide +kernel
theorem dX6_cheapest_61 : decode cX6_cheapest 61 = .ok (.invokestatic 49, 3) := by decide +kernel
theorem dX6_cheapest_64 : decode cX6_cheapest 64 = .ok (.istore 4, 2) := by decide +kernel
theorem dX6_cheapest_66 : decode cX6_cheapest 66 = .ok (.iinc 5 1, 3) := by decide +kernel
theorem dX6_cheapest_69 : decode cX6_cheapest 69 = .ok (.goto (-62), 3) := by decide +kernel
theorem dX6_cheapest_72 : decode cX6_cheapest 72 = .ok (.iload 4, 2) := by decide +kernel
theorem dX6_cheapest_74 : decode cX6_cheapest 74 = .ok (.ireturn, 1) := by decide +kernel
theorem dX7_init_0 : decode cX7_init 0 = .ok (.aload_n 0, 1) := by decide +kernel
theorem dX7_init_1 : decode cX7_init 1 = .ok (.invokespecial 3, 3) := by decide +kernel
theorem dX7_init_4 : decode cX7_init 4 = .ok (.aload_n 0, 1) := by decide +kernel
theorem dX7_init_5 : decode cX7_init 5 = .ok (.sipush 256, 3) := by decide +kernel
theorem dX7_init_8 : decode cX7_init 8 = .ok (.newarray .int, 2) := by decide +kernel
theorem dX7_init_10 : decode cX7_init 10 = .ok (.putfield 9, 3) := by decide +kernel
theorem dX7_init_13 : decode cX7_init 13 = .ok (.aload_n 0, 1) := by decide +kernel
theorem dX7_init_14 : decode cX7_init 14 = .ok (.iconst 0, 1) := by decide +kernel
theorem dX7_init_15 : decode cX7_init 15 = .ok (.putfield 15, 3) := by decide +kernel
theorem dX7_init_18 : decode cX7_init 18 = .ok (.return_, 1) := by decide +kernel
theorem dX7_find_0 : decode cX7_find 0 = .ok (.aload_n 0, 1) := by decide +kernel
theorem dX7_find_1 : decode cX7_find 1 = .ok (.iconst 0, 1) := by decide +kernel
theorem dX7_find_2 : decode cX7_find 2 = .ok (.putfield 15, 3) := by decide +kernel
theorem dX7_find_5 : decode cX7_find 5 = .ok (.iconst 0, 1) := by decide +kernel
theorem dX7_find_6 : decode cX7_find 6 = .ok (.istore_n 2, 1) := by decide +kernel
theorem dX7_find_7 : decode cX7_find 7 = .ok (.iload_n 2, 1) := by decide +kernel
theorem dX7_find_8 : decode cX7_find 8 = .ok (.sipush 256, 3) := by decide +kernel
theorem dX7_find_11 : decode cX7_find 11 = .ok (.if_icmp .ge 37, 3) := by decide +kernel
theorem dX7_find_14 : decode cX7_find 14 = .ok (.aload_n 1, 1) := by decide +kernel
theorem dX7_find_15 : decode cX7_find 15 = .ok (.iload_n 2, 1) := by decide +kernel
theorem dX7_find_16 : decode cX7_find 16 = .ok (.invokevirtual 19, 3) := by decide +kernel
theorem dX7_find_19 : decode cX7_find 19 = .ok (.ifCond .eq 23, 3) := by decide +kernel
theorem dX7_find_22 : decode cX7_find 22 = .ok (.aload_n 0, 1) := by decide +kernel
theorem dX7_find_23 : decode cX7_find 23 = .ok (.getfield 9, 3) := by decide +kernel
theorem dX7_find_26 : decode cX7_find 26 = .ok (.aload_n 0, 1) := by decide +kernel
theorem dX7_find_27 : decode cX7_find 27 = .ok (.getfield 15, 3) := by decide +kernel
theorem dX7_find_30 : decode cX7_find 30 = .ok (.iload_n 2, 1) := by decide +kernel
theorem dX7_find_31 : decode cX7_find 31 = .ok (.iastore, 1) := by decide +kernel
theorem dX7_find_32 : decode cX7_find 32 = .ok (.aload_n 0, 1) := by decide +kernel
theorem dX7_find_33 : decode cX7_find 33 = .ok (.dup, 1) := by decide +kernel
theorem dX7_find_34 : decode cX7_find 34 = .ok (.getfield 15, 3) := by decide +kernel
theorem dX7_find_37 : decode cX7_find 37 = .ok (.iconst 1, 1) := by decide +kernel
theorem dX7_find_38 : decode cX7_find 38 = .ok (.iadd, 1) := by decide +kernel
theorem dX7_find_39 : decode cX7_find 39 = .ok (.putfield 15, 3) := by decide +kernel
theorem dX7_find_42 : decode cX7_find 42 = .ok (.iinc 2 1, 3) := by decide +kernel
theorem dX7_find_45 : decode cX7_find 45 = .ok (.goto (-38), 3) := by decide +kernel
theorem dX7_find_48 : decode cX7_find 48 = .ok (.return_, 1) := by decide +kernel
theorem dX7_shapeAt_0 : decode cX7_shapeAt 0 = .ok (.iload_n 1, 1) := by decide +kernel
theorem dX7_shapeAt_1 : decode cX7_shapeAt 1 = .ok (.iconst 0, 1) := by decide +kernel
theorem dX7_shapeAt_2 : decode cX7_shapeAt 2 = .ok (.aload_n 0, 1) := by decide +kernel
theorem dX7_shapeAt_3 : decode cX7_shapeAt 3 = .ok (.getfield 15, 3) := by decide +kernel
theorem dX7_shapeAt_6 : decode cX7_shapeAt 6 = .ok (.iconst 1, 1) := by decide +kernel
theorem dX7_shapeAt_7 : decode cX7_shapeAt 7 = .ok (.isub, 1) := by decide +kernel
theorem dX7_shapeAt_8 : decode cX7_shapeAt 8 = .ok (.invokestatic 25, 3) := by decide +kernel
theorem dX7_shapeAt_11 : decode cX7_shapeAt 11 = .ok (.ifCond .eq 12, 3) := by decide +kernel
theorem dX7_shapeAt_14 : decode cX7_shapeAt 14 = .ok (.aload_n 0, 1) := by decide +kernel
theorem dX7_shapeAt_15 : decode cX7_shapeAt 15 = .ok (.getfield 9, 3) := by decide +kernel
theorem dX7_shapeAt_18 : decode cX7_shapeAt 18 = .ok (.iload_n 1, 1) := by decide +kernel
theorem dX7_shapeAt_19 : decode cX7_shapeAt 19 = .ok (.iaload, 1) := by decide +kernel
theorem dX7_shapeAt_20 : decode cX7_shapeAt 20 = .ok (.goto 5, 3) := by decide +kernel
theorem dX7_shapeAt_23 : decode cX7_shapeAt 23 = .ok (.bipush (-6), 2) := by decide +kernel
theorem dX7_shapeAt_25 : decode cX7_shapeAt 25 = .ok (.ireturn, 1) := by decide +kernel
theorem dX7_holdToTry_0 : decode cX7_holdToTry 0 = .ok (.aload_n 0, 1) := by decide +kernel
theorem dX7_holdToTry_1 : decode cX7_holdToTry 1 = .ok (.getfield 15, 3) := by decide +kernel
theorem dX7_holdToTry_4 : decode cX7_holdToTry 4 = .ok (.ifCond .ne 6, 3) := by decide +kernel
theorem dX7_holdToTry_7 : decode cX7_holdToTry 7 = .ok (.bipush (-6), 2) := by decide +kernel
theorem dX7_holdToTry_9 : decode cX7_holdToTry 9 = .ok (.ireturn, 1) := by decide +kernel
theorem dX7_holdToTry_10 : decode cX7_holdToTry 10 = .ok (.iconst 0, 1) := by decide +kernel
theorem dX7_holdToTry_11 : decode cX7_holdToTry 11 = .ok (.istore_n 2, 1) := by decide +kernel
theorem dX7_holdToTry_12 : decode cX7_holdToTry 12 = .ok (.iconst 1, 1) := by decide +kernel
theorem dX7_holdToTry_13 : decode cX7_holdToTry 13 = .ok (.istore_n 3, 1) := by decide +kernel
theorem dX7_holdToTry_14 : decode cX7_holdToTry 14 = .ok (.iload_n 3, 1) := by decide +kernel
theorem dX7_holdToTry_15 : decode cX7_holdToTry 15 = .ok (.bipush 6, 2) := by decide +kernel
theorem dX7_holdToTry_17 : decode cX7_holdToTry 17 = .ok (.if_icmp .ge 34, 3) := by decide +kernel
theorem dX7_holdToTry_20 : decode cX7_holdToTry 20 = .ok (.aload_n 0, 1) := by decide +kernel
theorem dX7_holdToTry_21 : decode cX7_holdToTry 21 = .ok (.aload_n 1, 1) := by decide +kernel
theorem dX7_holdToTry_22 : decode cX7_holdToTry 22 = .ok (.getfield 29, 3) := by decide +kernel
theorem dX7_holdToTry_25 : decode cX7_holdToTry 25 = .ok (.iload_n 3, 1) := by decide +kernel
theorem dX7_holdToTry_26 : decode cX7_holdToTry 26 = .ok (.iaload, 1) := by decide +kernel
theorem dX7_holdToTry_27 : decode cX7_holdToTry 27 = .ok (.invokevirtual 32, 3) := by decide +kernel
theorem dX7_holdToTry_30 : decode cX7_holdToTry 30 = .ok (.aload_n 0, 1) := by decide +kernel
theorem dX7_holdToTry_31 : decode cX7_holdToTry 31 = .ok (.aload_n 1, 1) := by decide +kernel
theorem dX7_holdToTry_32 : decode cX7_holdToTry 32 = .ok (.getfield 29, 3) := by decide +kernel
theorem dX7_holdToTry_35 : decode cX7_holdToTry 35 = .ok (.iload_n 2, 1) := by decide +kernel
theorem dX7_holdToTry_36 : decode cX7_holdToTry 36 = .ok (.iaload, 1) := by decide +kernel
theorem dX7_holdToTry_37 : decode cX7_holdToTry 37 = .ok (.invokevirtual 32, 3) := by decide +kernel
theorem dX7_holdToTry_40 : decode cX7_holdToTry 40 = .ok (.if_icmp .ge 5, 3) := by decide +kernel
theorem dX7_holdToTry_43 : decode cX7_holdToTry 43 = .ok (.iload_n 3, 1) := by decide +kernel
theorem dX7_holdToTry_44 : decode cX7_holdToTry 44 = .ok (.istore_n 2, 1) := by decide +kernel
theorem dX7_holdToTry_45 : decode cX7_holdToTry 45 = .ok (.iinc 3 1, 3) := by decide +kernel
theorem dX7_holdToTry_48 : decode cX7_holdToTry 48 = .ok (.goto (-34), 3) := by decide +kernel
theorem dX7_holdToTry_51 : decode cX7_holdToTry 51 = .ok (.iload_n 2, 1) := by decide +kernel
theorem dX7_holdToTry_52 : decode cX7_holdToTry 52 = .ok (.ireturn, 1) := by decide +kernel
theorem dX7_mostLeftBy_0 : decode cX7_mostLeftBy 0 = .ok (.iconst 0, 1) := by decide +kernel
theorem dX7_mostLeftBy_1 : decode cX7_mostLeftBy 1 = .ok (.istore_n 2, 1) := by decide +kernel
theorem dX7_mostLeftBy_2 : decode cX7_mostLeftBy 2 = .ok (.iconst 0, 1) := by decide +kernel
theorem dX7_mostLeftBy_3 : decode cX7_mostLeftBy 3 = .ok (.istore_n 3, 1) := by decide +kernel
theorem dX7_mostLeftBy_4 : decode cX7_mostLeftBy 4 = .ok (.iload_n 3, 1) := by decide +kernel
theorem dX7_mostLeftBy_5 : decode cX7_mostLeftBy 5 = .ok (.aload_n 0, 1) := by decide +kernel
theorem dX7_mostLeftBy_6 : decode cX7_mostLeftBy 6 = .ok (.getfield 15, 3) := by decide +kernel
theorem dX7_mostLeftBy_9 : decode cX7_mostLeftBy 9 = .ok (.if_icmp .ge 25, 3) := by decide +kernel
theorem dX7_mostLeftBy_12 : decode cX7_mostLeftBy 12 = .ok (.iload_n 1, 1) := by decide +kernel
theorem dX7_mostLeftBy_13 : decode cX7_mostLeftBy 13 = .ok (.aload_n 0, 1) := by decide +kernel
theorem dX7_mostLeftBy_14 : decode cX7_mostLeftBy 14 = .ok (.getfield 9, 3) := by decide +kernel
theorem dX7_mostLeftBy_17 : decode cX7_mostLeftBy 17 = .ok (.iload_n 3, 1) := by decide +kernel
theorem dX7_mostLeftBy_18 : decode cX7_mostLeftBy 18 = .ok (.iaload, 1) := by decide +kernel
theorem dX7_mostLeftBy_19 : decode cX7_mostLeftBy 19 = .ok (.invokestatic 36, 3) := by decide +kernel
theorem dX7_mostLeftBy_22 : decode cX7_mostLeftBy 22 = .ok (.ifCond .eq 6, 3) := by decide +kernel
theorem dX7_mostLeftBy_25 : decode cX7_mostLeftBy 25 = .ok (.iinc 2 1, 3) := by decide +kernel
theorem dX7_mostLeftBy_28 : decode cX7_mostLeftBy 28 = .ok (.iinc 3 1, 3) := by decide +kernel
theorem dX7_mostLeftBy_31 : decode cX7_mostLeftBy 31 = .ok (.goto (-27), 3) := by decide +kernel
theorem dX7_mostLeftBy_34 : decode cX7_mostLeftBy 34 = .ok (.iload_n 2, 1) := by decide +kernel
theorem dX7_mostLeftBy_35 : decode cX7_mostLeftBy 35 = .ok (.aload_n 0, 1) := by decide +kernel
theorem dX7_mostLeftBy_36 : decode cX7_mostLeftBy 36 = .ok (.getfield 15, 3) := by decide +kernel
theorem dX7_mostLeftBy_39 : decode cX7_mostLeftBy 39 = .ok (.iload_n 2, 1) := by decide +kernel
theorem dX7_mostLeftBy_40 : decode cX7_mostLeftBy 40 = .ok (.isub, 1) := by decide +kernel
theorem dX7_mostLeftBy_41 : decode cX7_mostLeftBy 41 = .ok (.invokestatic 40, 3) := by decide +kernel
end
section
theorem dX7_mostLeftBy_44 : decode cX7_mostLeftBy 44 = .ok (.ireturn, 1) := by decide +kernel
theorem dX8_init_0 : decode cX8_init 0 = .ok (.aload_n 0, 1) := by decide +kernel
theorem dX8_init_1 : decode cX8_init 1 = .ok (.invokespecial 1, 3) := by decide +kernel
theorem dX8_init_4 : decode cX8_init 4 = .ok (.aload_n 0, 1) := by decide +kernel
theorem dX8_init_5 : decode cX8_init 5 = .ok (.new 7, 3) := by decide +kernel
theorem dX8_init_8 : decode cX8_init 8 = .ok (.dup, 1) := by decide +kernel
theorem dX8_init_9 : decode cX8_init 9 = .ok (.invokespecial 9, 3) := by decide +kernel
theorem dX8_init_12 : decode cX8_init 12 = .ok (.putfield 10, 3) := by decide +kernel
theorem dX8_init_15 : decode cX8_init 15 = .ok (.aload_n 0, 1) := by decide +kernel
theorem dX8_init_16 : decode cX8_init 16 = .ok (.new 16, 3) := by decide +kernel
theorem dX8_init_19 : decode cX8_init 19 = .ok (.dup, 1) := by decide +kernel
theorem dX8_init_20 : decode cX8_init 20 = .ok (.invokespecial 18, 3) := by decide +kernel
theorem dX8_init_23 : decode cX8_init 23 = .ok (.putfield 19, 3) := by decide +kernel
theorem dX8_init_26 : decode cX8_init 26 = .ok (.aload_n 0, 1) := by decide +kernel
theorem dX8_init_27 : decode cX8_init 27 = .ok (.new 23, 3) := by decide +kernel
theorem dX8_init_30 : decode cX8_init 30 = .ok (.dup, 1) := by decide +kernel
theorem dX8_init_31 : decode cX8_init 31 = .ok (.invokespecial 25, 3) := by decide +kernel
theorem dX8_init_34 : decode cX8_init 34 = .ok (.putfield 26, 3) := by decide +kernel
theorem dX8_init_37 : decode cX8_init 37 = .ok (.aload_n 0, 1) := by decide +kernel
theorem dX8_init_38 : decode cX8_init 38 = .ok (.new 30, 3) := by decide +kernel
theorem dX8_init_41 : decode cX8_init 41 = .ok (.dup, 1) := by decide +kernel
theorem dX8_init_42 : decode cX8_init 42 = .ok (.invokespecial 32, 3) := by decide +kernel
theorem dX8_init_45 : decode cX8_init 45 = .ok (.putfield 33, 3) := by decide +kernel
theorem dX8_init_48 : decode cX8_init 48 = .ok (.aload_n 0, 1) := by decide +kernel
theorem dX8_init_49 : decode cX8_init 49 = .ok (.new 37, 3) := by decide +kernel
theorem dX8_init_52 : decode cX8_init 52 = .ok (.dup, 1) := by decide +kernel
theorem dX8_init_53 : decode cX8_init 53 = .ok (.invokespecial 39, 3) := by decide +kernel
theorem dX8_init_56 : decode cX8_init 56 = .ok (.putfield 40, 3) := by decide +kernel
theorem dX8_init_59 : decode cX8_init 59 = .ok (.aload_n 0, 1) := by decide +kernel
theorem dX8_init_60 : decode cX8_init 60 = .ok (.new 44, 3) := by decide +kernel
theorem dX8_init_63 : decode cX8_init 63 = .ok (.dup, 1) := by decide +kernel
theorem dX8_init_64 : decode cX8_init 64 = .ok (.invokespecial 46, 3) := by decide +kernel
theorem dX8_init_67 : decode cX8_init 67 = .ok (.putfield 47, 3) := by decide +kernel
theorem dX8_init_70 : decode cX8_init 70 = .ok (.aload_n 0, 1) := by decide +kernel
theorem dX8_init_71 : decode cX8_init 71 = .ok (.new 51, 3) := by decide +kernel
theorem dX8_init_74 : decode cX8_init 74 = .ok (.dup, 1) := by decide +kernel
theorem dX8_init_75 : decode cX8_init 75 = .ok (.invokespecial 53, 3) := by decide +kernel
theorem dX8_init_78 : decode cX8_init 78 = .ok (.putfield 54, 3) := by decide +kernel
theorem dX8_init_81 : decode cX8_init 81 = .ok (.aload_n 0, 1) := by decide +kernel
theorem dX8_init_82 : decode cX8_init 82 = .ok (.iconst 2, 1) := by decide +kernel
theorem dX8_init_83 : decode cX8_init 83 = .ok (.anewarray 7, 3) := by decide +kernel
theorem dX8_init_86 : decode cX8_init 86 = .ok (.putfield 58, 3) := by decide +kernel
theorem dX8_init_89 : decode cX8_init 89 = .ok (.return_, 1) := by decide +kernel
theorem dX8_grief_0 : decode cX8_grief 0 = .ok (.iload_n 1, 1) := by decide +kernel
theorem dX8_grief_1 : decode cX8_grief 1 = .ok (.iconst 0, 1) := by decide +kernel
theorem dX8_grief_2 : decode cX8_grief 2 = .ok (.iconst 5, 1) := by decide +kernel
theorem dX8_grief_3 : decode cX8_grief 3 = .ok (.invokestatic 62, 3) := by decide +kernel
theorem dX8_grief_6 : decode cX8_grief 6 = .ok (.ifCond .ne 5, 3) := by decide +kernel
theorem dX8_grief_9 : decode cX8_grief 9 = .ok (.iconst (-1), 1) := by decide +kernel
theorem dX8_grief_10 : decode cX8_grief 10 = .ok (.ireturn, 1) := by decide +kernel
theorem dX8_grief_11 : decode cX8_grief 11 = .ok (.iload_n 2, 1) := by decide +kernel
theorem dX8_grief_12 : decode cX8_grief 12 = .ok (.iconst 1, 1) := by decide +kernel
theorem dX8_grief_13 : decode cX8_grief 13 = .ok (.bipush 99, 2) := by decide +kernel
theorem dX8_grief_15 : decode cX8_grief 15 = .ok (.invokestatic 62, 3) := by decide +kernel
theorem dX8_grief_18 : decode cX8_grief 18 = .ok (.ifCond .eq 10, 3) := by decide +kernel
theorem dX8_grief_21 : decode cX8_grief 21 = .ok (.iload_n 3, 1) := by decide +kernel
theorem dX8_grief_22 : decode cX8_grief 22 = .ok (.invokestatic 66, 3) := by decide +kernel
theorem dX8_grief_25 : decode cX8_grief 25 = .ok (.ifCond .ne 6, 3) := by decide +kernel
theorem dX8_grief_28 : decode cX8_grief 28 = .ok (.bipush (-2), 2) := by decide +kernel
theorem dX8_grief_30 : decode cX8_grief 30 = .ok (.ireturn, 1) := by decide +kernel
theorem dX8_grief_31 : decode cX8_grief 31 = .ok (.aload_n 0, 1) := by decide +kernel
theorem dX8_grief_32 : decode cX8_grief 32 = .ok (.getfield 10, 3) := by decide +kernel
theorem dX8_grief_35 : decode cX8_grief 35 = .ok (.getfield 70, 3) := by decide +kernel
theorem dX8_grief_38 : decode cX8_grief 38 = .ok (.iload_n 1, 1) := by decide +kernel
theorem dX8_grief_39 : decode cX8_grief 39 = .ok (.iload_n 2, 1) := by decide +kernel
theorem dX8_grief_40 : decode cX8_grief 40 = .ok (.iastore, 1) := by decide +kernel
theorem dX8_grief_41 : decode cX8_grief 41 = .ok (.aload_n 0, 1) := by decide +kernel
theorem dX8_grief_42 : decode cX8_grief 42 = .ok (.getfield 10, 3) := by decide +kernel
theorem dX8_grief_45 : decode cX8_grief 45 = .ok (.getfield 74, 3) := by decide +kernel
theorem dX8_grief_48 : decode cX8_grief 48 = .ok (.iload_n 1, 1) := by decide +kernel
theorem dX8_grief_49 : decode cX8_grief 49 = .ok (.iload_n 3, 1) := by decide +kernel
theorem dX8_grief_50 : decode cX8_grief 50 = .ok (.iastore, 1) := by decide +kernel
theorem dX8_grief_51 : decode cX8_grief 51 = .ok (.aload_n 0, 1) := by decide +kernel
theorem dX8_grief_52 : decode cX8_grief 52 = .ok (.getfield 10, 3) := by decide +kernel
theorem dX8_grief_55 : decode cX8_grief 55 = .ok (.invokevirtual 77, 3) := by decide +kernel
theorem dX8_grief_58 : decode cX8_grief 58 = .ok (.invokestatic 81, 3) := by decide +kernel
theorem dX8_grief_61 : decode cX8_grief 61 = .ok (.ireturn, 1) := by decide +kernel
theorem dX8_hold_0 : decode cX8_hold 0 = .ok (.iload_n 1, 1) := by decide +kernel
theorem dX8_hold_1 : decode cX8_hold 1 = .ok (.invokestatic 87, 3) := by decide +kernel
theorem dX8_hold_4 : decode cX8_hold 4 = .ok (.ifCond .ne 5, 3) := by decide +kernel
theorem dX8_hold_7 : decode cX8_hold 7 = .ok (.iconst (-1), 1) := by decide +kernel
theorem dX8_hold_8 : decode cX8_hold 8 = .ok (.ireturn, 1) := by decide +kernel
theorem dX8_hold_9 : decode cX8_hold 9 = .ok (.iload_n 2, 1) := by decide +kernel
theorem dX8_hold_10 : decode cX8_hold 10 = .ok (.invokestatic 66, 3) := by decide +kernel
theorem dX8_hold_13 : decode cX8_hold 13 = .ok (.ifCond .eq 24, 3) := by decide +kernel
theorem dX8_hold_16 : decode cX8_hold 16 = .ok (.iload_n 3, 1) := by decide +kernel
theorem dX8_hold_17 : decode cX8_hold 17 = .ok (.iconst 1, 1) := by decide +kernel
theorem dX8_hold_18 : decode cX8_hold 18 = .ok (.bipush 20, 2) := by decide +kernel
theorem dX8_hold_20 : decode cX8_hold 20 = .ok (.invokestatic 62, 3) := by decide +kernel
theorem dX8_hold_23 : decode cX8_hold 23 = .ok (.ifCond .eq 14, 3) := by decide +kernel
theorem dX8_hold_26 : decode cX8_hold 26 = .ok (.iload 4, 2) := by decide +kernel
theorem dX8_hold_28 : decode cX8_hold 28 = .ok (.iconst 1, 1) := by decide +kernel
theorem dX8_hold_29 : decode cX8_hold 29 = .ok (.bipush 9, 2) := by decide +kernel
theorem dX8_hold_31 : decode cX8_hold 31 = .ok (.invokestatic 62, 3) := by decide +kernel
theorem dX8_hold_34 : decode cX8_hold 34 = .ok (.ifCond .ne 6, 3) := by decide +kernel
theorem dX8_hold_37 : decode cX8_hold 37 = .ok (.bipush (-2), 2) := by decide +kernel
theorem dX8_hold_39 : decode cX8_hold 39 = .ok (.ireturn, 1) := by decide +kernel
theorem dX8_hold_40 : decode cX8_hold 40 = .ok (.aload_n 0, 1) := by decide +kernel
theorem dX8_hold_41 : decode cX8_hold 41 = .ok (.getfield 10, 3) := by decide +kernel
theorem dX8_hold_44 : decode cX8_hold 44 = .ok (.iload_n 1, 1) := by decide +kernel
theorem dX8_hold_45 : decode cX8_hold 45 = .ok (.invokevirtual 90, 3) := by decide +kernel
theorem dX8_hold_48 : decode cX8_hold 48 = .ok (.istore 5, 2) := by decide +kernel
theorem dX8_hold_50 : decode cX8_hold 50 = .ok (.aload_n 0, 1) := by decide +kernel
theorem dX8_hold_51 : decode cX8_hold 51 = .ok (.getfield 10, 3) := by decide +kernel
theorem dX8_hold_54 : decode cX8_hold 54 = .ok (.getfield 93, 3) := by decide +kernel
theorem dX8_hold_57 : decode cX8_hold 57 = .ok (.iload_n 1, 1) := by decide +kernel
theorem dX8_hold_58 : decode cX8_hold 58 = .ok (.iload_n 2, 1) := by decide +kernel
theorem dX8_hold_59 : decode cX8_hold 59 = .ok (.iastore, 1) := by decide +kernel
theorem dX8_hold_60 : decode cX8_hold 60 = .ok (.aload_n 0, 1) := by decide +kernel
theorem dX8_hold_61 : decode cX8_hold 61 = .ok (.getfield 10, 3) := by decide +kernel
theorem dX8_hold_64 : decode cX8_hold 64 = .ok (.getfield 96, 3) := by decide +kernel
theorem dX8_hold_67 : decode cX8_hold 67 = .ok (.iload_n 1, 1) := by decide +kernel
theorem dX8_hold_68 : decode cX8_hold 68 = .ok (.iload_n 3, 1) := by decide +kernel
theorem dX8_hold_69 : decode cX8_hold 69 = .ok (.iastore, 1) := by decide +kernel
theorem dX8_hold_70 : decode cX8_hold 70 = .ok (.aload_n 0, 1) := by decide +kernel
theorem dX8_hold_71 : decode cX8_hold 71 = .ok (.getfield 10, 3) := by decide +kernel
theorem dX8_hold_74 : decode cX8_hold 74 = .ok (.getfield 99, 3) := by decide +kernel
theorem dX8_hold_77 : decode cX8_hold 77 = .ok (.iload_n 1, 1) := by decide +kernel
theorem dX8_hold_78 : decode cX8_hold 78 = .ok (.iload 4, 2) := by decide +kernel
theorem dX8_hold_80 : decode cX8_hold 80 = .ok (.iastore, 1) := by decide +kernel
theorem dX8_hold_81 : decode cX8_hold 81 = .ok (.iload 5, 2) := by decide +kernel
theorem dX8_hold_83 : decode cX8_hold 83 = .ok (.ireturn, 1) := by decide +kernel
theorem dX8_breath_0 : decode cX8_breath 0 = .ok (.iload_n 1, 1) := by decide +kernel
theorem dX8_breath_1 : decode cX8_breath 1 = .ok (.iconst 0, 1) := by decide +kernel
theorem dX8_breath_2 : decode cX8_breath 2 = .ok (.bipush 99, 2) := by decide +kernel
theorem dX8_breath_4 : decode cX8_breath 4 = .ok (.invokestatic 62, 3) := by decide +kernel
theorem dX8_breath_7 : decode cX8_breath 7 = .ok (.ifCond .ne 6, 3) := by decide +kernel
theorem dX8_breath_10 : decode cX8_breath 10 = .ok (.bipush (-2), 2) := by decide +kernel
theorem dX8_breath_12 : decode cX8_breath 12 = .ok (.ireturn, 1) := by decide +kernel
theorem dX8_breath_13 : decode cX8_breath 13 = .ok (.aload_n 0, 1) := by decide +kernel
theorem dX8_breath_14 : decode cX8_breath 14 = .ok (.getfield 10, 3) := by decide +kernel
theorem dX8_breath_17 : decode cX8_breath 17 = .ok (.getfield 102, 3) := by decide +kernel
theorem dX8_breath_20 : decode cX8_breath 20 = .ok (.istore_n 2, 1) := by decide +kernel
theorem dX8_breath_21 : decode cX8_breath 21 = .ok (.aload_n 0, 1) := by decide +kernel
theorem dX8_breath_22 : decode cX8_breath 22 = .ok (.getfield 10, 3) := by decide +kernel
theorem dX8_breath_25 : decode cX8_breath 25 = .ok (.iload_n 1, 1) := by decide +kernel
theorem dX8_breath_26 : decode cX8_breath 26 = .ok (.putfield 102, 3) := by decide +kernel
theorem dX8_breath_29 : decode cX8_breath 29 = .ok (.iload_n 2, 1) := by decide +kernel
theorem dX8_breath_30 : decode cX8_breath 30 = .ok (.ireturn, 1) := by decide +kernel
theorem dX8_coat_0 : decode cX8_coat 0 = .ok (.iload_n 1, 1) := by decide +kernel
theorem dX8_coat_1 : decode cX8_coat 1 = .ok (.iconst 0, 1) := by decide +kernel
theorem dX8_coat_2 : decode cX8_coat 2 = .ok (.bipush 7, 2) := by decide +kernel
theorem dX8_coat_4 : decode cX8_coat 4 = .ok (.invokestatic 62, 3) := by decide +kernel
theorem dX8_coat_7 : decode cX8_coat 7 = .ok (.ifCond .ne 5, 3) := by decide +kernel
theorem dX8_coat_10 : decode cX8_coat 10 = .ok (.iconst (-1), 1) := by decide +kernel
theorem dX8_coat_11 : decode cX8_coat 11 = .ok (.ireturn, 1) := by decide +kernel
theorem dX8_coat_12 : decode cX8_coat 12 = .ok (.iload_n 2, 1) := by decide +kernel
theorem dX8_coat_13 : decode cX8_coat 13 = .ok (.iload_n 3, 1) := by decide +kernel
theorem dX8_coat_14 : decode cX8_coat 14 = .ok (.invokestatic 106, 3) := by decide +kernel
theorem dX8_coat_17 : decode cX8_coat 17 = .ok (.ifCond .ne 6, 3) := by decide +kernel
theorem dX8_coat_20 : decode cX8_coat 20 = .ok (.bipush (-2), 2) := by decide +kernel
theorem dX8_coat_22 : decode cX8_coat 22 = .ok (.ireturn, 1) := by decide +kernel
theorem dX8_coat_23 : decode cX8_coat 23 = .ok (.aload_n 0, 1) := by decide +kernel
theorem dX8_coat_24 : decode cX8_coat 24 = .ok (.getfield 10, 3) := by decide +kernel
theorem dX8_coat_27 : decode cX8_coat 27 = .ok (.iload_n 1, 1) := by decide +kernel
theorem dX8_coat_28 : decode cX8_coat 28 = .ok (.invokevirtual 110, 3) := by decide +kernel
theorem dX8_coat_31 : decode cX8_coat 31 = .ok (.istore 4, 2) := by decide +kernel
theorem dX8_coat_33 : decode cX8_coat 33 = .ok (.aload_n 0, 1) := by decide +kernel
theorem dX8_coat_34 : decode cX8_coat 34 = .ok (.getfield 10, 3) := by decide +kernel
theorem dX8_coat_37 : decode cX8_coat 37 = .ok (.getfield 113, 3) := by decide +kernel
theorem dX8_coat_40 : decode cX8_coat 40 = .ok (.iload_n 1, 1) := by decide +kernel
theorem dX8_coat_41 : decode cX8_coat 41 = .ok (.iload_n 2, 1) := by decide +kernel
theorem dX8_coat_42 : decode cX8_coat 42 = .ok (.iastore, 1) := by decide +kernel
theorem dX8_coat_43 : decode cX8_coat 43 = .ok (.aload_n 0, 1) := by decide +kernel
theorem dX8_coat_44 : decode cX8_coat 44 = .ok (.getfield 10, 3) := by decide +kernel
theorem dX8_coat_47 : decode cX8_coat 47 = .ok (.getfield 116, 3) := by decide +kernel
theorem dX8_coat_50 : decode cX8_coat 50 = .ok (.iload_n 1, 1) := by decide +kernel
theorem dX8_coat_51 : decode cX8_coat 51 = .ok (.iload_n 3, 1) := by decide +kernel
theorem dX8_coat_52 : decode cX8_coat 52 = .ok (.iastore, 1) := by decide +kernel
theorem dX8_coat_53 : decode cX8_coat 53 = .ok (.iload 4, 2) := by decide +kernel
theorem dX8_coat_55 : decode cX8_coat 55 = .ok (.ireturn, 1) := by decide +kernel
theorem dX8_move_0 : decode cX8_move 0 = .ok (.iload_n 1, 1) := by decide +kernel
theorem dX8_move_1 : decode cX8_move 1 = .ok (.invokestatic 119, 3) := by decide +kernel
theorem dX8_move_4 : decode cX8_move 4 = .ok (.ifCond .eq 15, 3) := by decide +kernel
theorem dX8_move_7 : decode cX8_move 7 = .ok (.iload_n 2, 1) := by decide +kernel
theorem dX8_move_8 : decode cX8_move 8 = .ok (.invokestatic 119, 3) := by decide +kernel
theorem dX8_move_11 : decode cX8_move 11 = .ok (.ifCond .eq 8, 3) := by decide +kernel
theorem dX8_move_14 : decode cX8_move 14 = .ok (.iload_n 1, 1) := by decide +kernel
theorem dX8_move_15 : decode cX8_move 15 = .ok (.iload_n 2, 1) := by decide +kernel
theorem dX8_move_16 : decode cX8_move 16 = .ok (.if_icmp .ne 5, 3) := by decide +kernel
theorem dX8_move_19 : decode cX8_move 19 = .ok (.iconst (-1), 1) := by decide +kernel
theorem dX8_move_20 : decode cX8_move 20 = .ok (.ireturn, 1) := by decide +kernel
theorem dX8_move_21 : decode cX8_move 21 = .ok (.iload_n 3, 1) := by decide +kernel
theorem dX8_move_22 : decode cX8_move 22 = .ok (.ifCond .eq 21, 3) := by decide +kernel
theorem dX8_move_25 : decode cX8_move 25 = .ok (.aload_n 0, 1) := by decide +kernel
theorem dX8_move_26 : decode cX8_move 26 = .ok (.getfield 10, 3) := by decide +kernel
theorem dX8_move_29 : decode cX8_move 29 = .ok (.getfield 122, 3) := by decide +kernel
theorem dX8_move_32 : decode cX8_move 32 = .ok (.iload_n 1, 1) := by decide +kernel
theorem dX8_move_33 : decode cX8_move 33 = .ok (.dup2, 1) := by decide +kernel
theorem dX8_move_34 : decode cX8_move 34 = .ok (.iaload, 1) := by decide +kernel
theorem dX8_move_35 : decode cX8_move 35 = .ok (.iconst 1, 1) := by decide +kernel
theorem dX8_move_36 : decode cX8_move 36 = .ok (.iload_n 2, 1) := by decide +kernel
theorem dX8_move_37 : decode cX8_move 37 = .ok (.ishl, 1) := by decide +kernel
theorem dX8_move_38 : decode cX8_move 38 = .ok (.ior, 1) := by decide +kernel
theorem dX8_move_39 : decode cX8_move 39 = .ok (.iastore, 1) := by decide +kernel
theorem dX8_move_40 : decode cX8_move 40 = .ok (.goto 20, 3) := by decide +kernel
theorem dX8_move_43 : decode cX8_move 43 = .ok (.aload_n 0, 1) := by decide +kernel
theorem dX8_move_44 : decode cX8_move 44 = .ok (.getfield 10, 3) := by decide +kernel
theorem dX8_move_47 : decode cX8_move 47 = .ok (.getfield 122, 3) := by decide +kernel
theorem dX8_move_50 : decode cX8_move 50 = .ok (.iload_n 1, 1) := by decide +kernel
theorem dX8_move_51 : decode cX8_move 51 = .ok (.dup2, 1) := by decide +kernel
theorem dX8_move_52 : decode cX8_move 52 = .ok (.iaload, 1) := by decide +kernel
theorem dX8_move_53 : decode cX8_move 53 = .ok (.iconst 1, 1) := by decide +kernel
theorem dX8_move_54 : decode cX8_move 54 = .ok (.iload_n 2, 1) := by decide +kernel
theorem dX8_move_55 : decode cX8_move 55 = .ok (.ishl, 1) := by decide +kernel
theorem dX8_move_56 : decode cX8_move 56 = .ok (.iconst (-1), 1) := by decide +kernel
theorem dX8_move_57 : decode cX8_move 57 = .ok (.ixor, 1) := by decide +kernel
theorem dX8_move_58 : decode cX8_move 58 = .ok (.iand, 1) := by decide +kernel
theorem dX8_move_59 : decode cX8_move 59 = .ok (.iastore, 1) := by decide +kernel
theorem dX8_move_60 : decode cX8_move 60 = .ok (.aload_n 0, 1) := by decide +kernel
theorem dX8_move_61 : decode cX8_move 61 = .ok (.getfield 10, 3) := by decide +kernel
theorem dX8_move_64 : decode cX8_move 64 = .ok (.invokevirtual 125, 3) := by decide +kernel
theorem dX8_move_67 : decode cX8_move 67 = .ok (.ireturn, 1) := by decide +kernel
theorem dX8_say_0 : decode cX8_say 0 = .ok (.iload_n 1, 1) := by decide +kernel
theorem dX8_say_1 : decode cX8_say 1 = .ok (.bipush 33, 2) := by decide +kernel
theorem dX8_say_3 : decode cX8_say 3 = .ok (.bipush 126, 2) := by decide +kernel
theorem dX8_say_5 : decode cX8_say 5 = .ok (.invokestatic 62, 3) := by decide +kernel
theorem dX8_say_8 : decode cX8_say 8 = .ok (.ifCond .ne 6, 3) := by decide +kernel
theorem dX8_say_11 : decode cX8_say 11 = .ok (.bipush (-2), 2) := by decide +kernel
theorem dX8_say_13 : decode cX8_say 13 = .ok (.ireturn, 1) := by decide +kernel
theorem dX8_say_14 : decode cX8_say 14 = .ok (.aload_n 0, 1) := by decide +kernel
theorem dX8_say_15 : decode cX8_say 15 = .ok (.getfield 19, 3) := by decide +kernel
theorem dX8_say_18 : decode cX8_say 18 = .ok (.iload_n 1, 1) := by decide +kernel
theorem dX8_say_19 : decode cX8_say 19 = .ok (.invokevirtual 128, 3) := by decide +kernel
theorem dX8_say_22 : decode cX8_say 22 = .ok (.ifCond .eq 13, 3) := by decide +kernel
theorem dX8_say_25 : decode cX8_say 25 = .ok (.aload_n 0, 1) := by decide +kernel
theorem dX8_say_26 : decode cX8_say 26 = .ok (.getfield 19, 3) := by decide +kernel
theorem dX8_say_29 : decode cX8_say 29 = .ok (.getfield 131, 3) := by decide +kernel
theorem dX8_say_32 : decode cX8_say 32 = .ok (.goto 5, 3) := by decide +kernel
theorem dX8_say_35 : decode cX8_say 35 = .ok (.bipush (-4), 2) := by decide +kernel
theorem dX8_say_37 : decode cX8_say 37 = .ok (.ireturn, 1) := by decide +kernel
theorem dX8_wipe_0 : decode cX8_wipe 0 = .ok (.aload_n 0, 1) := by decide +kernel
theorem dX8_wipe_1 : decode cX8_wipe 1 = .ok (.getfield 19, 3) := by decide +kernel
theorem dX8_wipe_4 : decode cX8_wipe 4 = .ok (.getfield 131, 3) := by decide +kernel
theorem dX8_wipe_7 : decode cX8_wipe 7 = .ok (.istore_n 1, 1) := by decide +kernel
theorem dX8_wipe_8 : decode cX8_wipe 8 = .ok (.aload_n 0, 1) := by decide +kernel
theorem dX8_wipe_9 : decode cX8_wipe 9 = .ok (.getfield 19, 3) := by decide +kernel
theorem dX8_wipe_12 : decode cX8_wipe 12 = .ok (.iconst 0, 1) := by decide +kernel
theorem dX8_wipe_13 : decode cX8_wipe 13 = .ok (.putfield 131, 3) := by decide +kernel
theorem dX8_wipe_16 : decode cX8_wipe 16 = .ok (.iload_n 1, 1) := by decide +kernel
theorem dX8_wipe_17 : decode cX8_wipe 17 = .ok (.ireturn, 1) := by decide +kernel
theorem dX8_fault_0 : decode cX8_fault 0 = .ok (.aload_n 0, 1) := by decide +kernel
theorem dX8_fault_1 : decode cX8_fault 1 = .ok (.getfield 19, 3) := by decide +kernel
theorem dX8_fault_4 : decode cX8_fault 4 = .ok (.invokevirtual 134, 3) := by decide +kernel
theorem dX8_fault_7 : decode cX8_fault 7 = .ok (.ireturn, 1) := by decide +kernel
theorem dX8_judge_0 : decode cX8_judge 0 = .ok (.iload_n 1, 1) := by decide +kernel
theorem dX8_judge_1 : decode cX8_judge 1 = .ok (.iconst 0, 1) := by decide +kernel
theorem dX8_judge_2 : decode cX8_judge 2 = .ok (.iconst 1, 1) := by decide +kernel
theorem dX8_judge_3 : decode cX8_judge 3 = .ok (.invokestatic 62, 3) := by decide +kernel
theorem dX8_judge_6 : decode cX8_judge 6 = .ok (.ifCond .ne 6, 3) := by decide +kernel
theorem dX8_judge_9 : decode cX8_judge 9 = .ok (.bipush (-2), 2) := by decide +kernel
theorem dX8_judge_11 : decode cX8_judge 11 = .ok (.ireturn, 1) := by decide +kernel
theorem dX8_judge_12 : decode cX8_judge 12 = .ok (.aload_n 0, 1) := by decide +kernel
theorem dX8_judge_13 : decode cX8_judge 13 = .ok (.getfield 19, 3) := by decide +kernel
theorem dX8_judge_16 : decode cX8_judge 16 = .ok (.invokevirtual 134, 3) := by decide +kernel
theorem dX8_judge_19 : decode cX8_judge 19 = .ok (.bipush (-6), 2) := by decide +kernel
theorem dX8_judge_21 : decode cX8_judge 21 = .ok (.if_icmp .eq 6, 3) := by decide +kernel
theorem dX8_judge_24 : decode cX8_judge 24 = .ok (.bipush (-5), 2) := by decide +kernel
theorem dX8_judge_26 : decode cX8_judge 26 = .ok (.ireturn, 1) := by decide +kernel
theorem dX8_judge_27 : decode cX8_judge 27 = .ok (.aload_n 0, 1) := by decide +kernel
theorem dX8_judge_28 : decode cX8_judge 28 = .ok (.getfield 26, 3) := by decide +kernel
theorem dX8_judge_31 : decode cX8_judge 31 = .ok (.aload_n 0, 1) := by decide +kernel
theorem dX8_judge_32 : decode cX8_judge 32 = .ok (.getfield 19, 3) := by decide +kernel
theorem dX8_judge_35 : decode cX8_judge 35 = .ok (.aload_n 0, 1) := by decide +kernel
theorem dX8_judge_36 : decode cX8_judge 36 = .ok (.getfield 10, 3) := by decide +kernel
theorem dX8_judge_39 : decode cX8_judge 39 = .ok (.invokevirtual 137, 3) := by decide +kernel
theorem dX8_judge_42 : decode cX8_judge 42 = .ok (.aload_n 0, 1) := by decide +kernel
theorem dX8_judge_43 : decode cX8_judge 43 = .ok (.getfield 26, 3) := by decide +kernel
theorem dX8_judge_46 : decode cX8_judge 46 = .ok (.getfield 141, 3) := by decide +kernel
theorem dX8_judge_49 : decode cX8_judge 49 = .ok (.ifCond .ne 6, 3) := by decide +kernel
theorem dX8_judge_52 : decode cX8_judge 52 = .ok (.bipush (-6), 2) := by decide +kernel
theorem dX8_judge_54 : decode cX8_judge 54 = .ok (.ireturn, 1) := by decide +kernel
theorem dX8_judge_55 : decode cX8_judge 55 = .ok (.iload_n 1, 1) := by decide +kernel
theorem dX8_judge_56 : decode cX8_judge 56 = .ok (.ifCond .ne 13, 3) := by decide +kernel
theorem dX8_judge_59 : decode cX8_judge 59 = .ok (.aload_n 0, 1) := by decide +kernel
theorem dX8_judge_60 : decode cX8_judge 60 = .ok (.getfield 26, 3) := by decide +kernel
theorem dX8_judge_63 : decode cX8_judge 63 = .ok (.getfield 144, 3) := by decide +kernel
theorem dX8_judge_66 : decode cX8_judge 66 = .ok (.goto 10, 3) := by decide +kernel
theorem dX8_judge_69 : decode cX8_judge 69 = .ok (.aload_n 0, 1) := by decide +kernel
theorem dX8_judge_70 : decode cX8_judge 70 = .ok (.getfield 26, 3) := by decide +kernel
theorem dX8_judge_73 : decode cX8_judge 73 = .ok (.getfield 141, 3) := by decide +kernel
theorem dX8_judge_76 : decode cX8_judge 76 = .ok (.ireturn, 1) := by decide +kernel
theorem dX8_done_0 : decode cX8_done 0 = .ok (.aload_n 0, 1) := by decide +kernel
theorem dX8_done_1 : decode cX8_done 1 = .ok (.invokevirtual 147, 3) := by decide +kernel
theorem dX8_done_4 : decode cX8_done 4 = .ok (.ifCond .ne 6, 3) := by decide +kernel
theorem dX8_done_7 : decode cX8_done 7 = .ok (.bipush (-5), 2) := by decide +kernel
theorem dX8_done_9 : decode cX8_done 9 = .ok (.ireturn, 1) := by decide +kernel
theorem dX8_done_10 : decode cX8_done 10 = .ok (.aload_n 0, 1) := by decide +kernel
theorem dX8_done_11 : decode cX8_done 11 = .ok (.getfield 10, 3) := by decide +kernel
theorem dX8_done_14 : decode cX8_done 14 = .ok (.aload_n 0, 1) := by decide +kernel
theorem dX8_done_15 : decode cX8_done 15 = .ok (.getfield 26, 3) := by decide +kernel
theorem dX8_done_18 : decode cX8_done 18 = .ok (.getfield 151, 3) := by decide +kernel
theorem dX8_done_21 : decode cX8_done 21 = .ok (.invokevirtual 154, 3) := by decide +kernel
theorem dX8_done_24 : decode cX8_done 24 = .ok (.aload_n 0, 1) := by decide +kernel
theorem dX8_done_25 : decode cX8_done 25 = .ok (.getfield 19, 3) := by decide +kernel
theorem dX8_done_28 : decode cX8_done 28 = .ok (.iconst 0, 1) := by decide +kernel
theorem dX8_done_29 : decode cX8_done 29 = .ok (.putfield 131, 3) := by decide +kernel
theorem dX8_done_32 : decode cX8_done 32 = .ok (.aload_n 0, 1) := by decide +kernel
theorem dX8_done_33 : decode cX8_done 33 = .ok (.getfield 26, 3) := by decide +kernel
theorem dX8_done_36 : decode cX8_done 36 = .ok (.getfield 144, 3) := by decide +kernel
theorem dX8_done_39 : decode cX8_done 39 = .ok (.ireturn, 1) := by decide +kernel
theorem dX8_behind_0 : decode cX8_behind 0 = .ok (.aload_n 0, 1) := by decide +kernel
theorem dX8_behind_1 : decode cX8_behind 1 = .ok (.getfield 10, 3) := by decide +kernel
theorem dX8_behind_4 : decode cX8_behind 4 = .ok (.iload_n 1, 1) := by decide +kernel
theorem dX8_behind_5 : decode cX8_behind 5 = .ok (.invokevirtual 158, 3) := by decide +kernel
theorem dX8_behind_8 : decode cX8_behind 8 = .ok (.ifCond .ne 5, 3) := by decide +kernel
theorem dX8_behind_11 : decode cX8_behind 11 = .ok (.iconst (-1), 1) := by decide +kernel
theorem dX8_behind_12 : decode cX8_behind 12 = .ok (.ireturn, 1) := by decide +kernel
theorem dX8_behind_13 : decode cX8_behind 13 = .ok (.iload_n 2, 1) := by decide +kernel
theorem dX8_behind_14 : decode cX8_behind 14 = .ok (.iconst 0, 1) := by decide +kernel
theorem dX8_behind_15 : decode cX8_behind 15 = .ok (.iconst 1, 1) := by decide +kernel
theorem dX8_behind_16 : decode cX8_behind 16 = .ok (.invokestatic 62, 3) := by decide +kernel
theorem dX8_behind_19 : decode cX8_behind 19 = .ok (.ifCond .ne 6, 3) := by decide +kernel
theorem dX8_behind_22 : decode cX8_behind 22 = .ok (.bipush (-2), 2) := by decide +kernel
theorem dX8_behind_24 : decode cX8_behind 24 = .ok (.ireturn, 1) := by decide +kernel
theorem dX8_behind_25 : decode cX8_behind 25 = .ok (.aload_n 0, 1) := by decide +kernel
theorem dX8_behind_26 : decode cX8_behind 26 = .ok (.invokevirtual 147, 3) := by decide +kernel
theorem dX8_behind_29 : decode cX8_behind 29 = .ok (.ifCond .ne 6, 3) := by decide +kernel
theorem dX8_behind_32 : decode cX8_behind 32 = .ok (.bipush (-5), 2) := by decide +kernel
theorem dX8_behind_34 : decode cX8_behind 34 = .ok (.ireturn, 1) := by decide +kernel
theorem dX8_behind_35 : decode cX8_behind 35 = .ok (.aload_n 0, 1) := by decide +kernel
theorem dX8_behind_36 : decode cX8_behind 36 = .ok (.getfield 26, 3) := by decide +kernel
theorem dX8_behind_39 : decode cX8_behind 39 = .ok (.getfield 151, 3) := by decide +kernel
theorem dX8_behind_42 : decode cX8_behind 42 = .ok (.iload_n 1, 1) := by decide +kernel
theorem dX8_behind_43 : decode cX8_behind 43 = .ok (.invokevirtual 158, 3) := by decide +kernel
theorem dX8_behind_46 : decode cX8_behind 46 = .ok (.ifCond .eq 18, 3) := by decide +kernel
theorem dX8_behind_49 : decode cX8_behind 49 = .ok (.aload_n 0, 1) := by decide +kernel
theorem dX8_behind_50 : decode cX8_behind 50 = .ok (.getfield 26, 3) := by decide +kernel
theorem dX8_behind_53 : decode cX8_behind 53 = .ok (.getfield 151, 3) := by decide +kernel
theorem dX8_behind_56 : decode cX8_behind 56 = .ok (.iload_n 1, 1) := by decide +kernel
theorem dX8_behind_57 : decode cX8_behind 57 = .ok (.iload_n 2, 1) := by decide +kernel
theorem dX8_behind_58 : decode cX8_behind 58 = .ok (.invokevirtual 161, 3) := by decide +kernel
theorem dX8_behind_61 : decode cX8_behind 61 = .ok (.goto 5, 3) := by decide +kernel
theorem dX8_behind_64 : decode cX8_behind 64 = .ok (.bipush (-6), 2) := by decide +kernel
theorem dX8_behind_66 : decode cX8_behind 66 = .ok (.ireturn, 1) := by decide +kernel
theorem dX8_then_0 : decode cX8_then 0 = .ok (.iload_n 1, 1) := by decide +kernel
theorem dX8_then_1 : decode cX8_then 1 = .ok (.iconst 0, 1) := by decide +kernel
theorem dX8_then_2 : decode cX8_then 2 = .ok (.iconst 5, 1) := by decide +kernel
theorem dX8_then_3 : decode cX8_then 3 = .ok (.invokestatic 62, 3) := by decide +kernel
theorem dX8_then_6 : decode cX8_then 6 = .ok (.ifCond .ne 6, 3) := by decide +kernel
theorem dX8_then_9 : decode cX8_then 9 = .ok (.bipush (-2), 2) := by decide +kernel
theorem dX8_then_11 : decode cX8_then 11 = .ok (.ireturn, 1) := by decide +kernel
theorem dX8_then_12 : decode cX8_then 12 = .ok (.aload_n 0, 1) := by decide +kernel
theorem dX8_then_13 : decode cX8_then 13 = .ok (.invokevirtual 147, 3) := by decide +kernel
theorem dX8_then_16 : decode cX8_then 16 = .ok (.ifCond .ne 6, 3) := by decide +kernel
theorem dX8_then_19 : decode cX8_then 19 = .ok (.bipush (-5), 2) := by decide +kernel
theorem dX8_then_21 : decode cX8_then 21 = .ok (.ireturn, 1) := by decide +kernel
theorem dX8_then_22 : decode cX8_then 22 = .ok (.iload_n 1, 1) := by decide +kernel
theorem dX8_then_23 : decode cX8_then 23 = .ok (.tableswitch 82 0 4 #[33, 44, 55, 66, 74], 33) := by decide +kernel
theorem dX8_then_56 : decode cX8_then 56 = .ok (.aload_n 0, 1) := by decide +kernel
theorem dX8_then_57 : decode cX8_then 57 = .ok (.getfield 26, 3) := by decide +kernel
theorem dX8_then_60 : decode cX8_then 60 = .ok (.getfield 151, 3) := by decide +kernel
theorem dX8_then_63 : decode cX8_then 63 = .ok (.invokevirtual 77, 3) := by decide +kernel
theorem dX8_then_66 : decode cX8_then 66 = .ok (.ireturn, 1) := by decide +kernel
theorem dX8_then_67 : decode cX8_then 67 = .ok (.aload_n 0, 1) := by decide +kernel
theorem dX8_then_68 : decode cX8_then 68 = .ok (.getfield 26, 3) := by decide +kernel
theorem dX8_then_71 : decode cX8_then 71 = .ok (.getfield 151, 3) := by decide +kernel
theorem dX8_then_74 : decode cX8_then 74 = .ok (.getfield 102, 3) := by decide +kernel
theorem dX8_then_77 : decode cX8_then 77 = .ok (.ireturn, 1) := by decide +kernel
theorem dX8_then_78 : decode cX8_then 78 = .ok (.aload_n 0, 1) := by decide +kernel
theorem dX8_then_79 : decode cX8_then 79 = .ok (.getfield 26, 3) := by decide +kernel
theorem dX8_then_82 : decode cX8_then 82 = .ok (.getfield 151, 3) := by decide +kernel
theorem dX8_then_85 : decode cX8_then 85 = .ok (.getfield 165, 3) := by decide +kernel
theorem dX8_then_88 : decode cX8_then 88 = .ok (.ireturn, 1) := by decide +kernel
theorem dX8_then_89 : decode cX8_then 89 = .ok (.aload_n 0, 1) := by decide +kernel
theorem dX8_then_90 : decode cX8_then 90 = .ok (.getfield 26, 3) := by decide +kernel
theorem dX8_then_93 : decode cX8_then 93 = .ok (.getfield 168, 3) := by decide +kernel
theorem dX8_then_96 : decode cX8_then 96 = .ok (.ireturn, 1) := by decide +kernel
theorem dX8_then_97 : decode cX8_then 97 = .ok (.aload_n 0, 1) := by decide +kernel
theorem dX8_then_98 : decode cX8_then 98 = .ok (.getfield 26, 3) := by decide +kernel
theorem dX8_then_101 : decode cX8_then 101 = .ok (.getfield 171, 3) := by decide +kernel
theorem dX8_then_104 : decode cX8_then 104 = .ok (.ireturn, 1) := by decide +kernel
theorem dX8_then_105 : decode cX8_then 105 = .ok (.aload_n 0, 1) := by decide +kernel
theorem dX8_then_106 : decode cX8_then 106 = .ok (.getfield 26, 3) := by decide +kernel
theorem dX8_then_109 : decode cX8_then 109 = .ok (.getfield 174, 3) := by decide +kernel
theorem dX8_then_112 : decode cX8_then 112 = .ok (.ireturn, 1) := by decide +kernel
theorem dX8_fitting_0 : decode cX8_fitting 0 = .ok (.aload_n 0, 1) := by decide +kernel
theorem dX8_fitting_1 : decode cX8_fitting 1 = .ok (.getfield 10, 3) := by decide +kernel
theorem dX8_fitting_4 : decode cX8_fitting 4 = .ok (.iload_n 1, 1) := by decide +kernel
theorem dX8_fitting_5 : decode cX8_fitting 5 = .ok (.invokevirtual 158, 3) := by decide +kernel
theorem dX8_fitting_8 : decode cX8_fitting 8 = .ok (.ifCond .eq 14, 3) := by decide +kernel
theorem dX8_fitting_11 : decode cX8_fitting 11 = .ok (.aload_n 0, 1) := by decide +kernel
theorem dX8_fitting_12 : decode cX8_fitting 12 = .ok (.getfield 10, 3) := by decide +kernel
theorem dX8_fitting_15 : decode cX8_fitting 15 = .ok (.iload_n 1, 1) := by decide +kernel
theorem dX8_fitting_16 : decode cX8_fitting 16 = .ok (.invokevirtual 177, 3) := by decide +kernel
theorem dX8_fitting_19 : decode cX8_fitting 19 = .ok (.goto 4, 3) := by decide +kernel
theorem dX8_fitting_22 : decode cX8_fitting 22 = .ok (.iconst (-1), 1) := by decide +kernel
theorem dX8_fitting_23 : decode cX8_fitting 23 = .ok (.ireturn, 1) := by decide +kernel
theorem dX8_least_0 : decode cX8_least 0 = .ok (.aload_n 0, 1) := by decide +kernel
theorem dX8_least_1 : decode cX8_least 1 = .ok (.getfield 10, 3) := by decide +kernel
theorem dX8_least_4 : decode cX8_least 4 = .ok (.iload_n 1, 1) := by decide +kernel
theorem dX8_least_5 : decode cX8_least 5 = .ok (.invokevirtual 158, 3) := by decide +kernel
theorem dX8_least_8 : decode cX8_least 8 = .ok (.ifCond .ne 5, 3) := by decide +kernel
theorem dX8_least_11 : decode cX8_least 11 = .ok (.iconst (-1), 1) := by decide +kernel
theorem dX8_least_12 : decode cX8_least 12 = .ok (.ireturn, 1) := by decide +kernel
theorem dX8_least_13 : decode cX8_least 13 = .ok (.iload_n 2, 1) := by decide +kernel
theorem dX8_least_14 : decode cX8_least 14 = .ok (.iconst 0, 1) := by decide +kernel
theorem dX8_least_15 : decode cX8_least 15 = .ok (.iconst 1, 1) := by decide +kernel
theorem dX8_least_16 : decode cX8_least 16 = .ok (.invokestatic 62, 3) := by decide +kernel
theorem dX8_least_19 : decode cX8_least 19 = .ok (.ifCond .ne 6, 3) := by decide +kernel
theorem dX8_least_22 : decode cX8_least 22 = .ok (.bipush (-2), 2) := by decide +kernel
theorem dX8_least_24 : decode cX8_least 24 = .ok (.ireturn, 1) := by decide +kernel
theorem dX8_least_25 : decode cX8_least 25 = .ok (.aload_n 0, 1) := by decide +kernel
theorem dX8_least_26 : decode cX8_least 26 = .ok (.getfield 33, 3) := by decide +kernel
theorem dX8_least_29 : decode cX8_least 29 = .ok (.aload_n 0, 1) := by decide +kernel
theorem dX8_least_30 : decode cX8_least 30 = .ok (.getfield 10, 3) := by decide +kernel
theorem dX8_least_33 : decode cX8_least 33 = .ok (.iload_n 1, 1) := by decide +kernel
theorem dX8_least_34 : decode cX8_least 34 = .ok (.invokevirtual 180, 3) := by decide +kernel
theorem dX8_least_37 : decode cX8_least 37 = .ok (.istore_n 3, 1) := by decide +kernel
theorem dX8_least_38 : decode cX8_least 38 = .ok (.iload_n 3, 1) := by decide +kernel
theorem dX8_least_39 : decode cX8_least 39 = .ok (.bipush (-6), 2) := by decide +kernel
theorem dX8_least_41 : decode cX8_least 41 = .ok (.if_icmp .ne 6, 3) := by decide +kernel
theorem dX8_least_44 : decode cX8_least 44 = .ok (.bipush (-6), 2) := by decide +kernel
theorem dX8_least_46 : decode cX8_least 46 = .ok (.ireturn, 1) := by decide +kernel
theorem dX8_least_47 : decode cX8_least 47 = .ok (.iload_n 2, 1) := by decide +kernel
theorem dX8_least_48 : decode cX8_least 48 = .ok (.ifCond .ne 11, 3) := by decide +kernel
theorem dX8_least_51 : decode cX8_least 51 = .ok (.iload_n 3, 1) := by decide +kernel
theorem dX8_least_52 : decode cX8_least 52 = .ok (.sipush 1000, 3) := by decide +kernel
theorem dX8_least_55 : decode cX8_least 55 = .ok (.idiv, 1) := by decide +kernel
theorem dX8_least_56 : decode cX8_least 56 = .ok (.goto 8, 3) := by decide +kernel
theorem dX8_least_59 : decode cX8_least 59 = .ok (.iload_n 3, 1) := by decide +kernel
theorem dX8_least_60 : decode cX8_least 60 = .ok (.sipush 1000, 3) := by decide +kernel
theorem dX8_least_63 : decode cX8_least 63 = .ok (.irem, 1) := by decide +kernel
theorem dX8_least_64 : decode cX8_least 64 = .ok (.ireturn, 1) := by decide +kernel
theorem dX8_order_0 : decode cX8_order 0 = .ok (.iload_n 1, 1) := by decide +kernel
theorem dX8_order_1 : decode cX8_order 1 = .ok (.iconst 0, 1) := by decide +kernel
theorem dX8_order_2 : decode cX8_order 2 = .ok (.iconst 1, 1) := by decide +kernel
theorem dX8_order_3 : decode cX8_order 3 = .ok (.invokestatic 62, 3) := by decide +kernel
theorem dX8_order_6 : decode cX8_order 6 = .ok (.ifCond .ne 6, 3) := by decide +kernel
theorem dX8_order_9 : decode cX8_order 9 = .ok (.bipush (-2), 2) := by decide +kernel
theorem dX8_order_11 : decode cX8_order 11 = .ok (.ireturn, 1) := by decide +kernel
theorem dX8_order_12 : decode cX8_order 12 = .ok (.aload_n 0, 1) := by decide +kernel
theorem dX8_order_13 : decode cX8_order 13 = .ok (.getfield 40, 3) := by decide +kernel
theorem dX8_order_16 : decode cX8_order 16 = .ok (.aload_n 0, 1) := by decide +kernel
theorem dX8_order_17 : decode cX8_order 17 = .ok (.getfield 10, 3) := by decide +kernel
theorem dX8_order_20 : decode cX8_order 20 = .ok (.invokevirtual 184, 3) := by decide +kernel
theorem dX8_order_23 : decode cX8_order 23 = .ok (.iload_n 1, 1) := by decide +kernel
theorem dX8_order_24 : decode cX8_order 24 = .ok (.ifCond .ne 13, 3) := by decide +kernel
theorem dX8_order_27 : decode cX8_order 27 = .ok (.aload_n 0, 1) := by decide +kernel
theorem dX8_order_28 : decode cX8_order 28 = .ok (.getfield 40, 3) := by decide +kernel
theorem dX8_order_31 : decode cX8_order 31 = .ok (.invokevirtual 187, 3) := by decide +kernel
theorem dX8_order_34 : decode cX8_order 34 = .ok (.goto 14, 3) := by decide +kernel
theorem dX8_order_37 : decode cX8_order 37 = .ok (.aload_n 0, 1) := by decide +kernel
theorem dX8_order_38 : decode cX8_order 38 = .ok (.getfield 40, 3) := by decide +kernel
theorem dX8_order_41 : decode cX8_order 41 = .ok (.aload_n 0, 1) := by decide +kernel
theorem dX8_order_42 : decode cX8_order 42 = .ok (.getfield 10, 3) := by decide +kernel
theorem dX8_order_45 : decode cX8_order 45 = .ok (.invokevirtual 190, 3) := by decide +kernel
theorem dX8_order_48 : decode cX8_order 48 = .ok (.ireturn, 1) := by decide +kernel
theorem dX8_make_0 : decode cX8_make 0 = .ok (.iload_n 1, 1) := by decide +kernel
theorem dX8_make_1 : decode cX8_make 1 = .ok (.invokestatic 66, 3) := by decide +kernel
theorem dX8_make_4 : decode cX8_make 4 = .ok (.ifCond .eq 12, 3) := by decide +kernel
theorem dX8_make_7 : decode cX8_make 7 = .ok (.iload_n 2, 1) := by decide +kernel
theorem dX8_make_8 : decode cX8_make 8 = .ok (.iconst 0, 1) := by decide +kernel
theorem dX8_make_9 : decode cX8_make 9 = .ok (.iconst 1, 1) := by decide +kernel
theorem dX8_make_10 : decode cX8_make 10 = .ok (.invokestatic 62, 3) := by decide +kernel
theorem dX8_make_13 : decode cX8_make 13 = .ok (.ifCond .ne 6, 3) := by decide +kernel
theorem dX8_make_16 : decode cX8_make 16 = .ok (.bipush (-2), 2) := by decide +kernel
theorem dX8_make_18 : decode cX8_make 18 = .ok (.ireturn, 1) := by decide +kernel
theorem dX8_make_19 : decode cX8_make 19 = .ok (.aload_n 0, 1) := by decide +kernel
theorem dX8_make_20 : decode cX8_make 20 = .ok (.getfield 10, 3) := by decide +kernel
theorem dX8_make_23 : decode cX8_make 23 = .ok (.iload_n 1, 1) := by decide +kernel
theorem dX8_make_24 : decode cX8_make 24 = .ok (.invokevirtual 194, 3) := by decide +kernel
theorem dX8_make_27 : decode cX8_make 27 = .ok (.istore_n 3, 1) := by decide +kernel
theorem dX8_make_28 : decode cX8_make 28 = .ok (.iload_n 3, 1) := by decide +kernel
theorem dX8_make_29 : decode cX8_make 29 = .ok (.bipush (-6), 2) := by decide +kernel
theorem dX8_make_31 : decode cX8_make 31 = .ok (.if_icmp .eq 8, 3) := by decide +kernel
theorem dX8_make_34 : decode cX8_make 34 = .ok (.iload_n 2, 1) := by decide +kernel
theorem dX8_make_35 : decode cX8_make 35 = .ok (.iconst 1, 1) := by decide +kernel
theorem dX8_make_36 : decode cX8_make 36 = .ok (.if_icmp .ne 7, 3) := by decide +kernel
theorem dX8_make_39 : decode cX8_make 39 = .ok (.iload_n 3, 1) := by decide +kernel
theorem dX8_make_40 : decode cX8_make 40 = .ok (.goto 11, 3) := by decide +kernel
theorem dX8_make_43 : decode cX8_make 43 = .ok (.aload_n 0, 1) := by decide +kernel
theorem dX8_make_44 : decode cX8_make 44 = .ok (.getfield 10, 3) := by decide +kernel
theorem dX8_make_47 : decode cX8_make 47 = .ok (.iload_n 3, 1) := by decide +kernel
theorem dX8_make_48 : decode cX8_make 48 = .ok (.invokevirtual 197, 3) := by decide +kernel
theorem dX8_make_51 : decode cX8_make 51 = .ok (.ireturn, 1) := by decide +kernel
theorem dX8_ring_0 : decode cX8_ring 0 = .ok (.iload_n 1, 1) := by decide +kernel
theorem dX8_ring_1 : decode cX8_ring 1 = .ok (.iload_n 2, 1) := by decide +kernel
theorem dX8_ring_2 : decode cX8_ring 2 = .ok (.invokestatic 106, 3) := by decide +kernel
theorem dX8_ring_5 : decode cX8_ring 5 = .ok (.ifCond .eq 12, 3) := by decide +kernel
theorem dX8_ring_8 : decode cX8_ring 8 = .ok (.iload_n 3, 1) := by decide +kernel
theorem dX8_ring_9 : decode cX8_ring 9 = .ok (.iconst 0, 1) := by decide +kernel
theorem dX8_ring_10 : decode cX8_ring 10 = .ok (.iconst 1, 1) := by decide +kernel
theorem dX8_ring_11 : decode cX8_ring 11 = .ok (.invokestatic 62, 3) := by decide +kernel
theorem dX8_ring_14 : decode cX8_ring 14 = .ok (.ifCond .ne 6, 3) := by decide +kernel
theorem dX8_ring_17 : decode cX8_ring 17 = .ok (.bipush (-2), 2) := by decide +kernel
theorem dX8_ring_19 : decode cX8_ring 19 = .ok (.ireturn, 1) := by decide +kernel
theorem dX8_ring_20 : decode cX8_ring 20 = .ok (.aload_n 0, 1) := by decide +kernel
theorem dX8_ring_21 : decode cX8_ring 21 = .ok (.getfield 10, 3) := by decide +kernel
theorem dX8_ring_24 : decode cX8_ring 24 = .ok (.iload_n 1, 1) := by decide +kernel
theorem dX8_ring_25 : decode cX8_ring 25 = .ok (.iload_n 2, 1) := by decide +kernel
theorem dX8_ring_26 : decode cX8_ring 26 = .ok (.invokestatic 200, 3) := by decide +kernel
theorem dX8_ring_29 : decode cX8_ring 29 = .ok (.invokevirtual 203, 3) := by decide +kernel
theorem dX8_ring_32 : decode cX8_ring 32 = .ok (.istore 4, 2) := by decide +kernel
theorem dX8_ring_34 : decode cX8_ring 34 = .ok (.iload 4, 2) := by decide +kernel
theorem dX8_ring_36 : decode cX8_ring 36 = .ok (.bipush (-6), 2) := by decide +kernel
theorem dX8_ring_38 : decode cX8_ring 38 = .ok (.if_icmp .eq 8, 3) := by decide +kernel
theorem dX8_ring_41 : decode cX8_ring 41 = .ok (.iload_n 3, 1) := by decide +kernel
theorem dX8_ring_42 : decode cX8_ring 42 = .ok (.iconst 1, 1) := by decide +kernel
theorem dX8_ring_43 : decode cX8_ring 43 = .ok (.if_icmp .ne 8, 3) := by decide +kernel
theorem dX8_ring_46 : decode cX8_ring 46 = .ok (.iload 4, 2) := by decide +kernel
theorem dX8_ring_48 : decode cX8_ring 48 = .ok (.goto 8, 3) := by decide +kernel
theorem dX8_ring_51 : decode cX8_ring 51 = .ok (.iload 4, 2) := by decide +kernel
theorem dX8_ring_53 : decode cX8_ring 53 = .ok (.invokestatic 81, 3) := by decide +kernel
theorem dX8_ring_56 : decode cX8_ring 56 = .ok (.ireturn, 1) := by decide +kernel
theorem dX8_seen_0 : decode cX8_seen 0 = .ok (.iload_n 1, 1) := by decide +kernel
theorem dX8_seen_1 : decode cX8_seen 1 = .ok (.invokestatic 87, 3) := by decide +kernel
theorem dX8_seen_4 : decode cX8_seen 4 = .ok (.ifCond .ne 5, 3) := by decide +kernel
theorem dX8_seen_7 : decode cX8_seen 7 = .ok (.iconst (-1), 1) := by decide +kernel
theorem dX8_seen_8 : decode cX8_seen 8 = .ok (.ireturn, 1) := by decide +kernel
theorem dX8_seen_9 : decode cX8_seen 9 = .ok (.aload_n 0, 1) := by decide +kernel
theorem dX8_seen_10 : decode cX8_seen 10 = .ok (.getfield 10, 3) := by decide +kernel
theorem dX8_seen_13 : decode cX8_seen 13 = .ok (.iload_n 1, 1) := by decide +kernel
theorem dX8_seen_14 : decode cX8_seen 14 = .ok (.iload_n 2, 1) := by decide +kernel
theorem dX8_seen_15 : decode cX8_seen 15 = .ok (.invokevirtual 206, 3) := by decide +kernel
theorem dX8_seen_18 : decode cX8_seen 18 = .ok (.ifCond .eq 13, 3) := by decide +kernel
theorem dX8_seen_21 : decode cX8_seen 21 = .ok (.aload_n 0, 1) := by decide +kernel
theorem dX8_seen_22 : decode cX8_seen 22 = .ok (.getfield 10, 3) := by decide +kernel
theorem dX8_seen_25 : decode cX8_seen 25 = .ok (.getfield 210, 3) := by decide +kernel
theorem dX8_seen_28 : decode cX8_seen 28 = .ok (.goto 5, 3) := by decide +kernel
theorem dX8_seen_31 : decode cX8_seen 31 = .ok (.bipush (-4), 2) := by decide +kernel
theorem dX8_seen_33 : decode cX8_seen 33 = .ok (.ireturn, 1) := by decide +kernel
theorem dX8_forget_0 : decode cX8_forget 0 = .ok (.aload_n 0, 1) := by decide +kernel
theorem dX8_forget_1 : decode cX8_forget 1 = .ok (.getfield 10, 3) := by decide +kernel
theorem dX8_forget_4 : decode cX8_forget 4 = .ok (.getfield 210, 3) := by decide +kernel
theorem dX8_forget_7 : decode cX8_forget 7 = .ok (.istore_n 1, 1) := by decide +kernel
theorem dX8_forget_8 : decode cX8_forget 8 = .ok (.aload_n 0, 1) := by decide +kernel
theorem dX8_forget_9 : decode cX8_forget 9 = .ok (.getfield 10, 3) := by decide +kernel
theorem dX8_forget_12 : decode cX8_forget 12 = .ok (.iconst 0, 1) := by decide +kernel
theorem dX8_forget_13 : decode cX8_forget 13 = .ok (.putfield 210, 3) := by decide +kernel
theorem dX8_forget_16 : decode cX8_forget 16 = .ok (.iload_n 1, 1) := by decide +kernel
theorem dX8_forget_17 : decode cX8_forget 17 = .ok (.ireturn, 1) := by decide +kernel
theorem dX8_shape_0 : decode cX8_shape 0 = .ok (.aload_n 0, 1) := by decide +kernel
theorem dX8_shape_1 : decode cX8_shape 1 = .ok (.getfield 47, 3) := by decide +kernel
theorem dX8_shape_4 : decode cX8_shape 4 = .ok (.aload_n 0, 1) := by decide +kernel
theorem dX8_shape_5 : decode cX8_shape 5 = .ok (.getfield 10, 3) := by decide +kernel
theorem dX8_shape_8 : decode cX8_shape 8 = .ok (.invokevirtual 213, 3) := by decide +kernel
theorem dX8_shape_11 : decode cX8_shape 11 = .ok (.iload_n 1, 1) := by decide +kernel
theorem dX8_shape_12 : decode cX8_shape 12 = .ok (.iconst (-1), 1) := by decide +kernel
theorem dX8_shape_13 : decode cX8_shape 13 = .ok (.if_icmp .ne 13, 3) := by decide +kernel
theorem dX8_shape_16 : decode cX8_shape 16 = .ok (.aload_n 0, 1) := by decide +kernel
theorem dX8_shape_17 : decode cX8_shape 17 = .ok (.getfield 47, 3) := by decide +kernel
theorem dX8_shape_20 : decode cX8_shape 20 = .ok (.getfield 216, 3) := by decide +kernel
theorem dX8_shape_23 : decode cX8_shape 23 = .ok (.goto 11, 3) := by decide +kernel
theorem dX8_shape_26 : decode cX8_shape 26 = .ok (.aload_n 0, 1) := by decide +kernel
theorem dX8_shape_27 : decode cX8_shape 27 = .ok (.getfield 47, 3) := by decide +kernel
theorem dX8_shape_30 : decode cX8_shape 30 = .ok (.iload_n 1, 1) := by decide +kernel
theorem dX8_shape_31 : decode cX8_shape 31 = .ok (.invokevirtual 217, 3) := by decide +kernel
theorem dX8_shape_34 : decode cX8_shape 34 = .ok (.ireturn, 1) := by decide +kernel
theorem dX8_ask_0 : decode cX8_ask 0 = .ok (.iload_n 1, 1) := by decide +kernel
theorem dX8_ask_1 : decode cX8_ask 1 = .ok (.iconst 0, 1) := by decide +kernel
theorem dX8_ask_2 : decode cX8_ask 2 = .ok (.iconst 1, 1) := by decide +kernel
theorem dX8_ask_3 : decode cX8_ask 3 = .ok (.invokestatic 62, 3) := by decide +kernel
theorem dX8_ask_6 : decode cX8_ask 6 = .ok (.ifCond .ne 6, 3) := by decide +kernel
theorem dX8_ask_9 : decode cX8_ask 9 = .ok (.bipush (-2), 2) := by decide +kernel
theorem dX8_ask_11 : decode cX8_ask 11 = .ok (.ireturn, 1) := by decide +kernel
theorem dX8_ask_12 : decode cX8_ask 12 = .ok (.aload_n 0, 1) := by decide +kernel
theorem dX8_ask_13 : decode cX8_ask 13 = .ok (.getfield 47, 3) := by decide +kernel
theorem dX8_ask_16 : decode cX8_ask 16 = .ok (.aload_n 0, 1) := by decide +kernel
theorem dX8_ask_17 : decode cX8_ask 17 = .ok (.getfield 10, 3) := by decide +kernel
theorem dX8_ask_20 : decode cX8_ask 20 = .ok (.invokevirtual 213, 3) := by decide +kernel
theorem dX8_ask_23 : decode cX8_ask 23 = .ok (.aload_n 0, 1) := by decide +kernel
theorem dX8_ask_24 : decode cX8_ask 24 = .ok (.getfield 47, 3) := by decide +kernel
theorem dX8_ask_27 : decode cX8_ask 27 = .ok (.aload_n 0, 1) := by decide +kernel
theorem dX8_ask_28 : decode cX8_ask 28 = .ok (.getfield 10, 3) := by decide +kernel
theorem dX8_ask_31 : decode cX8_ask 31 = .ok (.invokevirtual 220, 3) := by decide +kernel
theorem dX8_ask_34 : decode cX8_ask 34 = .ok (.istore_n 2, 1) := by decide +kernel
theorem dX8_ask_35 : decode cX8_ask 35 = .ok (.iload_n 2, 1) := by decide +kernel
theorem dX8_ask_36 : decode cX8_ask 36 = .ok (.bipush (-6), 2) := by decide +kernel
theorem dX8_ask_38 : decode cX8_ask 38 = .ok (.if_icmp .eq 7, 3) := by decide +kernel
theorem dX8_ask_41 : decode cX8_ask 41 = .ok (.iload_n 1, 1) := by decide +kernel
theorem dX8_ask_42 : decode cX8_ask 42 = .ok (.ifCond .ne 7, 3) := by decide +kernel
theorem dX8_ask_45 : decode cX8_ask 45 = .ok (.iload_n 2, 1) := by decide +kernel
theorem dX8_ask_46 : decode cX8_ask 46 = .ok (.goto 19, 3) := by decide +kernel
theorem dX8_ask_49 : decode cX8_ask 49 = .ok (.aload_n 0, 1) := by decide +kernel
theorem dX8_ask_50 : decode cX8_ask 50 = .ok (.getfield 47, 3) := by decide +kernel
theorem dX8_ask_53 : decode cX8_ask 53 = .ok (.aload_n 0, 1) := by decide +kernel
theorem dX8_ask_54 : decode cX8_ask 54 = .ok (.getfield 10, 3) := by decide +kernel
theorem dX8_ask_57 : decode cX8_ask 57 = .ok (.getfield 93, 3) := by decide +kernel
theorem dX8_ask_60 : decode cX8_ask 60 = .ok (.iload_n 2, 1) := by decide +kernel
theorem dX8_ask_61 : decode cX8_ask 61 = .ok (.iaload, 1) := by decide +kernel
theorem dX8_ask_62 : decode cX8_ask 62 = .ok (.invokevirtual 223, 3) := by decide +kernel
theorem dX8_ask_65 : decode cX8_ask 65 = .ok (.ireturn, 1) := by decide +kernel
theorem dX8_play_0 : decode cX8_play 0 = .ok (.iload_n 1, 1) := by decide +kernel
theorem dX8_play_1 : decode cX8_play 1 = .ok (.invokestatic 119, 3) := by decide +kernel
theorem dX8_play_4 : decode cX8_play 4 = .ok (.ifCond .ne 5, 3) := by decide +kernel
theorem dX8_play_7 : decode cX8_play 7 = .ok (.iconst (-1), 1) := by decide +kernel
theorem dX8_play_8 : decode cX8_play 8 = .ok (.ireturn, 1) := by decide +kernel
theorem dX8_play_9 : decode cX8_play 9 = .ok (.iload_n 2, 1) := by decide +kernel
theorem dX8_play_10 : decode cX8_play 10 = .ok (.iconst 0, 1) := by decide +kernel
theorem dX8_play_11 : decode cX8_play 11 = .ok (.iconst 2, 1) := by decide +kernel
theorem dX8_play_12 : decode cX8_play 12 = .ok (.invokestatic 62, 3) := by decide +kernel
theorem dX8_play_15 : decode cX8_play 15 = .ok (.ifCond .ne 6, 3) := by decide +kernel
theorem dX8_play_18 : decode cX8_play 18 = .ok (.bipush (-2), 2) := by decide +kernel
theorem dX8_play_20 : decode cX8_play 20 = .ok (.ireturn, 1) := by decide +kernel
theorem dX8_play_21 : decode cX8_play 21 = .ok (.aload_n 0, 1) := by decide +kernel
theorem dX8_play_22 : decode cX8_play 22 = .ok (.getfield 54, 3) := by decide +kernel
theorem dX8_play_25 : decode cX8_play 25 = .ok (.aload_n 0, 1) := by decide +kernel
theorem dX8_play_26 : decode cX8_play 26 = .ok (.getfield 10, 3) := by decide +kernel
theorem dX8_play_29 : decode cX8_play 29 = .ok (.getfield 122, 3) := by decide +kernel
theorem dX8_play_32 : decode cX8_play 32 = .ok (.invokevirtual 226, 3) := by decide +kernel
theorem dX8_play_35 : decode cX8_play 35 = .ok (.iload_n 2, 1) := by decide +kernel
theorem dX8_play_36 : decode cX8_play 36 = .ok (.lookupswitch 48 #[(0, 28), (1, 38)], 28) := by decide +kernel
theorem dX8_play_64 : decode cX8_play 64 = .ok (.aload_n 0, 1) := by decide +kernel
theorem dX8_play_65 : decode cX8_play 65 = .ok (.getfield 54, 3) := by decide +kernel
theorem dX8_play_68 : decode cX8_play 68 = .ok (.getfield 230, 3) := by decide +kernel
theorem dX8_play_71 : decode cX8_play 71 = .ok (.iload_n 1, 1) := by decide +kernel
theorem dX8_play_72 : decode cX8_play 72 = .ok (.iaload, 1) := by decide +kernel
theorem dX8_play_73 : decode cX8_play 73 = .ok (.ireturn, 1) := by decide +kernel
theorem dX8_play_74 : decode cX8_play 74 = .ok (.aload_n 0, 1) := by decide +kernel
theorem dX8_play_75 : decode cX8_play 75 = .ok (.getfield 54, 3) := by decide +kernel
theorem dX8_play_78 : decode cX8_play 78 = .ok (.getfield 233, 3) := by decide +kernel
theorem dX8_play_81 : decode cX8_play 81 = .ok (.iload_n 1, 1) := by decide +kernel
theorem dX8_play_82 : decode cX8_play 82 = .ok (.iaload, 1) := by decide +kernel
theorem dX8_play_83 : decode cX8_play 83 = .ok (.ireturn, 1) := by decide +kernel
theorem dX8_play_84 : decode cX8_play 84 = .ok (.aload_n 0, 1) := by decide +kernel
theorem dX8_play_85 : decode cX8_play 85 = .ok (.getfield 54, 3) := by decide +kernel
theorem dX8_play_88 : decode cX8_play 88 = .ok (.aload_n 0, 1) := by decide +kernel
theorem dX8_play_89 : decode cX8_play 89 = .ok (.getfield 10, 3) := by decide +kernel
theorem dX8_play_92 : decode cX8_play 92 = .ok (.getfield 122, 3) := by decide +kernel
theorem dX8_play_95 : decode cX8_play 95 = .ok (.iload_n 1, 1) := by decide +kernel
theorem dX8_play_96 : decode cX8_play 96 = .ok (.invokevirtual 236, 3) := by decide +kernel
theorem dX8_play_99 : decode cX8_play 99 = .ok (.ireturn, 1) := by decide +kernel
theorem dX8_themselves_0 : decode cX8_themselves 0 = .ok (.iload_n 1, 1) := by decide +kernel
theorem dX8_themselves_1 : decode cX8_themselves 1 = .ok (.iconst 0, 1) := by decide +kernel
theorem dX8_themselves_2 : decode cX8_themselves 2 = .ok (.bipush 17, 2) := by decide +kernel
theorem dX8_themselves_4 : decode cX8_themselves 4 = .ok (.invokestatic 62, 3) := by decide +kernel
theorem dX8_themselves_7 : decode cX8_themselves 7 = .ok (.ifCond .eq 32, 3) := by decide +kernel
theorem dX8_themselves_10 : decode cX8_themselves 10 = .ok (.iload_n 2, 1) := by decide +kernel
theorem dX8_themselves_11 : decode cX8_themselves 11 = .ok (.iconst 0, 1) := by decide +kernel
theorem dX8_themselves_12 : decode cX8_themselves 12 = .ok (.bipush 10, 2) := by decide +kernel
theorem dX8_themselves_14 : decode cX8_themselves 14 = .ok (.invokestatic 62, 3) := by decide +kernel
theorem dX8_themselves_17 : decode cX8_themselves 17 = .ok (.ifCond .eq 22, 3) := by decide +kernel
theorem dX8_themselves_20 : decode cX8_themselves 20 = .ok (.iload_n 3, 1) := by decide +kernel
theorem dX8_themselves_21 : decode cX8_themselves 21 = .ok (.iconst 0, 1) := by decide +kernel
theorem dX8_themselves_22 : decode cX8_themselves 22 = .ok (.iload_n 1, 1) := by decide +kernel
theorem dX8_themselves_23 : decode cX8_themselves 23 = .ok (.invokestatic 62, 3) := by decide +kernel
theorem dX8_themselves_26 : decode cX8_themselves 26 = .ok (.ifCond .eq 13, 3) := by decide +kernel
theorem dX8_themselves_29 : decode cX8_themselves 29 = .ok (.iload 4, 2) := by decide +kernel
theorem dX8_themselves_31 : decode cX8_themselves 31 = .ok (.iconst 0, 1) := by decide +kernel
theorem dX8_themselves_32 : decode cX8_themselves 32 = .ok (.iconst 1, 1) := by decide +kernel
theorem dX8_themselves_33 : decode cX8_themselves 33 = .ok (.invokestatic 62, 3) := by decide +kernel
theorem dX8_themselves_36 : decode cX8_themselves 36 = .ok (.ifCond .ne 7, 3) := by decide +kernel
theorem dX8_themselves_39 : decode cX8_themselves 39 = .ok (.ldc2_w 240, 3) := by decide +kernel
theorem dX8_themselves_42 : decode cX8_themselves 42 = .ok (.lreturn, 1) := by decide +kernel
theorem dX8_themselves_43 : decode cX8_themselves 43 = .ok (.iload_n 1, 1) := by decide +kernel
theorem dX8_themselves_44 : decode cX8_themselves 44 = .ok (.iload_n 3, 1) := by decide +kernel
theorem dX8_themselves_45 : decode cX8_themselves 45 = .ok (.invokestatic 242, 3) := by decide +kernel
theorem dX8_themselves_48 : decode cX8_themselves 48 = .ok (.iload_n 2, 1) := by decide +kernel
theorem dX8_themselves_49 : decode cX8_themselves 49 = .ok (.i2l, 1) := by decide +kernel
theorem dX8_themselves_50 : decode cX8_themselves 50 = .ok (.iload_n 3, 1) := by decide +kernel
theorem dX8_themselves_51 : decode cX8_themselves 51 = .ok (.invokestatic 246, 3) := by decide +kernel
theorem dX8_themselves_54 : decode cX8_themselves 54 = .ok (.lmul, 1) := by decide +kernel
theorem dX8_themselves_55 : decode cX8_themselves 55 = .ok (.bipush 10, 2) := by decide +kernel
theorem dX8_themselves_57 : decode cX8_themselves 57 = .ok (.iload_n 2, 1) := by decide +kernel
theorem dX8_themselves_58 : decode cX8_themselves 58 = .ok (.isub, 1) := by decide +kernel
theorem dX8_themselves_59 : decode cX8_themselves 59 = .ok (.i2l, 1) := by decide +kernel
theorem dX8_themselves_60 : decode cX8_themselves 60 = .ok (.iload_n 1, 1) := by decide +kernel
theorem dX8_themselves_61 : decode cX8_themselves 61 = .ok (.iload_n 3, 1) := by decide +kernel
theorem dX8_themselves_62 : decode cX8_themselves 62 = .ok (.isub, 1) := by decide +kernel
theorem dX8_themselves_63 : decode cX8_themselves 63 = .ok (.invokestatic 246, 3) := by decide +kernel
theorem dX8_themselves_66 : decode cX8_themselves 66 = .ok (.lmul, 1) := by decide +kernel
theorem dX8_themselves_67 : decode cX8_themselves 67 = .ok (.lstore 5, 2) := by decide +kernel
theorem dX8_themselves_69 : decode cX8_themselves 69 = .ok (.ldc2_w 250, 3) := by decide +kernel
theorem dX8_themselves_72 : decode cX8_themselves 72 = .ok (.iload_n 1, 1) := by decide +kernel
theorem dX8_themselves_73 : decode cX8_themselves 73 = .ok (.invokestatic 246, 3) := by decide +kernel
theorem dX8_themselves_76 : decode cX8_themselves 76 = .ok (.lstore 7, 2) := by decide +kernel
theorem dX8_themselves_78 : decode cX8_themselves 78 = .ok (.iconst 0, 1) := by decide +kernel
theorem dX8_themselves_79 : decode cX8_themselves 79 = .ok (.istore 9, 2) := by decide +kernel
theorem dX8_themselves_81 : decode cX8_themselves 81 = .ok (.iload 9, 2) := by decide +kernel
theorem dX8_themselves_83 : decode cX8_themselves 83 = .ok (.iload_n 1, 1) := by decide +kernel
theorem dX8_themselves_84 : decode cX8_themselves 84 = .ok (.if_icmp .ge 85, 3) := by decide +kernel
theorem dX8_themselves_87 : decode cX8_themselves 87 = .ok (.lload 5, 2) := by decide +kernel
theorem dX8_themselves_89 : decode cX8_themselves 89 = .ok (.ldc2_w 252, 3) := by decide +kernel
theorem dX8_themselves_92 : decode cX8_themselves 92 = .ok (.lrem, 1) := by decide +kernel
theorem dX8_themselves_93 : decode cX8_themselves 93 = .ok (.lconst 0, 1) := by decide +kernel
theorem dX8_themselves_94 : decode cX8_themselves 94 = .ok (.lcmp, 1) := by decide +kernel
theorem dX8_themselves_95 : decode cX8_themselves 95 = .ok (.ifCond .ne 30, 3) := by decide +kernel
theorem dX8_themselves_98 : decode cX8_themselves 98 = .ok (.lload 7, 2) := by decide +kernel
theorem dX8_themselves_100 : decode cX8_themselves 100 = .ok (.ldc2_w 252, 3) := by decide +kernel
theorem dX8_themselves_103 : decode cX8_themselves 103 = .ok (.lrem, 1) := by decide +kernel
theorem dX8_themselves_104 : decode cX8_themselves 104 = .ok (.lconst 0, 1) := by decide +kernel
theorem dX8_themselves_105 : decode cX8_themselves 105 = .ok (.lcmp, 1) := by decide +kernel
theorem dX8_themselves_106 : decode cX8_themselves 106 = .ok (.ifCond .ne 19, 3) := by decide +kernel
theorem dX8_themselves_109 : decode cX8_themselves 109 = .ok (.lload 5, 2) := by decide +kernel
theorem dX8_themselves_111 : decode cX8_themselves 111 = .ok (.ldc2_w 252, 3) := by decide +kernel
theorem dX8_themselves_114 : decode cX8_themselves 114 = .ok (.ldiv, 1) := by decide +kernel
theorem dX8_themselves_115 : decode cX8_themselves 115 = .ok (.lstore 5, 2) := by decide +kernel
theorem dX8_themselves_117 : decode cX8_themselves 117 = .ok (.lload 7, 2) := by decide +kernel
theorem dX8_themselves_119 : decode cX8_themselves 119 = .ok (.ldc2_w 252, 3) := by decide +kernel
theorem dX8_themselves_122 : decode cX8_themselves 122 = .ok (.ldiv, 1) := by decide +kernel
theorem dX8_themselves_123 : decode cX8_themselves 123 = .ok (.lstore 7, 2) := by decide +kernel
theorem dX8_themselves_125 : decode cX8_themselves 125 = .ok (.lload 5, 2) := by decide +kernel
theorem dX8_themselves_127 : decode cX8_themselves 127 = .ok (.ldc2_w 254, 3) := by decide +kernel
theorem dX8_themselves_130 : decode cX8_themselves 130 = .ok (.lrem, 1) := by decide +kernel
theorem dX8_themselves_131 : decode cX8_themselves 131 = .ok (.lconst 0, 1) := by decide +kernel
theorem dX8_themselves_132 : decode cX8_themselves 132 = .ok (.lcmp, 1) := by decide +kernel
theorem dX8_themselves_133 : decode cX8_themselves 133 = .ok (.ifCond .ne 30, 3) := by decide +kernel
theorem dX8_themselves_136 : decode cX8_themselves 136 = .ok (.lload 7, 2) := by decide +kernel
theorem dX8_themselves_138 : decode cX8_themselves 138 = .ok (.ldc2_w 254, 3) := by decide +kernel
theorem dX8_themselves_141 : decode cX8_themselves 141 = .ok (.lrem, 1) := by decide +kernel
theorem dX8_themselves_142 : decode cX8_themselves 142 = .ok (.lconst 0, 1) := by decide +kernel
theorem dX8_themselves_143 : decode cX8_themselves 143 = .ok (.lcmp, 1) := by decide +kernel
theorem dX8_themselves_144 : decode cX8_themselves 144 = .ok (.ifCond .ne 19, 3) := by decide +kernel
theorem dX8_themselves_147 : decode cX8_themselves 147 = .ok (.lload 5, 2) := by decide +kernel
theorem dX8_themselves_149 : decode cX8_themselves 149 = .ok (.ldc2_w 254, 3) := by decide +kernel
theorem dX8_themselves_152 : decode cX8_themselves 152 = .ok (.ldiv, 1) := by decide +kernel
theorem dX8_themselves_153 : decode cX8_themselves 153 = .ok (.lstore 5, 2) := by decide +kernel
theorem dX8_themselves_155 : decode cX8_themselves 155 = .ok (.lload 7, 2) := by decide +kernel
theorem dX8_themselves_157 : decode cX8_themselves 157 = .ok (.ldc2_w 254, 3) := by decide +kernel
theorem dX8_themselves_160 : decode cX8_themselves 160 = .ok (.ldiv, 1) := by decide +kernel
theorem dX8_themselves_161 : decode cX8_themselves 161 = .ok (.lstore 7, 2) := by decide +kernel
theorem dX8_themselves_163 : decode cX8_themselves 163 = .ok (.iinc 9 1, 3) := by decide +kernel
theorem dX8_themselves_166 : decode cX8_themselves 166 = .ok (.goto (-85), 3) := by decide +kernel
theorem dX8_themselves_169 : decode cX8_themselves 169 = .ok (.iload 4, 2) := by decide +kernel
theorem dX8_themselves_171 : decode cX8_themselves 171 = .ok (.ifCond .ne 8, 3) := by decide +kernel
theorem dX8_themselves_174 : decode cX8_themselves 174 = .ok (.lload 5, 2) := by decide +kernel
theorem dX8_themselves_176 : decode cX8_themselves 176 = .ok (.goto 5, 3) := by decide +kernel
theorem dX8_themselves_179 : decode cX8_themselves 179 = .ok (.lload 7, 2) := by decide +kernel
theorem dX8_themselves_181 : decode cX8_themselves 181 = .ok (.lreturn, 1) := by decide +kernel
theorem dX8_year_0 : decode cX8_year 0 = .ok (.iload_n 1, 1) := by decide +kernel
theorem dX8_year_1 : decode cX8_year 1 = .ok (.iconst 0, 1) := by decide +kernel
theorem dX8_year_2 : decode cX8_year 2 = .ok (.sipush 9999, 3) := by decide +kernel
theorem dX8_year_5 : decode cX8_year 5 = .ok (.invokestatic 62, 3) := by decide +kernel
theorem dX8_year_8 : decode cX8_year 8 = .ok (.ifCond .eq 22, 3) := by decide +kernel
theorem dX8_year_11 : decode cX8_year 11 = .ok (.iload_n 2, 1) := by decide +kernel
theorem dX8_year_12 : decode cX8_year 12 = .ok (.iconst 1, 1) := by decide +kernel
theorem dX8_year_13 : decode cX8_year 13 = .ok (.bipush 99, 2) := by decide +kernel
theorem dX8_year_15 : decode cX8_year 15 = .ok (.invokestatic 62, 3) := by decide +kernel
theorem dX8_year_18 : decode cX8_year 18 = .ok (.ifCond .eq 12, 3) := by decide +kernel
theorem dX8_year_21 : decode cX8_year 21 = .ok (.iload_n 3, 1) := by decide +kernel
theorem dX8_year_22 : decode cX8_year 22 = .ok (.iconst 0, 1) := by decide +kernel
theorem dX8_year_23 : decode cX8_year 23 = .ok (.iconst 2, 1) := by decide +kernel
theorem dX8_year_24 : decode cX8_year 24 = .ok (.invokestatic 62, 3) := by decide +kernel
theorem dX8_year_27 : decode cX8_year 27 = .ok (.ifCond .ne 6, 3) := by decide +kernel
theorem dX8_year_30 : decode cX8_year 30 = .ok (.bipush (-2), 2) := by decide +kernel
theorem dX8_year_32 : decode cX8_year 32 = .ok (.ireturn, 1) := by decide +kernel
theorem dX8_year_33 : decode cX8_year 33 = .ok (.aload_n 0, 1) := by decide +kernel
theorem dX8_year_34 : decode cX8_year 34 = .ok (.getfield 26, 3) := by decide +kernel
theorem dX8_year_37 : decode cX8_year 37 = .ok (.iload_n 1, 1) := by decide +kernel
theorem dX8_year_38 : decode cX8_year 38 = .ok (.iload_n 2, 1) := by decide +kernel
theorem dX8_year_39 : decode cX8_year 39 = .ok (.aload_n 0, 1) := by decide +kernel
theorem dX8_year_40 : decode cX8_year 40 = .ok (.getfield 10, 3) := by decide +kernel
theorem dX8_year_43 : decode cX8_year 43 = .ok (.invokevirtual 256, 3) := by decide +kernel
theorem dX8_year_46 : decode cX8_year 46 = .ok (.aload_n 0, 1) := by decide +kernel
theorem dX8_year_47 : decode cX8_year 47 = .ok (.getfield 26, 3) := by decide +kernel
theorem dX8_year_50 : decode cX8_year 50 = .ok (.getfield 151, 3) := by decide +kernel
theorem dX8_year_53 : decode cX8_year 53 = .ok (.invokevirtual 77, 3) := by decide +kernel
theorem dX8_year_56 : decode cX8_year 56 = .ok (.istore 4, 2) := by decide +kernel
theorem dX8_year_58 : decode cX8_year 58 = .ok (.iload_n 3, 1) := by decide +kernel
theorem dX8_year_59 : decode cX8_year 59 = .ok (.lookupswitch 42 #[(0, 25), (1, 31)], 25) := by decide +kernel
theorem dX8_year_84 : decode cX8_year 84 = .ok (.iload 4, 2) := by decide +kernel
theorem dX8_year_86 : decode cX8_year 86 = .ok (.invokestatic 81, 3) := by decide +kernel
theorem dX8_year_89 : decode cX8_year 89 = .ok (.ireturn, 1) := by decide +kernel
theorem dX8_year_90 : decode cX8_year 90 = .ok (.aload_n 0, 1) := by decide +kernel
theorem dX8_year_91 : decode cX8_year 91 = .ok (.getfield 26, 3) := by decide +kernel
theorem dX8_year_94 : decode cX8_year 94 = .ok (.getfield 151, 3) := by decide +kernel
theorem dX8_year_97 : decode cX8_year 97 = .ok (.getfield 102, 3) := by decide +kernel
theorem dX8_year_100 : decode cX8_year 100 = .ok (.ireturn, 1) := by decide +kernel
theorem dX8_year_101 : decode cX8_year 101 = .ok (.aload_n 0, 1) := by decide +kernel
theorem dX8_year_102 : decode cX8_year 102 = .ok (.getfield 26, 3) := by decide +kernel
theorem dX8_year_105 : decode cX8_year 105 = .ok (.getfield 151, 3) := by decide +kernel
theorem dX8_year_108 : decode cX8_year 108 = .ok (.iload 4, 2) := by decide +kernel
theorem dX8_year_110 : decode cX8_year 110 = .ok (.invokevirtual 197, 3) := by decide +kernel
theorem dX8_year_113 : decode cX8_year 113 = .ok (.ireturn, 1) := by decide +kernel
theorem dX8_image_0 : decode cX8_image 0 = .ok (.iload_n 1, 1) := by decide +kernel
theorem dX8_image_1 : decode cX8_image 1 = .ok (.iconst 0, 1) := by decide +kernel
theorem dX8_image_2 : decode cX8_image 2 = .ok (.iconst 1, 1) := by decide +kernel
theorem dX8_image_3 : decode cX8_image 3 = .ok (.invokestatic 62, 3) := by decide +kernel
theorem dX8_image_6 : decode cX8_image 6 = .ok (.ifCond .ne 6, 3) := by decide +kernel
theorem dX8_image_9 : decode cX8_image 9 = .ok (.bipush (-2), 2) := by decide +kernel
theorem dX8_image_11 : decode cX8_image 11 = .ok (.ireturn, 1) := by decide +kernel
theorem dX8_image_12 : decode cX8_image 12 = .ok (.aload_n 0, 1) := by decide +kernel
theorem dX8_image_13 : decode cX8_image 13 = .ok (.getfield 58, 3) := by decide +kernel
theorem dX8_image_16 : decode cX8_image 16 = .ok (.iload_n 1, 1) := by decide +kernel
theorem dX8_image_17 : decode cX8_image 17 = .ok (.aaload, 1) := by decide +kernel
theorem dX8_image_18 : decode cX8_image 18 = .ok (.ifnonnull 16, 3) := by decide +kernel
theorem dX8_image_21 : decode cX8_image 21 = .ok (.aload_n 0, 1) := by decide +kernel
theorem dX8_image_22 : decode cX8_image 22 = .ok (.getfield 58, 3) := by decide +kernel
theorem dX8_image_25 : decode cX8_image 25 = .ok (.iload_n 1, 1) := by decide +kernel
theorem dX8_image_26 : decode cX8_image 26 = .ok (.new 7, 3) := by decide +kernel
theorem dX8_image_29 : decode cX8_image 29 = .ok (.dup, 1) := by decide +kernel
theorem dX8_image_30 : decode cX8_image 30 = .ok (.invokespecial 9, 3) := by decide +kernel
theorem dX8_image_33 : decode cX8_image 33 = .ok (.aastore, 1) := by decide +kernel
theorem dX8_image_34 : decode cX8_image 34 = .ok (.aload_n 0, 1) := by decide +kernel
theorem dX8_image_35 : decode cX8_image 35 = .ok (.getfield 58, 3) := by decide +kernel
theorem dX8_image_38 : decode cX8_image 38 = .ok (.iload_n 1, 1) := by decide +kernel
theorem dX8_image_39 : decode cX8_image 39 = .ok (.aaload, 1) := by decide +kernel
theorem dX8_image_40 : decode cX8_image 40 = .ok (.aload_n 0, 1) := by decide +kernel
theorem dX8_image_41 : decode cX8_image 41 = .ok (.getfield 10, 3) := by decide +kernel
theorem dX8_image_44 : decode cX8_image 44 = .ok (.invokevirtual 154, 3) := by decide +kernel
theorem dX8_image_47 : decode cX8_image 47 = .ok (.iconst 1, 1) := by decide +kernel
theorem dX8_image_48 : decode cX8_image 48 = .ok (.ireturn, 1) := by decide +kernel
theorem dX8_restore_0 : decode cX8_restore 0 = .ok (.iload_n 1, 1) := by decide +kernel
theorem dX8_restore_1 : decode cX8_restore 1 = .ok (.iconst 0, 1) := by decide +kernel
theorem dX8_restore_2 : decode cX8_restore 2 = .ok (.iconst 1, 1) := by decide +kernel
theorem dX8_restore_3 : decode cX8_restore 3 = .ok (.invokestatic 62, 3) := by decide +kernel
theorem dX8_restore_6 : decode cX8_restore 6 = .ok (.ifCond .ne 6, 3) := by decide +kernel
theorem dX8_restore_9 : decode cX8_restore 9 = .ok (.bipush (-2), 2) := by decide +kernel
theorem dX8_restore_11 : decode cX8_restore 11 = .ok (.ireturn, 1) := by decide +kernel
theorem dX8_restore_12 : decode cX8_restore 12 = .ok (.aload_n 0, 1) := by decide +kernel
theorem dX8_restore_13 : decode cX8_restore 13 = .ok (.getfield 58, 3) := by decide +kernel
theorem dX8_restore_16 : decode cX8_restore 16 = .ok (.iload_n 1, 1) := by decide +kernel
theorem dX8_restore_17 : decode cX8_restore 17 = .ok (.aaload, 1) := by decide +kernel
theorem dX8_restore_18 : decode cX8_restore 18 = .ok (.ifnonnull 6, 3) := by decide +kernel
theorem dX8_restore_21 : decode cX8_restore 21 = .ok (.bipush (-3), 2) := by decide +kernel
theorem dX8_restore_23 : decode cX8_restore 23 = .ok (.ireturn, 1) := by decide +kernel
theorem dX8_restore_24 : decode cX8_restore 24 = .ok (.aload_n 0, 1) := by decide +kernel
theorem dX8_restore_25 : decode cX8_restore 25 = .ok (.getfield 10, 3) := by decide +kernel
theorem dX8_restore_28 : decode cX8_restore 28 = .ok (.aload_n 0, 1) := by decide +kernel
theorem dX8_restore_29 : decode cX8_restore 29 = .ok (.getfield 58, 3) := by decide +kernel
theorem dX8_restore_32 : decode cX8_restore 32 = .ok (.iload_n 1, 1) := by decide +kernel
theorem dX8_restore_33 : decode cX8_restore 33 = .ok (.aaload, 1) := by decide +kernel
theorem dX8_restore_34 : decode cX8_restore 34 = .ok (.invokevirtual 154, 3) := by decide +kernel
theorem dX8_restore_37 : decode cX8_restore 37 = .ok (.iconst 1, 1) := by decide +kernel
theorem dX8_restore_38 : decode cX8_restore 38 = .ok (.ireturn, 1) := by decide +kernel
theorem dX8_told_0 : decode cX8_told 0 = .ok (.iload_n 1, 1) := by decide +kernel
theorem dX8_told_1 : decode cX8_told 1 = .ok (.bipush 10, 2) := by decide +kernel
theorem dX8_told_3 : decode cX8_told 3 = .ok (.bipush 19, 2) := by decide +kernel
theorem dX8_told_5 : decode cX8_told 5 = .ok (.invokestatic 62, 3) := by decide +kernel
theorem dX8_told_8 : decode cX8_told 8 = .ok (.ifCond .eq 16, 3) := by decide +kernel
theorem dX8_told_11 : decode cX8_told 11 = .ok (.aload_n 0, 1) := by decide +kernel
theorem dX8_told_12 : decode cX8_told 12 = .ok (.getfield 10, 3) := by decide +kernel
theorem dX8_told_15 : decode cX8_told 15 = .ok (.getfield 122, 3) := by decide +kernel
theorem dX8_told_18 : decode cX8_told 18 = .ok (.iload_n 1, 1) := by decide +kernel
theorem dX8_told_19 : decode cX8_told 19 = .ok (.bipush 10, 2) := by decide +kernel
theorem dX8_told_21 : decode cX8_told 21 = .ok (.isub, 1) := by decide +kernel
theorem dX8_told_22 : decode cX8_told 22 = .ok (.iaload, 1) := by decide +kernel
theorem dX8_told_23 : decode cX8_told 23 = .ok (.ireturn, 1) := by decide +kernel
theorem dX8_told_24 : decode cX8_told 24 = .ok (.iload_n 1, 1) := by decide +kernel
theorem dX8_told_25 : decode cX8_told 25 = .ok (.bipush 20, 2) := by decide +kernel
theorem dX8_told_27 : decode cX8_told 27 = .ok (.bipush 27, 2) := by decide +kernel
theorem dX8_told_29 : decode cX8_told 29 = .ok (.invokestatic 62, 3) := by decide +kernel
theorem dX8_told_32 : decode cX8_told 32 = .ok (.ifCond .eq 15, 3) := by decide +kernel
theorem dX8_told_35 : decode cX8_told 35 = .ok (.aload_n 0, 1) := by decide +kernel
theorem dX8_told_36 : decode cX8_told 36 = .ok (.getfield 10, 3) := by decide +kernel
theorem dX8_told_39 : decode cX8_told 39 = .ok (.iload_n 1, 1) := by decide +kernel
theorem dX8_told_40 : decode cX8_told 40 = .ok (.bipush 20, 2) := by decide +kernel
theorem dX8_told_42 : decode cX8_told 42 = .ok (.isub, 1) := by decide +kernel
theorem dX8_told_43 : decode cX8_told 43 = .ok (.invokevirtual 110, 3) := by decide +kernel
theorem dX8_told_46 : decode cX8_told 46 = .ok (.ireturn, 1) := by decide +kernel
theorem dX8_told_47 : decode cX8_told 47 = .ok (.iload_n 1, 1) := by decide +kernel
theorem dX8_told_48 : decode cX8_told 48 = .ok (.bipush 30, 2) := by decide +kernel
theorem dX8_told_50 : decode cX8_told 50 = .ok (.bipush 35, 2) := by decide +kernel
theorem dX8_told_52 : decode cX8_told 52 = .ok (.invokestatic 62, 3) := by decide +kernel
theorem dX8_told_55 : decode cX8_told 55 = .ok (.ifCond .eq 15, 3) := by decide +kernel
theorem dX8_told_58 : decode cX8_told 58 = .ok (.aload_n 0, 1) := by decide +kernel
theorem dX8_told_59 : decode cX8_told 59 = .ok (.getfield 10, 3) := by decide +kernel
theorem dX8_told_62 : decode cX8_told 62 = .ok (.iload_n 1, 1) := by decide +kernel
theorem dX8_told_63 : decode cX8_told 63 = .ok (.bipush 30, 2) := by decide +kernel
theorem dX8_told_65 : decode cX8_told 65 = .ok (.isub, 1) := by decide +kernel
theorem dX8_told_66 : decode cX8_told 66 = .ok (.invokevirtual 90, 3) := by decide +kernel
theorem dX8_told_69 : decode cX8_told 69 = .ok (.ireturn, 1) := by decide +kernel
theorem dX8_told_70 : decode cX8_told 70 = .ok (.iload_n 1, 1) := by decide +kernel
theorem dX8_told_71 : decode cX8_told 71 = .ok (.bipush 100, 2) := by decide +kernel
theorem dX8_told_73 : decode cX8_told 73 = .ok (.if_icmp .lt 22, 3) := by decide +kernel
theorem dX8_told_76 : decode cX8_told 76 = .ok (.aload_n 0, 1) := by decide +kernel
theorem dX8_told_77 : decode cX8_told 77 = .ok (.iload_n 1, 1) := by decide +kernel
theorem dX8_told_78 : decode cX8_told 78 = .ok (.bipush 100, 2) := by decide +kernel
theorem dX8_told_80 : decode cX8_told 80 = .ok (.isub, 1) := by decide +kernel
theorem dX8_told_81 : decode cX8_told 81 = .ok (.bipush 10, 2) := by decide +kernel
theorem dX8_told_83 : decode cX8_told 83 = .ok (.idiv, 1) := by decide +kernel
theorem dX8_told_84 : decode cX8_told 84 = .ok (.iload_n 1, 1) := by decide +kernel
theorem dX8_told_85 : decode cX8_told 85 = .ok (.bipush 100, 2) := by decide +kernel
theorem dX8_told_87 : decode cX8_told 87 = .ok (.isub, 1) := by decide +kernel
theorem dX8_told_88 : decode cX8_told 88 = .ok (.bipush 10, 2) := by decide +kernel
theorem dX8_told_90 : decode cX8_told 90 = .ok (.irem, 1) := by decide +kernel
theorem dX8_told_91 : decode cX8_told 91 = .ok (.invokevirtual 260, 3) := by decide +kernel
theorem dX8_told_94 : decode cX8_told 94 = .ok (.ireturn, 1) := by decide +kernel
theorem dX8_told_95 : decode cX8_told 95 = .ok (.iload_n 1, 1) := by decide +kernel
theorem dX8_told_96 : decode cX8_told 96 = .ok (.tableswitch 76 0 4 #[36, 44, 52, 60, 68], 36) := by decide +kernel
theorem dX8_told_132 : decode cX8_told 132 = .ok (.aload_n 0, 1) := by decide +kernel
theorem dX8_told_133 : decode cX8_told 133 = .ok (.getfield 19, 3) := by decide +kernel
theorem dX8_told_136 : decode cX8_told 136 = .ok (.getfield 131, 3) := by decide +kernel
theorem dX8_told_139 : decode cX8_told 139 = .ok (.ireturn, 1) := by decide +kernel
theorem dX8_told_140 : decode cX8_told 140 = .ok (.aload_n 0, 1) := by decide +kernel
theorem dX8_told_141 : decode cX8_told 141 = .ok (.getfield 10, 3) := by decide +kernel
theorem dX8_told_144 : decode cX8_told 144 = .ok (.invokevirtual 77, 3) := by decide +kernel
theorem dX8_told_147 : decode cX8_told 147 = .ok (.ireturn, 1) := by decide +kernel
theorem dX8_told_148 : decode cX8_told 148 = .ok (.aload_n 0, 1) := by decide +kernel
theorem dX8_told_149 : decode cX8_told 149 = .ok (.getfield 10, 3) := by decide +kernel
theorem dX8_told_152 : decode cX8_told 152 = .ok (.getfield 102, 3) := by decide +kernel
theorem dX8_told_155 : decode cX8_told 155 = .ok (.ireturn, 1) := by decide +kernel
theorem dX8_told_156 : decode cX8_told 156 = .ok (.aload_n 0, 1) := by decide +kernel
theorem dX8_told_157 : decode cX8_told 157 = .ok (.getfield 10, 3) := by decide +kernel
theorem dX8_told_160 : decode cX8_told 160 = .ok (.getfield 165, 3) := by decide +kernel
theorem dX8_told_163 : decode cX8_told 163 = .ok (.ireturn, 1) := by decide +kernel
theorem dX8_told_164 : decode cX8_told 164 = .ok (.aload_n 0, 1) := by decide +kernel
theorem dX8_told_165 : decode cX8_told 165 = .ok (.getfield 10, 3) := by decide +kernel
theorem dX8_told_168 : decode cX8_told 168 = .ok (.getfield 210, 3) := by decide +kernel
theorem dX8_told_171 : decode cX8_told 171 = .ok (.ireturn, 1) := by decide +kernel
theorem dX8_told_172 : decode cX8_told 172 = .ok (.bipush (-2), 2) := by decide +kernel
theorem dX8_told_174 : decode cX8_told 174 = .ok (.ireturn, 1) := by decide +kernel
theorem dX8_toldOfGrief_0 : decode cX8_toldOfGrief 0 = .ok (.aload_n 0, 1) := by decide +kernel
theorem dX8_toldOfGrief_1 : decode cX8_toldOfGrief 1 = .ok (.getfield 10, 3) := by decide +kernel
theorem dX8_toldOfGrief_4 : decode cX8_toldOfGrief 4 = .ok (.iload_n 1, 1) := by decide +kernel
theorem dX8_toldOfGrief_5 : decode cX8_toldOfGrief 5 = .ok (.invokevirtual 158, 3) := by decide +kernel
theorem dX8_toldOfGrief_8 : decode cX8_toldOfGrief 8 = .ok (.ifCond .eq 24, 3) := by decide +kernel
theorem dX8_toldOfGrief_11 : decode cX8_toldOfGrief 11 = .ok (.iload_n 2, 1) := by decide +kernel
theorem dX8_toldOfGrief_12 : decode cX8_toldOfGrief 12 = .ok (.iconst 0, 1) := by decide +kernel
theorem dX8_toldOfGrief_13 : decode cX8_toldOfGrief 13 = .ok (.iconst 1, 1) := by decide +kernel
theorem dX8_toldOfGrief_14 : decode cX8_toldOfGrief 14 = .ok (.invokestatic 62, 3) := by decide +kernel
theorem dX8_toldOfGrief_17 : decode cX8_toldOfGrief 17 = .ok (.ifCond .eq 15, 3) := by decide +kernel
theorem dX8_toldOfGrief_20 : decode cX8_toldOfGrief 20 = .ok (.aload_n 0, 1) := by decide +kernel
theorem dX8_toldOfGrief_21 : decode cX8_toldOfGrief 21 = .ok (.getfield 10, 3) := by decide +kernel
theorem dX8_toldOfGrief_24 : decode cX8_toldOfGrief 24 = .ok (.iload_n 1, 1) := by decide +kernel
theorem dX8_toldOfGrief_25 : decode cX8_toldOfGrief 25 = .ok (.iload_n 2, 1) := by decide +kernel
theorem dX8_toldOfGrief_26 : decode cX8_toldOfGrief 26 = .ok (.invokevirtual 161, 3) := by decide +kernel
theorem dX8_toldOfGrief_29 : decode cX8_toldOfGrief 29 = .ok (.goto 5, 3) := by decide +kernel
theorem dX8_toldOfGrief_32 : decode cX8_toldOfGrief 32 = .ok (.bipush (-2), 2) := by decide +kernel
theorem dX8_toldOfGrief_34 : decode cX8_toldOfGrief 34 = .ok (.ireturn, 1) := by decide +kernel
theorem dX8_tryDays_0 : decode cX8_tryDays 0 = .ok (.aload_n 0, 1) := by decide +kernel
theorem dX8_tryDays_1 : decode cX8_tryDays 1 = .ok (.getfield 19, 3) := by decide +kernel
theorem dX8_tryDays_4 : decode cX8_tryDays 4 = .ok (.invokevirtual 134, 3) := by decide +kernel
theorem dX8_tryDays_7 : decode cX8_tryDays 7 = .ok (.bipush (-6), 2) := by decide +kernel
theorem dX8_tryDays_9 : decode cX8_tryDays 9 = .ok (.if_icmp .eq 5, 3) := by decide +kernel
theorem dX8_tryDays_12 : decode cX8_tryDays 12 = .ok (.iconst 0, 1) := by decide +kernel
theorem dX8_tryDays_13 : decode cX8_tryDays 13 = .ok (.ireturn, 1) := by decide +kernel
theorem dX8_tryDays_14 : decode cX8_tryDays 14 = .ok (.aload_n 0, 1) := by decide +kernel
theorem dX8_tryDays_15 : decode cX8_tryDays 15 = .ok (.getfield 26, 3) := by decide +kernel
theorem dX8_tryDays_18 : decode cX8_tryDays 18 = .ok (.aload_n 0, 1) := by decide +kernel
theorem dX8_tryDays_19 : decode cX8_tryDays 19 = .ok (.getfield 19, 3) := by decide +kernel
theorem dX8_tryDays_22 : decode cX8_tryDays 22 = .ok (.aload_n 0, 1) := by decide +kernel
theorem dX8_tryDays_23 : decode cX8_tryDays 23 = .ok (.getfield 10, 3) := by decide +kernel
theorem dX8_tryDays_26 : decode cX8_tryDays 26 = .ok (.invokevirtual 137, 3) := by decide +kernel
theorem dX8_tryDays_29 : decode cX8_tryDays 29 = .ok (.aload_n 0, 1) := by decide +kernel
theorem dX8_tryDays_30 : decode cX8_tryDays 30 = .ok (.getfield 26, 3) := by decide +kernel
theorem dX8_tryDays_33 : decode cX8_tryDays 33 = .ok (.getfield 141, 3) := by decide +kernel
theorem dX8_tryDays_36 : decode cX8_tryDays 36 = .ok (.ifCond .ne 7, 3) := by decide +kernel
theorem dX8_tryDays_39 : decode cX8_tryDays 39 = .ok (.iconst 1, 1) := by decide +kernel
theorem dX8_tryDays_40 : decode cX8_tryDays 40 = .ok (.goto 4, 3) := by decide +kernel
theorem dX8_tryDays_43 : decode cX8_tryDays 43 = .ok (.iconst 0, 1) := by decide +kernel
theorem dX8_tryDays_44 : decode cX8_tryDays 44 = .ok (.ireturn, 1) := by decide +kernel
theorem dX8_isFrom_0 : decode cX8_isFrom 0 = .ok (.iload_n 0, 1) := by decide +kernel
theorem dX8_isFrom_1 : decode cX8_isFrom 1 = .ok (.iload_n 1, 1) := by decide +kernel
theorem dX8_isFrom_2 : decode cX8_isFrom 2 = .ok (.if_icmp .lt 12, 3) := by decide +kernel
theorem dX8_isFrom_5 : decode cX8_isFrom 5 = .ok (.iload_n 0, 1) := by decide +kernel
theorem dX8_isFrom_6 : decode cX8_isFrom 6 = .ok (.iload_n 2, 1) := by decide +kernel
theorem dX8_isFrom_7 : decode cX8_isFrom 7 = .ok (.if_icmp .gt 7, 3) := by decide +kernel
theorem dX8_isFrom_10 : decode cX8_isFrom 10 = .ok (.iconst 1, 1) := by decide +kernel
theorem dX8_isFrom_11 : decode cX8_isFrom 11 = .ok (.goto 4, 3) := by decide +kernel
theorem dX8_isFrom_14 : decode cX8_isFrom 14 = .ok (.iconst 0, 1) := by decide +kernel
theorem dX8_isFrom_15 : decode cX8_isFrom 15 = .ok (.ireturn, 1) := by decide +kernel
theorem dX8_isHold_0 : decode cX8_isHold 0 = .ok (.iload_n 0, 1) := by decide +kernel
theorem dX8_isHold_1 : decode cX8_isHold 1 = .ok (.iconst 0, 1) := by decide +kernel
theorem dX8_isHold_2 : decode cX8_isHold 2 = .ok (.iconst 5, 1) := by decide +kernel
theorem dX8_isHold_3 : decode cX8_isHold 3 = .ok (.invokestatic 62, 3) := by decide +kernel
theorem dX8_isHold_6 : decode cX8_isHold 6 = .ok (.ireturn, 1) := by decide +kernel
theorem dX8_isState_0 : decode cX8_isState 0 = .ok (.iload_n 0, 1) := by decide +kernel
theorem dX8_isState_1 : decode cX8_isState 1 = .ok (.iconst 0, 1) := by decide +kernel
theorem dX8_isState_2 : decode cX8_isState 2 = .ok (.bipush 9, 2) := by decide +kernel
theorem dX8_isState_4 : decode cX8_isState 4 = .ok (.invokestatic 62, 3) := by decide +kernel
theorem dX8_isState_7 : decode cX8_isState 7 = .ok (.ireturn, 1) := by decide +kernel
theorem dX8_isSetOfMarks_0 : decode cX8_isSetOfMarks 0 = .ok (.iload_n 0, 1) := by decide +kernel
theorem dX8_isSetOfMarks_1 : decode cX8_isSetOfMarks 1 = .ok (.iconst 0, 1) := by decide +kernel
theorem dX8_isSetOfMarks_2 : decode cX8_isSetOfMarks 2 = .ok (.sipush 255, 3) := by decide +kernel
theorem dX8_isSetOfMarks_5 : decode cX8_isSetOfMarks 5 = .ok (.invokestatic 62, 3) := by decide +kernel
theorem dX8_isSetOfMarks_8 : decode cX8_isSetOfMarks 8 = .ok (.ireturn, 1) := by decide +kernel
theorem dX8_areHours_0 : decode cX8_areHours 0 = .ok (.iload_n 0, 1) := by decide +kernel
theorem dX8_areHours_1 : decode cX8_areHours 1 = .ok (.iconst 0, 1) := by decide +kernel
theorem dX8_areHours_2 : decode cX8_areHours 2 = .ok (.bipush 23, 2) := by decide +kernel
theorem dX8_areHours_4 : decode cX8_areHours 4 = .ok (.invokestatic 62, 3) := by decide +kernel
theorem dX8_areHours_7 : decode cX8_areHours 7 = .ok (.ifCond .eq 17, 3) := by decide +kernel
theorem dX8_areHours_10 : decode cX8_areHours 10 = .ok (.iload_n 1, 1) := by decide +kernel
theorem dX8_areHours_11 : decode cX8_areHours 11 = .ok (.iload_n 0, 1) := by decide +kernel
theorem dX8_areHours_12 : decode cX8_areHours 12 = .ok (.bipush 23, 2) := by decide +kernel
theorem dX8_areHours_14 : decode cX8_areHours 14 = .ok (.invokestatic 62, 3) := by decide +kernel
theorem dX8_areHours_17 : decode cX8_areHours 17 = .ok (.ifCond .eq 7, 3) := by decide +kernel
theorem dX8_areHours_20 : decode cX8_areHours 20 = .ok (.iconst 1, 1) := by decide +kernel
theorem dX8_areHours_21 : decode cX8_areHours 21 = .ok (.goto 4, 3) := by decide +kernel
theorem dX8_areHours_24 : decode cX8_areHours 24 = .ok (.iconst 0, 1) := by decide +kernel
theorem dX8_areHours_25 : decode cX8_areHours 25 = .ok (.ireturn, 1) := by decide +kernel
theorem dX8_isIn_0 : decode cX8_isIn 0 = .ok (.iload_n 0, 1) := by decide +kernel
theorem dX8_isIn_1 : decode cX8_isIn 1 = .ok (.iload_n 1, 1) := by decide +kernel
theorem dX8_isIn_2 : decode cX8_isIn 2 = .ok (.ishr, 1) := by decide +kernel
theorem dX8_isIn_3 : decode cX8_isIn 3 = .ok (.iconst 1, 1) := by decide +kernel
theorem dX8_isIn_4 : decode cX8_isIn 4 = .ok (.iand, 1) := by decide +kernel
theorem dX8_isIn_5 : decode cX8_isIn 5 = .ok (.iconst 1, 1) := by decide +kernel
theorem dX8_isIn_6 : decode cX8_isIn 6 = .ok (.if_icmp .ne 7, 3) := by decide +kernel
theorem dX8_isIn_9 : decode cX8_isIn 9 = .ok (.iconst 1, 1) := by decide +kernel
theorem dX8_isIn_10 : decode cX8_isIn 10 = .ok (.goto 4, 3) := by decide +kernel
theorem dX8_isIn_13 : decode cX8_isIn 13 = .ok (.iconst 0, 1) := by decide +kernel
theorem dX8_isIn_14 : decode cX8_isIn 14 = .ok (.ireturn, 1) := by decide +kernel
theorem dX8_isWithin_0 : decode cX8_isWithin 0 = .ok (.iload_n 0, 1) := by decide +kernel
theorem dX8_isWithin_1 : decode cX8_isWithin 1 = .ok (.iload_n 1, 1) := by decide +kernel
theorem dX8_isWithin_2 : decode cX8_isWithin 2 = .ok (.iconst (-1), 1) := by decide +kernel
theorem dX8_isWithin_3 : decode cX8_isWithin 3 = .ok (.ixor, 1) := by decide +kernel
theorem dX8_isWithin_4 : decode cX8_isWithin 4 = .ok (.iand, 1) := by decide +kernel
theorem dX8_isWithin_5 : decode cX8_isWithin 5 = .ok (.ifCond .ne 7, 3) := by decide +kernel
theorem dX8_isWithin_8 : decode cX8_isWithin 8 = .ok (.iconst 1, 1) := by decide +kernel
theorem dX8_isWithin_9 : decode cX8_isWithin 9 = .ok (.goto 4, 3) := by decide +kernel
theorem dX8_isWithin_12 : decode cX8_isWithin 12 = .ok (.iconst 0, 1) := by decide +kernel
theorem dX8_isWithin_13 : decode cX8_isWithin 13 = .ok (.ireturn, 1) := by decide +kernel
theorem dX8_hoursFrom_0 : decode cX8_hoursFrom 0 = .ok (.iconst 1, 1) := by decide +kernel
theorem dX8_hoursFrom_1 : decode cX8_hoursFrom 1 = .ok (.iload_n 1, 1) := by decide +kernel
theorem dX8_hoursFrom_2 : decode cX8_hoursFrom 2 = .ok (.iconst 1, 1) := by decide +kernel
theorem dX8_hoursFrom_3 : decode cX8_hoursFrom 3 = .ok (.iadd, 1) := by decide +kernel
theorem dX8_hoursFrom_4 : decode cX8_hoursFrom 4 = .ok (.ishl, 1) := by decide +kernel
theorem dX8_hoursFrom_5 : decode cX8_hoursFrom 5 = .ok (.iconst 1, 1) := by decide +kernel
theorem dX8_hoursFrom_6 : decode cX8_hoursFrom 6 = .ok (.iload_n 0, 1) := by decide +kernel
theorem dX8_hoursFrom_7 : decode cX8_hoursFrom 7 = .ok (.ishl, 1) := by decide +kernel
theorem dX8_hoursFrom_8 : decode cX8_hoursFrom 8 = .ok (.isub, 1) := by decide +kernel
theorem dX8_hoursFrom_9 : decode cX8_hoursFrom 9 = .ok (.ireturn, 1) := by decide +kernel
theorem dX8_choose_0 : decode cX8_choose 0 = .ok (.lconst 1, 1) := by decide +kernel
theorem dX8_choose_1 : decode cX8_choose 1 = .ok (.lstore_n 2, 1) := by decide +kernel
theorem dX8_choose_2 : decode cX8_choose 2 = .ok (.iconst 1, 1) := by decide +kernel
theorem dX8_choose_3 : decode cX8_choose 3 = .ok (.istore 4, 2) := by decide +kernel
theorem dX8_choose_5 : decode cX8_choose 5 = .ok (.iload 4, 2) := by decide +kernel
theorem dX8_choose_7 : decode cX8_choose 7 = .ok (.iload_n 1, 1) := by decide +kernel
theorem dX8_choose_8 : decode cX8_choose 8 = .ok (.if_icmp .gt 23, 3) := by decide +kernel
theorem dX8_choose_11 : decode cX8_choose 11 = .ok (.lload_n 2, 1) := by decide +kernel
theorem dX8_choose_12 : decode cX8_choose 12 = .ok (.iload_n 0, 1) := by decide +kernel
theorem dX8_choose_13 : decode cX8_choose 13 = .ok (.iload_n 1, 1) := by decide +kernel
theorem dX8_choose_14 : decode cX8_choose 14 = .ok (.isub, 1) := by decide +kernel
theorem dX8_choose_15 : decode cX8_choose 15 = .ok (.iload 4, 2) := by decide +kernel
theorem dX8_choose_17 : decode cX8_choose 17 = .ok (.iadd, 1) := by decide +kernel
theorem dX8_choose_18 : decode cX8_choose 18 = .ok (.i2l, 1) := by decide +kernel
theorem dX8_choose_19 : decode cX8_choose 19 = .ok (.lmul, 1) := by decide +kernel
theorem dX8_choose_20 : decode cX8_choose 20 = .ok (.iload 4, 2) := by decide +kernel
theorem dX8_choose_22 : decode cX8_choose 22 = .ok (.i2l, 1) := by decide +kernel
theorem dX8_choose_23 : decode cX8_choose 23 = .ok (.ldiv, 1) := by decide +kernel
theorem dX8_choose_24 : decode cX8_choose 24 = .ok (.lstore_n 2, 1) := by decide +kernel
theorem dX8_choose_25 : decode cX8_choose 25 = .ok (.iinc 4 1, 3) := by decide +kernel
theorem dX8_choose_28 : decode cX8_choose 28 = .ok (.goto (-23), 3) := by decide +kernel
theorem dX8_choose_31 : decode cX8_choose 31 = .ok (.lload_n 2, 1) := by decide +kernel
theorem dX8_choose_32 : decode cX8_choose 32 = .ok (.lreturn, 1) := by decide +kernel
theorem dX8_power_0 : decode cX8_power 0 = .ok (.lconst 1, 1) := by decide +kernel
theorem dX8_power_1 : decode cX8_power 1 = .ok (.lstore_n 3, 1) := by decide +kernel
theorem dX8_power_2 : decode cX8_power 2 = .ok (.iconst 0, 1) := by decide +kernel
theorem dX8_power_3 : decode cX8_power 3 = .ok (.istore 5, 2) := by decide +kernel
theorem dX8_power_5 : decode cX8_power 5 = .ok (.iload 5, 2) := by decide +kernel
theorem dX8_power_7 : decode cX8_power 7 = .ok (.iload_n 2, 1) := by decide +kernel
theorem dX8_power_8 : decode cX8_power 8 = .ok (.if_icmp .ge 13, 3) := by decide +kernel
theorem dX8_power_11 : decode cX8_power 11 = .ok (.lload_n 3, 1) := by decide +kernel
theorem dX8_power_12 : decode cX8_power 12 = .ok (.lload_n 0, 1) := by decide +kernel
theorem dX8_power_13 : decode cX8_power 13 = .ok (.lmul, 1) := by decide +kernel
theorem dX8_power_14 : decode cX8_power 14 = .ok (.lstore_n 3, 1) := by decide +kernel
theorem dX8_power_15 : decode cX8_power 15 = .ok (.iinc 5 1, 3) := by decide +kernel
theorem dX8_power_18 : decode cX8_power 18 = .ok (.goto (-13), 3) := by decide +kernel
theorem dX8_power_21 : decode cX8_power 21 = .ok (.lload_n 3, 1) := by decide +kernel
theorem dX8_power_22 : decode cX8_power 22 = .ok (.lreturn, 1) := by decide +kernel
theorem dX8_copyRow_0 : decode cX8_copyRow 0 = .ok (.aload_n 0, 1) := by decide +kernel
theorem dX8_copyRow_1 : decode cX8_copyRow 1 = .ok (.iconst 0, 1) := by decide +kernel
theorem dX8_copyRow_2 : decode cX8_copyRow 2 = .ok (.aload_n 1, 1) := by decide +kernel
theorem dX8_copyRow_3 : decode cX8_copyRow 3 = .ok (.iconst 0, 1) := by decide +kernel
theorem dX8_copyRow_4 : decode cX8_copyRow 4 = .ok (.aload_n 0, 1) := by decide +kernel
theorem dX8_copyRow_5 : decode cX8_copyRow 5 = .ok (.arraylength, 1) := by decide +kernel
theorem dX8_copyRow_6 : decode cX8_copyRow 6 = .ok (.aload_n 1, 1) := by decide +kernel
theorem dX8_copyRow_7 : decode cX8_copyRow 7 = .ok (.arraylength, 1) := by decide +kernel
theorem dX8_copyRow_8 : decode cX8_copyRow 8 = .ok (.invokestatic 263, 3) := by decide +kernel
theorem dX8_copyRow_11 : decode cX8_copyRow 11 = .ok (.invokestatic 268, 3) := by decide +kernel
theorem dX8_copyRow_14 : decode cX8_copyRow 14 = .ok (.return_, 1) := by decide +kernel
theorem dX9_init_0 : decode cX9_init 0 = .ok (.aload_n 0, 1) := by decide +kernel
theorem dX9_init_1 : decode cX9_init 1 = .ok (.invokespecial 1, 3) := by decide +kernel
theorem dX9_init_4 : decode cX9_init 4 = .ok (.aload_n 0, 1) := by decide +kernel
theorem dX9_init_5 : decode cX9_init 5 = .ok (.bipush 15, 2) := by decide +kernel
theorem dX9_init_7 : decode cX9_init 7 = .ok (.newarray .int, 2) := by decide +kernel
theorem dX9_init_9 : decode cX9_init 9 = .ok (.putfield 7, 3) := by decide +kernel
theorem dX9_init_12 : decode cX9_init 12 = .ok (.aload_n 0, 1) := by decide +kernel
theorem dX9_init_13 : decode cX9_init 13 = .ok (.bipush 15, 2) := by decide +kernel
theorem dX9_init_15 : decode cX9_init 15 = .ok (.newarray .int, 2) := by decide +kernel
theorem dX9_init_17 : decode cX9_init 17 = .ok (.putfield 13, 3) := by decide +kernel
theorem dX9_init_20 : decode cX9_init 20 = .ok (.aload_n 0, 1) := by decide +kernel
theorem dX9_init_21 : decode cX9_init 21 = .ok (.bipush 6, 2) := by decide +kernel
theorem dX9_init_23 : decode cX9_init 23 = .ok (.newarray .int, 2) := by decide +kernel
theorem dX9_init_25 : decode cX9_init 25 = .ok (.putfield 16, 3) := by decide +kernel
theorem dX9_init_28 : decode cX9_init 28 = .ok (.aload_n 0, 1) := by decide +kernel
theorem dX9_init_29 : decode cX9_init 29 = .ok (.bipush 6, 2) := by decide +kernel
theorem dX9_init_31 : decode cX9_init 31 = .ok (.newarray .int, 2) := by decide +kernel
theorem dX9_init_33 : decode cX9_init 33 = .ok (.putfield 19, 3) := by decide +kernel
theorem dX9_init_36 : decode cX9_init 36 = .ok (.aload_n 0, 1) := by decide +kernel
theorem dX9_init_37 : decode cX9_init 37 = .ok (.bipush 6, 2) := by decide +kernel
theorem dX9_init_39 : decode cX9_init 39 = .ok (.newarray .int, 2) := by decide +kernel
theorem dX9_init_41 : decode cX9_init 41 = .ok (.putfield 22, 3) := by decide +kernel
theorem dX9_init_44 : decode cX9_init 44 = .ok (.aload_n 0, 1) := by decide +kernel
theorem dX9_init_45 : decode cX9_init 45 = .ok (.bipush 8, 2) := by decide +kernel
theorem dX9_init_47 : decode cX9_init 47 = .ok (.newarray .int, 2) := by decide +kernel
theorem dX9_init_49 : decode cX9_init 49 = .ok (.putfield 25, 3) := by decide +kernel
theorem dX9_init_52 : decode cX9_init 52 = .ok (.aload_n 0, 1) := by decide +kernel
theorem dX9_init_53 : decode cX9_init 53 = .ok (.bipush 10, 2) := by decide +kernel
theorem dX9_init_55 : decode cX9_init 55 = .ok (.newarray .int, 2) := by decide +kernel
theorem dX9_init_57 : decode cX9_init 57 = .ok (.putfield 28, 3) := by decide +kernel
theorem dX9_init_60 : decode cX9_init 60 = .ok (.aload_n 0, 1) := by decide +kernel
theorem dX9_init_61 : decode cX9_init 61 = .ok (.bipush 16, 2) := by decide +kernel
theorem dX9_init_63 : decode cX9_init 63 = .ok (.newarray .int, 2) := by decide +kernel
theorem dX9_init_65 : decode cX9_init 65 = .ok (.putfield 31, 3) := by decide +kernel
theorem dX9_init_68 : decode cX9_init 68 = .ok (.aload_n 0, 1) := by decide +kernel
theorem dX9_init_69 : decode cX9_init 69 = .ok (.bipush 60, 2) := by decide +kernel
theorem dX9_init_71 : decode cX9_init 71 = .ok (.newarray .int, 2) := by decide +kernel
theorem dX9_init_73 : decode cX9_init 73 = .ok (.putfield 34, 3) := by decide +kernel
theorem dX9_init_76 : decode cX9_init 76 = .ok (.aload_n 0, 1) := by decide +kernel
theorem dX9_init_77 : decode cX9_init 77 = .ok (.bipush 100, 2) := by decide +kernel
theorem dX9_init_79 : decode cX9_init 79 = .ok (.newarray .int, 2) := by decide +kernel
theorem dX9_init_81 : decode cX9_init 81 = .ok (.putfield 37, 3) := by decide +kernel
theorem dX9_init_84 : decode cX9_init 84 = .ok (.aload_n 0, 1) := by decide +kernel
theorem dX9_init_85 : decode cX9_init 85 = .ok (.bipush 6, 2) := by decide +kernel
theorem dX9_init_87 : decode cX9_init 87 = .ok (.newarray .int, 2) := by decide +kernel
theorem dX9_init_89 : decode cX9_init 89 = .ok (.putfield 40, 3) := by decide +kernel
theorem dX9_init_92 : decode cX9_init 92 = .ok (.aload_n 0, 1) := by decide +kernel
theorem dX9_init_93 : decode cX9_init 93 = .ok (.bipush 64, 2) := by decide +kernel
theorem dX9_init_95 : decode cX9_init 95 = .ok (.newarray .int, 2) := by decide +kernel
theorem dX9_init_97 : decode cX9_init 97 = .ok (.putfield 43, 3) := by decide +kernel
theorem dX9_init_100 : decode cX9_init 100 = .ok (.aload_n 0, 1) := by decide +kernel
theorem dX9_init_101 : decode cX9_init 101 = .ok (.bipush 10, 2) := by decide +kernel
theorem dX9_init_103 : decode cX9_init 103 = .ok (.newarray .int, 2) := by decide +kernel
theorem dX9_init_105 : decode cX9_init 105 = .ok (.putfield 46, 3) := by decide +kernel
theorem dX9_init_108 : decode cX9_init 108 = .ok (.aload_n 0, 1) := by decide +kernel
theorem dX9_init_109 : decode cX9_init 109 = .ok (.bipush 10, 2) := by decide +kernel
theorem dX9_init_111 : decode cX9_init 111 = .ok (.newarray .int, 2) := by decide +kernel
theorem dX9_init_113 : decode cX9_init 113 = .ok (.putfield 49, 3) := by decide +kernel
theorem dX9_init_116 : decode cX9_init 116 = .ok (.aload_n 0, 1) := by decide +kernel
theorem dX9_init_117 : decode cX9_init 117 = .ok (.bipush 19, 2) := by decide +kernel
theorem dX9_init_119 : decode cX9_init 119 = .ok (.newarray .long, 2) := by decide +kernel
theorem dX9_init_121 : decode cX9_init 121 = .ok (.putfield 52, 3) := by decide +kernel
theorem dX9_init_124 : decode cX9_init 124 = .ok (.aload_n 0, 1) := by decide +kernel
theorem dX9_init_125 : decode cX9_init 125 = .ok (.sipush 160, 3) := by decide +kernel
theorem dX9_init_128 : decode cX9_init 128 = .ok (.newarray .int, 2) := by decide +kernel
theorem dX9_init_130 : decode cX9_init 130 = .ok (.putfield 56, 3) := by decide +kernel
theorem dX9_init_133 : decode cX9_init 133 = .ok (.aload_n 0, 1) := by decide +kernel
theorem dX9_init_134 : decode cX9_init 134 = .ok (.iconst 2, 1) := by decide +kernel
theorem dX9_init_135 : decode cX9_init 135 = .ok (.newarray .boolean, 2) := by decide +kernel
theorem dX9_init_137 : decode cX9_init 137 = .ok (.putfield 59, 3) := by decide +kernel
theorem dX9_init_140 : decode cX9_init 140 = .ok (.iconst 0, 1) := by decide +kernel
theorem dX9_init_141 : decode cX9_init 141 = .ok (.istore_n 1, 1) := by decide +kernel
theorem dX9_init_142 : decode cX9_init 142 = .ok (.iload_n 1, 1) := by decide +kernel
theorem dX9_init_143 : decode cX9_init 143 = .ok (.bipush 6, 2) := by decide +kernel
theorem dX9_init_145 : decode cX9_init 145 = .ok (.if_icmp .ge 23, 3) := by decide +kernel
theorem dX9_init_148 : decode cX9_init 148 = .ok (.aload_n 0, 1) := by decide +kernel
theorem dX9_init_149 : decode cX9_init 149 = .ok (.getfield 19, 3) := by decide +kernel
theorem dX9_init_152 : decode cX9_init 152 = .ok (.iload_n 1, 1) := by decide +kernel
theorem dX9_init_153 : decode cX9_init 153 = .ok (.iconst 5, 1) := by decide +kernel
theorem dX9_init_154 : decode cX9_init 154 = .ok (.iastore, 1) := by decide +kernel
theorem dX9_init_155 : decode cX9_init 155 = .ok (.aload_n 0, 1) := by decide +kernel
theorem dX9_init_156 : decode cX9_init 156 = .ok (.getfield 22, 3) := by decide +kernel
theorem dX9_init_159 : decode cX9_init 159 = .ok (.iload_n 1, 1) := by decide +kernel
theorem dX9_init_160 : decode cX9_init 160 = .ok (.iconst 2, 1) := by decide +kernel
theorem dX9_init_161 : decode cX9_init 161 = .ok (.iastore, 1) := by decide +kernel
theorem dX9_init_162 : decode cX9_init 162 = .ok (.iinc 1 1, 3) := by decide +kernel
theorem dX9_init_165 : decode cX9_init 165 = .ok (.goto (-23), 3) := by decide +kernel
theorem dX9_init_168 : decode cX9_init 168 = .ok (.aload_n 0, 1) := by decide +kernel
theorem dX9_init_169 : decode cX9_init 169 = .ok (.getfield 7, 3) := by decide +kernel
theorem dX9_init_172 : decode cX9_init 172 = .ok (.bipush 13, 2) := by decide +kernel
theorem dX9_init_174 : decode cX9_init 174 = .ok (.bipush 50, 2) := by decide +kernel
theorem dX9_init_176 : decode cX9_init 176 = .ok (.iastore, 1) := by decide +kernel
theorem dX9_init_177 : decode cX9_init 177 = .ok (.return_, 1) := by decide +kernel
theorem dX9_in_0 : decode cX9_in 0 = .ok (.iload_n 0, 1) := by decide +kernel
theorem dX9_in_1 : decode cX9_in 1 = .ok (.iload_n 1, 1) := by decide +kernel
theorem dX9_in_2 : decode cX9_in 2 = .ok (.if_icmp .lt 12, 3) := by decide +kernel
theorem dX9_in_5 : decode cX9_in 5 = .ok (.iload_n 0, 1) := by decide +kernel
theorem dX9_in_6 : decode cX9_in 6 = .ok (.iload_n 2, 1) := by decide +kernel
theorem dX9_in_7 : decode cX9_in 7 = .ok (.if_icmp .gt 7, 3) := by decide +kernel
theorem dX9_in_10 : decode cX9_in 10 = .ok (.iconst 1, 1) := by decide +kernel
theorem dX9_in_11 : decode cX9_in 11 = .ok (.goto 4, 3) := by decide +kernel
theorem dX9_in_14 : decode cX9_in 14 = .ok (.iconst 0, 1) := by decide +kernel
theorem dX9_in_15 : decode cX9_in 15 = .ok (.ireturn, 1) := by decide +kernel
theorem dX9_has_0 : decode cX9_has 0 = .ok (.iload_n 0, 1) := by decide +kernel
theorem dX9_has_1 : decode cX9_has 1 = .ok (.iload_n 1, 1) := by decide +kernel
theorem dX9_has_2 : decode cX9_has 2 = .ok (.ishr, 1) := by decide +kernel
theorem dX9_has_3 : decode cX9_has 3 = .ok (.iconst 1, 1) := by decide +kernel
theorem dX9_has_4 : decode cX9_has 4 = .ok (.iand, 1) := by decide +kernel
theorem dX9_has_5 : decode cX9_has 5 = .ok (.iconst 1, 1) := by decide +kernel
theorem dX9_has_6 : decode cX9_has 6 = .ok (.if_icmp .ne 7, 3) := by decide +kernel
theorem dX9_has_9 : decode cX9_has 9 = .ok (.iconst 1, 1) := by decide +kernel
theorem dX9_has_10 : decode cX9_has 10 = .ok (.goto 4, 3) := by decide +kernel
theorem dX9_has_13 : decode cX9_has 13 = .ok (.iconst 0, 1) := by decide +kernel
theorem dX9_has_14 : decode cX9_has 14 = .ok (.ireturn, 1) := by decide +kernel
theorem dX9_bits_0 : decode cX9_bits 0 = .ok (.iconst 0, 1) := by decide +kernel
theorem dX9_bits_1 : decode cX9_bits 1 = .ok (.istore_n 1, 1) := by decide +kernel
theorem dX9_bits_2 : decode cX9_bits 2 = .ok (.iconst 0, 1) := by decide +kernel
theorem dX9_bits_3 : decode cX9_bits 3 = .ok (.istore_n 2, 1) := by decide +kernel
theorem dX9_bits_4 : decode cX9_bits 4 = .ok (.iload_n 2, 1) := by decide +kernel
theorem dX9_bits_5 : decode cX9_bits 5 = .ok (.bipush 10, 2) := by decide +kernel
theorem dX9_bits_7 : decode cX9_bits 7 = .ok (.if_icmp .ge 17, 3) := by decide +kernel
theorem dX9_bits_10 : decode cX9_bits 10 = .ok (.iload_n 1, 1) := by decide +kernel
theorem dX9_bits_11 : decode cX9_bits 11 = .ok (.iload_n 0, 1) := by decide +kernel
theorem dX9_bits_12 : decode cX9_bits 12 = .ok (.iload_n 2, 1) := by decide +kernel
theorem dX9_bits_13 : decode cX9_bits 13 = .ok (.ishr, 1) := by decide +kernel
theorem dX9_bits_14 : decode cX9_bits 14 = .ok (.iconst 1, 1) := by decide +kernel
theorem dX9_bits_15 : decode cX9_bits 15 = .ok (.iand, 1) := by decide +kernel
theorem dX9_bits_16 : decode cX9_bits 16 = .ok (.iadd, 1) := by decide +kernel
theorem dX9_bits_17 : decode cX9_bits 17 = .ok (.istore_n 1, 1) := by decide +kernel
theorem dX9_bits_18 : decode cX9_bits 18 = .ok (.iinc 2 1, 3) := by decide +kernel
theorem dX9_bits_21 : decode cX9_bits 21 = .ok (.goto (-17), 3) := by decide +kernel
theorem dX9_bits_24 : decode cX9_bits 24 = .ok (.iload_n 1, 1) := by decide +kernel
theorem dX9_bits_25 : decode cX9_bits 25 = .ok (.ireturn, 1) := by decide +kernel
theorem dX9_isThere_0 : decode cX9_isThere 0 = .ok (.iload_n 1, 1) := by decide +kernel
theorem dX9_isThere_1 : decode cX9_isThere 1 = .ok (.iconst 0, 1) := by decide +kernel
theorem dX9_isThere_2 : decode cX9_isThere 2 = .ok (.iconst 5, 1) := by decide +kernel
theorem dX9_isThere_3 : decode cX9_isThere 3 = .ok (.invokestatic 63, 3) := by decide +kernel
theorem dX9_isThere_6 : decode cX9_isThere 6 = .ok (.ifCond .eq 21, 3) := by decide +kernel
theorem dX9_isThere_9 : decode cX9_isThere 9 = .ok (.aload_n 0, 1) := by decide +kernel
theorem dX9_isThere_10 : decode cX9_isThere 10 = .ok (.getfield 7, 3) := by decide +kernel
theorem dX9_isThere_13 : decode cX9_isThere 13 = .ok (.bipush 12, 2) := by decide +kernel
theorem dX9_isThere_15 : decode cX9_isThere 15 = .ok (.iaload, 1) := by decide +kernel
theorem dX9_isThere_16 : decode cX9_isThere 16 = .ok (.iload_n 1, 1) := by decide +kernel
theorem dX9_isThere_17 : decode cX9_isThere 17 = .ok (.invokestatic 67, 3) := by decide +kernel
theorem dX9_isThere_20 : decode cX9_isThere 20 = .ok (.ifCond .eq 7, 3) := by decide +kernel
theorem dX9_isThere_23 : decode cX9_isThere 23 = .ok (.iconst 1, 1) := by decide +kernel
theorem dX9_isThere_24 : decode cX9_isThere 24 = .ok (.goto 4, 3) := by decide +kernel
theorem dX9_isThere_27 : decode cX9_isThere 27 = .ok (.iconst 0, 1) := by decide +kernel
theorem dX9_isThere_28 : decode cX9_isThere 28 = .ok (.ireturn, 1) := by decide +kernel
theorem dX9_grief_0 : decode cX9_grief 0 = .ok (.iload_n 1, 1) := by decide +kernel
theorem dX9_grief_1 : decode cX9_grief 1 = .ok (.iconst 0, 1) := by decide +kernel
theorem dX9_grief_2 : decode cX9_grief 2 = .ok (.iconst 5, 1) := by decide +kernel
theorem dX9_grief_3 : decode cX9_grief 3 = .ok (.invokestatic 63, 3) := by decide +kernel
theorem dX9_grief_6 : decode cX9_grief 6 = .ok (.ifCond .ne 5, 3) := by decide +kernel
theorem dX9_grief_9 : decode cX9_grief 9 = .ok (.iconst (-1), 1) := by decide +kernel
theorem dX9_grief_10 : decode cX9_grief 10 = .ok (.ireturn, 1) := by decide +kernel
theorem dX9_grief_11 : decode cX9_grief 11 = .ok (.iload_n 2, 1) := by decide +kernel
theorem dX9_grief_12 : decode cX9_grief 12 = .ok (.iconst 1, 1) := by decide +kernel
theorem dX9_grief_13 : decode cX9_grief 13 = .ok (.bipush 99, 2) := by decide +kernel
theorem dX9_grief_15 : decode cX9_grief 15 = .ok (.invokestatic 63, 3) := by decide +kernel
theorem dX9_grief_18 : decode cX9_grief 18 = .ok (.ifCond .eq 14, 3) := by decide +kernel
theorem dX9_grief_21 : decode cX9_grief 21 = .ok (.iload_n 3, 1) := by decide +kernel
theorem dX9_grief_22 : decode cX9_grief 22 = .ok (.iconst 0, 1) := by decide +kernel
theorem dX9_grief_23 : decode cX9_grief 23 = .ok (.sipush 255, 3) := by decide +kernel
theorem dX9_grief_26 : decode cX9_grief 26 = .ok (.invokestatic 63, 3) := by decide +kernel
theorem dX9_grief_29 : decode cX9_grief 29 = .ok (.ifCond .ne 6, 3) := by decide +kernel
theorem dX9_grief_32 : decode cX9_grief 32 = .ok (.bipush (-2), 2) := by decide +kernel
theorem dX9_grief_34 : decode cX9_grief 34 = .ok (.ireturn, 1) := by decide +kernel
theorem dX9_grief_35 : decode cX9_grief 35 = .ok (.aload_n 0, 1) := by decide +kernel
theorem dX9_grief_36 : decode cX9_grief 36 = .ok (.getfield 7, 3) := by decide +kernel
theorem dX9_grief_39 : decode cX9_grief 39 = .ok (.iload_n 1, 1) := by decide +kernel
theorem dX9_grief_40 : decode cX9_grief 40 = .ok (.iload_n 2, 1) := by decide +kernel
theorem dX9_grief_41 : decode cX9_grief 41 = .ok (.iastore, 1) := by decide +kernel
theorem dX9_grief_42 : decode cX9_grief 42 = .ok (.aload_n 0, 1) := by decide +kernel
theorem dX9_grief_43 : decode cX9_grief 43 = .ok (.getfield 7, 3) := by decide +kernel
theorem dX9_grief_46 : decode cX9_grief 46 = .ok (.bipush 6, 2) := by decide +kernel
theorem dX9_grief_48 : decode cX9_grief 48 = .ok (.iload_n 1, 1) := by decide +kernel
theorem dX9_grief_49 : decode cX9_grief 49 = .ok (.iadd, 1) := by decide +kernel
theorem dX9_grief_50 : decode cX9_grief 50 = .ok (.iload_n 3, 1) := by decide +kernel
theorem dX9_grief_51 : decode cX9_grief 51 = .ok (.iastore, 1) := by decide +kernel
theorem dX9_grief_52 : decode cX9_grief 52 = .ok (.aload_n 0, 1) := by decide +kernel
theorem dX9_grief_53 : decode cX9_grief 53 = .ok (.getfield 7, 3) := by decide +kernel
theorem dX9_grief_56 : decode cX9_grief 56 = .ok (.bipush 12, 2) := by decide +kernel
theorem dX9_grief_58 : decode cX9_grief 58 = .ok (.dup2, 1) := by decide +kernel
theorem dX9_grief_59 : decode cX9_grief 59 = .ok (.iaload, 1) := by decide +kernel
theorem dX9_grief_60 : decode cX9_grief 60 = .ok (.iconst 1, 1) := by decide +kernel
theorem dX9_grief_61 : decode cX9_grief 61 = .ok (.iload_n 1, 1) := by decide +kernel
theorem dX9_grief_62 : decode cX9_grief 62 = .ok (.ishl, 1) := by decide +kernel
theorem dX9_grief_63 : decode cX9_grief 63 = .ok (.ior, 1) := by decide +kernel
theorem dX9_grief_64 : decode cX9_grief 64 = .ok (.iastore, 1) := by decide +kernel
theorem dX9_grief_65 : decode cX9_grief 65 = .ok (.aload_n 0, 1) := by decide +kernel
theorem dX9_grief_66 : decode cX9_grief 66 = .ok (.getfield 7, 3) := by decide +kernel
theorem dX9_grief_69 : decode cX9_grief 69 = .ok (.bipush 12, 2) := by decide +kernel
theorem dX9_grief_71 : decode cX9_grief 71 = .ok (.iaload, 1) := by decide +kernel
theorem dX9_grief_72 : decode cX9_grief 72 = .ok (.invokestatic 71, 3) := by decide +kernel
theorem dX9_grief_75 : decode cX9_grief 75 = .ok (.ireturn, 1) := by decide +kernel
theorem dX9_hold_0 : decode cX9_hold 0 = .ok (.iload_n 1, 1) := by decide +kernel
theorem dX9_hold_1 : decode cX9_hold 1 = .ok (.iconst 0, 1) := by decide +kernel
theorem dX9_hold_2 : decode cX9_hold 2 = .ok (.iconst 5, 1) := by decide +kernel
theorem dX9_hold_3 : decode cX9_hold 3 = .ok (.invokestatic 63, 3) := by decide +kernel
theorem dX9_hold_6 : decode cX9_hold 6 = .ok (.ifCond .ne 5, 3) := by decide +kernel
theorem dX9_hold_9 : decode cX9_hold 9 = .ok (.iconst (-1), 1) := by decide +kernel
theorem dX9_hold_10 : decode cX9_hold 10 = .ok (.ireturn, 1) := by decide +kernel
theorem dX9_hold_11 : decode cX9_hold 11 = .ok (.iload_n 2, 1) := by decide +kernel
theorem dX9_hold_12 : decode cX9_hold 12 = .ok (.iconst 0, 1) := by decide +kernel
theorem dX9_hold_13 : decode cX9_hold 13 = .ok (.sipush 255, 3) := by decide +kernel
theorem dX9_hold_16 : decode cX9_hold 16 = .ok (.invokestatic 63, 3) := by decide +kernel
theorem dX9_hold_19 : decode cX9_hold 19 = .ok (.ifCond .eq 24, 3) := by decide +kernel
theorem dX9_hold_22 : decode cX9_hold 22 = .ok (.iload_n 3, 1) := by decide +kernel
theorem dX9_hold_23 : decode cX9_hold 23 = .ok (.iconst 1, 1) := by decide +kernel
theorem dX9_hold_24 : decode cX9_hold 24 = .ok (.bipush 20, 2) := by decide +kernel
theorem dX9_hold_26 : decode cX9_hold 26 = .ok (.invokestatic 63, 3) := by decide +kernel
theorem dX9_hold_29 : decode cX9_hold 29 = .ok (.ifCond .eq 14, 3) := by decide +kernel
theorem dX9_hold_32 : decode cX9_hold 32 = .ok (.iload 4, 2) := by decide +kernel
theorem dX9_hold_34 : decode cX9_hold 34 = .ok (.iconst 1, 1) := by decide +kernel
theorem dX9_hold_35 : decode cX9_hold 35 = .ok (.bipush 9, 2) := by decide +kernel
theorem dX9_hold_37 : decode cX9_hold 37 = .ok (.invokestatic 63, 3) := by decide +kernel
theorem dX9_hold_40 : decode cX9_hold 40 = .ok (.ifCond .ne 6, 3) := by decide +kernel
theorem dX9_hold_43 : decode cX9_hold 43 = .ok (.bipush (-2), 2) := by decide +kernel
theorem dX9_hold_45 : decode cX9_hold 45 = .ok (.ireturn, 1) := by decide +kernel
theorem dX9_hold_46 : decode cX9_hold 46 = .ok (.sipush 1000, 3) := by decide +kernel
theorem dX9_hold_49 : decode cX9_hold 49 = .ok (.aload_n 0, 1) := by decide +kernel
theorem dX9_hold_50 : decode cX9_hold 50 = .ok (.getfield 16, 3) := by decide +kernel
theorem dX9_hold_53 : decode cX9_hold 53 = .ok (.iload_n 1, 1) := by decide +kernel
theorem dX9_hold_54 : decode cX9_hold 54 = .ok (.iaload, 1) := by decide +kernel
theorem dX9_hold_55 : decode cX9_hold 55 = .ok (.imul, 1) := by decide +kernel
theorem dX9_hold_56 : decode cX9_hold 56 = .ok (.bipush 10, 2) := by decide +kernel
theorem dX9_hold_58 : decode cX9_hold 58 = .ok (.aload_n 0, 1) := by decide +kernel
theorem dX9_hold_59 : decode cX9_hold 59 = .ok (.getfield 19, 3) := by decide +kernel
theorem dX9_hold_62 : decode cX9_hold 62 = .ok (.iload_n 1, 1) := by decide +kernel
theorem dX9_hold_63 : decode cX9_hold 63 = .ok (.iaload, 1) := by decide +kernel
theorem dX9_hold_64 : decode cX9_hold 64 = .ok (.imul, 1) := by decide +kernel
theorem dX9_hold_65 : decode cX9_hold 65 = .ok (.iadd, 1) := by decide +kernel
theorem dX9_hold_66 : decode cX9_hold 66 = .ok (.aload_n 0, 1) := by decide +kernel
theorem dX9_hold_67 : decode cX9_hold 67 = .ok (.getfield 22, 3) := by decide +kernel
theorem dX9_hold_70 : decode cX9_hold 70 = .ok (.iload_n 1, 1) := by decide +kernel
theorem dX9_hold_71 : decode cX9_hold 71 = .ok (.iaload, 1) := by decide +kernel
theorem dX9_hold_72 : decode cX9_hold 72 = .ok (.iadd, 1) := by decide +kernel
theorem dX9_hold_73 : decode cX9_hold 73 = .ok (.istore 5, 2) := by decide +kernel
theorem dX9_hold_75 : decode cX9_hold 75 = .ok (.aload_n 0, 1) := by decide +kernel
theorem dX9_hold_76 : decode cX9_hold 76 = .ok (.getfield 16, 3) := by decide +kernel
theorem dX9_hold_79 : decode cX9_hold 79 = .ok (.iload_n 1, 1) := by decide +kernel
theorem dX9_hold_80 : decode cX9_hold 80 = .ok (.iload_n 2, 1) := by decide +kernel
theorem dX9_hold_81 : decode cX9_hold 81 = .ok (.iastore, 1) := by decide +kernel
theorem dX9_hold_82 : decode cX9_hold 82 = .ok (.aload_n 0, 1) := by decide +kernel
theorem dX9_hold_83 : decode cX9_hold 83 = .ok (.getfield 19, 3) := by decide +kernel
theorem dX9_hold_86 : decode cX9_hold 86 = .ok (.iload_n 1, 1) := by decide +kernel
theorem dX9_hold_87 : decode cX9_hold 87 = .ok (.iload_n 3, 1) := by decide +kernel
theorem dX9_hold_88 : decode cX9_hold 88 = .ok (.iastore, 1) := by decide +kernel
theorem dX9_hold_89 : decode cX9_hold 89 = .ok (.aload_n 0, 1) := by decide +kernel
theorem dX9_hold_90 : decode cX9_hold 90 = .ok (.getfield 22, 3) := by decide +kernel
theorem dX9_hold_93 : decode cX9_hold 93 = .ok (.iload_n 1, 1) := by decide +kernel
theorem dX9_hold_94 : decode cX9_hold 94 = .ok (.iload 4, 2) := by decide +kernel
theorem dX9_hold_96 : decode cX9_hold 96 = .ok (.iastore, 1) := by decide +kernel
theorem dX9_hold_97 : decode cX9_hold 97 = .ok (.iload 5, 2) := by decide +kernel
theorem dX9_hold_99 : decode cX9_hold 99 = .ok (.ireturn, 1) := by decide +kernel
theorem dX9_breath_0 : decode cX9_breath 0 = .ok (.iload_n 1, 1) := by decide +kernel
theorem dX9_breath_1 : decode cX9_breath 1 = .ok (.iconst 0, 1) := by decide +kernel
theorem dX9_breath_2 : decode cX9_breath 2 = .ok (.bipush 99, 2) := by decide +kernel
theorem dX9_breath_4 : decode cX9_breath 4 = .ok (.invokestatic 63, 3) := by decide +kernel
theorem dX9_breath_7 : decode cX9_breath 7 = .ok (.ifCond .ne 6, 3) := by decide +kernel
theorem dX9_breath_10 : decode cX9_breath 10 = .ok (.bipush (-2), 2) := by decide +kernel
theorem dX9_breath_12 : decode cX9_breath 12 = .ok (.ireturn, 1) := by decide +kernel
theorem dX9_breath_13 : decode cX9_breath 13 = .ok (.aload_n 0, 1) := by decide +kernel
theorem dX9_breath_14 : decode cX9_breath 14 = .ok (.getfield 7, 3) := by decide +kernel
theorem dX9_breath_17 : decode cX9_breath 17 = .ok (.bipush 13, 2) := by decide +kernel
theorem dX9_breath_19 : decode cX9_breath 19 = .ok (.iaload, 1) := by decide +kernel
theorem dX9_breath_20 : decode cX9_breath 20 = .ok (.istore_n 2, 1) := by decide +kernel
theorem dX9_breath_21 : decode cX9_breath 21 = .ok (.aload_n 0, 1) := by decide +kernel
theorem dX9_breath_22 : decode cX9_breath 22 = .ok (.getfield 7, 3) := by decide +kernel
theorem dX9_breath_25 : decode cX9_breath 25 = .ok (.bipush 13, 2) := by decide +kernel
theorem dX9_breath_27 : decode cX9_breath 27 = .ok (.iload_n 1, 1) := by decide +kernel
theorem dX9_breath_28 : decode cX9_breath 28 = .ok (.iastore, 1) := by decide +kernel
theorem dX9_breath_29 : decode cX9_breath 29 = .ok (.iload_n 2, 1) := by decide +kernel
theorem dX9_breath_30 : decode cX9_breath 30 = .ok (.ireturn, 1) := by decide +kernel
theorem dX9_coat_0 : decode cX9_coat 0 = .ok (.iload_n 1, 1) := by decide +kernel
theorem dX9_coat_1 : decode cX9_coat 1 = .ok (.iconst 0, 1) := by decide +kernel
theorem dX9_coat_2 : decode cX9_coat 2 = .ok (.bipush 7, 2) := by decide +kernel
theorem dX9_coat_4 : decode cX9_coat 4 = .ok (.invokestatic 63, 3) := by decide +kernel
theorem dX9_coat_7 : decode cX9_coat 7 = .ok (.ifCond .ne 5, 3) := by decide +kernel
theorem dX9_coat_10 : decode cX9_coat 10 = .ok (.iconst (-1), 1) := by decide +kernel
theorem dX9_coat_11 : decode cX9_coat 11 = .ok (.ireturn, 1) := by decide +kernel
theorem dX9_coat_12 : decode cX9_coat 12 = .ok (.iload_n 2, 1) := by decide +kernel
theorem dX9_coat_13 : decode cX9_coat 13 = .ok (.iconst 0, 1) := by decide +kernel
theorem dX9_coat_14 : decode cX9_coat 14 = .ok (.bipush 23, 2) := by decide +kernel
theorem dX9_coat_16 : decode cX9_coat 16 = .ok (.invokestatic 63, 3) := by decide +kernel
theorem dX9_coat_19 : decode cX9_coat 19 = .ok (.ifCond .eq 13, 3) := by decide +kernel
theorem dX9_coat_22 : decode cX9_coat 22 = .ok (.iload_n 3, 1) := by decide +kernel
theorem dX9_coat_23 : decode cX9_coat 23 = .ok (.iload_n 2, 1) := by decide +kernel
theorem dX9_coat_24 : decode cX9_coat 24 = .ok (.bipush 23, 2) := by decide +kernel
theorem dX9_coat_26 : decode cX9_coat 26 = .ok (.invokestatic 63, 3) := by decide +kernel
theorem dX9_coat_29 : decode cX9_coat 29 = .ok (.ifCond .ne 6, 3) := by decide +kernel
theorem dX9_coat_32 : decode cX9_coat 32 = .ok (.bipush (-2), 2) := by decide +kernel
theorem dX9_coat_34 : decode cX9_coat 34 = .ok (.ireturn, 1) := by decide +kernel
theorem dX9_coat_35 : decode cX9_coat 35 = .ok (.aload_n 0, 1) := by decide +kernel
theorem dX9_coat_36 : decode cX9_coat 36 = .ok (.getfield 25, 3) := by decide +kernel
theorem dX9_coat_39 : decode cX9_coat 39 = .ok (.iload_n 1, 1) := by decide +kernel
theorem dX9_coat_40 : decode cX9_coat 40 = .ok (.iaload, 1) := by decide +kernel
theorem dX9_coat_41 : decode cX9_coat 41 = .ok (.istore 4, 2) := by decide +kernel
theorem dX9_coat_43 : decode cX9_coat 43 = .ok (.aload_n 0, 1) := by decide +kernel
theorem dX9_coat_44 : decode cX9_coat 44 = .ok (.getfield 25, 3) := by decide +kernel
theorem dX9_coat_47 : decode cX9_coat 47 = .ok (.iload_n 1, 1) := by decide +kernel
theorem dX9_coat_48 : decode cX9_coat 48 = .ok (.bipush 100, 2) := by decide +kernel
theorem dX9_coat_50 : decode cX9_coat 50 = .ok (.iload_n 2, 1) := by decide +kernel
theorem dX9_coat_51 : decode cX9_coat 51 = .ok (.imul, 1) := by decide +kernel
theorem dX9_coat_52 : decode cX9_coat 52 = .ok (.iload_n 3, 1) := by decide +kernel
theorem dX9_coat_53 : decode cX9_coat 53 = .ok (.iadd, 1) := by decide +kernel
theorem dX9_coat_54 : decode cX9_coat 54 = .ok (.iastore, 1) := by decide +kernel
theorem dX9_coat_55 : decode cX9_coat 55 = .ok (.iload 4, 2) := by decide +kernel
theorem dX9_coat_57 : decode cX9_coat 57 = .ok (.ireturn, 1) := by decide +kernel
theorem dX9_move_0 : decode cX9_move 0 = .ok (.iload_n 1, 1) := by decide +kernel
theorem dX9_move_1 : decode cX9_move 1 = .ok (.iconst 0, 1) := by decide +kernel
theorem dX9_move_2 : decode cX9_move 2 = .ok (.bipush 9, 2) := by decide +kernel
theorem dX9_move_4 : decode cX9_move 4 = .ok (.invokestatic 63, 3) := by decide +kernel
theorem dX9_move_7 : decode cX9_move 7 = .ok (.ifCond .eq 18, 3) := by decide +kernel
theorem dX9_move_10 : decode cX9_move 10 = .ok (.iload_n 2, 1) := by decide +kernel
theorem dX9_move_11 : decode cX9_move 11 = .ok (.iconst 0, 1) := by decide +kernel
theorem dX9_move_12 : decode cX9_move 12 = .ok (.bipush 9, 2) := by decide +kernel
theorem dX9_move_14 : decode cX9_move 14 = .ok (.invokestatic 63, 3) := by decide +kernel
theorem dX9_move_17 : decode cX9_move 17 = .ok (.ifCond .eq 8, 3) := by decide +kernel
theorem dX9_move_20 : decode cX9_move 20 = .ok (.iload_n 1, 1) := by decide +kernel
theorem dX9_move_21 : decode cX9_move 21 = .ok (.iload_n 2, 1) := by decide +kernel
theorem dX9_move_22 : decode cX9_move 22 = .ok (.if_icmp .ne 5, 3) := by decide +kernel
theorem dX9_move_25 : decode cX9_move 25 = .ok (.iconst (-1), 1) := by decide +kernel
theorem dX9_move_26 : decode cX9_move 26 = .ok (.ireturn, 1) := by decide +kernel
theorem dX9_move_27 : decode cX9_move 27 = .ok (.aload_n 0, 1) := by decide +kernel
theorem dX9_move_28 : decode cX9_move 28 = .ok (.getfield 28, 3) := by decide +kernel
theorem dX9_move_31 : decode cX9_move 31 = .ok (.iload_n 1, 1) := by decide +kernel
theorem dX9_move_32 : decode cX9_move 32 = .ok (.dup2, 1) := by decide +kernel
theorem dX9_move_33 : decode cX9_move 33 = .ok (.iaload, 1) := by decide +kernel
theorem dX9_move_34 : decode cX9_move 34 = .ok (.iconst 1, 1) := by decide +kernel
theorem dX9_move_35 : decode cX9_move 35 = .ok (.iload_n 2, 1) := by decide +kernel
theorem dX9_move_36 : decode cX9_move 36 = .ok (.ishl, 1) := by decide +kernel
theorem dX9_move_37 : decode cX9_move 37 = .ok (.iconst (-1), 1) := by decide +kernel
theorem dX9_move_38 : decode cX9_move 38 = .ok (.ixor, 1) := by decide +kernel
theorem dX9_move_39 : decode cX9_move 39 = .ok (.iand, 1) := by decide +kernel
theorem dX9_move_40 : decode cX9_move 40 = .ok (.iastore, 1) := by decide +kernel
theorem dX9_move_41 : decode cX9_move 41 = .ok (.aload_n 0, 1) := by decide +kernel
theorem dX9_move_42 : decode cX9_move 42 = .ok (.getfield 28, 3) := by decide +kernel
theorem dX9_move_45 : decode cX9_move 45 = .ok (.iload_n 1, 1) := by decide +kernel
theorem dX9_move_46 : decode cX9_move 46 = .ok (.dup2, 1) := by decide +kernel
theorem dX9_move_47 : decode cX9_move 47 = .ok (.iaload, 1) := by decide +kernel
theorem dX9_move_48 : decode cX9_move 48 = .ok (.iload_n 3, 1) := by decide +kernel
theorem dX9_move_49 : decode cX9_move 49 = .ok (.ifCond .eq 9, 3) := by decide +kernel
theorem dX9_move_52 : decode cX9_move 52 = .ok (.iconst 1, 1) := by decide +kernel
theorem dX9_move_53 : decode cX9_move 53 = .ok (.iload_n 2, 1) := by decide +kernel
theorem dX9_move_54 : decode cX9_move 54 = .ok (.ishl, 1) := by decide +kernel
theorem dX9_move_55 : decode cX9_move 55 = .ok (.goto 4, 3) := by decide +kernel
theorem dX9_move_58 : decode cX9_move 58 = .ok (.iconst 0, 1) := by decide +kernel
theorem dX9_move_59 : decode cX9_move 59 = .ok (.ior, 1) := by decide +kernel
theorem dX9_move_60 : decode cX9_move 60 = .ok (.iastore, 1) := by decide +kernel
theorem dX9_move_61 : decode cX9_move 61 = .ok (.iconst 0, 1) := by decide +kernel
theorem dX9_move_62 : decode cX9_move 62 = .ok (.istore 4, 2) := by decide +kernel
theorem dX9_move_64 : decode cX9_move 64 = .ok (.iconst 0, 1) := by decide +kernel
theorem dX9_move_65 : decode cX9_move 65 = .ok (.istore 5, 2) := by decide +kernel
theorem dX9_move_67 : decode cX9_move 67 = .ok (.iload 5, 2) := by decide +kernel
theorem dX9_move_69 : decode cX9_move 69 = .ok (.bipush 10, 2) := by decide +kernel
theorem dX9_move_71 : decode cX9_move 71 = .ok (.if_icmp .ge 24, 3) := by decide +kernel
theorem dX9_move_74 : decode cX9_move 74 = .ok (.iload 4, 2) := by decide +kernel
theorem dX9_move_76 : decode cX9_move 76 = .ok (.aload_n 0, 1) := by decide +kernel
theorem dX9_move_77 : decode cX9_move 77 = .ok (.getfield 28, 3) := by decide +kernel
theorem dX9_move_80 : decode cX9_move 80 = .ok (.iload 5, 2) := by decide +kernel
theorem dX9_move_82 : decode cX9_move 82 = .ok (.iaload, 1) := by decide +kernel
theorem dX9_move_83 : decode cX9_move 83 = .ok (.invokestatic 71, 3) := by decide +kernel
theorem dX9_move_86 : decode cX9_move 86 = .ok (.iadd, 1) := by decide +kernel
theorem dX9_move_87 : decode cX9_move 87 = .ok (.istore 4, 2) := by decide +kernel
theorem dX9_move_89 : decode cX9_move 89 = .ok (.iinc 5 1, 3) := by decide +kernel
theorem dX9_move_92 : decode cX9_move 92 = .ok (.goto (-25), 3) := by decide +kernel
theorem dX9_move_95 : decode cX9_move 95 = .ok (.iload 4, 2) := by decide +kernel
theorem dX9_move_97 : decode cX9_move 97 = .ok (.ireturn, 1) := by decide +kernel
theorem dX9_say_0 : decode cX9_say 0 = .ok (.iload_n 1, 1) := by decide +kernel
theorem dX9_say_1 : decode cX9_say 1 = .ok (.bipush 33, 2) := by decide +kernel
theorem dX9_say_3 : decode cX9_say 3 = .ok (.bipush 126, 2) := by decide +kernel
theorem dX9_say_5 : decode cX9_say 5 = .ok (.invokestatic 63, 3) := by decide +kernel
theorem dX9_say_8 : decode cX9_say 8 = .ok (.ifCond .ne 6, 3) := by decide +kernel
theorem dX9_say_11 : decode cX9_say 11 = .ok (.bipush (-2), 2) := by decide +kernel
theorem dX9_say_13 : decode cX9_say 13 = .ok (.ireturn, 1) := by decide +kernel
theorem dX9_say_14 : decode cX9_say 14 = .ok (.aload_n 0, 1) := by decide +kernel
theorem dX9_say_15 : decode cX9_say 15 = .ok (.getfield 75, 3) := by decide +kernel
theorem dX9_say_18 : decode cX9_say 18 = .ok (.bipush 60, 2) := by decide +kernel
theorem dX9_say_20 : decode cX9_say 20 = .ok (.if_icmp .ne 6, 3) := by decide +kernel
theorem dX9_say_23 : decode cX9_say 23 = .ok (.bipush (-4), 2) := by decide +kernel
theorem dX9_say_25 : decode cX9_say 25 = .ok (.ireturn, 1) := by decide +kernel
theorem dX9_say_26 : decode cX9_say 26 = .ok (.aload_n 0, 1) := by decide +kernel
theorem dX9_say_27 : decode cX9_say 27 = .ok (.getfield 34, 3) := by decide +kernel
theorem dX9_say_30 : decode cX9_say 30 = .ok (.aload_n 0, 1) := by decide +kernel
theorem dX9_say_31 : decode cX9_say 31 = .ok (.getfield 75, 3) := by decide +kernel
theorem dX9_say_34 : decode cX9_say 34 = .ok (.iload_n 1, 1) := by decide +kernel
theorem dX9_say_35 : decode cX9_say 35 = .ok (.iastore, 1) := by decide +kernel
theorem dX9_say_36 : decode cX9_say 36 = .ok (.aload_n 0, 1) := by decide +kernel
theorem dX9_say_37 : decode cX9_say 37 = .ok (.dup, 1) := by decide +kernel
theorem dX9_say_38 : decode cX9_say 38 = .ok (.getfield 75, 3) := by decide +kernel
theorem dX9_say_41 : decode cX9_say 41 = .ok (.iconst 1, 1) := by decide +kernel
theorem dX9_say_42 : decode cX9_say 42 = .ok (.iadd, 1) := by decide +kernel
theorem dX9_say_43 : decode cX9_say 43 = .ok (.putfield 75, 3) := by decide +kernel
theorem dX9_say_46 : decode cX9_say 46 = .ok (.aload_n 0, 1) := by decide +kernel
theorem dX9_say_47 : decode cX9_say 47 = .ok (.getfield 75, 3) := by decide +kernel
theorem dX9_say_50 : decode cX9_say 50 = .ok (.ireturn, 1) := by decide +kernel
theorem dX9_wipe_0 : decode cX9_wipe 0 = .ok (.aload_n 0, 1) := by decide +kernel
theorem dX9_wipe_1 : decode cX9_wipe 1 = .ok (.getfield 75, 3) := by decide +kernel
theorem dX9_wipe_4 : decode cX9_wipe 4 = .ok (.istore_n 1, 1) := by decide +kernel
theorem dX9_wipe_5 : decode cX9_wipe 5 = .ok (.aload_n 0, 1) := by decide +kernel
theorem dX9_wipe_6 : decode cX9_wipe 6 = .ok (.iconst 0, 1) := by decide +kernel
theorem dX9_wipe_7 : decode cX9_wipe 7 = .ok (.putfield 75, 3) := by decide +kernel
theorem dX9_wipe_10 : decode cX9_wipe 10 = .ok (.iload_n 1, 1) := by decide +kernel
theorem dX9_wipe_11 : decode cX9_wipe 11 = .ok (.ireturn, 1) := by decide +kernel
theorem dX9_faultOf_0 : decode cX9_faultOf 0 = .ok (.iconst 0, 1) := by decide +kernel
theorem dX9_faultOf_1 : decode cX9_faultOf 1 = .ok (.istore_n 1, 1) := by decide +kernel
theorem dX9_faultOf_2 : decode cX9_faultOf 2 = .ok (.iconst 0, 1) := by decide +kernel
theorem dX9_faultOf_3 : decode cX9_faultOf 3 = .ok (.istore_n 2, 1) := by decide +kernel
theorem dX9_faultOf_4 : decode cX9_faultOf 4 = .ok (.iload_n 2, 1) := by decide +kernel
theorem dX9_faultOf_5 : decode cX9_faultOf 5 = .ok (.aload_n 0, 1) := by decide +kernel
theorem dX9_faultOf_6 : decode cX9_faultOf 6 = .ok (.getfield 75, 3) := by decide +kernel
theorem dX9_faultOf_9 : decode cX9_faultOf 9 = .ok (.if_icmp .ge 136, 3) := by decide +kernel
theorem dX9_faultOf_12 : decode cX9_faultOf 12 = .ok (.aload_n 0, 1) := by decide +kernel
theorem dX9_faultOf_13 : decode cX9_faultOf 13 = .ok (.getfield 34, 3) := by decide +kernel
theorem dX9_faultOf_16 : decode cX9_faultOf 16 = .ok (.iload_n 2, 1) := by decide +kernel
theorem dX9_faultOf_17 : decode cX9_faultOf 17 = .ok (.iaload, 1) := by decide +kernel
theorem dX9_faultOf_18 : decode cX9_faultOf 18 = .ok (.istore_n 3, 1) := by decide +kernel
theorem dX9_faultOf_19 : decode cX9_faultOf 19 = .ok (.iload_n 3, 1) := by decide +kernel
theorem dX9_faultOf_20 : decode cX9_faultOf 20 = .ok (.bipush 65, 2) := by decide +kernel
theorem dX9_faultOf_22 : decode cX9_faultOf 22 = .ok (.bipush 70, 2) := by decide +kernel
theorem dX9_faultOf_24 : decode cX9_faultOf 24 = .ok (.invokestatic 63, 3) := by decide +kernel
theorem dX9_faultOf_27 : decode cX9_faultOf 27 = .ok (.istore 4, 2) := by decide +kernel
theorem dX9_faultOf_29 : decode cX9_faultOf 29 = .ok (.iload_n 1, 1) := by decide +kernel
theorem dX9_faultOf_30 : decode cX9_faultOf 30 = .ok (.ifCond .ne 28, 3) := by decide +kernel
theorem dX9_faultOf_33 : decode cX9_faultOf 33 = .ok (.iload 4, 2) := by decide +kernel
theorem dX9_faultOf_35 : decode cX9_faultOf 35 = .ok (.ifCond .ne 15, 3) := by decide +kernel
theorem dX9_faultOf_38 : decode cX9_faultOf 38 = .ok (.iload_n 3, 1) := by decide +kernel
theorem dX9_faultOf_39 : decode cX9_faultOf 39 = .ok (.bipush 126, 2) := by decide +kernel
theorem dX9_faultOf_41 : decode cX9_faultOf 41 = .ok (.if_icmp .eq 9, 3) := by decide +kernel
theorem dX9_faultOf_44 : decode cX9_faultOf 44 = .ok (.iload_n 3, 1) := by decide +kernel
theorem dX9_faultOf_45 : decode cX9_faultOf 45 = .ok (.bipush 46, 2) := by decide +kernel
theorem dX9_faultOf_47 : decode cX9_faultOf 47 = .ok (.if_icmp .ne 7, 3) := by decide +kernel
theorem dX9_faultOf_50 : decode cX9_faultOf 50 = .ok (.iconst 1, 1) := by decide +kernel
theorem dX9_faultOf_51 : decode cX9_faultOf 51 = .ok (.goto 45, 3) := by decide +kernel
theorem dX9_faultOf_54 : decode cX9_faultOf 54 = .ok (.iconst 0, 1) := by decide +kernel
theorem dX9_faultOf_55 : decode cX9_faultOf 55 = .ok (.goto 41, 3) := by decide +kernel
theorem dX9_faultOf_58 : decode cX9_faultOf 58 = .ok (.iload_n 1, 1) := by decide +kernel
theorem dX9_faultOf_59 : decode cX9_faultOf 59 = .ok (.iconst 1, 1) := by decide +kernel
theorem dX9_faultOf_60 : decode cX9_faultOf 60 = .ok (.if_icmp .ne 34, 3) := by decide +kernel
theorem dX9_faultOf_63 : decode cX9_faultOf 63 = .ok (.iload_n 3, 1) := by decide +kernel
theorem dX9_faultOf_64 : decode cX9_faultOf 64 = .ok (.bipush 48, 2) := by decide +kernel
theorem dX9_faultOf_66 : decode cX9_faultOf 66 = .ok (.bipush 53, 2) := by decide +kernel
theorem dX9_faultOf_68 : decode cX9_faultOf 68 = .ok (.invokestatic 63, 3) := by decide +kernel
theorem dX9_faultOf_71 : decode cX9_faultOf 71 = .ok (.ifCond .ne 15, 3) := by decide +kernel
theorem dX9_faultOf_74 : decode cX9_faultOf 74 = .ok (.iload_n 3, 1) := by decide +kernel
theorem dX9_faultOf_75 : decode cX9_faultOf 75 = .ok (.bipush 43, 2) := by decide +kernel
theorem dX9_faultOf_77 : decode cX9_faultOf 77 = .ok (.if_icmp .eq 9, 3) := by decide +kernel
theorem dX9_faultOf_80 : decode cX9_faultOf 80 = .ok (.iload_n 3, 1) := by decide +kernel
theorem dX9_faultOf_81 : decode cX9_faultOf 81 = .ok (.bipush 95, 2) := by decide +kernel
theorem dX9_faultOf_83 : decode cX9_faultOf 83 = .ok (.if_icmp .ne 7, 3) := by decide +kernel
theorem dX9_faultOf_86 : decode cX9_faultOf 86 = .ok (.iconst 1, 1) := by decide +kernel
theorem dX9_faultOf_87 : decode cX9_faultOf 87 = .ok (.goto 9, 3) := by decide +kernel
theorem dX9_faultOf_90 : decode cX9_faultOf 90 = .ok (.iconst 0, 1) := by decide +kernel
theorem dX9_faultOf_91 : decode cX9_faultOf 91 = .ok (.goto 5, 3) := by decide +kernel
theorem dX9_faultOf_94 : decode cX9_faultOf 94 = .ok (.iload 4, 2) := by decide +kernel
theorem dX9_faultOf_96 : decode cX9_faultOf 96 = .ok (.istore 5, 2) := by decide +kernel
theorem dX9_faultOf_98 : decode cX9_faultOf 98 = .ok (.iload 5, 2) := by decide +kernel
theorem dX9_faultOf_100 : decode cX9_faultOf 100 = .ok (.ifCond .ne 5, 3) := by decide +kernel
theorem dX9_faultOf_103 : decode cX9_faultOf 103 = .ok (.iload_n 2, 1) := by decide +kernel
theorem dX9_faultOf_104 : decode cX9_faultOf 104 = .ok (.ireturn, 1) := by decide +kernel
theorem dX9_faultOf_105 : decode cX9_faultOf 105 = .ok (.iload_n 1, 1) := by decide +kernel
theorem dX9_faultOf_106 : decode cX9_faultOf 106 = .ok (.ifCond .ne 16, 3) := by decide +kernel
theorem dX9_faultOf_109 : decode cX9_faultOf 109 = .ok (.iload 4, 2) := by decide +kernel
theorem dX9_faultOf_111 : decode cX9_faultOf 111 = .ok (.ifCond .eq 7, 3) := by decide +kernel
theorem dX9_faultOf_114 : decode cX9_faultOf 114 = .ok (.iconst 1, 1) := by decide +kernel
theorem dX9_faultOf_115 : decode cX9_faultOf 115 = .ok (.goto 23, 3) := by decide +kernel
theorem dX9_faultOf_118 : decode cX9_faultOf 118 = .ok (.iconst 0, 1) := by decide +kernel
theorem dX9_faultOf_119 : decode cX9_faultOf 119 = .ok (.goto 19, 3) := by decide +kernel
theorem dX9_faultOf_122 : decode cX9_faultOf 122 = .ok (.iload_n 1, 1) := by decide +kernel
theorem dX9_faultOf_123 : decode cX9_faultOf 123 = .ok (.iconst 1, 1) := by decide +kernel
theorem dX9_faultOf_124 : decode cX9_faultOf 124 = .ok (.if_icmp .ne 13, 3) := by decide +kernel
theorem dX9_faultOf_127 : decode cX9_faultOf 127 = .ok (.iload_n 3, 1) := by decide +kernel
theorem dX9_faultOf_128 : decode cX9_faultOf 128 = .ok (.bipush 43, 2) := by decide +kernel
theorem dX9_faultOf_130 : decode cX9_faultOf 130 = .ok (.if_icmp .ne 7, 3) := by decide +kernel
theorem dX9_faultOf_133 : decode cX9_faultOf 133 = .ok (.iconst 2, 1) := by decide +kernel
theorem dX9_faultOf_134 : decode cX9_faultOf 134 = .ok (.goto 4, 3) := by decide +kernel
theorem dX9_faultOf_137 : decode cX9_faultOf 137 = .ok (.iconst 0, 1) := by decide +kernel
theorem dX9_faultOf_138 : decode cX9_faultOf 138 = .ok (.istore_n 1, 1) := by decide +kernel
theorem dX9_faultOf_139 : decode cX9_faultOf 139 = .ok (.iinc 2 1, 3) := by decide +kernel
theorem dX9_faultOf_142 : decode cX9_faultOf 142 = .ok (.goto (-138), 3) := by decide +kernel
theorem dX9_faultOf_145 : decode cX9_faultOf 145 = .ok (.iload_n 1, 1) := by decide +kernel
theorem dX9_faultOf_146 : decode cX9_faultOf 146 = .ok (.ifCond .ne 8, 3) := by decide +kernel
theorem dX9_faultOf_149 : decode cX9_faultOf 149 = .ok (.bipush (-6), 2) := by decide +kernel
theorem dX9_faultOf_151 : decode cX9_faultOf 151 = .ok (.goto 7, 3) := by decide +kernel
theorem dX9_faultOf_154 : decode cX9_faultOf 154 = .ok (.aload_n 0, 1) := by decide +kernel
theorem dX9_faultOf_155 : decode cX9_faultOf 155 = .ok (.getfield 75, 3) := by decide +kernel
theorem dX9_faultOf_158 : decode cX9_faultOf 158 = .ok (.ireturn, 1) := by decide +kernel
theorem dX9_fault_0 : decode cX9_fault 0 = .ok (.aload_n 0, 1) := by decide +kernel
theorem dX9_fault_1 : decode cX9_fault 1 = .ok (.invokevirtual 79, 3) := by decide +kernel
theorem dX9_fault_4 : decode cX9_fault 4 = .ok (.ireturn, 1) := by decide +kernel
theorem dX9_asNow_0 : decode cX9_asNow 0 = .ok (.iconst 0, 1) := by decide +kernel
theorem dX9_asNow_1 : decode cX9_asNow 1 = .ok (.istore_n 1, 1) := by decide +kernel
theorem dX9_asNow_2 : decode cX9_asNow 2 = .ok (.iload_n 1, 1) := by decide +kernel
theorem dX9_asNow_3 : decode cX9_asNow 3 = .ok (.bipush 15, 2) := by decide +kernel
theorem dX9_asNow_5 : decode cX9_asNow 5 = .ok (.if_icmp .ge 21, 3) := by decide +kernel
theorem dX9_asNow_8 : decode cX9_asNow 8 = .ok (.aload_n 0, 1) := by decide +kernel
theorem dX9_asNow_9 : decode cX9_asNow 9 = .ok (.getfield 13, 3) := by decide +kernel
theorem dX9_asNow_12 : decode cX9_asNow 12 = .ok (.iload_n 1, 1) := by decide +kernel
theorem dX9_asNow_13 : decode cX9_asNow 13 = .ok (.aload_n 0, 1) := by decide +kernel
theorem dX9_asNow_14 : decode cX9_asNow 14 = .ok (.getfield 7, 3) := by decide +kernel
theorem dX9_asNow_17 : decode cX9_asNow 17 = .ok (.iload_n 1, 1) := by decide +kernel
theorem dX9_asNow_18 : decode cX9_asNow 18 = .ok (.iaload, 1) := by decide +kernel
theorem dX9_asNow_19 : decode cX9_asNow 19 = .ok (.iastore, 1) := by decide +kernel
theorem dX9_asNow_20 : decode cX9_asNow 20 = .ok (.iinc 1 1, 3) := by decide +kernel
theorem dX9_asNow_23 : decode cX9_asNow 23 = .ok (.goto (-21), 3) := by decide +kernel
theorem dX9_asNow_26 : decode cX9_asNow 26 = .ok (.aload_n 0, 1) := by decide +kernel
theorem dX9_asNow_27 : decode cX9_asNow 27 = .ok (.iconst 0, 1) := by decide +kernel
theorem dX9_asNow_28 : decode cX9_asNow 28 = .ok (.putfield 83, 3) := by decide +kernel
theorem dX9_asNow_31 : decode cX9_asNow 31 = .ok (.aload_n 0, 1) := by decide +kernel
theorem dX9_asNow_32 : decode cX9_asNow 32 = .ok (.bipush (-6), 2) := by decide +kernel
theorem dX9_asNow_34 : decode cX9_asNow 34 = .ok (.putfield 86, 3) := by decide +kernel
theorem dX9_asNow_37 : decode cX9_asNow 37 = .ok (.aload_n 0, 1) := by decide +kernel
theorem dX9_asNow_38 : decode cX9_asNow 38 = .ok (.bipush (-6), 2) := by decide +kernel
theorem dX9_asNow_40 : decode cX9_asNow 40 = .ok (.putfield 89, 3) := by decide +kernel
theorem dX9_asNow_43 : decode cX9_asNow 43 = .ok (.return_, 1) := by decide +kernel
theorem dX9_stands_0 : decode cX9_stands 0 = .ok (.iload_n 1, 1) := by decide +kernel
theorem dX9_stands_1 : decode cX9_stands 1 = .ok (.iconst 0, 1) := by decide +kernel
theorem dX9_stands_2 : decode cX9_stands 2 = .ok (.iconst 5, 1) := by decide +kernel
theorem dX9_stands_3 : decode cX9_stands 3 = .ok (.invokestatic 63, 3) := by decide +kernel
theorem dX9_stands_6 : decode cX9_stands 6 = .ok (.ifCond .eq 21, 3) := by decide +kernel
theorem dX9_stands_9 : decode cX9_stands 9 = .ok (.aload_n 0, 1) := by decide +kernel
theorem dX9_stands_10 : decode cX9_stands 10 = .ok (.getfield 13, 3) := by decide +kernel
theorem dX9_stands_13 : decode cX9_stands 13 = .ok (.bipush 12, 2) := by decide +kernel
theorem dX9_stands_15 : decode cX9_stands 15 = .ok (.iaload, 1) := by decide +kernel
theorem dX9_stands_16 : decode cX9_stands 16 = .ok (.iload_n 1, 1) := by decide +kernel
theorem dX9_stands_17 : decode cX9_stands 17 = .ok (.invokestatic 67, 3) := by decide +kernel
theorem dX9_stands_20 : decode cX9_stands 20 = .ok (.ifCond .eq 7, 3) := by decide +kernel
theorem dX9_stands_23 : decode cX9_stands 23 = .ok (.iconst 1, 1) := by decide +kernel
theorem dX9_stands_24 : decode cX9_stands 24 = .ok (.goto 4, 3) := by decide +kernel
theorem dX9_stands_27 : decode cX9_stands 27 = .ok (.iconst 0, 1) := by decide +kernel
theorem dX9_stands_28 : decode cX9_stands 28 = .ok (.ireturn, 1) := by decide +kernel
theorem dX9_grip_0 : decode cX9_grip 0 = .ok (.aload_n 0, 1) := by decide +kernel
theorem dX9_grip_1 : decode cX9_grip 1 = .ok (.iload_n 1, 1) := by decide +kernel
theorem dX9_grip_2 : decode cX9_grip 2 = .ok (.invokevirtual 92, 3) := by decide +kernel
theorem dX9_grip_5 : decode cX9_grip 5 = .ok (.ifCond .ne 5, 3) := by decide +kernel
theorem dX9_grip_8 : decode cX9_grip 8 = .ok (.iconst 1, 1) := by decide +kernel
theorem dX9_grip_9 : decode cX9_grip 9 = .ok (.ireturn, 1) := by decide +kernel
theorem dX9_grip_10 : decode cX9_grip 10 = .ok (.aload_n 0, 1) := by decide +kernel
theorem dX9_grip_11 : decode cX9_grip 11 = .ok (.getfield 16, 3) := by decide +kernel
theorem dX9_grip_14 : decode cX9_grip 14 = .ok (.iload_n 2, 1) := by decide +kernel
theorem dX9_grip_15 : decode cX9_grip 15 = .ok (.iaload, 1) := by decide +kernel
theorem dX9_grip_16 : decode cX9_grip 16 = .ok (.aload_n 0, 1) := by decide +kernel
theorem dX9_grip_17 : decode cX9_grip 17 = .ok (.getfield 13, 3) := by decide +kernel
theorem dX9_grip_20 : decode cX9_grip 20 = .ok (.bipush 6, 2) := by decide +kernel
theorem dX9_grip_22 : decode cX9_grip 22 = .ok (.iload_n 1, 1) := by decide +kernel
theorem dX9_grip_23 : decode cX9_grip 23 = .ok (.iadd, 1) := by decide +kernel
end
section
theorem dX9_grip_24 : decode cX9_grip 24 = .ok (.iaload, 1) := by decide +kernel
theorem dX9_grip_25 : decode cX9_grip 25 = .ok (.iconst (-1), 1) := by decide +kernel
theorem dX9_grip_26 : decode cX9_grip 26 = .ok (.ixor, 1) := by decide +kernel
theorem dX9_grip_27 : decode cX9_grip 27 = .ok (.iand, 1) := by decide +kernel
theorem dX9_grip_28 : decode cX9_grip 28 = .ok (.ifCond .eq 5, 3) := by decide +kernel
theorem dX9_grip_31 : decode cX9_grip 31 = .ok (.iconst 2, 1) := by decide +kernel
theorem dX9_grip_32 : decode cX9_grip 32 = .ok (.ireturn, 1) := by decide +kernel
theorem dX9_grip_33 : decode cX9_grip 33 = .ok (.aload_n 0, 1) := by decide +kernel
theorem dX9_grip_34 : decode cX9_grip 34 = .ok (.getfield 13, 3) := by decide +kernel
theorem dX9_grip_37 : decode cX9_grip 37 = .ok (.bipush 13, 2) := by decide +kernel
theorem dX9_grip_39 : decode cX9_grip 39 = .ok (.iaload, 1) := by decide +kernel
theorem dX9_grip_40 : decode cX9_grip 40 = .ok (.aload_n 0, 1) := by decide +kernel
theorem dX9_grip_41 : decode cX9_grip 41 = .ok (.getfield 22, 3) := by decide +kernel
theorem dX9_grip_44 : decode cX9_grip 44 = .ok (.iload_n 2, 1) := by decide +kernel
theorem dX9_grip_45 : decode cX9_grip 45 = .ok (.iaload, 1) := by decide +kernel
theorem dX9_grip_46 : decode cX9_grip 46 = .ok (.if_icmp .ge 5, 3) := by decide +kernel
theorem dX9_grip_49 : decode cX9_grip 49 = .ok (.iconst 3, 1) := by decide +kernel
theorem dX9_grip_50 : decode cX9_grip 50 = .ok (.ireturn, 1) := by decide +kernel
theorem dX9_grip_51 : decode cX9_grip 51 = .ok (.aload_n 0, 1) := by decide +kernel
theorem dX9_grip_52 : decode cX9_grip 52 = .ok (.getfield 13, 3) := by decide +kernel
theorem dX9_grip_55 : decode cX9_grip 55 = .ok (.bipush 13, 2) := by decide +kernel
theorem dX9_grip_57 : decode cX9_grip 57 = .ok (.dup2, 1) := by decide +kernel
theorem dX9_grip_58 : decode cX9_grip 58 = .ok (.iaload, 1) := by decide +kernel
theorem dX9_grip_59 : decode cX9_grip 59 = .ok (.aload_n 0, 1) := by decide +kernel
theorem dX9_grip_60 : decode cX9_grip 60 = .ok (.getfield 22, 3) := by decide +kernel
theorem dX9_grip_63 : decode cX9_grip 63 = .ok (.iload_n 2, 1) := by decide +kernel
theorem dX9_grip_64 : decode cX9_grip 64 = .ok (.iaload, 1) := by decide +kernel
theorem dX9_grip_65 : decode cX9_grip 65 = .ok (.isub, 1) := by decide +kernel
theorem dX9_grip_66 : decode cX9_grip 66 = .ok (.iastore, 1) := by decide +kernel
theorem dX9_grip_67 : decode cX9_grip 67 = .ok (.aload_n 0, 1) := by decide +kernel
theorem dX9_grip_68 : decode cX9_grip 68 = .ok (.getfield 13, 3) := by decide +kernel
theorem dX9_grip_71 : decode cX9_grip 71 = .ok (.iload_n 1, 1) := by decide +kernel
theorem dX9_grip_72 : decode cX9_grip 72 = .ok (.dup2, 1) := by decide +kernel
theorem dX9_grip_73 : decode cX9_grip 73 = .ok (.iaload, 1) := by decide +kernel
theorem dX9_grip_74 : decode cX9_grip 74 = .ok (.aload_n 0, 1) := by decide +kernel
theorem dX9_grip_75 : decode cX9_grip 75 = .ok (.getfield 19, 3) := by decide +kernel
theorem dX9_grip_78 : decode cX9_grip 78 = .ok (.iload_n 2, 1) := by decide +kernel
theorem dX9_grip_79 : decode cX9_grip 79 = .ok (.iaload, 1) := by decide +kernel
theorem dX9_grip_80 : decode cX9_grip 80 = .ok (.isub, 1) := by decide +kernel
theorem dX9_grip_81 : decode cX9_grip 81 = .ok (.iastore, 1) := by decide +kernel
theorem dX9_grip_82 : decode cX9_grip 82 = .ok (.aload_n 0, 1) := by decide +kernel
theorem dX9_grip_83 : decode cX9_grip 83 = .ok (.getfield 13, 3) := by decide +kernel
theorem dX9_grip_86 : decode cX9_grip 86 = .ok (.iload_n 1, 1) := by decide +kernel
theorem dX9_grip_87 : decode cX9_grip 87 = .ok (.iaload, 1) := by decide +kernel
theorem dX9_grip_88 : decode cX9_grip 88 = .ok (.iconst 1, 1) := by decide +kernel
theorem dX9_grip_89 : decode cX9_grip 89 = .ok (.if_icmp .ge 28, 3) := by decide +kernel
theorem dX9_grip_92 : decode cX9_grip 92 = .ok (.aload_n 0, 1) := by decide +kernel
theorem dX9_grip_93 : decode cX9_grip 93 = .ok (.getfield 13, 3) := by decide +kernel
theorem dX9_grip_96 : decode cX9_grip 96 = .ok (.bipush 12, 2) := by decide +kernel
theorem dX9_grip_98 : decode cX9_grip 98 = .ok (.dup2, 1) := by decide +kernel
theorem dX9_grip_99 : decode cX9_grip 99 = .ok (.iaload, 1) := by decide +kernel
theorem dX9_grip_100 : decode cX9_grip 100 = .ok (.iconst 1, 1) := by decide +kernel
theorem dX9_grip_101 : decode cX9_grip 101 = .ok (.iload_n 1, 1) := by decide +kernel
theorem dX9_grip_102 : decode cX9_grip 102 = .ok (.ishl, 1) := by decide +kernel
theorem dX9_grip_103 : decode cX9_grip 103 = .ok (.iconst (-1), 1) := by decide +kernel
theorem dX9_grip_104 : decode cX9_grip 104 = .ok (.ixor, 1) := by decide +kernel
theorem dX9_grip_105 : decode cX9_grip 105 = .ok (.iand, 1) := by decide +kernel
theorem dX9_grip_106 : decode cX9_grip 106 = .ok (.iastore, 1) := by decide +kernel
theorem dX9_grip_107 : decode cX9_grip 107 = .ok (.aload_n 0, 1) := by decide +kernel
theorem dX9_grip_108 : decode cX9_grip 108 = .ok (.dup, 1) := by decide +kernel
theorem dX9_grip_109 : decode cX9_grip 109 = .ok (.getfield 83, 3) := by decide +kernel
theorem dX9_grip_112 : decode cX9_grip 112 = .ok (.iconst 1, 1) := by decide +kernel
theorem dX9_grip_113 : decode cX9_grip 113 = .ok (.iadd, 1) := by decide +kernel
theorem dX9_grip_114 : decode cX9_grip 114 = .ok (.putfield 83, 3) := by decide +kernel
theorem dX9_grip_117 : decode cX9_grip 117 = .ok (.iconst 0, 1) := by decide +kernel
theorem dX9_grip_118 : decode cX9_grip 118 = .ok (.ireturn, 1) := by decide +kernel
theorem dX9_join_0 : decode cX9_join 0 = .ok (.aload_n 0, 1) := by decide +kernel
theorem dX9_join_1 : decode cX9_join 1 = .ok (.iload_n 1, 1) := by decide +kernel
theorem dX9_join_2 : decode cX9_join 2 = .ok (.invokevirtual 92, 3) := by decide +kernel
theorem dX9_join_5 : decode cX9_join 5 = .ok (.ifCond .eq 11, 3) := by decide +kernel
theorem dX9_join_8 : decode cX9_join 8 = .ok (.aload_n 0, 1) := by decide +kernel
theorem dX9_join_9 : decode cX9_join 9 = .ok (.iload_n 2, 1) := by decide +kernel
theorem dX9_join_10 : decode cX9_join 10 = .ok (.invokevirtual 92, 3) := by decide +kernel
theorem dX9_join_13 : decode cX9_join 13 = .ok (.ifCond .ne 5, 3) := by decide +kernel
theorem dX9_join_16 : decode cX9_join 16 = .ok (.iconst 1, 1) := by decide +kernel
theorem dX9_join_17 : decode cX9_join 17 = .ok (.ireturn, 1) := by decide +kernel
theorem dX9_join_18 : decode cX9_join 18 = .ok (.iload_n 1, 1) := by decide +kernel
theorem dX9_join_19 : decode cX9_join 19 = .ok (.iload_n 2, 1) := by decide +kernel
theorem dX9_join_20 : decode cX9_join 20 = .ok (.if_icmp .ne 5, 3) := by decide +kernel
theorem dX9_join_23 : decode cX9_join 23 = .ok (.iconst 4, 1) := by decide +kernel
theorem dX9_join_24 : decode cX9_join 24 = .ok (.ireturn, 1) := by decide +kernel
theorem dX9_join_25 : decode cX9_join 25 = .ok (.aload_n 0, 1) := by decide +kernel
theorem dX9_join_26 : decode cX9_join 26 = .ok (.getfield 13, 3) := by decide +kernel
theorem dX9_join_29 : decode cX9_join 29 = .ok (.iload_n 1, 1) := by decide +kernel
theorem dX9_join_30 : decode cX9_join 30 = .ok (.aload_n 0, 1) := by decide +kernel
theorem dX9_join_31 : decode cX9_join 31 = .ok (.getfield 13, 3) := by decide +kernel
theorem dX9_join_34 : decode cX9_join 34 = .ok (.iload_n 1, 1) := by decide +kernel
theorem dX9_join_35 : decode cX9_join 35 = .ok (.iaload, 1) := by decide +kernel
theorem dX9_join_36 : decode cX9_join 36 = .ok (.aload_n 0, 1) := by decide +kernel
theorem dX9_join_37 : decode cX9_join 37 = .ok (.getfield 13, 3) := by decide +kernel
theorem dX9_join_40 : decode cX9_join 40 = .ok (.iload_n 2, 1) := by decide +kernel
theorem dX9_join_41 : decode cX9_join 41 = .ok (.iaload, 1) := by decide +kernel
theorem dX9_join_42 : decode cX9_join 42 = .ok (.iadd, 1) := by decide +kernel
theorem dX9_join_43 : decode cX9_join 43 = .ok (.bipush 99, 2) := by decide +kernel
theorem dX9_join_45 : decode cX9_join 45 = .ok (.if_icmp .le 8, 3) := by decide +kernel
theorem dX9_join_48 : decode cX9_join 48 = .ok (.bipush 99, 2) := by decide +kernel
theorem dX9_join_50 : decode cX9_join 50 = .ok (.goto 16, 3) := by decide +kernel
theorem dX9_join_53 : decode cX9_join 53 = .ok (.aload_n 0, 1) := by decide +kernel
theorem dX9_join_54 : decode cX9_join 54 = .ok (.getfield 13, 3) := by decide +kernel
theorem dX9_join_57 : decode cX9_join 57 = .ok (.iload_n 1, 1) := by decide +kernel
theorem dX9_join_58 : decode cX9_join 58 = .ok (.iaload, 1) := by decide +kernel
theorem dX9_join_59 : decode cX9_join 59 = .ok (.aload_n 0, 1) := by decide +kernel
theorem dX9_join_60 : decode cX9_join 60 = .ok (.getfield 13, 3) := by decide +kernel
theorem dX9_join_63 : decode cX9_join 63 = .ok (.iload_n 2, 1) := by decide +kernel
theorem dX9_join_64 : decode cX9_join 64 = .ok (.iaload, 1) := by decide +kernel
theorem dX9_join_65 : decode cX9_join 65 = .ok (.iadd, 1) := by decide +kernel
theorem dX9_join_66 : decode cX9_join 66 = .ok (.iastore, 1) := by decide +kernel
theorem dX9_join_67 : decode cX9_join 67 = .ok (.aload_n 0, 1) := by decide +kernel
theorem dX9_join_68 : decode cX9_join 68 = .ok (.getfield 13, 3) := by decide +kernel
theorem dX9_join_71 : decode cX9_join 71 = .ok (.bipush 6, 2) := by decide +kernel
theorem dX9_join_73 : decode cX9_join 73 = .ok (.iload_n 1, 1) := by decide +kernel
theorem dX9_join_74 : decode cX9_join 74 = .ok (.iadd, 1) := by decide +kernel
theorem dX9_join_75 : decode cX9_join 75 = .ok (.dup2, 1) := by decide +kernel
theorem dX9_join_76 : decode cX9_join 76 = .ok (.iaload, 1) := by decide +kernel
theorem dX9_join_77 : decode cX9_join 77 = .ok (.aload_n 0, 1) := by decide +kernel
theorem dX9_join_78 : decode cX9_join 78 = .ok (.getfield 13, 3) := by decide +kernel
theorem dX9_join_81 : decode cX9_join 81 = .ok (.bipush 6, 2) := by decide +kernel
theorem dX9_join_83 : decode cX9_join 83 = .ok (.iload_n 2, 1) := by decide +kernel
theorem dX9_join_84 : decode cX9_join 84 = .ok (.iadd, 1) := by decide +kernel
theorem dX9_join_85 : decode cX9_join 85 = .ok (.iaload, 1) := by decide +kernel
theorem dX9_join_86 : decode cX9_join 86 = .ok (.ior, 1) := by decide +kernel
theorem dX9_join_87 : decode cX9_join 87 = .ok (.iastore, 1) := by decide +kernel
theorem dX9_join_88 : decode cX9_join 88 = .ok (.aload_n 0, 1) := by decide +kernel
theorem dX9_join_89 : decode cX9_join 89 = .ok (.getfield 13, 3) := by decide +kernel
theorem dX9_join_92 : decode cX9_join 92 = .ok (.bipush 12, 2) := by decide +kernel
theorem dX9_join_94 : decode cX9_join 94 = .ok (.dup2, 1) := by decide +kernel
theorem dX9_join_95 : decode cX9_join 95 = .ok (.iaload, 1) := by decide +kernel
theorem dX9_join_96 : decode cX9_join 96 = .ok (.iconst 1, 1) := by decide +kernel
theorem dX9_join_97 : decode cX9_join 97 = .ok (.iload_n 2, 1) := by decide +kernel
theorem dX9_join_98 : decode cX9_join 98 = .ok (.ishl, 1) := by decide +kernel
theorem dX9_join_99 : decode cX9_join 99 = .ok (.iconst (-1), 1) := by decide +kernel
theorem dX9_join_100 : decode cX9_join 100 = .ok (.ixor, 1) := by decide +kernel
theorem dX9_join_101 : decode cX9_join 101 = .ok (.iand, 1) := by decide +kernel
theorem dX9_join_102 : decode cX9_join 102 = .ok (.iastore, 1) := by decide +kernel
theorem dX9_join_103 : decode cX9_join 103 = .ok (.iconst 0, 1) := by decide +kernel
theorem dX9_join_104 : decode cX9_join 104 = .ok (.ireturn, 1) := by decide +kernel
theorem dX9_sitBy_0 : decode cX9_sitBy 0 = .ok (.aload_n 0, 1) := by decide +kernel
theorem dX9_sitBy_1 : decode cX9_sitBy 1 = .ok (.iload_n 1, 1) := by decide +kernel
theorem dX9_sitBy_2 : decode cX9_sitBy 2 = .ok (.invokevirtual 92, 3) := by decide +kernel
theorem dX9_sitBy_5 : decode cX9_sitBy 5 = .ok (.ifCond .ne 5, 3) := by decide +kernel
theorem dX9_sitBy_8 : decode cX9_sitBy 8 = .ok (.iconst 1, 1) := by decide +kernel
theorem dX9_sitBy_9 : decode cX9_sitBy 9 = .ok (.ireturn, 1) := by decide +kernel
theorem dX9_sitBy_10 : decode cX9_sitBy 10 = .ok (.aload_n 0, 1) := by decide +kernel
theorem dX9_sitBy_11 : decode cX9_sitBy 11 = .ok (.getfield 13, 3) := by decide +kernel
theorem dX9_sitBy_14 : decode cX9_sitBy 14 = .ok (.bipush 13, 2) := by decide +kernel
theorem dX9_sitBy_16 : decode cX9_sitBy 16 = .ok (.iaload, 1) := by decide +kernel
theorem dX9_sitBy_17 : decode cX9_sitBy 17 = .ok (.bipush 10, 2) := by decide +kernel
theorem dX9_sitBy_19 : decode cX9_sitBy 19 = .ok (.if_icmp .ge 5, 3) := by decide +kernel
theorem dX9_sitBy_22 : decode cX9_sitBy 22 = .ok (.iconst 3, 1) := by decide +kernel
theorem dX9_sitBy_23 : decode cX9_sitBy 23 = .ok (.ireturn, 1) := by decide +kernel
theorem dX9_sitBy_24 : decode cX9_sitBy 24 = .ok (.aload_n 0, 1) := by decide +kernel
theorem dX9_sitBy_25 : decode cX9_sitBy 25 = .ok (.getfield 13, 3) := by decide +kernel
theorem dX9_sitBy_28 : decode cX9_sitBy 28 = .ok (.bipush 13, 2) := by decide +kernel
theorem dX9_sitBy_30 : decode cX9_sitBy 30 = .ok (.dup2, 1) := by decide +kernel
theorem dX9_sitBy_31 : decode cX9_sitBy 31 = .ok (.iaload, 1) := by decide +kernel
theorem dX9_sitBy_32 : decode cX9_sitBy 32 = .ok (.bipush 10, 2) := by decide +kernel
theorem dX9_sitBy_34 : decode cX9_sitBy 34 = .ok (.isub, 1) := by decide +kernel
theorem dX9_sitBy_35 : decode cX9_sitBy 35 = .ok (.iastore, 1) := by decide +kernel
theorem dX9_sitBy_36 : decode cX9_sitBy 36 = .ok (.aload_n 0, 1) := by decide +kernel
theorem dX9_sitBy_37 : decode cX9_sitBy 37 = .ok (.getfield 13, 3) := by decide +kernel
theorem dX9_sitBy_40 : decode cX9_sitBy 40 = .ok (.iload_n 1, 1) := by decide +kernel
theorem dX9_sitBy_41 : decode cX9_sitBy 41 = .ok (.aload_n 0, 1) := by decide +kernel
theorem dX9_sitBy_42 : decode cX9_sitBy 42 = .ok (.getfield 13, 3) := by decide +kernel
theorem dX9_sitBy_45 : decode cX9_sitBy 45 = .ok (.iload_n 1, 1) := by decide +kernel
theorem dX9_sitBy_46 : decode cX9_sitBy 46 = .ok (.iaload, 1) := by decide +kernel
theorem dX9_sitBy_47 : decode cX9_sitBy 47 = .ok (.iconst 2, 1) := by decide +kernel
theorem dX9_sitBy_48 : decode cX9_sitBy 48 = .ok (.if_icmp .ge 7, 3) := by decide +kernel
theorem dX9_sitBy_51 : decode cX9_sitBy 51 = .ok (.iconst 1, 1) := by decide +kernel
theorem dX9_sitBy_52 : decode cX9_sitBy 52 = .ok (.goto 11, 3) := by decide +kernel
theorem dX9_sitBy_55 : decode cX9_sitBy 55 = .ok (.aload_n 0, 1) := by decide +kernel
theorem dX9_sitBy_56 : decode cX9_sitBy 56 = .ok (.getfield 13, 3) := by decide +kernel
theorem dX9_sitBy_59 : decode cX9_sitBy 59 = .ok (.iload_n 1, 1) := by decide +kernel
theorem dX9_sitBy_60 : decode cX9_sitBy 60 = .ok (.iaload, 1) := by decide +kernel
theorem dX9_sitBy_61 : decode cX9_sitBy 61 = .ok (.iconst 2, 1) := by decide +kernel
theorem dX9_sitBy_62 : decode cX9_sitBy 62 = .ok (.idiv, 1) := by decide +kernel
theorem dX9_sitBy_63 : decode cX9_sitBy 63 = .ok (.iastore, 1) := by decide +kernel
theorem dX9_sitBy_64 : decode cX9_sitBy 64 = .ok (.iconst 0, 1) := by decide +kernel
theorem dX9_sitBy_65 : decode cX9_sitBy 65 = .ok (.ireturn, 1) := by decide +kernel
theorem dX9_rest_0 : decode cX9_rest 0 = .ok (.aload_n 0, 1) := by decide +kernel
theorem dX9_rest_1 : decode cX9_rest 1 = .ok (.getfield 13, 3) := by decide +kernel
theorem dX9_rest_4 : decode cX9_rest 4 = .ok (.bipush 13, 2) := by decide +kernel
theorem dX9_rest_6 : decode cX9_rest 6 = .ok (.iaload, 1) := by decide +kernel
theorem dX9_rest_7 : decode cX9_rest 7 = .ok (.bipush 99, 2) := by decide +kernel
theorem dX9_rest_9 : decode cX9_rest 9 = .ok (.if_icmp .ne 5, 3) := by decide +kernel
theorem dX9_rest_12 : decode cX9_rest 12 = .ok (.iconst 5, 1) := by decide +kernel
theorem dX9_rest_13 : decode cX9_rest 13 = .ok (.ireturn, 1) := by decide +kernel
theorem dX9_rest_14 : decode cX9_rest 14 = .ok (.aload_n 0, 1) := by decide +kernel
theorem dX9_rest_15 : decode cX9_rest 15 = .ok (.getfield 13, 3) := by decide +kernel
theorem dX9_rest_18 : decode cX9_rest 18 = .ok (.bipush 13, 2) := by decide +kernel
theorem dX9_rest_20 : decode cX9_rest 20 = .ok (.aload_n 0, 1) := by decide +kernel
theorem dX9_rest_21 : decode cX9_rest 21 = .ok (.getfield 13, 3) := by decide +kernel
theorem dX9_rest_24 : decode cX9_rest 24 = .ok (.bipush 13, 2) := by decide +kernel
theorem dX9_rest_26 : decode cX9_rest 26 = .ok (.iaload, 1) := by decide +kernel
theorem dX9_rest_27 : decode cX9_rest 27 = .ok (.bipush 79, 2) := by decide +kernel
theorem dX9_rest_29 : decode cX9_rest 29 = .ok (.if_icmp .le 8, 3) := by decide +kernel
theorem dX9_rest_32 : decode cX9_rest 32 = .ok (.bipush 99, 2) := by decide +kernel
theorem dX9_rest_34 : decode cX9_rest 34 = .ok (.goto 13, 3) := by decide +kernel
theorem dX9_rest_37 : decode cX9_rest 37 = .ok (.aload_n 0, 1) := by decide +kernel
theorem dX9_rest_38 : decode cX9_rest 38 = .ok (.getfield 13, 3) := by decide +kernel
theorem dX9_rest_41 : decode cX9_rest 41 = .ok (.bipush 13, 2) := by decide +kernel
theorem dX9_rest_43 : decode cX9_rest 43 = .ok (.iaload, 1) := by decide +kernel
theorem dX9_rest_44 : decode cX9_rest 44 = .ok (.bipush 20, 2) := by decide +kernel
theorem dX9_rest_46 : decode cX9_rest 46 = .ok (.iadd, 1) := by decide +kernel
theorem dX9_rest_47 : decode cX9_rest 47 = .ok (.iastore, 1) := by decide +kernel
theorem dX9_rest_48 : decode cX9_rest 48 = .ok (.iconst 0, 1) := by decide +kernel
theorem dX9_rest_49 : decode cX9_rest 49 = .ok (.ireturn, 1) := by decide +kernel
theorem dX9_endHour_0 : decode cX9_endHour 0 = .ok (.aload_n 0, 1) := by decide +kernel
theorem dX9_endHour_1 : decode cX9_endHour 1 = .ok (.getfield 13, 3) := by decide +kernel
theorem dX9_endHour_4 : decode cX9_endHour 4 = .ok (.bipush 14, 2) := by decide +kernel
theorem dX9_endHour_6 : decode cX9_endHour 6 = .ok (.iaload, 1) := by decide +kernel
theorem dX9_endHour_7 : decode cX9_endHour 7 = .ok (.bipush 99, 2) := by decide +kernel
theorem dX9_endHour_9 : decode cX9_endHour 9 = .ok (.if_icmp .ne 6, 3) := by decide +kernel
theorem dX9_endHour_12 : decode cX9_endHour 12 = .ok (.bipush 6, 2) := by decide +kernel
theorem dX9_endHour_14 : decode cX9_endHour 14 = .ok (.ireturn, 1) := by decide +kernel
theorem dX9_endHour_15 : decode cX9_endHour 15 = .ok (.aload_n 0, 1) := by decide +kernel
theorem dX9_endHour_16 : decode cX9_endHour 16 = .ok (.getfield 13, 3) := by decide +kernel
theorem dX9_endHour_19 : decode cX9_endHour 19 = .ok (.bipush 14, 2) := by decide +kernel
theorem dX9_endHour_21 : decode cX9_endHour 21 = .ok (.dup2, 1) := by decide +kernel
theorem dX9_endHour_22 : decode cX9_endHour 22 = .ok (.iaload, 1) := by decide +kernel
theorem dX9_endHour_23 : decode cX9_endHour 23 = .ok (.iconst 1, 1) := by decide +kernel
theorem dX9_endHour_24 : decode cX9_endHour 24 = .ok (.iadd, 1) := by decide +kernel
theorem dX9_endHour_25 : decode cX9_endHour 25 = .ok (.iastore, 1) := by decide +kernel
theorem dX9_endHour_26 : decode cX9_endHour 26 = .ok (.iconst 0, 1) := by decide +kernel
theorem dX9_endHour_27 : decode cX9_endHour 27 = .ok (.istore_n 1, 1) := by decide +kernel
theorem dX9_endHour_28 : decode cX9_endHour 28 = .ok (.iload_n 1, 1) := by decide +kernel
theorem dX9_endHour_29 : decode cX9_endHour 29 = .ok (.bipush 6, 2) := by decide +kernel
theorem dX9_endHour_31 : decode cX9_endHour 31 = .ok (.if_icmp .ge 56, 3) := by decide +kernel
theorem dX9_endHour_34 : decode cX9_endHour 34 = .ok (.aload_n 0, 1) := by decide +kernel
theorem dX9_endHour_35 : decode cX9_endHour 35 = .ok (.getfield 13, 3) := by decide +kernel
theorem dX9_endHour_38 : decode cX9_endHour 38 = .ok (.iload_n 1, 1) := by decide +kernel
theorem dX9_endHour_39 : decode cX9_endHour 39 = .ok (.aload_n 0, 1) := by decide +kernel
theorem dX9_endHour_40 : decode cX9_endHour 40 = .ok (.iload_n 1, 1) := by decide +kernel
theorem dX9_endHour_41 : decode cX9_endHour 41 = .ok (.invokevirtual 92, 3) := by decide +kernel
theorem dX9_endHour_44 : decode cX9_endHour 44 = .ok (.ifCond .ne 12, 3) := by decide +kernel
theorem dX9_endHour_47 : decode cX9_endHour 47 = .ok (.aload_n 0, 1) := by decide +kernel
theorem dX9_endHour_48 : decode cX9_endHour 48 = .ok (.getfield 13, 3) := by decide +kernel
theorem dX9_endHour_51 : decode cX9_endHour 51 = .ok (.iload_n 1, 1) := by decide +kernel
theorem dX9_endHour_52 : decode cX9_endHour 52 = .ok (.iaload, 1) := by decide +kernel
theorem dX9_endHour_53 : decode cX9_endHour 53 = .ok (.goto 27, 3) := by decide +kernel
theorem dX9_endHour_56 : decode cX9_endHour 56 = .ok (.aload_n 0, 1) := by decide +kernel
theorem dX9_endHour_57 : decode cX9_endHour 57 = .ok (.getfield 13, 3) := by decide +kernel
theorem dX9_endHour_60 : decode cX9_endHour 60 = .ok (.iload_n 1, 1) := by decide +kernel
theorem dX9_endHour_61 : decode cX9_endHour 61 = .ok (.iaload, 1) := by decide +kernel
theorem dX9_endHour_62 : decode cX9_endHour 62 = .ok (.bipush 96, 2) := by decide +kernel
theorem dX9_endHour_64 : decode cX9_endHour 64 = .ok (.if_icmp .le 8, 3) := by decide +kernel
theorem dX9_endHour_67 : decode cX9_endHour 67 = .ok (.bipush 99, 2) := by decide +kernel
theorem dX9_endHour_69 : decode cX9_endHour 69 = .ok (.goto 11, 3) := by decide +kernel
theorem dX9_endHour_72 : decode cX9_endHour 72 = .ok (.aload_n 0, 1) := by decide +kernel
theorem dX9_endHour_73 : decode cX9_endHour 73 = .ok (.getfield 13, 3) := by decide +kernel
theorem dX9_endHour_76 : decode cX9_endHour 76 = .ok (.iload_n 1, 1) := by decide +kernel
theorem dX9_endHour_77 : decode cX9_endHour 77 = .ok (.iaload, 1) := by decide +kernel
theorem dX9_endHour_78 : decode cX9_endHour 78 = .ok (.iconst 3, 1) := by decide +kernel
theorem dX9_endHour_79 : decode cX9_endHour 79 = .ok (.iadd, 1) := by decide +kernel
theorem dX9_endHour_80 : decode cX9_endHour 80 = .ok (.iastore, 1) := by decide +kernel
theorem dX9_endHour_81 : decode cX9_endHour 81 = .ok (.iinc 1 1, 3) := by decide +kernel
theorem dX9_endHour_84 : decode cX9_endHour 84 = .ok (.goto (-56), 3) := by decide +kernel
theorem dX9_endHour_87 : decode cX9_endHour 87 = .ok (.aload_n 0, 1) := by decide +kernel
theorem dX9_endHour_88 : decode cX9_endHour 88 = .ok (.getfield 13, 3) := by decide +kernel
theorem dX9_endHour_91 : decode cX9_endHour 91 = .ok (.bipush 13, 2) := by decide +kernel
theorem dX9_endHour_93 : decode cX9_endHour 93 = .ok (.aload_n 0, 1) := by decide +kernel
theorem dX9_endHour_94 : decode cX9_endHour 94 = .ok (.getfield 13, 3) := by decide +kernel
theorem dX9_endHour_97 : decode cX9_endHour 97 = .ok (.bipush 13, 2) := by decide +kernel
theorem dX9_endHour_99 : decode cX9_endHour 99 = .ok (.iaload, 1) := by decide +kernel
theorem dX9_endHour_100 : decode cX9_endHour 100 = .ok (.bipush 94, 2) := by decide +kernel
theorem dX9_endHour_102 : decode cX9_endHour 102 = .ok (.if_icmp .le 8, 3) := by decide +kernel
theorem dX9_endHour_105 : decode cX9_endHour 105 = .ok (.bipush 99, 2) := by decide +kernel
theorem dX9_endHour_107 : decode cX9_endHour 107 = .ok (.goto 12, 3) := by decide +kernel
theorem dX9_endHour_110 : decode cX9_endHour 110 = .ok (.aload_n 0, 1) := by decide +kernel
theorem dX9_endHour_111 : decode cX9_endHour 111 = .ok (.getfield 13, 3) := by decide +kernel
theorem dX9_endHour_114 : decode cX9_endHour 114 = .ok (.bipush 13, 2) := by decide +kernel
theorem dX9_endHour_116 : decode cX9_endHour 116 = .ok (.iaload, 1) := by decide +kernel
theorem dX9_endHour_117 : decode cX9_endHour 117 = .ok (.iconst 5, 1) := by decide +kernel
theorem dX9_endHour_118 : decode cX9_endHour 118 = .ok (.iadd, 1) := by decide +kernel
theorem dX9_endHour_119 : decode cX9_endHour 119 = .ok (.iastore, 1) := by decide +kernel
theorem dX9_endHour_120 : decode cX9_endHour 120 = .ok (.iconst 0, 1) := by decide +kernel
theorem dX9_endHour_121 : decode cX9_endHour 121 = .ok (.ireturn, 1) := by decide +kernel
theorem dX9_griefAct_0 : decode cX9_griefAct 0 = .ok (.iload_n 2, 1) := by decide +kernel
theorem dX9_griefAct_1 : decode cX9_griefAct 1 = .ok (.bipush 43, 2) := by decide +kernel
theorem dX9_griefAct_3 : decode cX9_griefAct 3 = .ok (.if_icmp .ne 12, 3) := by decide +kernel
theorem dX9_griefAct_6 : decode cX9_griefAct 6 = .ok (.aload_n 0, 1) := by decide +kernel
theorem dX9_griefAct_7 : decode cX9_griefAct 7 = .ok (.iload_n 1, 1) := by decide +kernel
theorem dX9_griefAct_8 : decode cX9_griefAct 8 = .ok (.iload_n 3, 1) := by decide +kernel
theorem dX9_griefAct_9 : decode cX9_griefAct 9 = .ok (.invokevirtual 96, 3) := by decide +kernel
theorem dX9_griefAct_12 : decode cX9_griefAct 12 = .ok (.goto 26, 3) := by decide +kernel
theorem dX9_griefAct_15 : decode cX9_griefAct 15 = .ok (.iload_n 2, 1) := by decide +kernel
theorem dX9_griefAct_16 : decode cX9_griefAct 16 = .ok (.bipush 95, 2) := by decide +kernel
theorem dX9_griefAct_18 : decode cX9_griefAct 18 = .ok (.if_icmp .ne 11, 3) := by decide +kernel
theorem dX9_griefAct_21 : decode cX9_griefAct 21 = .ok (.aload_n 0, 1) := by decide +kernel
theorem dX9_griefAct_22 : decode cX9_griefAct 22 = .ok (.iload_n 1, 1) := by decide +kernel
theorem dX9_griefAct_23 : decode cX9_griefAct 23 = .ok (.invokevirtual 100, 3) := by decide +kernel
theorem dX9_griefAct_26 : decode cX9_griefAct 26 = .ok (.goto 12, 3) := by decide +kernel
theorem dX9_griefAct_29 : decode cX9_griefAct 29 = .ok (.aload_n 0, 1) := by decide +kernel
theorem dX9_griefAct_30 : decode cX9_griefAct 30 = .ok (.iload_n 1, 1) := by decide +kernel
theorem dX9_griefAct_31 : decode cX9_griefAct 31 = .ok (.iload_n 2, 1) := by decide +kernel
theorem dX9_griefAct_32 : decode cX9_griefAct 32 = .ok (.bipush 48, 2) := by decide +kernel
theorem dX9_griefAct_34 : decode cX9_griefAct 34 = .ok (.isub, 1) := by decide +kernel
theorem dX9_griefAct_35 : decode cX9_griefAct 35 = .ok (.invokevirtual 103, 3) := by decide +kernel
theorem dX9_griefAct_38 : decode cX9_griefAct 38 = .ok (.ireturn, 1) := by decide +kernel
theorem dX9_goDays_0 : decode cX9_goDays 0 = .ok (.aload_n 0, 1) := by decide +kernel
theorem dX9_goDays_1 : decode cX9_goDays 1 = .ok (.invokevirtual 106, 3) := by decide +kernel
theorem dX9_goDays_4 : decode cX9_goDays 4 = .ok (.aload_n 0, 1) := by decide +kernel
theorem dX9_goDays_5 : decode cX9_goDays 5 = .ok (.iconst 0, 1) := by decide +kernel
theorem dX9_goDays_6 : decode cX9_goDays 6 = .ok (.putfield 109, 3) := by decide +kernel
theorem dX9_goDays_9 : decode cX9_goDays 9 = .ok (.iconst 0, 1) := by decide +kernel
theorem dX9_goDays_10 : decode cX9_goDays 10 = .ok (.istore_n 1, 1) := by decide +kernel
theorem dX9_goDays_11 : decode cX9_goDays 11 = .ok (.iload_n 1, 1) := by decide +kernel
theorem dX9_goDays_12 : decode cX9_goDays 12 = .ok (.aload_n 0, 1) := by decide +kernel
theorem dX9_goDays_13 : decode cX9_goDays 13 = .ok (.getfield 75, 3) := by decide +kernel
theorem dX9_goDays_16 : decode cX9_goDays 16 = .ok (.if_icmp .ge 170, 3) := by decide +kernel
theorem dX9_goDays_19 : decode cX9_goDays 19 = .ok (.aload_n 0, 1) := by decide +kernel
theorem dX9_goDays_20 : decode cX9_goDays 20 = .ok (.getfield 83, 3) := by decide +kernel
theorem dX9_goDays_23 : decode cX9_goDays 23 = .ok (.istore_n 2, 1) := by decide +kernel
theorem dX9_goDays_24 : decode cX9_goDays 24 = .ok (.aload_n 0, 1) := by decide +kernel
theorem dX9_goDays_25 : decode cX9_goDays 25 = .ok (.getfield 34, 3) := by decide +kernel
theorem dX9_goDays_28 : decode cX9_goDays 28 = .ok (.iload_n 1, 1) := by decide +kernel
theorem dX9_goDays_29 : decode cX9_goDays 29 = .ok (.iaload, 1) := by decide +kernel
theorem dX9_goDays_30 : decode cX9_goDays 30 = .ok (.istore_n 3, 1) := by decide +kernel
theorem dX9_goDays_31 : decode cX9_goDays 31 = .ok (.iload_n 3, 1) := by decide +kernel
theorem dX9_goDays_32 : decode cX9_goDays 32 = .ok (.bipush 65, 2) := by decide +kernel
theorem dX9_goDays_34 : decode cX9_goDays 34 = .ok (.bipush 70, 2) := by decide +kernel
theorem dX9_goDays_36 : decode cX9_goDays 36 = .ok (.invokestatic 63, 3) := by decide +kernel
theorem dX9_goDays_39 : decode cX9_goDays 39 = .ok (.ifCond .eq 67, 3) := by decide +kernel
theorem dX9_goDays_42 : decode cX9_goDays 42 = .ok (.aload_n 0, 1) := by decide +kernel
theorem dX9_goDays_43 : decode cX9_goDays 43 = .ok (.getfield 34, 3) := by decide +kernel
theorem dX9_goDays_46 : decode cX9_goDays 46 = .ok (.iload_n 1, 1) := by decide +kernel
theorem dX9_goDays_47 : decode cX9_goDays 47 = .ok (.iconst 1, 1) := by decide +kernel
theorem dX9_goDays_48 : decode cX9_goDays 48 = .ok (.iadd, 1) := by decide +kernel
theorem dX9_goDays_49 : decode cX9_goDays 49 = .ok (.iaload, 1) := by decide +kernel
theorem dX9_goDays_50 : decode cX9_goDays 50 = .ok (.istore 4, 2) := by decide +kernel
theorem dX9_goDays_52 : decode cX9_goDays 52 = .ok (.aload_n 0, 1) := by decide +kernel
theorem dX9_goDays_53 : decode cX9_goDays 53 = .ok (.aload_n 0, 1) := by decide +kernel
theorem dX9_goDays_54 : decode cX9_goDays 54 = .ok (.iload_n 3, 1) := by decide +kernel
theorem dX9_goDays_55 : decode cX9_goDays 55 = .ok (.bipush 65, 2) := by decide +kernel
theorem dX9_goDays_57 : decode cX9_goDays 57 = .ok (.isub, 1) := by decide +kernel
theorem dX9_goDays_58 : decode cX9_goDays 58 = .ok (.iload 4, 2) := by decide +kernel
theorem dX9_goDays_60 : decode cX9_goDays 60 = .ok (.iload 4, 2) := by decide +kernel
theorem dX9_goDays_62 : decode cX9_goDays 62 = .ok (.bipush 43, 2) := by decide +kernel
theorem dX9_goDays_64 : decode cX9_goDays 64 = .ok (.if_icmp .ne 17, 3) := by decide +kernel
theorem dX9_goDays_67 : decode cX9_goDays 67 = .ok (.aload_n 0, 1) := by decide +kernel
theorem dX9_goDays_68 : decode cX9_goDays 68 = .ok (.getfield 34, 3) := by decide +kernel
theorem dX9_goDays_71 : decode cX9_goDays 71 = .ok (.iload_n 1, 1) := by decide +kernel
theorem dX9_goDays_72 : decode cX9_goDays 72 = .ok (.iconst 2, 1) := by decide +kernel
theorem dX9_goDays_73 : decode cX9_goDays 73 = .ok (.iadd, 1) := by decide +kernel
theorem dX9_goDays_74 : decode cX9_goDays 74 = .ok (.iaload, 1) := by decide +kernel
theorem dX9_goDays_75 : decode cX9_goDays 75 = .ok (.bipush 65, 2) := by decide +kernel
theorem dX9_goDays_77 : decode cX9_goDays 77 = .ok (.isub, 1) := by decide +kernel
theorem dX9_goDays_78 : decode cX9_goDays 78 = .ok (.goto 4, 3) := by decide +kernel
theorem dX9_goDays_81 : decode cX9_goDays 81 = .ok (.iconst 0, 1) := by decide +kernel
theorem dX9_goDays_82 : decode cX9_goDays 82 = .ok (.invokevirtual 112, 3) := by decide +kernel
theorem dX9_goDays_85 : decode cX9_goDays 85 = .ok (.putfield 116, 3) := by decide +kernel
theorem dX9_goDays_88 : decode cX9_goDays 88 = .ok (.iload_n 1, 1) := by decide +kernel
theorem dX9_goDays_89 : decode cX9_goDays 89 = .ok (.iload 4, 2) := by decide +kernel
theorem dX9_goDays_91 : decode cX9_goDays 91 = .ok (.bipush 43, 2) := by decide +kernel
theorem dX9_goDays_93 : decode cX9_goDays 93 = .ok (.if_icmp .ne 7, 3) := by decide +kernel
theorem dX9_goDays_96 : decode cX9_goDays 96 = .ok (.iconst 3, 1) := by decide +kernel
theorem dX9_goDays_97 : decode cX9_goDays 97 = .ok (.goto 4, 3) := by decide +kernel
theorem dX9_goDays_100 : decode cX9_goDays 100 = .ok (.iconst 2, 1) := by decide +kernel
theorem dX9_goDays_101 : decode cX9_goDays 101 = .ok (.iadd, 1) := by decide +kernel
theorem dX9_goDays_102 : decode cX9_goDays 102 = .ok (.istore_n 1, 1) := by decide +kernel
theorem dX9_goDays_103 : decode cX9_goDays 103 = .ok (.goto 27, 3) := by decide +kernel
theorem dX9_goDays_106 : decode cX9_goDays 106 = .ok (.aload_n 0, 1) := by decide +kernel
theorem dX9_goDays_107 : decode cX9_goDays 107 = .ok (.iload_n 3, 1) := by decide +kernel
theorem dX9_goDays_108 : decode cX9_goDays 108 = .ok (.bipush 126, 2) := by decide +kernel
theorem dX9_goDays_110 : decode cX9_goDays 110 = .ok (.if_icmp .ne 10, 3) := by decide +kernel
theorem dX9_goDays_113 : decode cX9_goDays 113 = .ok (.aload_n 0, 1) := by decide +kernel
theorem dX9_goDays_114 : decode cX9_goDays 114 = .ok (.invokevirtual 119, 3) := by decide +kernel
theorem dX9_goDays_117 : decode cX9_goDays 117 = .ok (.goto 7, 3) := by decide +kernel
theorem dX9_goDays_120 : decode cX9_goDays 120 = .ok (.aload_n 0, 1) := by decide +kernel
theorem dX9_goDays_121 : decode cX9_goDays 121 = .ok (.invokevirtual 122, 3) := by decide +kernel
theorem dX9_goDays_124 : decode cX9_goDays 124 = .ok (.putfield 116, 3) := by decide +kernel
theorem dX9_goDays_127 : decode cX9_goDays 127 = .ok (.iinc 1 1, 3) := by decide +kernel
theorem dX9_goDays_130 : decode cX9_goDays 130 = .ok (.aload_n 0, 1) := by decide +kernel
theorem dX9_goDays_131 : decode cX9_goDays 131 = .ok (.getfield 116, 3) := by decide +kernel
theorem dX9_goDays_134 : decode cX9_goDays 134 = .ok (.ifCond .le 8, 3) := by decide +kernel
theorem dX9_goDays_137 : decode cX9_goDays 137 = .ok (.aload_n 0, 1) := by decide +kernel
theorem dX9_goDays_138 : decode cX9_goDays 138 = .ok (.getfield 109, 3) := by decide +kernel
theorem dX9_goDays_141 : decode cX9_goDays 141 = .ok (.ireturn, 1) := by decide +kernel
theorem dX9_goDays_142 : decode cX9_goDays 142 = .ok (.aload_n 0, 1) := by decide +kernel
theorem dX9_goDays_143 : decode cX9_goDays 143 = .ok (.getfield 83, 3) := by decide +kernel
theorem dX9_goDays_146 : decode cX9_goDays 146 = .ok (.iload_n 2, 1) := by decide +kernel
theorem dX9_goDays_147 : decode cX9_goDays 147 = .ok (.if_icmp .le 26, 3) := by decide +kernel
theorem dX9_goDays_150 : decode cX9_goDays 150 = .ok (.aload_n 0, 1) := by decide +kernel
theorem dX9_goDays_151 : decode cX9_goDays 151 = .ok (.getfield 86, 3) := by decide +kernel
theorem dX9_goDays_154 : decode cX9_goDays 154 = .ok (.ifCond .ge 19, 3) := by decide +kernel
theorem dX9_goDays_157 : decode cX9_goDays 157 = .ok (.aload_n 0, 1) := by decide +kernel
theorem dX9_goDays_158 : decode cX9_goDays 158 = .ok (.aload_n 0, 1) := by decide +kernel
theorem dX9_goDays_159 : decode cX9_goDays 159 = .ok (.getfield 109, 3) := by decide +kernel
theorem dX9_goDays_162 : decode cX9_goDays 162 = .ok (.putfield 86, 3) := by decide +kernel
theorem dX9_goDays_165 : decode cX9_goDays 165 = .ok (.aload_n 0, 1) := by decide +kernel
theorem dX9_goDays_166 : decode cX9_goDays 166 = .ok (.iload_n 3, 1) := by decide +kernel
theorem dX9_goDays_167 : decode cX9_goDays 167 = .ok (.bipush 65, 2) := by decide +kernel
theorem dX9_goDays_169 : decode cX9_goDays 169 = .ok (.isub, 1) := by decide +kernel
theorem dX9_goDays_170 : decode cX9_goDays 170 = .ok (.putfield 89, 3) := by decide +kernel
theorem dX9_goDays_173 : decode cX9_goDays 173 = .ok (.aload_n 0, 1) := by decide +kernel
theorem dX9_goDays_174 : decode cX9_goDays 174 = .ok (.dup, 1) := by decide +kernel
theorem dX9_goDays_175 : decode cX9_goDays 175 = .ok (.getfield 109, 3) := by decide +kernel
theorem dX9_goDays_178 : decode cX9_goDays 178 = .ok (.iconst 1, 1) := by decide +kernel
theorem dX9_goDays_179 : decode cX9_goDays 179 = .ok (.iadd, 1) := by decide +kernel
theorem dX9_goDays_180 : decode cX9_goDays 180 = .ok (.putfield 109, 3) := by decide +kernel
theorem dX9_goDays_183 : decode cX9_goDays 183 = .ok (.goto (-172), 3) := by decide +kernel
theorem dX9_goDays_186 : decode cX9_goDays 186 = .ok (.bipush (-6), 2) := by decide +kernel
theorem dX9_goDays_188 : decode cX9_goDays 188 = .ok (.ireturn, 1) := by decide +kernel
theorem dX9_judge_0 : decode cX9_judge 0 = .ok (.iload_n 1, 1) := by decide +kernel
theorem dX9_judge_1 : decode cX9_judge 1 = .ok (.iconst 0, 1) := by decide +kernel
theorem dX9_judge_2 : decode cX9_judge 2 = .ok (.iconst 1, 1) := by decide +kernel
theorem dX9_judge_3 : decode cX9_judge 3 = .ok (.invokestatic 63, 3) := by decide +kernel
theorem dX9_judge_6 : decode cX9_judge 6 = .ok (.ifCond .ne 6, 3) := by decide +kernel
theorem dX9_judge_9 : decode cX9_judge 9 = .ok (.bipush (-2), 2) := by decide +kernel
theorem dX9_judge_11 : decode cX9_judge 11 = .ok (.ireturn, 1) := by decide +kernel
theorem dX9_judge_12 : decode cX9_judge 12 = .ok (.aload_n 0, 1) := by decide +kernel
theorem dX9_judge_13 : decode cX9_judge 13 = .ok (.invokevirtual 79, 3) := by decide +kernel
theorem dX9_judge_16 : decode cX9_judge 16 = .ok (.ifCond .lt 6, 3) := by decide +kernel
theorem dX9_judge_19 : decode cX9_judge 19 = .ok (.bipush (-5), 2) := by decide +kernel
theorem dX9_judge_21 : decode cX9_judge 21 = .ok (.ireturn, 1) := by decide +kernel
theorem dX9_judge_22 : decode cX9_judge 22 = .ok (.aload_n 0, 1) := by decide +kernel
theorem dX9_judge_23 : decode cX9_judge 23 = .ok (.invokevirtual 125, 3) := by decide +kernel
theorem dX9_judge_26 : decode cX9_judge 26 = .ok (.istore_n 2, 1) := by decide +kernel
theorem dX9_judge_27 : decode cX9_judge 27 = .ok (.iload_n 2, 1) := by decide +kernel
theorem dX9_judge_28 : decode cX9_judge 28 = .ok (.ifCond .lt 7, 3) := by decide +kernel
theorem dX9_judge_31 : decode cX9_judge 31 = .ok (.iload_n 1, 1) := by decide +kernel
theorem dX9_judge_32 : decode cX9_judge 32 = .ok (.ifCond .ne 7, 3) := by decide +kernel
theorem dX9_judge_35 : decode cX9_judge 35 = .ok (.iload_n 2, 1) := by decide +kernel
theorem dX9_judge_36 : decode cX9_judge 36 = .ok (.goto 7, 3) := by decide +kernel
theorem dX9_judge_39 : decode cX9_judge 39 = .ok (.aload_n 0, 1) := by decide +kernel
theorem dX9_judge_40 : decode cX9_judge 40 = .ok (.getfield 116, 3) := by decide +kernel
theorem dX9_judge_43 : decode cX9_judge 43 = .ok (.ireturn, 1) := by decide +kernel
theorem dX9_barOfDays_0 : decode cX9_barOfDays 0 = .ok (.aload_n 0, 1) := by decide +kernel
theorem dX9_barOfDays_1 : decode cX9_barOfDays 1 = .ok (.invokevirtual 79, 3) := by decide +kernel
theorem dX9_barOfDays_4 : decode cX9_barOfDays 4 = .ok (.ifCond .ge 10, 3) := by decide +kernel
theorem dX9_barOfDays_7 : decode cX9_barOfDays 7 = .ok (.aload_n 0, 1) := by decide +kernel
theorem dX9_barOfDays_8 : decode cX9_barOfDays 8 = .ok (.invokevirtual 125, 3) := by decide +kernel
theorem dX9_barOfDays_11 : decode cX9_barOfDays 11 = .ok (.ifCond .lt 8, 3) := by decide +kernel
theorem dX9_barOfDays_14 : decode cX9_barOfDays 14 = .ok (.bipush (-5), 2) := by decide +kernel
theorem dX9_barOfDays_16 : decode cX9_barOfDays 16 = .ok (.goto 4, 3) := by decide +kernel
theorem dX9_barOfDays_19 : decode cX9_barOfDays 19 = .ok (.iconst 0, 1) := by decide +kernel
theorem dX9_barOfDays_20 : decode cX9_barOfDays 20 = .ok (.ireturn, 1) := by decide +kernel
theorem dX9_done_0 : decode cX9_done 0 = .ok (.aload_n 0, 1) := by decide +kernel
theorem dX9_done_1 : decode cX9_done 1 = .ok (.invokevirtual 128, 3) := by decide +kernel
theorem dX9_done_4 : decode cX9_done 4 = .ok (.ifCond .ge 6, 3) := by decide +kernel
theorem dX9_done_7 : decode cX9_done 7 = .ok (.bipush (-5), 2) := by decide +kernel
theorem dX9_done_9 : decode cX9_done 9 = .ok (.ireturn, 1) := by decide +kernel
theorem dX9_done_10 : decode cX9_done 10 = .ok (.iconst 0, 1) := by decide +kernel
theorem dX9_done_11 : decode cX9_done 11 = .ok (.istore_n 1, 1) := by decide +kernel
theorem dX9_done_12 : decode cX9_done 12 = .ok (.iload_n 1, 1) := by decide +kernel
theorem dX9_done_13 : decode cX9_done 13 = .ok (.bipush 15, 2) := by decide +kernel
theorem dX9_done_15 : decode cX9_done 15 = .ok (.if_icmp .ge 21, 3) := by decide +kernel
theorem dX9_done_18 : decode cX9_done 18 = .ok (.aload_n 0, 1) := by decide +kernel
theorem dX9_done_19 : decode cX9_done 19 = .ok (.getfield 7, 3) := by decide +kernel
theorem dX9_done_22 : decode cX9_done 22 = .ok (.iload_n 1, 1) := by decide +kernel
theorem dX9_done_23 : decode cX9_done 23 = .ok (.aload_n 0, 1) := by decide +kernel
theorem dX9_done_24 : decode cX9_done 24 = .ok (.getfield 13, 3) := by decide +kernel
theorem dX9_done_27 : decode cX9_done 27 = .ok (.iload_n 1, 1) := by decide +kernel
theorem dX9_done_28 : decode cX9_done 28 = .ok (.iaload, 1) := by decide +kernel
theorem dX9_done_29 : decode cX9_done 29 = .ok (.iastore, 1) := by decide +kernel
theorem dX9_done_30 : decode cX9_done 30 = .ok (.iinc 1 1, 3) := by decide +kernel
theorem dX9_done_33 : decode cX9_done 33 = .ok (.goto (-21), 3) := by decide +kernel
theorem dX9_done_36 : decode cX9_done 36 = .ok (.aload_n 0, 1) := by decide +kernel
theorem dX9_done_37 : decode cX9_done 37 = .ok (.iconst 0, 1) := by decide +kernel
theorem dX9_done_38 : decode cX9_done 38 = .ok (.putfield 75, 3) := by decide +kernel
theorem dX9_done_41 : decode cX9_done 41 = .ok (.aload_n 0, 1) := by decide +kernel
theorem dX9_done_42 : decode cX9_done 42 = .ok (.getfield 109, 3) := by decide +kernel
theorem dX9_done_45 : decode cX9_done 45 = .ok (.ireturn, 1) := by decide +kernel
theorem dX9_behind_0 : decode cX9_behind 0 = .ok (.aload_n 0, 1) := by decide +kernel
theorem dX9_behind_1 : decode cX9_behind 1 = .ok (.iload_n 1, 1) := by decide +kernel
theorem dX9_behind_2 : decode cX9_behind 2 = .ok (.invokevirtual 131, 3) := by decide +kernel
theorem dX9_behind_5 : decode cX9_behind 5 = .ok (.ifCond .ne 5, 3) := by decide +kernel
theorem dX9_behind_8 : decode cX9_behind 8 = .ok (.iconst (-1), 1) := by decide +kernel
theorem dX9_behind_9 : decode cX9_behind 9 = .ok (.ireturn, 1) := by decide +kernel
theorem dX9_behind_10 : decode cX9_behind 10 = .ok (.iload_n 2, 1) := by decide +kernel
theorem dX9_behind_11 : decode cX9_behind 11 = .ok (.iconst 0, 1) := by decide +kernel
theorem dX9_behind_12 : decode cX9_behind 12 = .ok (.iconst 1, 1) := by decide +kernel
theorem dX9_behind_13 : decode cX9_behind 13 = .ok (.invokestatic 63, 3) := by decide +kernel
theorem dX9_behind_16 : decode cX9_behind 16 = .ok (.ifCond .ne 6, 3) := by decide +kernel
theorem dX9_behind_19 : decode cX9_behind 19 = .ok (.bipush (-2), 2) := by decide +kernel
theorem dX9_behind_21 : decode cX9_behind 21 = .ok (.ireturn, 1) := by decide +kernel
theorem dX9_behind_22 : decode cX9_behind 22 = .ok (.aload_n 0, 1) := by decide +kernel
theorem dX9_behind_23 : decode cX9_behind 23 = .ok (.invokevirtual 128, 3) := by decide +kernel
theorem dX9_behind_26 : decode cX9_behind 26 = .ok (.ifCond .ge 6, 3) := by decide +kernel
theorem dX9_behind_29 : decode cX9_behind 29 = .ok (.bipush (-5), 2) := by decide +kernel
theorem dX9_behind_31 : decode cX9_behind 31 = .ok (.ireturn, 1) := by decide +kernel
theorem dX9_behind_32 : decode cX9_behind 32 = .ok (.aload_n 0, 1) := by decide +kernel
theorem dX9_behind_33 : decode cX9_behind 33 = .ok (.iload_n 1, 1) := by decide +kernel
theorem dX9_behind_34 : decode cX9_behind 34 = .ok (.invokevirtual 92, 3) := by decide +kernel
theorem dX9_behind_37 : decode cX9_behind 37 = .ok (.ifCond .eq 17, 3) := by decide +kernel
theorem dX9_behind_40 : decode cX9_behind 40 = .ok (.aload_n 0, 1) := by decide +kernel
theorem dX9_behind_41 : decode cX9_behind 41 = .ok (.getfield 13, 3) := by decide +kernel
theorem dX9_behind_44 : decode cX9_behind 44 = .ok (.bipush 6, 2) := by decide +kernel
theorem dX9_behind_46 : decode cX9_behind 46 = .ok (.iload_n 2, 1) := by decide +kernel
theorem dX9_behind_47 : decode cX9_behind 47 = .ok (.imul, 1) := by decide +kernel
theorem dX9_behind_48 : decode cX9_behind 48 = .ok (.iload_n 1, 1) := by decide +kernel
theorem dX9_behind_49 : decode cX9_behind 49 = .ok (.iadd, 1) := by decide +kernel
theorem dX9_behind_50 : decode cX9_behind 50 = .ok (.iaload, 1) := by decide +kernel
theorem dX9_behind_51 : decode cX9_behind 51 = .ok (.goto 5, 3) := by decide +kernel
theorem dX9_behind_54 : decode cX9_behind 54 = .ok (.bipush (-6), 2) := by decide +kernel
theorem dX9_behind_56 : decode cX9_behind 56 = .ok (.ireturn, 1) := by decide +kernel
theorem dX9_then_0 : decode cX9_then 0 = .ok (.iload_n 1, 1) := by decide +kernel
theorem dX9_then_1 : decode cX9_then 1 = .ok (.iconst 0, 1) := by decide +kernel
theorem dX9_then_2 : decode cX9_then 2 = .ok (.iconst 5, 1) := by decide +kernel
theorem dX9_then_3 : decode cX9_then 3 = .ok (.invokestatic 63, 3) := by decide +kernel
theorem dX9_then_6 : decode cX9_then 6 = .ok (.ifCond .ne 6, 3) := by decide +kernel
theorem dX9_then_9 : decode cX9_then 9 = .ok (.bipush (-2), 2) := by decide +kernel
theorem dX9_then_11 : decode cX9_then 11 = .ok (.ireturn, 1) := by decide +kernel
theorem dX9_then_12 : decode cX9_then 12 = .ok (.aload_n 0, 1) := by decide +kernel
theorem dX9_then_13 : decode cX9_then 13 = .ok (.invokevirtual 128, 3) := by decide +kernel
theorem dX9_then_16 : decode cX9_then 16 = .ok (.ifCond .ge 6, 3) := by decide +kernel
theorem dX9_then_19 : decode cX9_then 19 = .ok (.bipush (-5), 2) := by decide +kernel
theorem dX9_then_21 : decode cX9_then 21 = .ok (.ireturn, 1) := by decide +kernel
theorem dX9_then_22 : decode cX9_then 22 = .ok (.iload_n 1, 1) := by decide +kernel
theorem dX9_then_23 : decode cX9_then 23 = .ok (.iconst 3, 1) := by decide +kernel
theorem dX9_then_24 : decode cX9_then 24 = .ok (.if_icmp .ge 15, 3) := by decide +kernel
theorem dX9_then_27 : decode cX9_then 27 = .ok (.aload_n 0, 1) := by decide +kernel
theorem dX9_then_28 : decode cX9_then 28 = .ok (.getfield 13, 3) := by decide +kernel
theorem dX9_then_31 : decode cX9_then 31 = .ok (.bipush 12, 2) := by decide +kernel
theorem dX9_then_33 : decode cX9_then 33 = .ok (.iload_n 1, 1) := by decide +kernel
theorem dX9_then_34 : decode cX9_then 34 = .ok (.iadd, 1) := by decide +kernel
theorem dX9_then_35 : decode cX9_then 35 = .ok (.iaload, 1) := by decide +kernel
theorem dX9_then_36 : decode cX9_then 36 = .ok (.goto 31, 3) := by decide +kernel
theorem dX9_then_39 : decode cX9_then 39 = .ok (.iload_n 1, 1) := by decide +kernel
theorem dX9_then_40 : decode cX9_then 40 = .ok (.iconst 3, 1) := by decide +kernel
theorem dX9_then_41 : decode cX9_then 41 = .ok (.if_icmp .ne 10, 3) := by decide +kernel
theorem dX9_then_44 : decode cX9_then 44 = .ok (.aload_n 0, 1) := by decide +kernel
theorem dX9_then_45 : decode cX9_then 45 = .ok (.getfield 83, 3) := by decide +kernel
theorem dX9_then_48 : decode cX9_then 48 = .ok (.goto 19, 3) := by decide +kernel
theorem dX9_then_51 : decode cX9_then 51 = .ok (.iload_n 1, 1) := by decide +kernel
theorem dX9_then_52 : decode cX9_then 52 = .ok (.iconst 4, 1) := by decide +kernel
theorem dX9_then_53 : decode cX9_then 53 = .ok (.if_icmp .ne 10, 3) := by decide +kernel
theorem dX9_then_56 : decode cX9_then 56 = .ok (.aload_n 0, 1) := by decide +kernel
theorem dX9_then_57 : decode cX9_then 57 = .ok (.getfield 86, 3) := by decide +kernel
theorem dX9_then_60 : decode cX9_then 60 = .ok (.goto 7, 3) := by decide +kernel
theorem dX9_then_63 : decode cX9_then 63 = .ok (.aload_n 0, 1) := by decide +kernel
theorem dX9_then_64 : decode cX9_then 64 = .ok (.getfield 89, 3) := by decide +kernel
theorem dX9_then_67 : decode cX9_then 67 = .ok (.ireturn, 1) := by decide +kernel
theorem dX9_fitsOf_0 : decode cX9_fitsOf 0 = .ok (.iconst 0, 1) := by decide +kernel
theorem dX9_fitsOf_1 : decode cX9_fitsOf 1 = .ok (.istore_n 2, 1) := by decide +kernel
theorem dX9_fitsOf_2 : decode cX9_fitsOf 2 = .ok (.iconst 0, 1) := by decide +kernel
theorem dX9_fitsOf_3 : decode cX9_fitsOf 3 = .ok (.istore_n 3, 1) := by decide +kernel
theorem dX9_fitsOf_4 : decode cX9_fitsOf 4 = .ok (.iload_n 3, 1) := by decide +kernel
theorem dX9_fitsOf_5 : decode cX9_fitsOf 5 = .ok (.bipush 6, 2) := by decide +kernel
theorem dX9_fitsOf_7 : decode cX9_fitsOf 7 = .ok (.if_icmp .ge 40, 3) := by decide +kernel
theorem dX9_fitsOf_10 : decode cX9_fitsOf 10 = .ok (.iload_n 2, 1) := by decide +kernel
theorem dX9_fitsOf_11 : decode cX9_fitsOf 11 = .ok (.aload_n 0, 1) := by decide +kernel
theorem dX9_fitsOf_12 : decode cX9_fitsOf 12 = .ok (.getfield 16, 3) := by decide +kernel
theorem dX9_fitsOf_15 : decode cX9_fitsOf 15 = .ok (.iload_n 3, 1) := by decide +kernel
theorem dX9_fitsOf_16 : decode cX9_fitsOf 16 = .ok (.iaload, 1) := by decide +kernel
theorem dX9_fitsOf_17 : decode cX9_fitsOf 17 = .ok (.aload_n 0, 1) := by decide +kernel
theorem dX9_fitsOf_18 : decode cX9_fitsOf 18 = .ok (.getfield 7, 3) := by decide +kernel
theorem dX9_fitsOf_21 : decode cX9_fitsOf 21 = .ok (.bipush 6, 2) := by decide +kernel
theorem dX9_fitsOf_23 : decode cX9_fitsOf 23 = .ok (.iload_n 1, 1) := by decide +kernel
theorem dX9_fitsOf_24 : decode cX9_fitsOf 24 = .ok (.iadd, 1) := by decide +kernel
theorem dX9_fitsOf_25 : decode cX9_fitsOf 25 = .ok (.iaload, 1) := by decide +kernel
theorem dX9_fitsOf_26 : decode cX9_fitsOf 26 = .ok (.iconst (-1), 1) := by decide +kernel
theorem dX9_fitsOf_27 : decode cX9_fitsOf 27 = .ok (.ixor, 1) := by decide +kernel
theorem dX9_fitsOf_28 : decode cX9_fitsOf 28 = .ok (.iand, 1) := by decide +kernel
theorem dX9_fitsOf_29 : decode cX9_fitsOf 29 = .ok (.ifCond .ne 9, 3) := by decide +kernel
theorem dX9_fitsOf_32 : decode cX9_fitsOf 32 = .ok (.iconst 1, 1) := by decide +kernel
theorem dX9_fitsOf_33 : decode cX9_fitsOf 33 = .ok (.iload_n 3, 1) := by decide +kernel
theorem dX9_fitsOf_34 : decode cX9_fitsOf 34 = .ok (.ishl, 1) := by decide +kernel
theorem dX9_fitsOf_35 : decode cX9_fitsOf 35 = .ok (.goto 4, 3) := by decide +kernel
theorem dX9_fitsOf_38 : decode cX9_fitsOf 38 = .ok (.iconst 0, 1) := by decide +kernel
theorem dX9_fitsOf_39 : decode cX9_fitsOf 39 = .ok (.ior, 1) := by decide +kernel
theorem dX9_fitsOf_40 : decode cX9_fitsOf 40 = .ok (.istore_n 2, 1) := by decide +kernel
theorem dX9_fitsOf_41 : decode cX9_fitsOf 41 = .ok (.iinc 3 1, 3) := by decide +kernel
theorem dX9_fitsOf_44 : decode cX9_fitsOf 44 = .ok (.goto (-40), 3) := by decide +kernel
theorem dX9_fitsOf_47 : decode cX9_fitsOf 47 = .ok (.iload_n 2, 1) := by decide +kernel
theorem dX9_fitsOf_48 : decode cX9_fitsOf 48 = .ok (.ireturn, 1) := by decide +kernel
theorem dX9_fitting_0 : decode cX9_fitting 0 = .ok (.aload_n 0, 1) := by decide +kernel
theorem dX9_fitting_1 : decode cX9_fitting 1 = .ok (.iload_n 1, 1) := by decide +kernel
theorem dX9_fitting_2 : decode cX9_fitting 2 = .ok (.invokevirtual 131, 3) := by decide +kernel
theorem dX9_fitting_5 : decode cX9_fitting 5 = .ok (.ifCond .eq 11, 3) := by decide +kernel
theorem dX9_fitting_8 : decode cX9_fitting 8 = .ok (.aload_n 0, 1) := by decide +kernel
theorem dX9_fitting_9 : decode cX9_fitting 9 = .ok (.iload_n 1, 1) := by decide +kernel
theorem dX9_fitting_10 : decode cX9_fitting 10 = .ok (.invokevirtual 134, 3) := by decide +kernel
theorem dX9_fitting_13 : decode cX9_fitting 13 = .ok (.goto 4, 3) := by decide +kernel
theorem dX9_fitting_16 : decode cX9_fitting 16 = .ok (.iconst (-1), 1) := by decide +kernel
theorem dX9_fitting_17 : decode cX9_fitting 17 = .ok (.ireturn, 1) := by decide +kernel
theorem dX9_leastOf_0 : decode cX9_leastOf 0 = .ok (.aload_n 0, 1) := by decide +kernel
theorem dX9_leastOf_1 : decode cX9_leastOf 1 = .ok (.iload_n 1, 1) := by decide +kernel
theorem dX9_leastOf_2 : decode cX9_leastOf 2 = .ok (.invokevirtual 134, 3) := by decide +kernel
theorem dX9_leastOf_5 : decode cX9_leastOf 5 = .ok (.istore_n 2, 1) := by decide +kernel
theorem dX9_leastOf_6 : decode cX9_leastOf 6 = .ok (.iconst 1, 1) := by decide +kernel
theorem dX9_leastOf_7 : decode cX9_leastOf 7 = .ok (.istore_n 3, 1) := by decide +kernel
theorem dX9_leastOf_8 : decode cX9_leastOf 8 = .ok (.iload_n 3, 1) := by decide +kernel
theorem dX9_leastOf_9 : decode cX9_leastOf 9 = .ok (.aload_n 0, 1) := by decide +kernel
theorem dX9_leastOf_10 : decode cX9_leastOf 10 = .ok (.getfield 7, 3) := by decide +kernel
theorem dX9_leastOf_13 : decode cX9_leastOf 13 = .ok (.iload_n 1, 1) := by decide +kernel
theorem dX9_leastOf_14 : decode cX9_leastOf 14 = .ok (.iaload, 1) := by decide +kernel
theorem dX9_leastOf_15 : decode cX9_leastOf 15 = .ok (.if_icmp .gt 128, 3) := by decide +kernel
theorem dX9_leastOf_18 : decode cX9_leastOf 18 = .ok (.aload_n 0, 1) := by decide +kernel
theorem dX9_leastOf_19 : decode cX9_leastOf 19 = .ok (.getfield 37, 3) := by decide +kernel
theorem dX9_leastOf_22 : decode cX9_leastOf 22 = .ok (.iload_n 3, 1) := by decide +kernel
theorem dX9_leastOf_23 : decode cX9_leastOf 23 = .ok (.ldc 137, 2) := by decide +kernel
theorem dX9_leastOf_25 : decode cX9_leastOf 25 = .ok (.iastore, 1) := by decide +kernel
theorem dX9_leastOf_26 : decode cX9_leastOf 26 = .ok (.iconst 0, 1) := by decide +kernel
theorem dX9_leastOf_27 : decode cX9_leastOf 27 = .ok (.istore 4, 2) := by decide +kernel
theorem dX9_leastOf_29 : decode cX9_leastOf 29 = .ok (.iload 4, 2) := by decide +kernel
theorem dX9_leastOf_31 : decode cX9_leastOf 31 = .ok (.bipush 6, 2) := by decide +kernel
theorem dX9_leastOf_33 : decode cX9_leastOf 33 = .ok (.if_icmp .ge 104, 3) := by decide +kernel
theorem dX9_leastOf_36 : decode cX9_leastOf 36 = .ok (.iload_n 3, 1) := by decide +kernel
theorem dX9_leastOf_37 : decode cX9_leastOf 37 = .ok (.aload_n 0, 1) := by decide +kernel
theorem dX9_leastOf_38 : decode cX9_leastOf 38 = .ok (.getfield 19, 3) := by decide +kernel
theorem dX9_leastOf_41 : decode cX9_leastOf 41 = .ok (.iload 4, 2) := by decide +kernel
theorem dX9_leastOf_43 : decode cX9_leastOf 43 = .ok (.iaload, 1) := by decide +kernel
theorem dX9_leastOf_44 : decode cX9_leastOf 44 = .ok (.if_icmp .le 15, 3) := by decide +kernel
theorem dX9_leastOf_47 : decode cX9_leastOf 47 = .ok (.iload_n 3, 1) := by decide +kernel
theorem dX9_leastOf_48 : decode cX9_leastOf 48 = .ok (.aload_n 0, 1) := by decide +kernel
theorem dX9_leastOf_49 : decode cX9_leastOf 49 = .ok (.getfield 19, 3) := by decide +kernel
theorem dX9_leastOf_52 : decode cX9_leastOf 52 = .ok (.iload 4, 2) := by decide +kernel
theorem dX9_leastOf_54 : decode cX9_leastOf 54 = .ok (.iaload, 1) := by decide +kernel
theorem dX9_leastOf_55 : decode cX9_leastOf 55 = .ok (.isub, 1) := by decide +kernel
theorem dX9_leastOf_56 : decode cX9_leastOf 56 = .ok (.goto 4, 3) := by decide +kernel
theorem dX9_leastOf_59 : decode cX9_leastOf 59 = .ok (.iconst 0, 1) := by decide +kernel
theorem dX9_leastOf_60 : decode cX9_leastOf 60 = .ok (.istore 5, 2) := by decide +kernel
theorem dX9_leastOf_62 : decode cX9_leastOf 62 = .ok (.iload 5, 2) := by decide +kernel
theorem dX9_leastOf_64 : decode cX9_leastOf 64 = .ok (.ifCond .ne 7, 3) := by decide +kernel
theorem dX9_leastOf_67 : decode cX9_leastOf 67 = .ok (.iconst 0, 1) := by decide +kernel
theorem dX9_leastOf_68 : decode cX9_leastOf 68 = .ok (.goto 10, 3) := by decide +kernel
theorem dX9_leastOf_71 : decode cX9_leastOf 71 = .ok (.aload_n 0, 1) := by decide +kernel
theorem dX9_leastOf_72 : decode cX9_leastOf 72 = .ok (.getfield 37, 3) := by decide +kernel
theorem dX9_leastOf_75 : decode cX9_leastOf 75 = .ok (.iload 5, 2) := by decide +kernel
theorem dX9_leastOf_77 : decode cX9_leastOf 77 = .ok (.iaload, 1) := by decide +kernel
theorem dX9_leastOf_78 : decode cX9_leastOf 78 = .ok (.sipush 1000, 3) := by decide +kernel
theorem dX9_leastOf_81 : decode cX9_leastOf 81 = .ok (.aload_n 0, 1) := by decide +kernel
theorem dX9_leastOf_82 : decode cX9_leastOf 82 = .ok (.getfield 22, 3) := by decide +kernel
theorem dX9_leastOf_85 : decode cX9_leastOf 85 = .ok (.iload 4, 2) := by decide +kernel
theorem dX9_leastOf_87 : decode cX9_leastOf 87 = .ok (.iaload, 1) := by decide +kernel
theorem dX9_leastOf_88 : decode cX9_leastOf 88 = .ok (.imul, 1) := by decide +kernel
theorem dX9_leastOf_89 : decode cX9_leastOf 89 = .ok (.iadd, 1) := by decide +kernel
theorem dX9_leastOf_90 : decode cX9_leastOf 90 = .ok (.iconst 1, 1) := by decide +kernel
theorem dX9_leastOf_91 : decode cX9_leastOf 91 = .ok (.iadd, 1) := by decide +kernel
theorem dX9_leastOf_92 : decode cX9_leastOf 92 = .ok (.istore 6, 2) := by decide +kernel
theorem dX9_leastOf_94 : decode cX9_leastOf 94 = .ok (.aload_n 0, 1) := by decide +kernel
theorem dX9_leastOf_95 : decode cX9_leastOf 95 = .ok (.getfield 37, 3) := by decide +kernel
theorem dX9_leastOf_98 : decode cX9_leastOf 98 = .ok (.iload_n 3, 1) := by decide +kernel
theorem dX9_leastOf_99 : decode cX9_leastOf 99 = .ok (.iload_n 2, 1) := by decide +kernel
theorem dX9_leastOf_100 : decode cX9_leastOf 100 = .ok (.iload 4, 2) := by decide +kernel
theorem dX9_leastOf_102 : decode cX9_leastOf 102 = .ok (.invokestatic 67, 3) := by decide +kernel
theorem dX9_leastOf_105 : decode cX9_leastOf 105 = .ok (.ifCond .eq 19, 3) := by decide +kernel
theorem dX9_leastOf_108 : decode cX9_leastOf 108 = .ok (.iload 6, 2) := by decide +kernel
theorem dX9_leastOf_110 : decode cX9_leastOf 110 = .ok (.aload_n 0, 1) := by decide +kernel
theorem dX9_leastOf_111 : decode cX9_leastOf 111 = .ok (.getfield 37, 3) := by decide +kernel
theorem dX9_leastOf_114 : decode cX9_leastOf 114 = .ok (.iload_n 3, 1) := by decide +kernel
theorem dX9_leastOf_115 : decode cX9_leastOf 115 = .ok (.iaload, 1) := by decide +kernel
theorem dX9_leastOf_116 : decode cX9_leastOf 116 = .ok (.if_icmp .ge 8, 3) := by decide +kernel
theorem dX9_leastOf_119 : decode cX9_leastOf 119 = .ok (.iload 6, 2) := by decide +kernel
theorem dX9_leastOf_121 : decode cX9_leastOf 121 = .ok (.goto 9, 3) := by decide +kernel
theorem dX9_leastOf_124 : decode cX9_leastOf 124 = .ok (.aload_n 0, 1) := by decide +kernel
theorem dX9_leastOf_125 : decode cX9_leastOf 125 = .ok (.getfield 37, 3) := by decide +kernel
theorem dX9_leastOf_128 : decode cX9_leastOf 128 = .ok (.iload_n 3, 1) := by decide +kernel
theorem dX9_leastOf_129 : decode cX9_leastOf 129 = .ok (.iaload, 1) := by decide +kernel
theorem dX9_leastOf_130 : decode cX9_leastOf 130 = .ok (.iastore, 1) := by decide +kernel
theorem dX9_leastOf_131 : decode cX9_leastOf 131 = .ok (.iinc 4 1, 3) := by decide +kernel
theorem dX9_leastOf_134 : decode cX9_leastOf 134 = .ok (.goto (-105), 3) := by decide +kernel
theorem dX9_leastOf_137 : decode cX9_leastOf 137 = .ok (.iinc 3 1, 3) := by decide +kernel
theorem dX9_leastOf_140 : decode cX9_leastOf 140 = .ok (.goto (-132), 3) := by decide +kernel
theorem dX9_leastOf_143 : decode cX9_leastOf 143 = .ok (.aload_n 0, 1) := by decide +kernel
theorem dX9_leastOf_144 : decode cX9_leastOf 144 = .ok (.getfield 37, 3) := by decide +kernel
theorem dX9_leastOf_147 : decode cX9_leastOf 147 = .ok (.aload_n 0, 1) := by decide +kernel
theorem dX9_leastOf_148 : decode cX9_leastOf 148 = .ok (.getfield 7, 3) := by decide +kernel
theorem dX9_leastOf_151 : decode cX9_leastOf 151 = .ok (.iload_n 1, 1) := by decide +kernel
theorem dX9_leastOf_152 : decode cX9_leastOf 152 = .ok (.iaload, 1) := by decide +kernel
theorem dX9_leastOf_153 : decode cX9_leastOf 153 = .ok (.iaload, 1) := by decide +kernel
theorem dX9_leastOf_154 : decode cX9_leastOf 154 = .ok (.ireturn, 1) := by decide +kernel
theorem dX9_least_0 : decode cX9_least 0 = .ok (.aload_n 0, 1) := by decide +kernel
theorem dX9_least_1 : decode cX9_least 1 = .ok (.iload_n 1, 1) := by decide +kernel
theorem dX9_least_2 : decode cX9_least 2 = .ok (.invokevirtual 131, 3) := by decide +kernel
theorem dX9_least_5 : decode cX9_least 5 = .ok (.ifCond .ne 5, 3) := by decide +kernel
theorem dX9_least_8 : decode cX9_least 8 = .ok (.iconst (-1), 1) := by decide +kernel
theorem dX9_least_9 : decode cX9_least 9 = .ok (.ireturn, 1) := by decide +kernel
theorem dX9_least_10 : decode cX9_least 10 = .ok (.iload_n 2, 1) := by decide +kernel
theorem dX9_least_11 : decode cX9_least 11 = .ok (.iconst 0, 1) := by decide +kernel
theorem dX9_least_12 : decode cX9_least 12 = .ok (.iconst 1, 1) := by decide +kernel
theorem dX9_least_13 : decode cX9_least 13 = .ok (.invokestatic 63, 3) := by decide +kernel
theorem dX9_least_16 : decode cX9_least 16 = .ok (.ifCond .ne 6, 3) := by decide +kernel
theorem dX9_least_19 : decode cX9_least 19 = .ok (.bipush (-2), 2) := by decide +kernel
theorem dX9_least_21 : decode cX9_least 21 = .ok (.ireturn, 1) := by decide +kernel
theorem dX9_least_22 : decode cX9_least 22 = .ok (.aload_n 0, 1) := by decide +kernel
theorem dX9_least_23 : decode cX9_least 23 = .ok (.iload_n 1, 1) := by decide +kernel
theorem dX9_least_24 : decode cX9_least 24 = .ok (.invokevirtual 138, 3) := by decide +kernel
theorem dX9_least_27 : decode cX9_least 27 = .ok (.istore_n 3, 1) := by decide +kernel
theorem dX9_least_28 : decode cX9_least 28 = .ok (.iload_n 3, 1) := by decide +kernel
theorem dX9_least_29 : decode cX9_least 29 = .ok (.ldc 137, 2) := by decide +kernel
theorem dX9_least_31 : decode cX9_least 31 = .ok (.if_icmp .lt 8, 3) := by decide +kernel
theorem dX9_least_34 : decode cX9_least 34 = .ok (.bipush (-6), 2) := by decide +kernel
theorem dX9_least_36 : decode cX9_least 36 = .ok (.goto 20, 3) := by decide +kernel
theorem dX9_least_39 : decode cX9_least 39 = .ok (.iload_n 2, 1) := by decide +kernel
theorem dX9_least_40 : decode cX9_least 40 = .ok (.ifCond .ne 11, 3) := by decide +kernel
theorem dX9_least_43 : decode cX9_least 43 = .ok (.iload_n 3, 1) := by decide +kernel
theorem dX9_least_44 : decode cX9_least 44 = .ok (.sipush 1000, 3) := by decide +kernel
theorem dX9_least_47 : decode cX9_least 47 = .ok (.idiv, 1) := by decide +kernel
theorem dX9_least_48 : decode cX9_least 48 = .ok (.goto 8, 3) := by decide +kernel
theorem dX9_least_51 : decode cX9_least 51 = .ok (.iload_n 3, 1) := by decide +kernel
theorem dX9_least_52 : decode cX9_least 52 = .ok (.sipush 1000, 3) := by decide +kernel
theorem dX9_least_55 : decode cX9_least 55 = .ok (.irem, 1) := by decide +kernel
theorem dX9_least_56 : decode cX9_least 56 = .ok (.ireturn, 1) := by decide +kernel
theorem dX9_order_0 : decode cX9_order 0 = .ok (.iload_n 1, 1) := by decide +kernel
theorem dX9_order_1 : decode cX9_order 1 = .ok (.iconst 0, 1) := by decide +kernel
theorem dX9_order_2 : decode cX9_order 2 = .ok (.iconst 1, 1) := by decide +kernel
theorem dX9_order_3 : decode cX9_order 3 = .ok (.invokestatic 63, 3) := by decide +kernel
theorem dX9_order_6 : decode cX9_order 6 = .ok (.ifCond .ne 6, 3) := by decide +kernel
theorem dX9_order_9 : decode cX9_order 9 = .ok (.bipush (-2), 2) := by decide +kernel
theorem dX9_order_11 : decode cX9_order 11 = .ok (.ireturn, 1) := by decide +kernel
theorem dX9_order_12 : decode cX9_order 12 = .ok (.iconst 0, 1) := by decide +kernel
theorem dX9_order_13 : decode cX9_order 13 = .ok (.istore_n 2, 1) := by decide +kernel
theorem dX9_order_14 : decode cX9_order 14 = .ok (.iconst 0, 1) := by decide +kernel
theorem dX9_order_15 : decode cX9_order 15 = .ok (.istore_n 3, 1) := by decide +kernel
theorem dX9_order_16 : decode cX9_order 16 = .ok (.iload_n 3, 1) := by decide +kernel
theorem dX9_order_17 : decode cX9_order 17 = .ok (.bipush 6, 2) := by decide +kernel
theorem dX9_order_19 : decode cX9_order 19 = .ok (.if_icmp .ge 69, 3) := by decide +kernel
theorem dX9_order_22 : decode cX9_order 22 = .ok (.aload_n 0, 1) := by decide +kernel
theorem dX9_order_23 : decode cX9_order 23 = .ok (.iload_n 3, 1) := by decide +kernel
theorem dX9_order_24 : decode cX9_order 24 = .ok (.invokevirtual 131, 3) := by decide +kernel
theorem dX9_order_27 : decode cX9_order 27 = .ok (.ifCond .eq 11, 3) := by decide +kernel
theorem dX9_order_30 : decode cX9_order 30 = .ok (.aload_n 0, 1) := by decide +kernel
theorem dX9_order_31 : decode cX9_order 31 = .ok (.iload_n 3, 1) := by decide +kernel
theorem dX9_order_32 : decode cX9_order 32 = .ok (.invokevirtual 138, 3) := by decide +kernel
theorem dX9_order_35 : decode cX9_order 35 = .ok (.goto 5, 3) := by decide +kernel
theorem dX9_order_38 : decode cX9_order 38 = .ok (.ldc 137, 2) := by decide +kernel
theorem dX9_order_40 : decode cX9_order 40 = .ok (.istore 4, 2) := by decide +kernel
theorem dX9_order_42 : decode cX9_order 42 = .ok (.aload_n 0, 1) := by decide +kernel
theorem dX9_order_43 : decode cX9_order 43 = .ok (.getfield 40, 3) := by decide +kernel
theorem dX9_order_46 : decode cX9_order 46 = .ok (.iload_n 3, 1) := by decide +kernel
theorem dX9_order_47 : decode cX9_order 47 = .ok (.iload 4, 2) := by decide +kernel
theorem dX9_order_49 : decode cX9_order 49 = .ok (.ldc 137, 2) := by decide +kernel
theorem dX9_order_51 : decode cX9_order 51 = .ok (.if_icmp .lt 7, 3) := by decide +kernel
theorem dX9_order_54 : decode cX9_order 54 = .ok (.iconst 0, 1) := by decide +kernel
theorem dX9_order_55 : decode cX9_order 55 = .ok (.goto 9, 3) := by decide +kernel
theorem dX9_order_58 : decode cX9_order 58 = .ok (.iload 4, 2) := by decide +kernel
theorem dX9_order_60 : decode cX9_order 60 = .ok (.sipush 1000, 3) := by decide +kernel
theorem dX9_order_63 : decode cX9_order 63 = .ok (.irem, 1) := by decide +kernel
theorem dX9_order_64 : decode cX9_order 64 = .ok (.iastore, 1) := by decide +kernel
theorem dX9_order_65 : decode cX9_order 65 = .ok (.iload_n 2, 1) := by decide +kernel
theorem dX9_order_66 : decode cX9_order 66 = .ok (.iload 4, 2) := by decide +kernel
theorem dX9_order_68 : decode cX9_order 68 = .ok (.ldc 137, 2) := by decide +kernel
theorem dX9_order_70 : decode cX9_order 70 = .ok (.if_icmp .lt 7, 3) := by decide +kernel
theorem dX9_order_73 : decode cX9_order 73 = .ok (.iconst 0, 1) := by decide +kernel
theorem dX9_order_74 : decode cX9_order 74 = .ok (.goto 6, 3) := by decide +kernel
theorem dX9_order_77 : decode cX9_order 77 = .ok (.iconst 1, 1) := by decide +kernel
theorem dX9_order_78 : decode cX9_order 78 = .ok (.iload_n 3, 1) := by decide +kernel
theorem dX9_order_79 : decode cX9_order 79 = .ok (.ishl, 1) := by decide +kernel
theorem dX9_order_80 : decode cX9_order 80 = .ok (.ior, 1) := by decide +kernel
theorem dX9_order_81 : decode cX9_order 81 = .ok (.istore_n 2, 1) := by decide +kernel
theorem dX9_order_82 : decode cX9_order 82 = .ok (.iinc 3 1, 3) := by decide +kernel
theorem dX9_order_85 : decode cX9_order 85 = .ok (.goto (-69), 3) := by decide +kernel
theorem dX9_order_88 : decode cX9_order 88 = .ok (.bipush (-6), 2) := by decide +kernel
theorem dX9_order_90 : decode cX9_order 90 = .ok (.istore_n 3, 1) := by decide +kernel
theorem dX9_order_91 : decode cX9_order 91 = .ok (.bipush 63, 2) := by decide +kernel
theorem dX9_order_93 : decode cX9_order 93 = .ok (.istore 4, 2) := by decide +kernel
theorem dX9_order_95 : decode cX9_order 95 = .ok (.iload 4, 2) := by decide +kernel
theorem dX9_order_97 : decode cX9_order 97 = .ok (.ifCond .lt 177, 3) := by decide +kernel
theorem dX9_order_100 : decode cX9_order 100 = .ok (.iconst 0, 1) := by decide +kernel
theorem dX9_order_101 : decode cX9_order 101 = .ok (.istore 5, 2) := by decide +kernel
theorem dX9_order_103 : decode cX9_order 103 = .ok (.iconst 0, 1) := by decide +kernel
theorem dX9_order_104 : decode cX9_order 104 = .ok (.istore 6, 2) := by decide +kernel
theorem dX9_order_106 : decode cX9_order 106 = .ok (.iload 6, 2) := by decide +kernel
theorem dX9_order_108 : decode cX9_order 108 = .ok (.bipush 6, 2) := by decide +kernel
theorem dX9_order_110 : decode cX9_order 110 = .ok (.if_icmp .ge 35, 3) := by decide +kernel
theorem dX9_order_113 : decode cX9_order 113 = .ok (.iload 5, 2) := by decide +kernel
theorem dX9_order_115 : decode cX9_order 115 = .ok (.iload 4, 2) := by decide +kernel
theorem dX9_order_117 : decode cX9_order 117 = .ok (.iload 6, 2) := by decide +kernel
theorem dX9_order_119 : decode cX9_order 119 = .ok (.invokestatic 67, 3) := by decide +kernel
theorem dX9_order_122 : decode cX9_order 122 = .ok (.ifCond .eq 13, 3) := by decide +kernel
theorem dX9_order_125 : decode cX9_order 125 = .ok (.aload_n 0, 1) := by decide +kernel
theorem dX9_order_126 : decode cX9_order 126 = .ok (.getfield 40, 3) := by decide +kernel
theorem dX9_order_129 : decode cX9_order 129 = .ok (.iload 6, 2) := by decide +kernel
theorem dX9_order_131 : decode cX9_order 131 = .ok (.iaload, 1) := by decide +kernel
theorem dX9_order_132 : decode cX9_order 132 = .ok (.goto 4, 3) := by decide +kernel
theorem dX9_order_135 : decode cX9_order 135 = .ok (.iconst 0, 1) := by decide +kernel
theorem dX9_order_136 : decode cX9_order 136 = .ok (.iadd, 1) := by decide +kernel
theorem dX9_order_137 : decode cX9_order 137 = .ok (.istore 5, 2) := by decide +kernel
theorem dX9_order_139 : decode cX9_order 139 = .ok (.iinc 6 1, 3) := by decide +kernel
theorem dX9_order_142 : decode cX9_order 142 = .ok (.goto (-36), 3) := by decide +kernel
theorem dX9_order_145 : decode cX9_order 145 = .ok (.iload 4, 2) := by decide +kernel
theorem dX9_order_147 : decode cX9_order 147 = .ok (.iload_n 2, 1) := by decide +kernel
theorem dX9_order_148 : decode cX9_order 148 = .ok (.if_icmp .ne 7, 3) := by decide +kernel
theorem dX9_order_151 : decode cX9_order 151 = .ok (.iconst 0, 1) := by decide +kernel
theorem dX9_order_152 : decode cX9_order 152 = .ok (.goto 5, 3) := by decide +kernel
theorem dX9_order_155 : decode cX9_order 155 = .ok (.ldc 137, 2) := by decide +kernel
theorem dX9_order_157 : decode cX9_order 157 = .ok (.istore 6, 2) := by decide +kernel
theorem dX9_order_159 : decode cX9_order 159 = .ok (.iconst 5, 1) := by decide +kernel
theorem dX9_order_160 : decode cX9_order 160 = .ok (.istore 7, 2) := by decide +kernel
theorem dX9_order_162 : decode cX9_order 162 = .ok (.iload 7, 2) := by decide +kernel
theorem dX9_order_164 : decode cX9_order 164 = .ok (.ifCond .lt 95, 3) := by decide +kernel
theorem dX9_order_167 : decode cX9_order 167 = .ok (.iload 4, 2) := by decide +kernel
theorem dX9_order_169 : decode cX9_order 169 = .ok (.iload_n 2, 1) := by decide +kernel
theorem dX9_order_170 : decode cX9_order 170 = .ok (.iconst (-1), 1) := by decide +kernel
theorem dX9_order_171 : decode cX9_order 171 = .ok (.ixor, 1) := by decide +kernel
theorem dX9_order_172 : decode cX9_order 172 = .ok (.iand, 1) := by decide +kernel
theorem dX9_order_173 : decode cX9_order 173 = .ok (.ifCond .ne 86, 3) := by decide +kernel
theorem dX9_order_176 : decode cX9_order 176 = .ok (.iload_n 2, 1) := by decide +kernel
theorem dX9_order_177 : decode cX9_order 177 = .ok (.iload 4, 2) := by decide +kernel
theorem dX9_order_179 : decode cX9_order 179 = .ok (.iconst (-1), 1) := by decide +kernel
theorem dX9_order_180 : decode cX9_order 180 = .ok (.ixor, 1) := by decide +kernel
theorem dX9_order_181 : decode cX9_order 181 = .ok (.iand, 1) := by decide +kernel
theorem dX9_order_182 : decode cX9_order 182 = .ok (.iload 7, 2) := by decide +kernel
theorem dX9_order_184 : decode cX9_order 184 = .ok (.invokestatic 67, 3) := by decide +kernel
theorem dX9_order_187 : decode cX9_order 187 = .ok (.ifCond .eq 66, 3) := by decide +kernel
theorem dX9_order_190 : decode cX9_order 190 = .ok (.aload_n 0, 1) := by decide +kernel
theorem dX9_order_191 : decode cX9_order 191 = .ok (.getfield 43, 3) := by decide +kernel
theorem dX9_order_194 : decode cX9_order 194 = .ok (.iload 4, 2) := by decide +kernel
theorem dX9_order_196 : decode cX9_order 196 = .ok (.iconst 1, 1) := by decide +kernel
theorem dX9_order_197 : decode cX9_order 197 = .ok (.iload 7, 2) := by decide +kernel
theorem dX9_order_199 : decode cX9_order 199 = .ok (.ishl, 1) := by decide +kernel
theorem dX9_order_200 : decode cX9_order 200 = .ok (.ior, 1) := by decide +kernel
theorem dX9_order_201 : decode cX9_order 201 = .ok (.iaload, 1) := by decide +kernel
theorem dX9_order_202 : decode cX9_order 202 = .ok (.aload_n 0, 1) := by decide +kernel
theorem dX9_order_203 : decode cX9_order 203 = .ok (.getfield 7, 3) := by decide +kernel
theorem dX9_order_206 : decode cX9_order 206 = .ok (.iload 7, 2) := by decide +kernel
theorem dX9_order_208 : decode cX9_order 208 = .ok (.iaload, 1) := by decide +kernel
theorem dX9_order_209 : decode cX9_order 209 = .ok (.iload 5, 2) := by decide +kernel
theorem dX9_order_211 : decode cX9_order 211 = .ok (.aload_n 0, 1) := by decide +kernel
theorem dX9_order_212 : decode cX9_order 212 = .ok (.getfield 40, 3) := by decide +kernel
theorem dX9_order_215 : decode cX9_order 215 = .ok (.iload 7, 2) := by decide +kernel
theorem dX9_order_217 : decode cX9_order 217 = .ok (.iaload, 1) := by decide +kernel
theorem dX9_order_218 : decode cX9_order 218 = .ok (.iadd, 1) := by decide +kernel
theorem dX9_order_219 : decode cX9_order 219 = .ok (.imul, 1) := by decide +kernel
theorem dX9_order_220 : decode cX9_order 220 = .ok (.iadd, 1) := by decide +kernel
theorem dX9_order_221 : decode cX9_order 221 = .ok (.istore 8, 2) := by decide +kernel
theorem dX9_order_223 : decode cX9_order 223 = .ok (.iload 8, 2) := by decide +kernel
theorem dX9_order_225 : decode cX9_order 225 = .ok (.iload 6, 2) := by decide +kernel
theorem dX9_order_227 : decode cX9_order 227 = .ok (.if_icmp .gt 8, 3) := by decide +kernel
theorem dX9_order_230 : decode cX9_order 230 = .ok (.iload 7, 2) := by decide +kernel
theorem dX9_order_232 : decode cX9_order 232 = .ok (.goto 4, 3) := by decide +kernel
theorem dX9_order_235 : decode cX9_order 235 = .ok (.iload_n 3, 1) := by decide +kernel
theorem dX9_order_236 : decode cX9_order 236 = .ok (.istore_n 3, 1) := by decide +kernel
theorem dX9_order_237 : decode cX9_order 237 = .ok (.iload 8, 2) := by decide +kernel
theorem dX9_order_239 : decode cX9_order 239 = .ok (.iload 6, 2) := by decide +kernel
theorem dX9_order_241 : decode cX9_order 241 = .ok (.if_icmp .ge 8, 3) := by decide +kernel
theorem dX9_order_244 : decode cX9_order 244 = .ok (.iload 8, 2) := by decide +kernel
theorem dX9_order_246 : decode cX9_order 246 = .ok (.goto 5, 3) := by decide +kernel
theorem dX9_order_249 : decode cX9_order 249 = .ok (.iload 6, 2) := by decide +kernel
theorem dX9_order_251 : decode cX9_order 251 = .ok (.istore 6, 2) := by decide +kernel
theorem dX9_order_253 : decode cX9_order 253 = .ok (.iinc 7 (-1), 3) := by decide +kernel
theorem dX9_order_256 : decode cX9_order 256 = .ok (.goto (-94), 3) := by decide +kernel
theorem dX9_order_259 : decode cX9_order 259 = .ok (.aload_n 0, 1) := by decide +kernel
theorem dX9_order_260 : decode cX9_order 260 = .ok (.getfield 43, 3) := by decide +kernel
theorem dX9_order_263 : decode cX9_order 263 = .ok (.iload 4, 2) := by decide +kernel
theorem dX9_order_265 : decode cX9_order 265 = .ok (.iload 6, 2) := by decide +kernel
theorem dX9_order_267 : decode cX9_order 267 = .ok (.iastore, 1) := by decide +kernel
theorem dX9_order_268 : decode cX9_order 268 = .ok (.iinc 4 (-1), 3) := by decide +kernel
theorem dX9_order_271 : decode cX9_order 271 = .ok (.goto (-176), 3) := by decide +kernel
theorem dX9_order_274 : decode cX9_order 274 = .ok (.iload_n 1, 1) := by decide +kernel
theorem dX9_order_275 : decode cX9_order 275 = .ok (.ifCond .ne 12, 3) := by decide +kernel
theorem dX9_order_278 : decode cX9_order 278 = .ok (.aload_n 0, 1) := by decide +kernel
theorem dX9_order_279 : decode cX9_order 279 = .ok (.getfield 43, 3) := by decide +kernel
theorem dX9_order_282 : decode cX9_order 282 = .ok (.iconst 0, 1) := by decide +kernel
theorem dX9_order_283 : decode cX9_order 283 = .ok (.iaload, 1) := by decide +kernel
theorem dX9_order_284 : decode cX9_order 284 = .ok (.goto 13, 3) := by decide +kernel
theorem dX9_order_287 : decode cX9_order 287 = .ok (.iload_n 2, 1) := by decide +kernel
theorem dX9_order_288 : decode cX9_order 288 = .ok (.ifCond .ne 8, 3) := by decide +kernel
theorem dX9_order_291 : decode cX9_order 291 = .ok (.bipush (-6), 2) := by decide +kernel
theorem dX9_order_293 : decode cX9_order 293 = .ok (.goto 4, 3) := by decide +kernel
theorem dX9_order_296 : decode cX9_order 296 = .ok (.iload_n 3, 1) := by decide +kernel
theorem dX9_order_297 : decode cX9_order 297 = .ok (.ireturn, 1) := by decide +kernel
theorem dX9_make_0 : decode cX9_make 0 = .ok (.iload_n 1, 1) := by decide +kernel
theorem dX9_make_1 : decode cX9_make 1 = .ok (.iconst 0, 1) := by decide +kernel
theorem dX9_make_2 : decode cX9_make 2 = .ok (.sipush 255, 3) := by decide +kernel
theorem dX9_make_5 : decode cX9_make 5 = .ok (.invokestatic 63, 3) := by decide +kernel
theorem dX9_make_8 : decode cX9_make 8 = .ok (.ifCond .eq 12, 3) := by decide +kernel
theorem dX9_make_11 : decode cX9_make 11 = .ok (.iload_n 2, 1) := by decide +kernel
theorem dX9_make_12 : decode cX9_make 12 = .ok (.iconst 0, 1) := by decide +kernel
theorem dX9_make_13 : decode cX9_make 13 = .ok (.iconst 1, 1) := by decide +kernel
theorem dX9_make_14 : decode cX9_make 14 = .ok (.invokestatic 63, 3) := by decide +kernel
theorem dX9_make_17 : decode cX9_make 17 = .ok (.ifCond .ne 6, 3) := by decide +kernel
theorem dX9_make_20 : decode cX9_make 20 = .ok (.bipush (-2), 2) := by decide +kernel
theorem dX9_make_22 : decode cX9_make 22 = .ok (.ireturn, 1) := by decide +kernel
theorem dX9_make_23 : decode cX9_make 23 = .ok (.ldc 137, 2) := by decide +kernel
theorem dX9_make_25 : decode cX9_make 25 = .ok (.istore_n 3, 1) := by decide +kernel
theorem dX9_make_26 : decode cX9_make 26 = .ok (.bipush (-6), 2) := by decide +kernel
theorem dX9_make_28 : decode cX9_make 28 = .ok (.istore 4, 2) := by decide +kernel
theorem dX9_make_30 : decode cX9_make 30 = .ok (.iconst 0, 1) := by decide +kernel
theorem dX9_make_31 : decode cX9_make 31 = .ok (.istore 5, 2) := by decide +kernel
theorem dX9_make_33 : decode cX9_make 33 = .ok (.iload 5, 2) := by decide +kernel
theorem dX9_make_35 : decode cX9_make 35 = .ok (.bipush 64, 2) := by decide +kernel
theorem dX9_make_37 : decode cX9_make 37 = .ok (.if_icmp .ge 146, 3) := by decide +kernel
theorem dX9_make_40 : decode cX9_make 40 = .ok (.iconst 0, 1) := by decide +kernel
theorem dX9_make_41 : decode cX9_make 41 = .ok (.istore 6, 2) := by decide +kernel
theorem dX9_make_43 : decode cX9_make 43 = .ok (.iconst 0, 1) := by decide +kernel
theorem dX9_make_44 : decode cX9_make 44 = .ok (.istore 7, 2) := by decide +kernel
theorem dX9_make_46 : decode cX9_make 46 = .ok (.iconst 0, 1) := by decide +kernel
theorem dX9_make_47 : decode cX9_make 47 = .ok (.istore 8, 2) := by decide +kernel
theorem dX9_make_49 : decode cX9_make 49 = .ok (.iload 8, 2) := by decide +kernel
theorem dX9_make_51 : decode cX9_make 51 = .ok (.bipush 6, 2) := by decide +kernel
theorem dX9_make_53 : decode cX9_make 53 = .ok (.if_icmp .ge 64, 3) := by decide +kernel
theorem dX9_make_56 : decode cX9_make 56 = .ok (.iload 6, 2) := by decide +kernel
theorem dX9_make_58 : decode cX9_make 58 = .ok (.iload 5, 2) := by decide +kernel
theorem dX9_make_60 : decode cX9_make 60 = .ok (.iload 8, 2) := by decide +kernel
theorem dX9_make_62 : decode cX9_make 62 = .ok (.invokestatic 67, 3) := by decide +kernel
theorem dX9_make_65 : decode cX9_make 65 = .ok (.ifCond .eq 16, 3) := by decide +kernel
theorem dX9_make_68 : decode cX9_make 68 = .ok (.aload_n 0, 1) := by decide +kernel
theorem dX9_make_69 : decode cX9_make 69 = .ok (.getfield 7, 3) := by decide +kernel
theorem dX9_make_72 : decode cX9_make 72 = .ok (.bipush 6, 2) := by decide +kernel
theorem dX9_make_74 : decode cX9_make 74 = .ok (.iload 8, 2) := by decide +kernel
theorem dX9_make_76 : decode cX9_make 76 = .ok (.iadd, 1) := by decide +kernel
theorem dX9_make_77 : decode cX9_make 77 = .ok (.iaload, 1) := by decide +kernel
theorem dX9_make_78 : decode cX9_make 78 = .ok (.goto 4, 3) := by decide +kernel
theorem dX9_make_81 : decode cX9_make 81 = .ok (.iconst 0, 1) := by decide +kernel
theorem dX9_make_82 : decode cX9_make 82 = .ok (.ior, 1) := by decide +kernel
theorem dX9_make_83 : decode cX9_make 83 = .ok (.istore 6, 2) := by decide +kernel
theorem dX9_make_85 : decode cX9_make 85 = .ok (.iload 7, 2) := by decide +kernel
theorem dX9_make_87 : decode cX9_make 87 = .ok (.iload 5, 2) := by decide +kernel
theorem dX9_make_89 : decode cX9_make 89 = .ok (.iload 8, 2) := by decide +kernel
theorem dX9_make_91 : decode cX9_make 91 = .ok (.invokestatic 67, 3) := by decide +kernel
theorem dX9_make_94 : decode cX9_make 94 = .ok (.ifCond .eq 13, 3) := by decide +kernel
theorem dX9_make_97 : decode cX9_make 97 = .ok (.aload_n 0, 1) := by decide +kernel
theorem dX9_make_98 : decode cX9_make 98 = .ok (.getfield 7, 3) := by decide +kernel
theorem dX9_make_101 : decode cX9_make 101 = .ok (.iload 8, 2) := by decide +kernel
theorem dX9_make_103 : decode cX9_make 103 = .ok (.iaload, 1) := by decide +kernel
theorem dX9_make_104 : decode cX9_make 104 = .ok (.goto 4, 3) := by decide +kernel
theorem dX9_make_107 : decode cX9_make 107 = .ok (.iconst 0, 1) := by decide +kernel
theorem dX9_make_108 : decode cX9_make 108 = .ok (.iadd, 1) := by decide +kernel
theorem dX9_make_109 : decode cX9_make 109 = .ok (.istore 7, 2) := by decide +kernel
theorem dX9_make_111 : decode cX9_make 111 = .ok (.iinc 8 1, 3) := by decide +kernel
theorem dX9_make_114 : decode cX9_make 114 = .ok (.goto (-65), 3) := by decide +kernel
theorem dX9_make_117 : decode cX9_make 117 = .ok (.iload 5, 2) := by decide +kernel
theorem dX9_make_119 : decode cX9_make 119 = .ok (.aload_n 0, 1) := by decide +kernel
theorem dX9_make_120 : decode cX9_make 120 = .ok (.getfield 7, 3) := by decide +kernel
theorem dX9_make_123 : decode cX9_make 123 = .ok (.bipush 12, 2) := by decide +kernel
theorem dX9_make_125 : decode cX9_make 125 = .ok (.iaload, 1) := by decide +kernel
theorem dX9_make_126 : decode cX9_make 126 = .ok (.iconst (-1), 1) := by decide +kernel
theorem dX9_make_127 : decode cX9_make 127 = .ok (.ixor, 1) := by decide +kernel
theorem dX9_make_128 : decode cX9_make 128 = .ok (.iand, 1) := by decide +kernel
theorem dX9_make_129 : decode cX9_make 129 = .ok (.ifCond .ne 19, 3) := by decide +kernel
theorem dX9_make_132 : decode cX9_make 132 = .ok (.iload 6, 2) := by decide +kernel
theorem dX9_make_134 : decode cX9_make 134 = .ok (.iload_n 1, 1) := by decide +kernel
theorem dX9_make_135 : decode cX9_make 135 = .ok (.if_icmp .ne 13, 3) := by decide +kernel
theorem dX9_make_138 : decode cX9_make 138 = .ok (.iload 7, 2) := by decide +kernel
theorem dX9_make_140 : decode cX9_make 140 = .ok (.iload_n 3, 1) := by decide +kernel
theorem dX9_make_141 : decode cX9_make 141 = .ok (.if_icmp .ge 7, 3) := by decide +kernel
theorem dX9_make_144 : decode cX9_make 144 = .ok (.iconst 1, 1) := by decide +kernel
theorem dX9_make_145 : decode cX9_make 145 = .ok (.goto 4, 3) := by decide +kernel
theorem dX9_make_148 : decode cX9_make 148 = .ok (.iconst 0, 1) := by decide +kernel
theorem dX9_make_149 : decode cX9_make 149 = .ok (.istore 8, 2) := by decide +kernel
theorem dX9_make_151 : decode cX9_make 151 = .ok (.iload 8, 2) := by decide +kernel
theorem dX9_make_153 : decode cX9_make 153 = .ok (.ifCond .eq 8, 3) := by decide +kernel
theorem dX9_make_156 : decode cX9_make 156 = .ok (.iload 5, 2) := by decide +kernel
theorem dX9_make_158 : decode cX9_make 158 = .ok (.goto 5, 3) := by decide +kernel
theorem dX9_make_161 : decode cX9_make 161 = .ok (.iload 4, 2) := by decide +kernel
theorem dX9_make_163 : decode cX9_make 163 = .ok (.istore 4, 2) := by decide +kernel
theorem dX9_make_165 : decode cX9_make 165 = .ok (.iload 8, 2) := by decide +kernel
theorem dX9_make_167 : decode cX9_make 167 = .ok (.ifCond .eq 8, 3) := by decide +kernel
theorem dX9_make_170 : decode cX9_make 170 = .ok (.iload 7, 2) := by decide +kernel
theorem dX9_make_172 : decode cX9_make 172 = .ok (.goto 4, 3) := by decide +kernel
theorem dX9_make_175 : decode cX9_make 175 = .ok (.iload_n 3, 1) := by decide +kernel
theorem dX9_make_176 : decode cX9_make 176 = .ok (.istore_n 3, 1) := by decide +kernel
theorem dX9_make_177 : decode cX9_make 177 = .ok (.iinc 5 1, 3) := by decide +kernel
theorem dX9_make_180 : decode cX9_make 180 = .ok (.goto (-147), 3) := by decide +kernel
theorem dX9_make_183 : decode cX9_make 183 = .ok (.iload 4, 2) := by decide +kernel
theorem dX9_make_185 : decode cX9_make 185 = .ok (.ifCond .lt 8, 3) := by decide +kernel
theorem dX9_make_188 : decode cX9_make 188 = .ok (.iload_n 2, 1) := by decide +kernel
theorem dX9_make_189 : decode cX9_make 189 = .ok (.iconst 1, 1) := by decide +kernel
theorem dX9_make_190 : decode cX9_make 190 = .ok (.if_icmp .ne 8, 3) := by decide +kernel
theorem dX9_make_193 : decode cX9_make 193 = .ok (.iload 4, 2) := by decide +kernel
theorem dX9_make_195 : decode cX9_make 195 = .ok (.goto 4, 3) := by decide +kernel
theorem dX9_make_198 : decode cX9_make 198 = .ok (.iload_n 3, 1) := by decide +kernel
theorem dX9_make_199 : decode cX9_make 199 = .ok (.ireturn, 1) := by decide +kernel
theorem dX9_ring_0 : decode cX9_ring 0 = .ok (.iload_n 1, 1) := by decide +kernel
theorem dX9_ring_1 : decode cX9_ring 1 = .ok (.iconst 0, 1) := by decide +kernel
theorem dX9_ring_2 : decode cX9_ring 2 = .ok (.bipush 23, 2) := by decide +kernel
theorem dX9_ring_4 : decode cX9_ring 4 = .ok (.invokestatic 63, 3) := by decide +kernel
theorem dX9_ring_7 : decode cX9_ring 7 = .ok (.ifCond .eq 22, 3) := by decide +kernel
theorem dX9_ring_10 : decode cX9_ring 10 = .ok (.iload_n 2, 1) := by decide +kernel
theorem dX9_ring_11 : decode cX9_ring 11 = .ok (.iload_n 1, 1) := by decide +kernel
theorem dX9_ring_12 : decode cX9_ring 12 = .ok (.bipush 23, 2) := by decide +kernel
theorem dX9_ring_14 : decode cX9_ring 14 = .ok (.invokestatic 63, 3) := by decide +kernel
theorem dX9_ring_17 : decode cX9_ring 17 = .ok (.ifCond .eq 12, 3) := by decide +kernel
theorem dX9_ring_20 : decode cX9_ring 20 = .ok (.iload_n 3, 1) := by decide +kernel
theorem dX9_ring_21 : decode cX9_ring 21 = .ok (.iconst 0, 1) := by decide +kernel
theorem dX9_ring_22 : decode cX9_ring 22 = .ok (.iconst 1, 1) := by decide +kernel
theorem dX9_ring_23 : decode cX9_ring 23 = .ok (.invokestatic 63, 3) := by decide +kernel
theorem dX9_ring_26 : decode cX9_ring 26 = .ok (.ifCond .ne 6, 3) := by decide +kernel
theorem dX9_ring_29 : decode cX9_ring 29 = .ok (.bipush (-2), 2) := by decide +kernel
theorem dX9_ring_31 : decode cX9_ring 31 = .ok (.ireturn, 1) := by decide +kernel
theorem dX9_ring_32 : decode cX9_ring 32 = .ok (.bipush (-6), 2) := by decide +kernel
theorem dX9_ring_34 : decode cX9_ring 34 = .ok (.istore 4, 2) := by decide +kernel
theorem dX9_ring_36 : decode cX9_ring 36 = .ok (.iconst 1, 1) := by decide +kernel
theorem dX9_ring_37 : decode cX9_ring 37 = .ok (.istore 5, 2) := by decide +kernel
theorem dX9_ring_39 : decode cX9_ring 39 = .ok (.iload 5, 2) := by decide +kernel
theorem dX9_ring_41 : decode cX9_ring 41 = .ok (.sipush 256, 3) := by decide +kernel
theorem dX9_ring_44 : decode cX9_ring 44 = .ok (.if_icmp .ge 141, 3) := by decide +kernel
theorem dX9_ring_47 : decode cX9_ring 47 = .ok (.iload 4, 2) := by decide +kernel
theorem dX9_ring_49 : decode cX9_ring 49 = .ok (.ifCond .lt 16, 3) := by decide +kernel
theorem dX9_ring_52 : decode cX9_ring 52 = .ok (.iload 5, 2) := by decide +kernel
theorem dX9_ring_54 : decode cX9_ring 54 = .ok (.invokestatic 71, 3) := by decide +kernel
theorem dX9_ring_57 : decode cX9_ring 57 = .ok (.iload 4, 2) := by decide +kernel
theorem dX9_ring_59 : decode cX9_ring 59 = .ok (.invokestatic 71, 3) := by decide +kernel
theorem dX9_ring_62 : decode cX9_ring 62 = .ok (.if_icmp .ge 7, 3) := by decide +kernel
theorem dX9_ring_65 : decode cX9_ring 65 = .ok (.iconst 1, 1) := by decide +kernel
theorem dX9_ring_66 : decode cX9_ring 66 = .ok (.goto 4, 3) := by decide +kernel
theorem dX9_ring_69 : decode cX9_ring 69 = .ok (.iconst 0, 1) := by decide +kernel
theorem dX9_ring_70 : decode cX9_ring 70 = .ok (.istore 6, 2) := by decide +kernel
theorem dX9_ring_72 : decode cX9_ring 72 = .ok (.iload_n 1, 1) := by decide +kernel
theorem dX9_ring_73 : decode cX9_ring 73 = .ok (.istore 7, 2) := by decide +kernel
theorem dX9_ring_75 : decode cX9_ring 75 = .ok (.iload 7, 2) := by decide +kernel
theorem dX9_ring_77 : decode cX9_ring 77 = .ok (.iload_n 2, 1) := by decide +kernel
theorem dX9_ring_78 : decode cX9_ring 78 = .ok (.if_icmp .gt 87, 3) := by decide +kernel
theorem dX9_ring_81 : decode cX9_ring 81 = .ok (.iload 6, 2) := by decide +kernel
theorem dX9_ring_83 : decode cX9_ring 83 = .ok (.ifCond .eq 82, 3) := by decide +kernel
theorem dX9_ring_86 : decode cX9_ring 86 = .ok (.iconst 0, 1) := by decide +kernel
theorem dX9_ring_87 : decode cX9_ring 87 = .ok (.istore 8, 2) := by decide +kernel
theorem dX9_ring_89 : decode cX9_ring 89 = .ok (.iconst 0, 1) := by decide +kernel
theorem dX9_ring_90 : decode cX9_ring 90 = .ok (.istore 9, 2) := by decide +kernel
theorem dX9_ring_92 : decode cX9_ring 92 = .ok (.iload 9, 2) := by decide +kernel
theorem dX9_ring_94 : decode cX9_ring 94 = .ok (.bipush 8, 2) := by decide +kernel
theorem dX9_ring_96 : decode cX9_ring 96 = .ok (.if_icmp .ge 59, 3) := by decide +kernel
theorem dX9_ring_99 : decode cX9_ring 99 = .ok (.iload 8, 2) := by decide +kernel
theorem dX9_ring_101 : decode cX9_ring 101 = .ok (.ifCond .ne 41, 3) := by decide +kernel
theorem dX9_ring_104 : decode cX9_ring 104 = .ok (.iload 5, 2) := by decide +kernel
theorem dX9_ring_106 : decode cX9_ring 106 = .ok (.iload 9, 2) := by decide +kernel
theorem dX9_ring_108 : decode cX9_ring 108 = .ok (.invokestatic 67, 3) := by decide +kernel
theorem dX9_ring_111 : decode cX9_ring 111 = .ok (.ifCond .eq 35, 3) := by decide +kernel
theorem dX9_ring_114 : decode cX9_ring 114 = .ok (.iload 7, 2) := by decide +kernel
theorem dX9_ring_116 : decode cX9_ring 116 = .ok (.aload_n 0, 1) := by decide +kernel
theorem dX9_ring_117 : decode cX9_ring 117 = .ok (.getfield 25, 3) := by decide +kernel
theorem dX9_ring_120 : decode cX9_ring 120 = .ok (.iload 9, 2) := by decide +kernel
theorem dX9_ring_122 : decode cX9_ring 122 = .ok (.iaload, 1) := by decide +kernel
theorem dX9_ring_123 : decode cX9_ring 123 = .ok (.bipush 100, 2) := by decide +kernel
theorem dX9_ring_125 : decode cX9_ring 125 = .ok (.idiv, 1) := by decide +kernel
theorem dX9_ring_126 : decode cX9_ring 126 = .ok (.aload_n 0, 1) := by decide +kernel
theorem dX9_ring_127 : decode cX9_ring 127 = .ok (.getfield 25, 3) := by decide +kernel
theorem dX9_ring_130 : decode cX9_ring 130 = .ok (.iload 9, 2) := by decide +kernel
theorem dX9_ring_132 : decode cX9_ring 132 = .ok (.iaload, 1) := by decide +kernel
theorem dX9_ring_133 : decode cX9_ring 133 = .ok (.bipush 100, 2) := by decide +kernel
theorem dX9_ring_135 : decode cX9_ring 135 = .ok (.irem, 1) := by decide +kernel
theorem dX9_ring_136 : decode cX9_ring 136 = .ok (.invokestatic 63, 3) := by decide +kernel
theorem dX9_ring_139 : decode cX9_ring 139 = .ok (.ifCond .eq 7, 3) := by decide +kernel
theorem dX9_ring_142 : decode cX9_ring 142 = .ok (.iconst 1, 1) := by decide +kernel
theorem dX9_ring_143 : decode cX9_ring 143 = .ok (.goto 4, 3) := by decide +kernel
theorem dX9_ring_146 : decode cX9_ring 146 = .ok (.iconst 0, 1) := by decide +kernel
theorem dX9_ring_147 : decode cX9_ring 147 = .ok (.istore 8, 2) := by decide +kernel
theorem dX9_ring_149 : decode cX9_ring 149 = .ok (.iinc 9 1, 3) := by decide +kernel
theorem dX9_ring_152 : decode cX9_ring 152 = .ok (.goto (-60), 3) := by decide +kernel
theorem dX9_ring_155 : decode cX9_ring 155 = .ok (.iload 8, 2) := by decide +kernel
theorem dX9_ring_157 : decode cX9_ring 157 = .ok (.istore 6, 2) := by decide +kernel
theorem dX9_ring_159 : decode cX9_ring 159 = .ok (.iinc 7 1, 3) := by decide +kernel
theorem dX9_ring_162 : decode cX9_ring 162 = .ok (.goto (-87), 3) := by decide +kernel
theorem dX9_ring_165 : decode cX9_ring 165 = .ok (.iload 6, 2) := by decide +kernel
theorem dX9_ring_167 : decode cX9_ring 167 = .ok (.ifCond .eq 8, 3) := by decide +kernel
theorem dX9_ring_170 : decode cX9_ring 170 = .ok (.iload 5, 2) := by decide +kernel
theorem dX9_ring_172 : decode cX9_ring 172 = .ok (.goto 5, 3) := by decide +kernel
theorem dX9_ring_175 : decode cX9_ring 175 = .ok (.iload 4, 2) := by decide +kernel
theorem dX9_ring_177 : decode cX9_ring 177 = .ok (.istore 4, 2) := by decide +kernel
theorem dX9_ring_179 : decode cX9_ring 179 = .ok (.iinc 5 1, 3) := by decide +kernel
theorem dX9_ring_182 : decode cX9_ring 182 = .ok (.goto (-143), 3) := by decide +kernel
theorem dX9_ring_185 : decode cX9_ring 185 = .ok (.iload 4, 2) := by decide +kernel
theorem dX9_ring_187 : decode cX9_ring 187 = .ok (.ifCond .lt 8, 3) := by decide +kernel
theorem dX9_ring_190 : decode cX9_ring 190 = .ok (.iload_n 3, 1) := by decide +kernel
theorem dX9_ring_191 : decode cX9_ring 191 = .ok (.iconst 1, 1) := by decide +kernel
theorem dX9_ring_192 : decode cX9_ring 192 = .ok (.if_icmp .ne 8, 3) := by decide +kernel
theorem dX9_ring_195 : decode cX9_ring 195 = .ok (.iload 4, 2) := by decide +kernel
theorem dX9_ring_197 : decode cX9_ring 197 = .ok (.goto 8, 3) := by decide +kernel
theorem dX9_ring_200 : decode cX9_ring 200 = .ok (.iload 4, 2) := by decide +kernel
theorem dX9_ring_202 : decode cX9_ring 202 = .ok (.invokestatic 71, 3) := by decide +kernel
theorem dX9_ring_205 : decode cX9_ring 205 = .ok (.ireturn, 1) := by decide +kernel
theorem dX9_seen_0 : decode cX9_seen 0 = .ok (.iload_n 1, 1) := by decide +kernel
theorem dX9_seen_1 : decode cX9_seen 1 = .ok (.iconst 0, 1) := by decide +kernel
theorem dX9_seen_2 : decode cX9_seen 2 = .ok (.iconst 5, 1) := by decide +kernel
theorem dX9_seen_3 : decode cX9_seen 3 = .ok (.invokestatic 63, 3) := by decide +kernel
theorem dX9_seen_6 : decode cX9_seen 6 = .ok (.ifCond .ne 5, 3) := by decide +kernel
theorem dX9_seen_9 : decode cX9_seen 9 = .ok (.iconst (-1), 1) := by decide +kernel
theorem dX9_seen_10 : decode cX9_seen 10 = .ok (.ireturn, 1) := by decide +kernel
theorem dX9_seen_11 : decode cX9_seen 11 = .ok (.aload_n 0, 1) := by decide +kernel
theorem dX9_seen_12 : decode cX9_seen 12 = .ok (.getfield 141, 3) := by decide +kernel
theorem dX9_seen_15 : decode cX9_seen 15 = .ok (.bipush 8, 2) := by decide +kernel
theorem dX9_seen_17 : decode cX9_seen 17 = .ok (.if_icmp .ne 6, 3) := by decide +kernel
theorem dX9_seen_20 : decode cX9_seen 20 = .ok (.bipush (-4), 2) := by decide +kernel
theorem dX9_seen_22 : decode cX9_seen 22 = .ok (.ireturn, 1) := by decide +kernel
theorem dX9_seen_23 : decode cX9_seen 23 = .ok (.aload_n 0, 1) := by decide +kernel
theorem dX9_seen_24 : decode cX9_seen 24 = .ok (.getfield 31, 3) := by decide +kernel
theorem dX9_seen_27 : decode cX9_seen 27 = .ok (.iconst 2, 1) := by decide +kernel
theorem dX9_seen_28 : decode cX9_seen 28 = .ok (.aload_n 0, 1) := by decide +kernel
theorem dX9_seen_29 : decode cX9_seen 29 = .ok (.getfield 141, 3) := by decide +kernel
theorem dX9_seen_32 : decode cX9_seen 32 = .ok (.imul, 1) := by decide +kernel
theorem dX9_seen_33 : decode cX9_seen 33 = .ok (.iload_n 1, 1) := by decide +kernel
theorem dX9_seen_34 : decode cX9_seen 34 = .ok (.iastore, 1) := by decide +kernel
theorem dX9_seen_35 : decode cX9_seen 35 = .ok (.aload_n 0, 1) := by decide +kernel
theorem dX9_seen_36 : decode cX9_seen 36 = .ok (.getfield 31, 3) := by decide +kernel
theorem dX9_seen_39 : decode cX9_seen 39 = .ok (.iconst 2, 1) := by decide +kernel
theorem dX9_seen_40 : decode cX9_seen 40 = .ok (.aload_n 0, 1) := by decide +kernel
theorem dX9_seen_41 : decode cX9_seen 41 = .ok (.getfield 141, 3) := by decide +kernel
theorem dX9_seen_44 : decode cX9_seen 44 = .ok (.imul, 1) := by decide +kernel
theorem dX9_seen_45 : decode cX9_seen 45 = .ok (.iconst 1, 1) := by decide +kernel
theorem dX9_seen_46 : decode cX9_seen 46 = .ok (.iadd, 1) := by decide +kernel
theorem dX9_seen_47 : decode cX9_seen 47 = .ok (.iload_n 2, 1) := by decide +kernel
theorem dX9_seen_48 : decode cX9_seen 48 = .ok (.ifCond .eq 7, 3) := by decide +kernel
theorem dX9_seen_51 : decode cX9_seen 51 = .ok (.iconst 1, 1) := by decide +kernel
theorem dX9_seen_52 : decode cX9_seen 52 = .ok (.goto 4, 3) := by decide +kernel
theorem dX9_seen_55 : decode cX9_seen 55 = .ok (.iconst 0, 1) := by decide +kernel
theorem dX9_seen_56 : decode cX9_seen 56 = .ok (.iastore, 1) := by decide +kernel
theorem dX9_seen_57 : decode cX9_seen 57 = .ok (.aload_n 0, 1) := by decide +kernel
theorem dX9_seen_58 : decode cX9_seen 58 = .ok (.dup, 1) := by decide +kernel
theorem dX9_seen_59 : decode cX9_seen 59 = .ok (.getfield 141, 3) := by decide +kernel
theorem dX9_seen_62 : decode cX9_seen 62 = .ok (.iconst 1, 1) := by decide +kernel
theorem dX9_seen_63 : decode cX9_seen 63 = .ok (.iadd, 1) := by decide +kernel
theorem dX9_seen_64 : decode cX9_seen 64 = .ok (.putfield 141, 3) := by decide +kernel
theorem dX9_seen_67 : decode cX9_seen 67 = .ok (.aload_n 0, 1) := by decide +kernel
theorem dX9_seen_68 : decode cX9_seen 68 = .ok (.getfield 141, 3) := by decide +kernel
theorem dX9_seen_71 : decode cX9_seen 71 = .ok (.ireturn, 1) := by decide +kernel
theorem dX9_forget_0 : decode cX9_forget 0 = .ok (.aload_n 0, 1) := by decide +kernel
theorem dX9_forget_1 : decode cX9_forget 1 = .ok (.getfield 141, 3) := by decide +kernel
theorem dX9_forget_4 : decode cX9_forget 4 = .ok (.istore_n 1, 1) := by decide +kernel
theorem dX9_forget_5 : decode cX9_forget 5 = .ok (.aload_n 0, 1) := by decide +kernel
theorem dX9_forget_6 : decode cX9_forget 6 = .ok (.iconst 0, 1) := by decide +kernel
theorem dX9_forget_7 : decode cX9_forget 7 = .ok (.putfield 141, 3) := by decide +kernel
theorem dX9_forget_10 : decode cX9_forget 10 = .ok (.iload_n 1, 1) := by decide +kernel
theorem dX9_forget_11 : decode cX9_forget 11 = .ok (.ireturn, 1) := by decide +kernel
theorem dX9_isFit_0 : decode cX9_isFit 0 = .ok (.iconst 1, 1) := by decide +kernel
theorem dX9_isFit_1 : decode cX9_isFit 1 = .ok (.istore_n 2, 1) := by decide +kernel
theorem dX9_isFit_2 : decode cX9_isFit 2 = .ok (.iconst 0, 1) := by decide +kernel
theorem dX9_isFit_3 : decode cX9_isFit 3 = .ok (.istore_n 3, 1) := by decide +kernel
theorem dX9_isFit_4 : decode cX9_isFit 4 = .ok (.iload_n 3, 1) := by decide +kernel
theorem dX9_isFit_5 : decode cX9_isFit 5 = .ok (.aload_n 0, 1) := by decide +kernel
theorem dX9_isFit_6 : decode cX9_isFit 6 = .ok (.getfield 141, 3) := by decide +kernel
theorem dX9_isFit_9 : decode cX9_isFit 9 = .ok (.if_icmp .ge 66, 3) := by decide +kernel
theorem dX9_isFit_12 : decode cX9_isFit 12 = .ok (.iload_n 2, 1) := by decide +kernel
theorem dX9_isFit_13 : decode cX9_isFit 13 = .ok (.ifCond .eq 62, 3) := by decide +kernel
theorem dX9_isFit_16 : decode cX9_isFit 16 = .ok (.aload_n 0, 1) := by decide +kernel
theorem dX9_isFit_17 : decode cX9_isFit 17 = .ok (.getfield 16, 3) := by decide +kernel
theorem dX9_isFit_20 : decode cX9_isFit 20 = .ok (.aload_n 0, 1) := by decide +kernel
theorem dX9_isFit_21 : decode cX9_isFit 21 = .ok (.getfield 31, 3) := by decide +kernel
theorem dX9_isFit_24 : decode cX9_isFit 24 = .ok (.iconst 2, 1) := by decide +kernel
theorem dX9_isFit_25 : decode cX9_isFit 25 = .ok (.iload_n 3, 1) := by decide +kernel
theorem dX9_isFit_26 : decode cX9_isFit 26 = .ok (.imul, 1) := by decide +kernel
theorem dX9_isFit_27 : decode cX9_isFit 27 = .ok (.iaload, 1) := by decide +kernel
theorem dX9_isFit_28 : decode cX9_isFit 28 = .ok (.iaload, 1) := by decide +kernel
theorem dX9_isFit_29 : decode cX9_isFit 29 = .ok (.iload_n 1, 1) := by decide +kernel
theorem dX9_isFit_30 : decode cX9_isFit 30 = .ok (.iconst (-1), 1) := by decide +kernel
theorem dX9_isFit_31 : decode cX9_isFit 31 = .ok (.ixor, 1) := by decide +kernel
theorem dX9_isFit_32 : decode cX9_isFit 32 = .ok (.iand, 1) := by decide +kernel
theorem dX9_isFit_33 : decode cX9_isFit 33 = .ok (.ifCond .ne 7, 3) := by decide +kernel
theorem dX9_isFit_36 : decode cX9_isFit 36 = .ok (.iconst 1, 1) := by decide +kernel
theorem dX9_isFit_37 : decode cX9_isFit 37 = .ok (.goto 4, 3) := by decide +kernel
theorem dX9_isFit_40 : decode cX9_isFit 40 = .ok (.iconst 0, 1) := by decide +kernel
theorem dX9_isFit_41 : decode cX9_isFit 41 = .ok (.aload_n 0, 1) := by decide +kernel
theorem dX9_isFit_42 : decode cX9_isFit 42 = .ok (.getfield 31, 3) := by decide +kernel
theorem dX9_isFit_45 : decode cX9_isFit 45 = .ok (.iconst 2, 1) := by decide +kernel
theorem dX9_isFit_46 : decode cX9_isFit 46 = .ok (.iload_n 3, 1) := by decide +kernel
theorem dX9_isFit_47 : decode cX9_isFit 47 = .ok (.imul, 1) := by decide +kernel
theorem dX9_isFit_48 : decode cX9_isFit 48 = .ok (.iconst 1, 1) := by decide +kernel
theorem dX9_isFit_49 : decode cX9_isFit 49 = .ok (.iadd, 1) := by decide +kernel
theorem dX9_isFit_50 : decode cX9_isFit 50 = .ok (.iaload, 1) := by decide +kernel
theorem dX9_isFit_51 : decode cX9_isFit 51 = .ok (.iconst 1, 1) := by decide +kernel
theorem dX9_isFit_52 : decode cX9_isFit 52 = .ok (.if_icmp .ne 7, 3) := by decide +kernel
theorem dX9_isFit_55 : decode cX9_isFit 55 = .ok (.iconst 1, 1) := by decide +kernel
theorem dX9_isFit_56 : decode cX9_isFit 56 = .ok (.goto 4, 3) := by decide +kernel
theorem dX9_isFit_59 : decode cX9_isFit 59 = .ok (.iconst 0, 1) := by decide +kernel
theorem dX9_isFit_60 : decode cX9_isFit 60 = .ok (.if_icmp .ne 7, 3) := by decide +kernel
theorem dX9_isFit_63 : decode cX9_isFit 63 = .ok (.iconst 1, 1) := by decide +kernel
theorem dX9_isFit_64 : decode cX9_isFit 64 = .ok (.goto 4, 3) := by decide +kernel
theorem dX9_isFit_67 : decode cX9_isFit 67 = .ok (.iconst 0, 1) := by decide +kernel
theorem dX9_isFit_68 : decode cX9_isFit 68 = .ok (.istore_n 2, 1) := by decide +kernel
theorem dX9_isFit_69 : decode cX9_isFit 69 = .ok (.iinc 3 1, 3) := by decide +kernel
theorem dX9_isFit_72 : decode cX9_isFit 72 = .ok (.goto (-68), 3) := by decide +kernel
theorem dX9_isFit_75 : decode cX9_isFit 75 = .ok (.iload_n 2, 1) := by decide +kernel
theorem dX9_isFit_76 : decode cX9_isFit 76 = .ok (.ireturn, 1) := by decide +kernel
theorem dX9_shape_0 : decode cX9_shape 0 = .ok (.iconst 0, 1) := by decide +kernel
theorem dX9_shape_1 : decode cX9_shape 1 = .ok (.istore_n 2, 1) := by decide +kernel
theorem dX9_shape_2 : decode cX9_shape 2 = .ok (.iconst 0, 1) := by decide +kernel
theorem dX9_shape_3 : decode cX9_shape 3 = .ok (.istore_n 3, 1) := by decide +kernel
theorem dX9_shape_4 : decode cX9_shape 4 = .ok (.iload_n 3, 1) := by decide +kernel
theorem dX9_shape_5 : decode cX9_shape 5 = .ok (.sipush 256, 3) := by decide +kernel
theorem dX9_shape_8 : decode cX9_shape 8 = .ok (.if_icmp .ge 27, 3) := by decide +kernel
theorem dX9_shape_11 : decode cX9_shape 11 = .ok (.aload_n 0, 1) := by decide +kernel
theorem dX9_shape_12 : decode cX9_shape 12 = .ok (.iload_n 3, 1) := by decide +kernel
theorem dX9_shape_13 : decode cX9_shape 13 = .ok (.invokevirtual 144, 3) := by decide +kernel
theorem dX9_shape_16 : decode cX9_shape 16 = .ok (.ifCond .eq 13, 3) := by decide +kernel
theorem dX9_shape_19 : decode cX9_shape 19 = .ok (.iload_n 2, 1) := by decide +kernel
theorem dX9_shape_20 : decode cX9_shape 20 = .ok (.iload_n 1, 1) := by decide +kernel
theorem dX9_shape_21 : decode cX9_shape 21 = .ok (.if_icmp .ne 5, 3) := by decide +kernel
theorem dX9_shape_24 : decode cX9_shape 24 = .ok (.iload_n 3, 1) := by decide +kernel
theorem dX9_shape_25 : decode cX9_shape 25 = .ok (.ireturn, 1) := by decide +kernel
theorem dX9_shape_26 : decode cX9_shape 26 = .ok (.iinc 2 1, 3) := by decide +kernel
theorem dX9_shape_29 : decode cX9_shape 29 = .ok (.iinc 3 1, 3) := by decide +kernel
theorem dX9_shape_32 : decode cX9_shape 32 = .ok (.goto (-28), 3) := by decide +kernel
theorem dX9_shape_35 : decode cX9_shape 35 = .ok (.iload_n 1, 1) := by decide +kernel
theorem dX9_shape_36 : decode cX9_shape 36 = .ok (.iconst (-1), 1) := by decide +kernel
theorem dX9_shape_37 : decode cX9_shape 37 = .ok (.if_icmp .ne 7, 3) := by decide +kernel
theorem dX9_shape_40 : decode cX9_shape 40 = .ok (.iload_n 2, 1) := by decide +kernel
theorem dX9_shape_41 : decode cX9_shape 41 = .ok (.goto 5, 3) := by decide +kernel
theorem dX9_shape_44 : decode cX9_shape 44 = .ok (.bipush (-6), 2) := by decide +kernel
theorem dX9_shape_46 : decode cX9_shape 46 = .ok (.ireturn, 1) := by decide +kernel
theorem dX9_ask_0 : decode cX9_ask 0 = .ok (.iload_n 1, 1) := by decide +kernel
theorem dX9_ask_1 : decode cX9_ask 1 = .ok (.iconst 0, 1) := by decide +kernel
theorem dX9_ask_2 : decode cX9_ask 2 = .ok (.iconst 1, 1) := by decide +kernel
theorem dX9_ask_3 : decode cX9_ask 3 = .ok (.invokestatic 63, 3) := by decide +kernel
theorem dX9_ask_6 : decode cX9_ask 6 = .ok (.ifCond .ne 6, 3) := by decide +kernel
theorem dX9_ask_9 : decode cX9_ask 9 = .ok (.bipush (-2), 2) := by decide +kernel
theorem dX9_ask_11 : decode cX9_ask 11 = .ok (.ireturn, 1) := by decide +kernel
theorem dX9_ask_12 : decode cX9_ask 12 = .ok (.bipush (-6), 2) := by decide +kernel
theorem dX9_ask_14 : decode cX9_ask 14 = .ok (.istore_n 2, 1) := by decide +kernel
theorem dX9_ask_15 : decode cX9_ask 15 = .ok (.ldc 137, 2) := by decide +kernel
theorem dX9_ask_17 : decode cX9_ask 17 = .ok (.istore_n 3, 1) := by decide +kernel
theorem dX9_ask_18 : decode cX9_ask 18 = .ok (.iconst 0, 1) := by decide +kernel
theorem dX9_ask_19 : decode cX9_ask 19 = .ok (.istore 4, 2) := by decide +kernel
theorem dX9_ask_21 : decode cX9_ask 21 = .ok (.iload 4, 2) := by decide +kernel
theorem dX9_ask_23 : decode cX9_ask 23 = .ok (.bipush 6, 2) := by decide +kernel
theorem dX9_ask_25 : decode cX9_ask 25 = .ok (.if_icmp .ge 149, 3) := by decide +kernel
theorem dX9_ask_28 : decode cX9_ask 28 = .ok (.iconst 0, 1) := by decide +kernel
theorem dX9_ask_29 : decode cX9_ask 29 = .ok (.istore 5, 2) := by decide +kernel
theorem dX9_ask_31 : decode cX9_ask 31 = .ok (.iconst 0, 1) := by decide +kernel
theorem dX9_ask_32 : decode cX9_ask 32 = .ok (.istore 6, 2) := by decide +kernel
theorem dX9_ask_34 : decode cX9_ask 34 = .ok (.iconst 0, 1) := by decide +kernel
theorem dX9_ask_35 : decode cX9_ask 35 = .ok (.istore 7, 2) := by decide +kernel
theorem dX9_ask_37 : decode cX9_ask 37 = .ok (.iload 7, 2) := by decide +kernel
theorem dX9_ask_39 : decode cX9_ask 39 = .ok (.sipush 256, 3) := by decide +kernel
theorem dX9_ask_42 : decode cX9_ask 42 = .ok (.if_icmp .ge 62, 3) := by decide +kernel
theorem dX9_ask_45 : decode cX9_ask 45 = .ok (.aload_n 0, 1) := by decide +kernel
theorem dX9_ask_46 : decode cX9_ask 46 = .ok (.iload 7, 2) := by decide +kernel
theorem dX9_ask_48 : decode cX9_ask 48 = .ok (.invokevirtual 144, 3) := by decide +kernel
theorem dX9_ask_51 : decode cX9_ask 51 = .ok (.istore 8, 2) := by decide +kernel
theorem dX9_ask_53 : decode cX9_ask 53 = .ok (.iload 5, 2) := by decide +kernel
theorem dX9_ask_55 : decode cX9_ask 55 = .ok (.iload 8, 2) := by decide +kernel
theorem dX9_ask_57 : decode cX9_ask 57 = .ok (.ifCond .eq 7, 3) := by decide +kernel
theorem dX9_ask_60 : decode cX9_ask 60 = .ok (.iconst 1, 1) := by decide +kernel
theorem dX9_ask_61 : decode cX9_ask 61 = .ok (.goto 4, 3) := by decide +kernel
theorem dX9_ask_64 : decode cX9_ask 64 = .ok (.iconst 0, 1) := by decide +kernel
theorem dX9_ask_65 : decode cX9_ask 65 = .ok (.iadd, 1) := by decide +kernel
theorem dX9_ask_66 : decode cX9_ask 66 = .ok (.istore 5, 2) := by decide +kernel
theorem dX9_ask_68 : decode cX9_ask 68 = .ok (.iload 6, 2) := by decide +kernel
theorem dX9_ask_70 : decode cX9_ask 70 = .ok (.iload 8, 2) := by decide +kernel
theorem dX9_ask_72 : decode cX9_ask 72 = .ok (.ifCond .eq 22, 3) := by decide +kernel
theorem dX9_ask_75 : decode cX9_ask 75 = .ok (.aload_n 0, 1) := by decide +kernel
theorem dX9_ask_76 : decode cX9_ask 76 = .ok (.getfield 16, 3) := by decide +kernel
theorem dX9_ask_79 : decode cX9_ask 79 = .ok (.iload 4, 2) := by decide +kernel
theorem dX9_ask_81 : decode cX9_ask 81 = .ok (.iaload, 1) := by decide +kernel
theorem dX9_ask_82 : decode cX9_ask 82 = .ok (.iload 7, 2) := by decide +kernel
theorem dX9_ask_84 : decode cX9_ask 84 = .ok (.iconst (-1), 1) := by decide +kernel
theorem dX9_ask_85 : decode cX9_ask 85 = .ok (.ixor, 1) := by decide +kernel
theorem dX9_ask_86 : decode cX9_ask 86 = .ok (.iand, 1) := by decide +kernel
theorem dX9_ask_87 : decode cX9_ask 87 = .ok (.ifCond .ne 7, 3) := by decide +kernel
theorem dX9_ask_90 : decode cX9_ask 90 = .ok (.iconst 1, 1) := by decide +kernel
theorem dX9_ask_91 : decode cX9_ask 91 = .ok (.goto 4, 3) := by decide +kernel
theorem dX9_ask_94 : decode cX9_ask 94 = .ok (.iconst 0, 1) := by decide +kernel
theorem dX9_ask_95 : decode cX9_ask 95 = .ok (.iadd, 1) := by decide +kernel
theorem dX9_ask_96 : decode cX9_ask 96 = .ok (.istore 6, 2) := by decide +kernel
theorem dX9_ask_98 : decode cX9_ask 98 = .ok (.iinc 7 1, 3) := by decide +kernel
theorem dX9_ask_101 : decode cX9_ask 101 = .ok (.goto (-64), 3) := by decide +kernel
theorem dX9_ask_104 : decode cX9_ask 104 = .ok (.iload 6, 2) := by decide +kernel
theorem dX9_ask_106 : decode cX9_ask 106 = .ok (.iload 5, 2) := by decide +kernel
theorem dX9_ask_108 : decode cX9_ask 108 = .ok (.iload 6, 2) := by decide +kernel
theorem dX9_ask_110 : decode cX9_ask 110 = .ok (.isub, 1) := by decide +kernel
theorem dX9_ask_111 : decode cX9_ask 111 = .ok (.if_icmp .le 8, 3) := by decide +kernel
theorem dX9_ask_114 : decode cX9_ask 114 = .ok (.iload 6, 2) := by decide +kernel
theorem dX9_ask_116 : decode cX9_ask 116 = .ok (.goto 8, 3) := by decide +kernel
theorem dX9_ask_119 : decode cX9_ask 119 = .ok (.iload 5, 2) := by decide +kernel
theorem dX9_ask_121 : decode cX9_ask 121 = .ok (.iload 6, 2) := by decide +kernel
theorem dX9_ask_123 : decode cX9_ask 123 = .ok (.isub, 1) := by decide +kernel
theorem dX9_ask_124 : decode cX9_ask 124 = .ok (.istore 7, 2) := by decide +kernel
theorem dX9_ask_126 : decode cX9_ask 126 = .ok (.iload 5, 2) := by decide +kernel
theorem dX9_ask_128 : decode cX9_ask 128 = .ok (.ifCond .le 13, 3) := by decide +kernel
theorem dX9_ask_131 : decode cX9_ask 131 = .ok (.iload 7, 2) := by decide +kernel
theorem dX9_ask_133 : decode cX9_ask 133 = .ok (.iload_n 3, 1) := by decide +kernel
theorem dX9_ask_134 : decode cX9_ask 134 = .ok (.if_icmp .ge 7, 3) := by decide +kernel
theorem dX9_ask_137 : decode cX9_ask 137 = .ok (.iconst 1, 1) := by decide +kernel
theorem dX9_ask_138 : decode cX9_ask 138 = .ok (.goto 4, 3) := by decide +kernel
theorem dX9_ask_141 : decode cX9_ask 141 = .ok (.iconst 0, 1) := by decide +kernel
theorem dX9_ask_142 : decode cX9_ask 142 = .ok (.istore 8, 2) := by decide +kernel
theorem dX9_ask_144 : decode cX9_ask 144 = .ok (.iload 8, 2) := by decide +kernel
theorem dX9_ask_146 : decode cX9_ask 146 = .ok (.ifCond .eq 8, 3) := by decide +kernel
theorem dX9_ask_149 : decode cX9_ask 149 = .ok (.iload 4, 2) := by decide +kernel
theorem dX9_ask_151 : decode cX9_ask 151 = .ok (.goto 4, 3) := by decide +kernel
theorem dX9_ask_154 : decode cX9_ask 154 = .ok (.iload_n 2, 1) := by decide +kernel
theorem dX9_ask_155 : decode cX9_ask 155 = .ok (.istore_n 2, 1) := by decide +kernel
theorem dX9_ask_156 : decode cX9_ask 156 = .ok (.iload 8, 2) := by decide +kernel
theorem dX9_ask_158 : decode cX9_ask 158 = .ok (.ifCond .eq 8, 3) := by decide +kernel
theorem dX9_ask_161 : decode cX9_ask 161 = .ok (.iload 7, 2) := by decide +kernel
theorem dX9_ask_163 : decode cX9_ask 163 = .ok (.goto 4, 3) := by decide +kernel
theorem dX9_ask_166 : decode cX9_ask 166 = .ok (.iload_n 3, 1) := by decide +kernel
theorem dX9_ask_167 : decode cX9_ask 167 = .ok (.istore_n 3, 1) := by decide +kernel
theorem dX9_ask_168 : decode cX9_ask 168 = .ok (.iinc 4 1, 3) := by decide +kernel
theorem dX9_ask_171 : decode cX9_ask 171 = .ok (.goto (-150), 3) := by decide +kernel
theorem dX9_ask_174 : decode cX9_ask 174 = .ok (.iload_n 2, 1) := by decide +kernel
theorem dX9_ask_175 : decode cX9_ask 175 = .ok (.ifCond .lt 7, 3) := by decide +kernel
theorem dX9_ask_178 : decode cX9_ask 178 = .ok (.iload_n 1, 1) := by decide +kernel
theorem dX9_ask_179 : decode cX9_ask 179 = .ok (.ifCond .ne 7, 3) := by decide +kernel
theorem dX9_ask_182 : decode cX9_ask 182 = .ok (.iload_n 2, 1) := by decide +kernel
theorem dX9_ask_183 : decode cX9_ask 183 = .ok (.goto 4, 3) := by decide +kernel
theorem dX9_ask_186 : decode cX9_ask 186 = .ok (.iload_n 3, 1) := by decide +kernel
theorem dX9_ask_187 : decode cX9_ask 187 = .ok (.ireturn, 1) := by decide +kernel
theorem dX9_layMud_0 : decode cX9_layMud 0 = .ok (.iconst 0, 1) := by decide +kernel
theorem dX9_layMud_1 : decode cX9_layMud 1 = .ok (.istore_n 1, 1) := by decide +kernel
theorem dX9_layMud_2 : decode cX9_layMud 2 = .ok (.iload_n 1, 1) := by decide +kernel
theorem dX9_layMud_3 : decode cX9_layMud 3 = .ok (.bipush 10, 2) := by decide +kernel
theorem dX9_layMud_5 : decode cX9_layMud 5 = .ok (.if_icmp .ge 36, 3) := by decide +kernel
theorem dX9_layMud_8 : decode cX9_layMud 8 = .ok (.aload_n 0, 1) := by decide +kernel
theorem dX9_layMud_9 : decode cX9_layMud 9 = .ok (.getfield 46, 3) := by decide +kernel
theorem dX9_layMud_12 : decode cX9_layMud 12 = .ok (.iload_n 1, 1) := by decide +kernel
theorem dX9_layMud_13 : decode cX9_layMud 13 = .ok (.aload_n 0, 1) := by decide +kernel
theorem dX9_layMud_14 : decode cX9_layMud 14 = .ok (.getfield 28, 3) := by decide +kernel
theorem dX9_layMud_17 : decode cX9_layMud 17 = .ok (.iload_n 1, 1) := by decide +kernel
theorem dX9_layMud_18 : decode cX9_layMud 18 = .ok (.iaload, 1) := by decide +kernel
theorem dX9_layMud_19 : decode cX9_layMud 19 = .ok (.ifCond .ne 7, 3) := by decide +kernel
theorem dX9_layMud_22 : decode cX9_layMud 22 = .ok (.iconst 0, 1) := by decide +kernel
theorem dX9_layMud_23 : decode cX9_layMud 23 = .ok (.goto 4, 3) := by decide +kernel
theorem dX9_layMud_26 : decode cX9_layMud 26 = .ok (.iconst 2, 1) := by decide +kernel
theorem dX9_layMud_27 : decode cX9_layMud 27 = .ok (.iastore, 1) := by decide +kernel
theorem dX9_layMud_28 : decode cX9_layMud 28 = .ok (.aload_n 0, 1) := by decide +kernel
theorem dX9_layMud_29 : decode cX9_layMud 29 = .ok (.getfield 49, 3) := by decide +kernel
theorem dX9_layMud_32 : decode cX9_layMud 32 = .ok (.iload_n 1, 1) := by decide +kernel
theorem dX9_layMud_33 : decode cX9_layMud 33 = .ok (.iconst 0, 1) := by decide +kernel
theorem dX9_layMud_34 : decode cX9_layMud 34 = .ok (.iastore, 1) := by decide +kernel
theorem dX9_layMud_35 : decode cX9_layMud 35 = .ok (.iinc 1 1, 3) := by decide +kernel
theorem dX9_layMud_38 : decode cX9_layMud 38 = .ok (.goto (-36), 3) := by decide +kernel
theorem dX9_layMud_41 : decode cX9_layMud 41 = .ok (.iconst 1, 1) := by decide +kernel
theorem dX9_layMud_42 : decode cX9_layMud 42 = .ok (.istore_n 1, 1) := by decide +kernel
theorem dX9_layMud_43 : decode cX9_layMud 43 = .ok (.iload_n 1, 1) := by decide +kernel
theorem dX9_layMud_44 : decode cX9_layMud 44 = .ok (.bipush 24, 2) := by decide +kernel
theorem dX9_layMud_46 : decode cX9_layMud 46 = .ok (.if_icmp .ge 195, 3) := by decide +kernel
theorem dX9_layMud_49 : decode cX9_layMud 49 = .ok (.iconst 0, 1) := by decide +kernel
theorem dX9_layMud_50 : decode cX9_layMud 50 = .ok (.istore_n 2, 1) := by decide +kernel
theorem dX9_layMud_51 : decode cX9_layMud 51 = .ok (.iload_n 2, 1) := by decide +kernel
theorem dX9_layMud_52 : decode cX9_layMud 52 = .ok (.bipush 10, 2) := by decide +kernel
theorem dX9_layMud_54 : decode cX9_layMud 54 = .ok (.if_icmp .ge 181, 3) := by decide +kernel
theorem dX9_layMud_57 : decode cX9_layMud 57 = .ok (.aload_n 0, 1) := by decide +kernel
theorem dX9_layMud_58 : decode cX9_layMud 58 = .ok (.getfield 46, 3) := by decide +kernel
theorem dX9_layMud_61 : decode cX9_layMud 61 = .ok (.iload_n 2, 1) := by decide +kernel
theorem dX9_layMud_62 : decode cX9_layMud 62 = .ok (.iaload, 1) := by decide +kernel
theorem dX9_layMud_63 : decode cX9_layMud 63 = .ok (.iconst 2, 1) := by decide +kernel
theorem dX9_layMud_64 : decode cX9_layMud 64 = .ok (.if_icmp .ne 165, 3) := by decide +kernel
theorem dX9_layMud_67 : decode cX9_layMud 67 = .ok (.iconst 0, 1) := by decide +kernel
theorem dX9_layMud_68 : decode cX9_layMud 68 = .ok (.istore_n 3, 1) := by decide +kernel
theorem dX9_layMud_69 : decode cX9_layMud 69 = .ok (.iconst 1, 1) := by decide +kernel
theorem dX9_layMud_70 : decode cX9_layMud 70 = .ok (.istore 4, 2) := by decide +kernel
theorem dX9_layMud_72 : decode cX9_layMud 72 = .ok (.iconst 0, 1) := by decide +kernel
theorem dX9_layMud_73 : decode cX9_layMud 73 = .ok (.istore 5, 2) := by decide +kernel
theorem dX9_layMud_75 : decode cX9_layMud 75 = .ok (.iload 5, 2) := by decide +kernel
theorem dX9_layMud_77 : decode cX9_layMud 77 = .ok (.bipush 10, 2) := by decide +kernel
theorem dX9_layMud_79 : decode cX9_layMud 79 = .ok (.if_icmp .ge 119, 3) := by decide +kernel
theorem dX9_layMud_82 : decode cX9_layMud 82 = .ok (.aload_n 0, 1) := by decide +kernel
theorem dX9_layMud_83 : decode cX9_layMud 83 = .ok (.getfield 28, 3) := by decide +kernel
theorem dX9_layMud_86 : decode cX9_layMud 86 = .ok (.iload_n 2, 1) := by decide +kernel
theorem dX9_layMud_87 : decode cX9_layMud 87 = .ok (.iaload, 1) := by decide +kernel
theorem dX9_layMud_88 : decode cX9_layMud 88 = .ok (.iload 5, 2) := by decide +kernel
theorem dX9_layMud_90 : decode cX9_layMud 90 = .ok (.invokestatic 67, 3) := by decide +kernel
theorem dX9_layMud_93 : decode cX9_layMud 93 = .ok (.ifCond .eq 29, 3) := by decide +kernel
theorem dX9_layMud_96 : decode cX9_layMud 96 = .ok (.aload_n 0, 1) := by decide +kernel
theorem dX9_layMud_97 : decode cX9_layMud 97 = .ok (.getfield 46, 3) := by decide +kernel
theorem dX9_layMud_100 : decode cX9_layMud 100 = .ok (.iload 5, 2) := by decide +kernel
theorem dX9_layMud_102 : decode cX9_layMud 102 = .ok (.iaload, 1) := by decide +kernel
theorem dX9_layMud_103 : decode cX9_layMud 103 = .ok (.iconst 2, 1) := by decide +kernel
theorem dX9_layMud_104 : decode cX9_layMud 104 = .ok (.if_icmp .eq 18, 3) := by decide +kernel
theorem dX9_layMud_107 : decode cX9_layMud 107 = .ok (.aload_n 0, 1) := by decide +kernel
theorem dX9_layMud_108 : decode cX9_layMud 108 = .ok (.getfield 49, 3) := by decide +kernel
theorem dX9_layMud_111 : decode cX9_layMud 111 = .ok (.iload 5, 2) := by decide +kernel
theorem dX9_layMud_113 : decode cX9_layMud 113 = .ok (.iaload, 1) := by decide +kernel
theorem dX9_layMud_114 : decode cX9_layMud 114 = .ok (.iload_n 1, 1) := by decide +kernel
theorem dX9_layMud_115 : decode cX9_layMud 115 = .ok (.if_icmp .ge 7, 3) := by decide +kernel
theorem dX9_layMud_118 : decode cX9_layMud 118 = .ok (.iconst 1, 1) := by decide +kernel
theorem dX9_layMud_119 : decode cX9_layMud 119 = .ok (.goto 4, 3) := by decide +kernel
theorem dX9_layMud_122 : decode cX9_layMud 122 = .ok (.iconst 0, 1) := by decide +kernel
theorem dX9_layMud_123 : decode cX9_layMud 123 = .ok (.istore 6, 2) := by decide +kernel
theorem dX9_layMud_125 : decode cX9_layMud 125 = .ok (.iload_n 3, 1) := by decide +kernel
theorem dX9_layMud_126 : decode cX9_layMud 126 = .ok (.ifCond .ne 18, 3) := by decide +kernel
theorem dX9_layMud_129 : decode cX9_layMud 129 = .ok (.iload 6, 2) := by decide +kernel
theorem dX9_layMud_131 : decode cX9_layMud 131 = .ok (.ifCond .eq 17, 3) := by decide +kernel
theorem dX9_layMud_134 : decode cX9_layMud 134 = .ok (.aload_n 0, 1) := by decide +kernel
theorem dX9_layMud_135 : decode cX9_layMud 135 = .ok (.getfield 46, 3) := by decide +kernel
theorem dX9_layMud_138 : decode cX9_layMud 138 = .ok (.iload 5, 2) := by decide +kernel
theorem dX9_layMud_140 : decode cX9_layMud 140 = .ok (.iaload, 1) := by decide +kernel
theorem dX9_layMud_141 : decode cX9_layMud 141 = .ok (.ifCond .ne 7, 3) := by decide +kernel
theorem dX9_layMud_144 : decode cX9_layMud 144 = .ok (.iconst 1, 1) := by decide +kernel
theorem dX9_layMud_145 : decode cX9_layMud 145 = .ok (.goto 4, 3) := by decide +kernel
theorem dX9_layMud_148 : decode cX9_layMud 148 = .ok (.iconst 0, 1) := by decide +kernel
theorem dX9_layMud_149 : decode cX9_layMud 149 = .ok (.istore_n 3, 1) := by decide +kernel
theorem dX9_layMud_150 : decode cX9_layMud 150 = .ok (.iload 4, 2) := by decide +kernel
theorem dX9_layMud_152 : decode cX9_layMud 152 = .ok (.ifCond .eq 37, 3) := by decide +kernel
theorem dX9_layMud_155 : decode cX9_layMud 155 = .ok (.aload_n 0, 1) := by decide +kernel
theorem dX9_layMud_156 : decode cX9_layMud 156 = .ok (.getfield 28, 3) := by decide +kernel
theorem dX9_layMud_159 : decode cX9_layMud 159 = .ok (.iload_n 2, 1) := by decide +kernel
theorem dX9_layMud_160 : decode cX9_layMud 160 = .ok (.iaload, 1) := by decide +kernel
theorem dX9_layMud_161 : decode cX9_layMud 161 = .ok (.iload 5, 2) := by decide +kernel
theorem dX9_layMud_163 : decode cX9_layMud 163 = .ok (.invokestatic 67, 3) := by decide +kernel
theorem dX9_layMud_166 : decode cX9_layMud 166 = .ok (.ifCond .eq 19, 3) := by decide +kernel
theorem dX9_layMud_169 : decode cX9_layMud 169 = .ok (.iload 6, 2) := by decide +kernel
theorem dX9_layMud_171 : decode cX9_layMud 171 = .ok (.ifCond .eq 18, 3) := by decide +kernel
theorem dX9_layMud_174 : decode cX9_layMud 174 = .ok (.aload_n 0, 1) := by decide +kernel
theorem dX9_layMud_175 : decode cX9_layMud 175 = .ok (.getfield 46, 3) := by decide +kernel
theorem dX9_layMud_178 : decode cX9_layMud 178 = .ok (.iload 5, 2) := by decide +kernel
theorem dX9_layMud_180 : decode cX9_layMud 180 = .ok (.iaload, 1) := by decide +kernel
theorem dX9_layMud_181 : decode cX9_layMud 181 = .ok (.iconst 1, 1) := by decide +kernel
theorem dX9_layMud_182 : decode cX9_layMud 182 = .ok (.if_icmp .ne 7, 3) := by decide +kernel
theorem dX9_layMud_185 : decode cX9_layMud 185 = .ok (.iconst 1, 1) := by decide +kernel
theorem dX9_layMud_186 : decode cX9_layMud 186 = .ok (.goto 4, 3) := by decide +kernel
theorem dX9_layMud_189 : decode cX9_layMud 189 = .ok (.iconst 0, 1) := by decide +kernel
theorem dX9_layMud_190 : decode cX9_layMud 190 = .ok (.istore 4, 2) := by decide +kernel
theorem dX9_layMud_192 : decode cX9_layMud 192 = .ok (.iinc 5 1, 3) := by decide +kernel
theorem dX9_layMud_195 : decode cX9_layMud 195 = .ok (.goto (-120), 3) := by decide +kernel
theorem dX9_layMud_198 : decode cX9_layMud 198 = .ok (.iload_n 3, 1) := by decide +kernel
theorem dX9_layMud_199 : decode cX9_layMud 199 = .ok (.ifCond .ne 8, 3) := by decide +kernel
theorem dX9_layMud_202 : decode cX9_layMud 202 = .ok (.iload 4, 2) := by decide +kernel
theorem dX9_layMud_204 : decode cX9_layMud 204 = .ok (.ifCond .eq 25, 3) := by decide +kernel
theorem dX9_layMud_207 : decode cX9_layMud 207 = .ok (.aload_n 0, 1) := by decide +kernel
theorem dX9_layMud_208 : decode cX9_layMud 208 = .ok (.getfield 46, 3) := by decide +kernel
theorem dX9_layMud_211 : decode cX9_layMud 211 = .ok (.iload_n 2, 1) := by decide +kernel
theorem dX9_layMud_212 : decode cX9_layMud 212 = .ok (.iload_n 3, 1) := by decide +kernel
theorem dX9_layMud_213 : decode cX9_layMud 213 = .ok (.ifCond .eq 7, 3) := by decide +kernel
theorem dX9_layMud_216 : decode cX9_layMud 216 = .ok (.iconst 1, 1) := by decide +kernel
theorem dX9_layMud_217 : decode cX9_layMud 217 = .ok (.goto 4, 3) := by decide +kernel
theorem dX9_layMud_220 : decode cX9_layMud 220 = .ok (.iconst 0, 1) := by decide +kernel
theorem dX9_layMud_221 : decode cX9_layMud 221 = .ok (.iastore, 1) := by decide +kernel
theorem dX9_layMud_222 : decode cX9_layMud 222 = .ok (.aload_n 0, 1) := by decide +kernel
theorem dX9_layMud_223 : decode cX9_layMud 223 = .ok (.getfield 49, 3) := by decide +kernel
theorem dX9_layMud_226 : decode cX9_layMud 226 = .ok (.iload_n 2, 1) := by decide +kernel
theorem dX9_layMud_227 : decode cX9_layMud 227 = .ok (.iload_n 1, 1) := by decide +kernel
theorem dX9_layMud_228 : decode cX9_layMud 228 = .ok (.iastore, 1) := by decide +kernel
theorem dX9_layMud_229 : decode cX9_layMud 229 = .ok (.iinc 2 1, 3) := by decide +kernel
theorem dX9_layMud_232 : decode cX9_layMud 232 = .ok (.goto (-181), 3) := by decide +kernel
theorem dX9_layMud_235 : decode cX9_layMud 235 = .ok (.iinc 1 1, 3) := by decide +kernel
theorem dX9_layMud_238 : decode cX9_layMud 238 = .ok (.goto (-195), 3) := by decide +kernel
theorem dX9_layMud_241 : decode cX9_layMud 241 = .ok (.return_, 1) := by decide +kernel
theorem dX9_play_0 : decode cX9_play 0 = .ok (.iload_n 1, 1) := by decide +kernel
theorem dX9_play_1 : decode cX9_play 1 = .ok (.iconst 0, 1) := by decide +kernel
theorem dX9_play_2 : decode cX9_play 2 = .ok (.bipush 9, 2) := by decide +kernel
theorem dX9_play_4 : decode cX9_play 4 = .ok (.invokestatic 63, 3) := by decide +kernel
theorem dX9_play_7 : decode cX9_play 7 = .ok (.ifCond .ne 5, 3) := by decide +kernel
theorem dX9_play_10 : decode cX9_play 10 = .ok (.iconst (-1), 1) := by decide +kernel
theorem dX9_play_11 : decode cX9_play 11 = .ok (.ireturn, 1) := by decide +kernel
theorem dX9_play_12 : decode cX9_play 12 = .ok (.iload_n 2, 1) := by decide +kernel
theorem dX9_play_13 : decode cX9_play 13 = .ok (.iconst 0, 1) := by decide +kernel
theorem dX9_play_14 : decode cX9_play 14 = .ok (.iconst 2, 1) := by decide +kernel
theorem dX9_play_15 : decode cX9_play 15 = .ok (.invokestatic 63, 3) := by decide +kernel
theorem dX9_play_18 : decode cX9_play 18 = .ok (.ifCond .ne 6, 3) := by decide +kernel
theorem dX9_play_21 : decode cX9_play 21 = .ok (.bipush (-2), 2) := by decide +kernel
theorem dX9_play_23 : decode cX9_play 23 = .ok (.ireturn, 1) := by decide +kernel
theorem dX9_play_24 : decode cX9_play 24 = .ok (.aload_n 0, 1) := by decide +kernel
theorem dX9_play_25 : decode cX9_play 25 = .ok (.invokevirtual 147, 3) := by decide +kernel
theorem dX9_play_28 : decode cX9_play 28 = .ok (.iload_n 2, 1) := by decide +kernel
theorem dX9_play_29 : decode cX9_play 29 = .ok (.ifCond .ne 10, 3) := by decide +kernel
theorem dX9_play_32 : decode cX9_play 32 = .ok (.aload_n 0, 1) := by decide +kernel
theorem dX9_play_33 : decode cX9_play 33 = .ok (.getfield 46, 3) := by decide +kernel
theorem dX9_play_36 : decode cX9_play 36 = .ok (.iload_n 1, 1) := by decide +kernel
theorem dX9_play_37 : decode cX9_play 37 = .ok (.iaload, 1) := by decide +kernel
theorem dX9_play_38 : decode cX9_play 38 = .ok (.ireturn, 1) := by decide +kernel
theorem dX9_play_39 : decode cX9_play 39 = .ok (.iload_n 2, 1) := by decide +kernel
theorem dX9_play_40 : decode cX9_play 40 = .ok (.iconst 1, 1) := by decide +kernel
theorem dX9_play_41 : decode cX9_play 41 = .ok (.if_icmp .ne 25, 3) := by decide +kernel
theorem dX9_play_44 : decode cX9_play 44 = .ok (.aload_n 0, 1) := by decide +kernel
theorem dX9_play_45 : decode cX9_play 45 = .ok (.getfield 46, 3) := by decide +kernel
theorem dX9_play_48 : decode cX9_play 48 = .ok (.iload_n 1, 1) := by decide +kernel
theorem dX9_play_49 : decode cX9_play 49 = .ok (.iaload, 1) := by decide +kernel
theorem dX9_play_50 : decode cX9_play 50 = .ok (.iconst 2, 1) := by decide +kernel
theorem dX9_play_51 : decode cX9_play 51 = .ok (.if_icmp .ne 8, 3) := by decide +kernel
theorem dX9_play_54 : decode cX9_play 54 = .ok (.bipush (-6), 2) := by decide +kernel
theorem dX9_play_56 : decode cX9_play 56 = .ok (.goto 9, 3) := by decide +kernel
theorem dX9_play_59 : decode cX9_play 59 = .ok (.aload_n 0, 1) := by decide +kernel
theorem dX9_play_60 : decode cX9_play 60 = .ok (.getfield 49, 3) := by decide +kernel
theorem dX9_play_63 : decode cX9_play 63 = .ok (.iload_n 1, 1) := by decide +kernel
theorem dX9_play_64 : decode cX9_play 64 = .ok (.iaload, 1) := by decide +kernel
theorem dX9_play_65 : decode cX9_play 65 = .ok (.ireturn, 1) := by decide +kernel
theorem dX9_play_66 : decode cX9_play 66 = .ok (.bipush (-6), 2) := by decide +kernel
theorem dX9_play_68 : decode cX9_play 68 = .ok (.istore_n 3, 1) := by decide +kernel
theorem dX9_play_69 : decode cX9_play 69 = .ok (.bipush 9, 2) := by decide +kernel
theorem dX9_play_71 : decode cX9_play 71 = .ok (.istore 4, 2) := by decide +kernel
theorem dX9_play_73 : decode cX9_play 73 = .ok (.iload 4, 2) := by decide +kernel
theorem dX9_play_75 : decode cX9_play 75 = .ok (.ifCond .lt 68, 3) := by decide +kernel
theorem dX9_play_78 : decode cX9_play 78 = .ok (.aload_n 0, 1) := by decide +kernel
theorem dX9_play_79 : decode cX9_play 79 = .ok (.getfield 46, 3) := by decide +kernel
theorem dX9_play_82 : decode cX9_play 82 = .ok (.iload_n 1, 1) := by decide +kernel
theorem dX9_play_83 : decode cX9_play 83 = .ok (.iaload, 1) := by decide +kernel
theorem dX9_play_84 : decode cX9_play 84 = .ok (.iconst 1, 1) := by decide +kernel
theorem dX9_play_85 : decode cX9_play 85 = .ok (.if_icmp .ne 50, 3) := by decide +kernel
theorem dX9_play_88 : decode cX9_play 88 = .ok (.aload_n 0, 1) := by decide +kernel
theorem dX9_play_89 : decode cX9_play 89 = .ok (.getfield 28, 3) := by decide +kernel
theorem dX9_play_92 : decode cX9_play 92 = .ok (.iload_n 1, 1) := by decide +kernel
theorem dX9_play_93 : decode cX9_play 93 = .ok (.iaload, 1) := by decide +kernel
theorem dX9_play_94 : decode cX9_play 94 = .ok (.iload 4, 2) := by decide +kernel
theorem dX9_play_96 : decode cX9_play 96 = .ok (.invokestatic 67, 3) := by decide +kernel
theorem dX9_play_99 : decode cX9_play 99 = .ok (.ifCond .eq 36, 3) := by decide +kernel
theorem dX9_play_102 : decode cX9_play 102 = .ok (.aload_n 0, 1) := by decide +kernel
theorem dX9_play_103 : decode cX9_play 103 = .ok (.getfield 46, 3) := by decide +kernel
theorem dX9_play_106 : decode cX9_play 106 = .ok (.iload 4, 2) := by decide +kernel
theorem dX9_play_108 : decode cX9_play 108 = .ok (.iaload, 1) := by decide +kernel
theorem dX9_play_109 : decode cX9_play 109 = .ok (.ifCond .ne 26, 3) := by decide +kernel
theorem dX9_play_112 : decode cX9_play 112 = .ok (.aload_n 0, 1) := by decide +kernel
theorem dX9_play_113 : decode cX9_play 113 = .ok (.getfield 49, 3) := by decide +kernel
theorem dX9_play_116 : decode cX9_play 116 = .ok (.iload 4, 2) := by decide +kernel
theorem dX9_play_118 : decode cX9_play 118 = .ok (.iaload, 1) := by decide +kernel
theorem dX9_play_119 : decode cX9_play 119 = .ok (.aload_n 0, 1) := by decide +kernel
theorem dX9_play_120 : decode cX9_play 120 = .ok (.getfield 49, 3) := by decide +kernel
theorem dX9_play_123 : decode cX9_play 123 = .ok (.iload_n 1, 1) := by decide +kernel
theorem dX9_play_124 : decode cX9_play 124 = .ok (.iaload, 1) := by decide +kernel
theorem dX9_play_125 : decode cX9_play 125 = .ok (.iconst 1, 1) := by decide +kernel
theorem dX9_play_126 : decode cX9_play 126 = .ok (.isub, 1) := by decide +kernel
theorem dX9_play_127 : decode cX9_play 127 = .ok (.if_icmp .ne 8, 3) := by decide +kernel
theorem dX9_play_130 : decode cX9_play 130 = .ok (.iload 4, 2) := by decide +kernel
theorem dX9_play_132 : decode cX9_play 132 = .ok (.goto 4, 3) := by decide +kernel
theorem dX9_play_135 : decode cX9_play 135 = .ok (.iload_n 3, 1) := by decide +kernel
theorem dX9_play_136 : decode cX9_play 136 = .ok (.istore_n 3, 1) := by decide +kernel
theorem dX9_play_137 : decode cX9_play 137 = .ok (.iinc 4 (-1), 3) := by decide +kernel
theorem dX9_play_140 : decode cX9_play 140 = .ok (.goto (-67), 3) := by decide +kernel
theorem dX9_play_143 : decode cX9_play 143 = .ok (.iload_n 3, 1) := by decide +kernel
theorem dX9_play_144 : decode cX9_play 144 = .ok (.ireturn, 1) := by decide +kernel
theorem dX9_themselves_0 : decode cX9_themselves 0 = .ok (.iload_n 1, 1) := by decide +kernel
theorem dX9_themselves_1 : decode cX9_themselves 1 = .ok (.iconst 0, 1) := by decide +kernel
theorem dX9_themselves_2 : decode cX9_themselves 2 = .ok (.bipush 17, 2) := by decide +kernel
theorem dX9_themselves_4 : decode cX9_themselves 4 = .ok (.invokestatic 63, 3) := by decide +kernel
theorem dX9_themselves_7 : decode cX9_themselves 7 = .ok (.ifCond .eq 32, 3) := by decide +kernel
theorem dX9_themselves_10 : decode cX9_themselves 10 = .ok (.iload_n 2, 1) := by decide +kernel
theorem dX9_themselves_11 : decode cX9_themselves 11 = .ok (.iconst 0, 1) := by decide +kernel
theorem dX9_themselves_12 : decode cX9_themselves 12 = .ok (.bipush 10, 2) := by decide +kernel
theorem dX9_themselves_14 : decode cX9_themselves 14 = .ok (.invokestatic 63, 3) := by decide +kernel
theorem dX9_themselves_17 : decode cX9_themselves 17 = .ok (.ifCond .eq 22, 3) := by decide +kernel
theorem dX9_themselves_20 : decode cX9_themselves 20 = .ok (.iload_n 3, 1) := by decide +kernel
theorem dX9_themselves_21 : decode cX9_themselves 21 = .ok (.iconst 0, 1) := by decide +kernel
theorem dX9_themselves_22 : decode cX9_themselves 22 = .ok (.iload_n 1, 1) := by decide +kernel
theorem dX9_themselves_23 : decode cX9_themselves 23 = .ok (.invokestatic 63, 3) := by decide +kernel
theorem dX9_themselves_26 : decode cX9_themselves 26 = .ok (.ifCond .eq 13, 3) := by decide +kernel
theorem dX9_themselves_29 : decode cX9_themselves 29 = .ok (.iload 4, 2) := by decide +kernel
theorem dX9_themselves_31 : decode cX9_themselves 31 = .ok (.iconst 0, 1) := by decide +kernel
theorem dX9_themselves_32 : decode cX9_themselves 32 = .ok (.iconst 1, 1) := by decide +kernel
theorem dX9_themselves_33 : decode cX9_themselves 33 = .ok (.invokestatic 63, 3) := by decide +kernel
theorem dX9_themselves_36 : decode cX9_themselves 36 = .ok (.ifCond .ne 7, 3) := by decide +kernel
theorem dX9_themselves_39 : decode cX9_themselves 39 = .ok (.ldc2_w 150, 3) := by decide +kernel
theorem dX9_themselves_42 : decode cX9_themselves 42 = .ok (.lreturn, 1) := by decide +kernel
theorem dX9_themselves_43 : decode cX9_themselves 43 = .ok (.lconst 1, 1) := by decide +kernel
theorem dX9_themselves_44 : decode cX9_themselves 44 = .ok (.lstore 5, 2) := by decide +kernel
theorem dX9_themselves_46 : decode cX9_themselves 46 = .ok (.iconst 0, 1) := by decide +kernel
theorem dX9_themselves_47 : decode cX9_themselves 47 = .ok (.istore 7, 2) := by decide +kernel
theorem dX9_themselves_49 : decode cX9_themselves 49 = .ok (.iload 7, 2) := by decide +kernel
theorem dX9_themselves_51 : decode cX9_themselves 51 = .ok (.bipush 19, 2) := by decide +kernel
theorem dX9_themselves_53 : decode cX9_themselves 53 = .ok (.if_icmp .ge 26, 3) := by decide +kernel
theorem dX9_themselves_56 : decode cX9_themselves 56 = .ok (.aload_n 0, 1) := by decide +kernel
theorem dX9_themselves_57 : decode cX9_themselves 57 = .ok (.getfield 52, 3) := by decide +kernel
theorem dX9_themselves_60 : decode cX9_themselves 60 = .ok (.iload 7, 2) := by decide +kernel
theorem dX9_themselves_62 : decode cX9_themselves 62 = .ok (.iload 7, 2) := by decide +kernel
theorem dX9_themselves_64 : decode cX9_themselves 64 = .ok (.ifCond .ne 7, 3) := by decide +kernel
theorem dX9_themselves_67 : decode cX9_themselves 67 = .ok (.lconst 1, 1) := by decide +kernel
theorem dX9_themselves_68 : decode cX9_themselves 68 = .ok (.goto 4, 3) := by decide +kernel
theorem dX9_themselves_71 : decode cX9_themselves 71 = .ok (.lconst 0, 1) := by decide +kernel
theorem dX9_themselves_72 : decode cX9_themselves 72 = .ok (.lastore, 1) := by decide +kernel
theorem dX9_themselves_73 : decode cX9_themselves 73 = .ok (.iinc 7 1, 3) := by decide +kernel
theorem dX9_themselves_76 : decode cX9_themselves 76 = .ok (.goto (-27), 3) := by decide +kernel
theorem dX9_themselves_79 : decode cX9_themselves 79 = .ok (.iconst 0, 1) := by decide +kernel
theorem dX9_themselves_80 : decode cX9_themselves 80 = .ok (.istore 7, 2) := by decide +kernel
theorem dX9_themselves_82 : decode cX9_themselves 82 = .ok (.iload 7, 2) := by decide +kernel
theorem dX9_themselves_84 : decode cX9_themselves 84 = .ok (.iload_n 1, 1) := by decide +kernel
theorem dX9_themselves_85 : decode cX9_themselves 85 = .ok (.if_icmp .ge 74, 3) := by decide +kernel
theorem dX9_themselves_88 : decode cX9_themselves 88 = .ok (.lload 5, 2) := by decide +kernel
theorem dX9_themselves_90 : decode cX9_themselves 90 = .ok (.ldc2_w 152, 3) := by decide +kernel
theorem dX9_themselves_93 : decode cX9_themselves 93 = .ok (.lmul, 1) := by decide +kernel
theorem dX9_themselves_94 : decode cX9_themselves 94 = .ok (.lstore 5, 2) := by decide +kernel
theorem dX9_themselves_96 : decode cX9_themselves 96 = .ok (.bipush 18, 2) := by decide +kernel
theorem dX9_themselves_98 : decode cX9_themselves 98 = .ok (.istore 8, 2) := by decide +kernel
theorem dX9_themselves_100 : decode cX9_themselves 100 = .ok (.iload 8, 2) := by decide +kernel
theorem dX9_themselves_102 : decode cX9_themselves 102 = .ok (.ifCond .lt 51, 3) := by decide +kernel
theorem dX9_themselves_105 : decode cX9_themselves 105 = .ok (.aload_n 0, 1) := by decide +kernel
theorem dX9_themselves_106 : decode cX9_themselves 106 = .ok (.getfield 52, 3) := by decide +kernel
theorem dX9_themselves_109 : decode cX9_themselves 109 = .ok (.iload 8, 2) := by decide +kernel
theorem dX9_themselves_111 : decode cX9_themselves 111 = .ok (.aload_n 0, 1) := by decide +kernel
theorem dX9_themselves_112 : decode cX9_themselves 112 = .ok (.getfield 52, 3) := by decide +kernel
theorem dX9_themselves_115 : decode cX9_themselves 115 = .ok (.iload 8, 2) := by decide +kernel
theorem dX9_themselves_117 : decode cX9_themselves 117 = .ok (.laload, 1) := by decide +kernel
theorem dX9_themselves_118 : decode cX9_themselves 118 = .ok (.bipush 10, 2) := by decide +kernel
theorem dX9_themselves_120 : decode cX9_themselves 120 = .ok (.iload_n 2, 1) := by decide +kernel
theorem dX9_themselves_121 : decode cX9_themselves 121 = .ok (.isub, 1) := by decide +kernel
theorem dX9_themselves_122 : decode cX9_themselves 122 = .ok (.i2l, 1) := by decide +kernel
theorem dX9_themselves_123 : decode cX9_themselves 123 = .ok (.lmul, 1) := by decide +kernel
theorem dX9_themselves_124 : decode cX9_themselves 124 = .ok (.iload 8, 2) := by decide +kernel
theorem dX9_themselves_126 : decode cX9_themselves 126 = .ok (.ifCond .le 18, 3) := by decide +kernel
theorem dX9_themselves_129 : decode cX9_themselves 129 = .ok (.aload_n 0, 1) := by decide +kernel
theorem dX9_themselves_130 : decode cX9_themselves 130 = .ok (.getfield 52, 3) := by decide +kernel
theorem dX9_themselves_133 : decode cX9_themselves 133 = .ok (.iload 8, 2) := by decide +kernel
theorem dX9_themselves_135 : decode cX9_themselves 135 = .ok (.iconst 1, 1) := by decide +kernel
theorem dX9_themselves_136 : decode cX9_themselves 136 = .ok (.isub, 1) := by decide +kernel
theorem dX9_themselves_137 : decode cX9_themselves 137 = .ok (.laload, 1) := by decide +kernel
theorem dX9_themselves_138 : decode cX9_themselves 138 = .ok (.iload_n 2, 1) := by decide +kernel
theorem dX9_themselves_139 : decode cX9_themselves 139 = .ok (.i2l, 1) := by decide +kernel
theorem dX9_themselves_140 : decode cX9_themselves 140 = .ok (.lmul, 1) := by decide +kernel
theorem dX9_themselves_141 : decode cX9_themselves 141 = .ok (.goto 4, 3) := by decide +kernel
theorem dX9_themselves_144 : decode cX9_themselves 144 = .ok (.lconst 0, 1) := by decide +kernel
theorem dX9_themselves_145 : decode cX9_themselves 145 = .ok (.ladd, 1) := by decide +kernel
theorem dX9_themselves_146 : decode cX9_themselves 146 = .ok (.lastore, 1) := by decide +kernel
theorem dX9_themselves_147 : decode cX9_themselves 147 = .ok (.iinc 8 (-1), 3) := by decide +kernel
theorem dX9_themselves_150 : decode cX9_themselves 150 = .ok (.goto (-50), 3) := by decide +kernel
theorem dX9_themselves_153 : decode cX9_themselves 153 = .ok (.iinc 7 1, 3) := by decide +kernel
theorem dX9_themselves_156 : decode cX9_themselves 156 = .ok (.goto (-74), 3) := by decide +kernel
theorem dX9_themselves_159 : decode cX9_themselves 159 = .ok (.aload_n 0, 1) := by decide +kernel
theorem dX9_themselves_160 : decode cX9_themselves 160 = .ok (.getfield 52, 3) := by decide +kernel
theorem dX9_themselves_163 : decode cX9_themselves 163 = .ok (.iload_n 3, 1) := by decide +kernel
theorem dX9_themselves_164 : decode cX9_themselves 164 = .ok (.laload, 1) := by decide +kernel
theorem dX9_themselves_165 : decode cX9_themselves 165 = .ok (.lstore 7, 2) := by decide +kernel
theorem dX9_themselves_167 : decode cX9_themselves 167 = .ok (.lload 5, 2) := by decide +kernel
theorem dX9_themselves_169 : decode cX9_themselves 169 = .ok (.lstore 9, 2) := by decide +kernel
theorem dX9_themselves_171 : decode cX9_themselves 171 = .ok (.lload 9, 2) := by decide +kernel
theorem dX9_themselves_173 : decode cX9_themselves 173 = .ok (.lconst 0, 1) := by decide +kernel
theorem dX9_themselves_174 : decode cX9_themselves 174 = .ok (.lcmp, 1) := by decide +kernel
theorem dX9_themselves_175 : decode cX9_themselves 175 = .ok (.ifCond .eq 21, 3) := by decide +kernel
theorem dX9_themselves_178 : decode cX9_themselves 178 = .ok (.lload 7, 2) := by decide +kernel
theorem dX9_themselves_180 : decode cX9_themselves 180 = .ok (.lload 9, 2) := by decide +kernel
theorem dX9_themselves_182 : decode cX9_themselves 182 = .ok (.lrem, 1) := by decide +kernel
theorem dX9_themselves_183 : decode cX9_themselves 183 = .ok (.lstore 11, 2) := by decide +kernel
theorem dX9_themselves_185 : decode cX9_themselves 185 = .ok (.lload 9, 2) := by decide +kernel
theorem dX9_themselves_187 : decode cX9_themselves 187 = .ok (.lstore 7, 2) := by decide +kernel
theorem dX9_themselves_189 : decode cX9_themselves 189 = .ok (.lload 11, 2) := by decide +kernel
theorem dX9_themselves_191 : decode cX9_themselves 191 = .ok (.lstore 9, 2) := by decide +kernel
theorem dX9_themselves_193 : decode cX9_themselves 193 = .ok (.goto (-22), 3) := by decide +kernel
theorem dX9_themselves_196 : decode cX9_themselves 196 = .ok (.iload 4, 2) := by decide +kernel
theorem dX9_themselves_198 : decode cX9_themselves 198 = .ok (.ifCond .ne 15, 3) := by decide +kernel
theorem dX9_themselves_201 : decode cX9_themselves 201 = .ok (.aload_n 0, 1) := by decide +kernel
theorem dX9_themselves_202 : decode cX9_themselves 202 = .ok (.getfield 52, 3) := by decide +kernel
theorem dX9_themselves_205 : decode cX9_themselves 205 = .ok (.iload_n 3, 1) := by decide +kernel
end
section
theorem dX9_themselves_206 : decode cX9_themselves 206 = .ok (.laload, 1) := by decide +kernel
theorem dX9_themselves_207 : decode cX9_themselves 207 = .ok (.lload 7, 2) := by decide +kernel
theorem dX9_themselves_209 : decode cX9_themselves 209 = .ok (.ldiv, 1) := by decide +kernel
theorem dX9_themselves_210 : decode cX9_themselves 210 = .ok (.goto 8, 3) := by decide +kernel
theorem dX9_themselves_213 : decode cX9_themselves 213 = .ok (.lload 5, 2) := by decide +kernel
theorem dX9_themselves_215 : decode cX9_themselves 215 = .ok (.lload 7, 2) := by decide +kernel
theorem dX9_themselves_217 : decode cX9_themselves 217 = .ok (.ldiv, 1) := by decide +kernel
theorem dX9_themselves_218 : decode cX9_themselves 218 = .ok (.lreturn, 1) := by decide +kernel
theorem dX9_year_0 : decode cX9_year 0 = .ok (.iload_n 1, 1) := by decide +kernel
theorem dX9_year_1 : decode cX9_year 1 = .ok (.iconst 0, 1) := by decide +kernel
theorem dX9_year_2 : decode cX9_year 2 = .ok (.sipush 9999, 3) := by decide +kernel
theorem dX9_year_5 : decode cX9_year 5 = .ok (.invokestatic 63, 3) := by decide +kernel
theorem dX9_year_8 : decode cX9_year 8 = .ok (.ifCond .eq 22, 3) := by decide +kernel
theorem dX9_year_11 : decode cX9_year 11 = .ok (.iload_n 2, 1) := by decide +kernel
theorem dX9_year_12 : decode cX9_year 12 = .ok (.iconst 1, 1) := by decide +kernel
theorem dX9_year_13 : decode cX9_year 13 = .ok (.bipush 99, 2) := by decide +kernel
theorem dX9_year_15 : decode cX9_year 15 = .ok (.invokestatic 63, 3) := by decide +kernel
theorem dX9_year_18 : decode cX9_year 18 = .ok (.ifCond .eq 12, 3) := by decide +kernel
theorem dX9_year_21 : decode cX9_year 21 = .ok (.iload_n 3, 1) := by decide +kernel
theorem dX9_year_22 : decode cX9_year 22 = .ok (.iconst 0, 1) := by decide +kernel
theorem dX9_year_23 : decode cX9_year 23 = .ok (.iconst 2, 1) := by decide +kernel
theorem dX9_year_24 : decode cX9_year 24 = .ok (.invokestatic 63, 3) := by decide +kernel
theorem dX9_year_27 : decode cX9_year 27 = .ok (.ifCond .ne 6, 3) := by decide +kernel
theorem dX9_year_30 : decode cX9_year 30 = .ok (.bipush (-2), 2) := by decide +kernel
theorem dX9_year_32 : decode cX9_year 32 = .ok (.ireturn, 1) := by decide +kernel
theorem dX9_year_33 : decode cX9_year 33 = .ok (.aload_n 0, 1) := by decide +kernel
theorem dX9_year_34 : decode cX9_year 34 = .ok (.invokevirtual 106, 3) := by decide +kernel
theorem dX9_year_37 : decode cX9_year 37 = .ok (.iload_n 1, 1) := by decide +kernel
theorem dX9_year_38 : decode cX9_year 38 = .ok (.istore 4, 2) := by decide +kernel
theorem dX9_year_40 : decode cX9_year 40 = .ok (.iconst 0, 1) := by decide +kernel
theorem dX9_year_41 : decode cX9_year 41 = .ok (.istore 5, 2) := by decide +kernel
theorem dX9_year_43 : decode cX9_year 43 = .ok (.iload 5, 2) := by decide +kernel
theorem dX9_year_45 : decode cX9_year 45 = .ok (.iload_n 2, 1) := by decide +kernel
theorem dX9_year_46 : decode cX9_year 46 = .ok (.if_icmp .ge 109, 3) := by decide +kernel
theorem dX9_year_49 : decode cX9_year 49 = .ok (.bipush 75, 2) := by decide +kernel
theorem dX9_year_51 : decode cX9_year 51 = .ok (.iload 4, 2) := by decide +kernel
theorem dX9_year_53 : decode cX9_year 53 = .ok (.imul, 1) := by decide +kernel
theorem dX9_year_54 : decode cX9_year 54 = .ok (.bipush 74, 2) := by decide +kernel
theorem dX9_year_56 : decode cX9_year 56 = .ok (.iadd, 1) := by decide +kernel
theorem dX9_year_57 : decode cX9_year 57 = .ok (.ldc 154, 2) := by decide +kernel
theorem dX9_year_59 : decode cX9_year 59 = .ok (.irem, 1) := by decide +kernel
theorem dX9_year_60 : decode cX9_year 60 = .ok (.istore 4, 2) := by decide +kernel
theorem dX9_year_62 : decode cX9_year 62 = .ok (.iload 4, 2) := by decide +kernel
theorem dX9_year_64 : decode cX9_year 64 = .ok (.bipush 8, 2) := by decide +kernel
theorem dX9_year_66 : decode cX9_year 66 = .ok (.irem, 1) := by decide +kernel
theorem dX9_year_67 : decode cX9_year 67 = .ok (.istore 6, 2) := by decide +kernel
theorem dX9_year_69 : decode cX9_year 69 = .ok (.iload 4, 2) := by decide +kernel
theorem dX9_year_71 : decode cX9_year 71 = .ok (.bipush 8, 2) := by decide +kernel
theorem dX9_year_73 : decode cX9_year 73 = .ok (.idiv, 1) := by decide +kernel
theorem dX9_year_74 : decode cX9_year 74 = .ok (.istore 7, 2) := by decide +kernel
theorem dX9_year_76 : decode cX9_year 76 = .ok (.iload 6, 2) := by decide +kernel
theorem dX9_year_78 : decode cX9_year 78 = .ok (.iconst 4, 1) := by decide +kernel
theorem dX9_year_79 : decode cX9_year 79 = .ok (.if_icmp .ge 27, 3) := by decide +kernel
theorem dX9_year_82 : decode cX9_year 82 = .ok (.aload_n 0, 1) := by decide +kernel
theorem dX9_year_83 : decode cX9_year 83 = .ok (.aload_n 0, 1) := by decide +kernel
theorem dX9_year_84 : decode cX9_year 84 = .ok (.iload 7, 2) := by decide +kernel
theorem dX9_year_86 : decode cX9_year 86 = .ok (.bipush 6, 2) := by decide +kernel
theorem dX9_year_88 : decode cX9_year 88 = .ok (.idiv, 1) := by decide +kernel
theorem dX9_year_89 : decode cX9_year 89 = .ok (.bipush 6, 2) := by decide +kernel
theorem dX9_year_91 : decode cX9_year 91 = .ok (.irem, 1) := by decide +kernel
theorem dX9_year_92 : decode cX9_year 92 = .ok (.iload 7, 2) := by decide +kernel
theorem dX9_year_94 : decode cX9_year 94 = .ok (.bipush 6, 2) := by decide +kernel
theorem dX9_year_96 : decode cX9_year 96 = .ok (.irem, 1) := by decide +kernel
theorem dX9_year_97 : decode cX9_year 97 = .ok (.invokevirtual 103, 3) := by decide +kernel
theorem dX9_year_100 : decode cX9_year 100 = .ok (.putfield 116, 3) := by decide +kernel
theorem dX9_year_103 : decode cX9_year 103 = .ok (.goto 46, 3) := by decide +kernel
theorem dX9_year_106 : decode cX9_year 106 = .ok (.iload 6, 2) := by decide +kernel
theorem dX9_year_108 : decode cX9_year 108 = .ok (.iconst 4, 1) := by decide +kernel
theorem dX9_year_109 : decode cX9_year 109 = .ok (.if_icmp .ne 19, 3) := by decide +kernel
theorem dX9_year_112 : decode cX9_year 112 = .ok (.aload_n 0, 1) := by decide +kernel
theorem dX9_year_113 : decode cX9_year 113 = .ok (.aload_n 0, 1) := by decide +kernel
theorem dX9_year_114 : decode cX9_year 114 = .ok (.iload 7, 2) := by decide +kernel
theorem dX9_year_116 : decode cX9_year 116 = .ok (.bipush 6, 2) := by decide +kernel
theorem dX9_year_118 : decode cX9_year 118 = .ok (.irem, 1) := by decide +kernel
theorem dX9_year_119 : decode cX9_year 119 = .ok (.invokevirtual 100, 3) := by decide +kernel
theorem dX9_year_122 : decode cX9_year 122 = .ok (.putfield 116, 3) := by decide +kernel
theorem dX9_year_125 : decode cX9_year 125 = .ok (.goto 24, 3) := by decide +kernel
theorem dX9_year_128 : decode cX9_year 128 = .ok (.aload_n 0, 1) := by decide +kernel
theorem dX9_year_129 : decode cX9_year 129 = .ok (.iload 6, 2) := by decide +kernel
theorem dX9_year_131 : decode cX9_year 131 = .ok (.iconst 5, 1) := by decide +kernel
theorem dX9_year_132 : decode cX9_year 132 = .ok (.if_icmp .ne 10, 3) := by decide +kernel
theorem dX9_year_135 : decode cX9_year 135 = .ok (.aload_n 0, 1) := by decide +kernel
theorem dX9_year_136 : decode cX9_year 136 = .ok (.invokevirtual 119, 3) := by decide +kernel
theorem dX9_year_139 : decode cX9_year 139 = .ok (.goto 7, 3) := by decide +kernel
theorem dX9_year_142 : decode cX9_year 142 = .ok (.aload_n 0, 1) := by decide +kernel
theorem dX9_year_143 : decode cX9_year 143 = .ok (.invokevirtual 122, 3) := by decide +kernel
theorem dX9_year_146 : decode cX9_year 146 = .ok (.putfield 116, 3) := by decide +kernel
theorem dX9_year_149 : decode cX9_year 149 = .ok (.iinc 5 1, 3) := by decide +kernel
theorem dX9_year_152 : decode cX9_year 152 = .ok (.goto (-109), 3) := by decide +kernel
theorem dX9_year_155 : decode cX9_year 155 = .ok (.iconst 0, 1) := by decide +kernel
theorem dX9_year_156 : decode cX9_year 156 = .ok (.istore 5, 2) := by decide +kernel
theorem dX9_year_158 : decode cX9_year 158 = .ok (.iconst 0, 1) := by decide +kernel
theorem dX9_year_159 : decode cX9_year 159 = .ok (.istore 6, 2) := by decide +kernel
theorem dX9_year_161 : decode cX9_year 161 = .ok (.iload 6, 2) := by decide +kernel
theorem dX9_year_163 : decode cX9_year 163 = .ok (.bipush 6, 2) := by decide +kernel
theorem dX9_year_165 : decode cX9_year 165 = .ok (.if_icmp .ge 34, 3) := by decide +kernel
theorem dX9_year_168 : decode cX9_year 168 = .ok (.iload 5, 2) := by decide +kernel
theorem dX9_year_170 : decode cX9_year 170 = .ok (.aload_n 0, 1) := by decide +kernel
theorem dX9_year_171 : decode cX9_year 171 = .ok (.iload 6, 2) := by decide +kernel
theorem dX9_year_173 : decode cX9_year 173 = .ok (.invokevirtual 92, 3) := by decide +kernel
theorem dX9_year_176 : decode cX9_year 176 = .ok (.ifCond .eq 13, 3) := by decide +kernel
theorem dX9_year_179 : decode cX9_year 179 = .ok (.aload_n 0, 1) := by decide +kernel
theorem dX9_year_180 : decode cX9_year 180 = .ok (.getfield 13, 3) := by decide +kernel
theorem dX9_year_183 : decode cX9_year 183 = .ok (.iload 6, 2) := by decide +kernel
theorem dX9_year_185 : decode cX9_year 185 = .ok (.iaload, 1) := by decide +kernel
theorem dX9_year_186 : decode cX9_year 186 = .ok (.goto 4, 3) := by decide +kernel
theorem dX9_year_189 : decode cX9_year 189 = .ok (.iconst 0, 1) := by decide +kernel
theorem dX9_year_190 : decode cX9_year 190 = .ok (.iadd, 1) := by decide +kernel
theorem dX9_year_191 : decode cX9_year 191 = .ok (.istore 5, 2) := by decide +kernel
theorem dX9_year_193 : decode cX9_year 193 = .ok (.iinc 6 1, 3) := by decide +kernel
theorem dX9_year_196 : decode cX9_year 196 = .ok (.goto (-35), 3) := by decide +kernel
theorem dX9_year_199 : decode cX9_year 199 = .ok (.iload_n 3, 1) := by decide +kernel
theorem dX9_year_200 : decode cX9_year 200 = .ok (.ifCond .ne 16, 3) := by decide +kernel
theorem dX9_year_203 : decode cX9_year 203 = .ok (.aload_n 0, 1) := by decide +kernel
theorem dX9_year_204 : decode cX9_year 204 = .ok (.getfield 13, 3) := by decide +kernel
theorem dX9_year_207 : decode cX9_year 207 = .ok (.bipush 12, 2) := by decide +kernel
theorem dX9_year_209 : decode cX9_year 209 = .ok (.iaload, 1) := by decide +kernel
theorem dX9_year_210 : decode cX9_year 210 = .ok (.invokestatic 71, 3) := by decide +kernel
theorem dX9_year_213 : decode cX9_year 213 = .ok (.goto 20, 3) := by decide +kernel
theorem dX9_year_216 : decode cX9_year 216 = .ok (.iload_n 3, 1) := by decide +kernel
theorem dX9_year_217 : decode cX9_year 217 = .ok (.iconst 1, 1) := by decide +kernel
theorem dX9_year_218 : decode cX9_year 218 = .ok (.if_icmp .ne 13, 3) := by decide +kernel
theorem dX9_year_221 : decode cX9_year 221 = .ok (.aload_n 0, 1) := by decide +kernel
theorem dX9_year_222 : decode cX9_year 222 = .ok (.getfield 13, 3) := by decide +kernel
theorem dX9_year_225 : decode cX9_year 225 = .ok (.bipush 13, 2) := by decide +kernel
theorem dX9_year_227 : decode cX9_year 227 = .ok (.iaload, 1) := by decide +kernel
theorem dX9_year_228 : decode cX9_year 228 = .ok (.goto 5, 3) := by decide +kernel
theorem dX9_year_231 : decode cX9_year 231 = .ok (.iload 5, 2) := by decide +kernel
theorem dX9_year_233 : decode cX9_year 233 = .ok (.ireturn, 1) := by decide +kernel
theorem dX9_image_0 : decode cX9_image 0 = .ok (.iload_n 1, 1) := by decide +kernel
theorem dX9_image_1 : decode cX9_image 1 = .ok (.iconst 0, 1) := by decide +kernel
theorem dX9_image_2 : decode cX9_image 2 = .ok (.iconst 1, 1) := by decide +kernel
theorem dX9_image_3 : decode cX9_image 3 = .ok (.invokestatic 63, 3) := by decide +kernel
theorem dX9_image_6 : decode cX9_image 6 = .ok (.ifCond .ne 6, 3) := by decide +kernel
theorem dX9_image_9 : decode cX9_image 9 = .ok (.bipush (-2), 2) := by decide +kernel
theorem dX9_image_11 : decode cX9_image 11 = .ok (.ireturn, 1) := by decide +kernel
theorem dX9_image_12 : decode cX9_image 12 = .ok (.bipush 80, 2) := by decide +kernel
theorem dX9_image_14 : decode cX9_image 14 = .ok (.iload_n 1, 1) := by decide +kernel
theorem dX9_image_15 : decode cX9_image 15 = .ok (.imul, 1) := by decide +kernel
theorem dX9_image_16 : decode cX9_image 16 = .ok (.istore_n 2, 1) := by decide +kernel
theorem dX9_image_17 : decode cX9_image 17 = .ok (.iconst 0, 1) := by decide +kernel
theorem dX9_image_18 : decode cX9_image 18 = .ok (.istore_n 3, 1) := by decide +kernel
theorem dX9_image_19 : decode cX9_image 19 = .ok (.iload_n 3, 1) := by decide +kernel
theorem dX9_image_20 : decode cX9_image 20 = .ok (.bipush 15, 2) := by decide +kernel
theorem dX9_image_22 : decode cX9_image 22 = .ok (.if_icmp .ge 23, 3) := by decide +kernel
theorem dX9_image_25 : decode cX9_image 25 = .ok (.aload_n 0, 1) := by decide +kernel
theorem dX9_image_26 : decode cX9_image 26 = .ok (.getfield 56, 3) := by decide +kernel
theorem dX9_image_29 : decode cX9_image 29 = .ok (.iload_n 2, 1) := by decide +kernel
theorem dX9_image_30 : decode cX9_image 30 = .ok (.iload_n 3, 1) := by decide +kernel
theorem dX9_image_31 : decode cX9_image 31 = .ok (.iadd, 1) := by decide +kernel
theorem dX9_image_32 : decode cX9_image 32 = .ok (.aload_n 0, 1) := by decide +kernel
theorem dX9_image_33 : decode cX9_image 33 = .ok (.getfield 7, 3) := by decide +kernel
theorem dX9_image_36 : decode cX9_image 36 = .ok (.iload_n 3, 1) := by decide +kernel
theorem dX9_image_37 : decode cX9_image 37 = .ok (.iaload, 1) := by decide +kernel
theorem dX9_image_38 : decode cX9_image 38 = .ok (.iastore, 1) := by decide +kernel
theorem dX9_image_39 : decode cX9_image 39 = .ok (.iinc 3 1, 3) := by decide +kernel
theorem dX9_image_42 : decode cX9_image 42 = .ok (.goto (-23), 3) := by decide +kernel
theorem dX9_image_45 : decode cX9_image 45 = .ok (.iconst 0, 1) := by decide +kernel
theorem dX9_image_46 : decode cX9_image 46 = .ok (.istore_n 3, 1) := by decide +kernel
theorem dX9_image_47 : decode cX9_image 47 = .ok (.iload_n 3, 1) := by decide +kernel
theorem dX9_image_48 : decode cX9_image 48 = .ok (.bipush 6, 2) := by decide +kernel
theorem dX9_image_50 : decode cX9_image 50 = .ok (.if_icmp .ge 60, 3) := by decide +kernel
theorem dX9_image_53 : decode cX9_image 53 = .ok (.aload_n 0, 1) := by decide +kernel
theorem dX9_image_54 : decode cX9_image 54 = .ok (.getfield 56, 3) := by decide +kernel
theorem dX9_image_57 : decode cX9_image 57 = .ok (.iload_n 2, 1) := by decide +kernel
theorem dX9_image_58 : decode cX9_image 58 = .ok (.bipush 15, 2) := by decide +kernel
theorem dX9_image_60 : decode cX9_image 60 = .ok (.iadd, 1) := by decide +kernel
theorem dX9_image_61 : decode cX9_image 61 = .ok (.iload_n 3, 1) := by decide +kernel
theorem dX9_image_62 : decode cX9_image 62 = .ok (.iadd, 1) := by decide +kernel
theorem dX9_image_63 : decode cX9_image 63 = .ok (.aload_n 0, 1) := by decide +kernel
theorem dX9_image_64 : decode cX9_image 64 = .ok (.getfield 16, 3) := by decide +kernel
theorem dX9_image_67 : decode cX9_image 67 = .ok (.iload_n 3, 1) := by decide +kernel
theorem dX9_image_68 : decode cX9_image 68 = .ok (.iaload, 1) := by decide +kernel
theorem dX9_image_69 : decode cX9_image 69 = .ok (.iastore, 1) := by decide +kernel
theorem dX9_image_70 : decode cX9_image 70 = .ok (.aload_n 0, 1) := by decide +kernel
theorem dX9_image_71 : decode cX9_image 71 = .ok (.getfield 56, 3) := by decide +kernel
theorem dX9_image_74 : decode cX9_image 74 = .ok (.iload_n 2, 1) := by decide +kernel
theorem dX9_image_75 : decode cX9_image 75 = .ok (.bipush 21, 2) := by decide +kernel
theorem dX9_image_77 : decode cX9_image 77 = .ok (.iadd, 1) := by decide +kernel
theorem dX9_image_78 : decode cX9_image 78 = .ok (.iload_n 3, 1) := by decide +kernel
theorem dX9_image_79 : decode cX9_image 79 = .ok (.iadd, 1) := by decide +kernel
theorem dX9_image_80 : decode cX9_image 80 = .ok (.aload_n 0, 1) := by decide +kernel
theorem dX9_image_81 : decode cX9_image 81 = .ok (.getfield 19, 3) := by decide +kernel
theorem dX9_image_84 : decode cX9_image 84 = .ok (.iload_n 3, 1) := by decide +kernel
theorem dX9_image_85 : decode cX9_image 85 = .ok (.iaload, 1) := by decide +kernel
theorem dX9_image_86 : decode cX9_image 86 = .ok (.iastore, 1) := by decide +kernel
theorem dX9_image_87 : decode cX9_image 87 = .ok (.aload_n 0, 1) := by decide +kernel
theorem dX9_image_88 : decode cX9_image 88 = .ok (.getfield 56, 3) := by decide +kernel
theorem dX9_image_91 : decode cX9_image 91 = .ok (.iload_n 2, 1) := by decide +kernel
theorem dX9_image_92 : decode cX9_image 92 = .ok (.bipush 27, 2) := by decide +kernel
theorem dX9_image_94 : decode cX9_image 94 = .ok (.iadd, 1) := by decide +kernel
theorem dX9_image_95 : decode cX9_image 95 = .ok (.iload_n 3, 1) := by decide +kernel
theorem dX9_image_96 : decode cX9_image 96 = .ok (.iadd, 1) := by decide +kernel
theorem dX9_image_97 : decode cX9_image 97 = .ok (.aload_n 0, 1) := by decide +kernel
theorem dX9_image_98 : decode cX9_image 98 = .ok (.getfield 22, 3) := by decide +kernel
theorem dX9_image_101 : decode cX9_image 101 = .ok (.iload_n 3, 1) := by decide +kernel
theorem dX9_image_102 : decode cX9_image 102 = .ok (.iaload, 1) := by decide +kernel
theorem dX9_image_103 : decode cX9_image 103 = .ok (.iastore, 1) := by decide +kernel
theorem dX9_image_104 : decode cX9_image 104 = .ok (.iinc 3 1, 3) := by decide +kernel
theorem dX9_image_107 : decode cX9_image 107 = .ok (.goto (-60), 3) := by decide +kernel
theorem dX9_image_110 : decode cX9_image 110 = .ok (.iconst 0, 1) := by decide +kernel
theorem dX9_image_111 : decode cX9_image 111 = .ok (.istore_n 3, 1) := by decide +kernel
theorem dX9_image_112 : decode cX9_image 112 = .ok (.iload_n 3, 1) := by decide +kernel
theorem dX9_image_113 : decode cX9_image 113 = .ok (.bipush 8, 2) := by decide +kernel
theorem dX9_image_115 : decode cX9_image 115 = .ok (.if_icmp .ge 26, 3) := by decide +kernel
theorem dX9_image_118 : decode cX9_image 118 = .ok (.aload_n 0, 1) := by decide +kernel
theorem dX9_image_119 : decode cX9_image 119 = .ok (.getfield 56, 3) := by decide +kernel
theorem dX9_image_122 : decode cX9_image 122 = .ok (.iload_n 2, 1) := by decide +kernel
theorem dX9_image_123 : decode cX9_image 123 = .ok (.bipush 33, 2) := by decide +kernel
theorem dX9_image_125 : decode cX9_image 125 = .ok (.iadd, 1) := by decide +kernel
theorem dX9_image_126 : decode cX9_image 126 = .ok (.iload_n 3, 1) := by decide +kernel
theorem dX9_image_127 : decode cX9_image 127 = .ok (.iadd, 1) := by decide +kernel
theorem dX9_image_128 : decode cX9_image 128 = .ok (.aload_n 0, 1) := by decide +kernel
theorem dX9_image_129 : decode cX9_image 129 = .ok (.getfield 25, 3) := by decide +kernel
theorem dX9_image_132 : decode cX9_image 132 = .ok (.iload_n 3, 1) := by decide +kernel
theorem dX9_image_133 : decode cX9_image 133 = .ok (.iaload, 1) := by decide +kernel
theorem dX9_image_134 : decode cX9_image 134 = .ok (.iastore, 1) := by decide +kernel
theorem dX9_image_135 : decode cX9_image 135 = .ok (.iinc 3 1, 3) := by decide +kernel
theorem dX9_image_138 : decode cX9_image 138 = .ok (.goto (-26), 3) := by decide +kernel
theorem dX9_image_141 : decode cX9_image 141 = .ok (.iconst 0, 1) := by decide +kernel
theorem dX9_image_142 : decode cX9_image 142 = .ok (.istore_n 3, 1) := by decide +kernel
theorem dX9_image_143 : decode cX9_image 143 = .ok (.iload_n 3, 1) := by decide +kernel
theorem dX9_image_144 : decode cX9_image 144 = .ok (.bipush 10, 2) := by decide +kernel
theorem dX9_image_146 : decode cX9_image 146 = .ok (.if_icmp .ge 26, 3) := by decide +kernel
theorem dX9_image_149 : decode cX9_image 149 = .ok (.aload_n 0, 1) := by decide +kernel
theorem dX9_image_150 : decode cX9_image 150 = .ok (.getfield 56, 3) := by decide +kernel
theorem dX9_image_153 : decode cX9_image 153 = .ok (.iload_n 2, 1) := by decide +kernel
theorem dX9_image_154 : decode cX9_image 154 = .ok (.bipush 41, 2) := by decide +kernel
theorem dX9_image_156 : decode cX9_image 156 = .ok (.iadd, 1) := by decide +kernel
theorem dX9_image_157 : decode cX9_image 157 = .ok (.iload_n 3, 1) := by decide +kernel
theorem dX9_image_158 : decode cX9_image 158 = .ok (.iadd, 1) := by decide +kernel
theorem dX9_image_159 : decode cX9_image 159 = .ok (.aload_n 0, 1) := by decide +kernel
theorem dX9_image_160 : decode cX9_image 160 = .ok (.getfield 28, 3) := by decide +kernel
theorem dX9_image_163 : decode cX9_image 163 = .ok (.iload_n 3, 1) := by decide +kernel
theorem dX9_image_164 : decode cX9_image 164 = .ok (.iaload, 1) := by decide +kernel
theorem dX9_image_165 : decode cX9_image 165 = .ok (.iastore, 1) := by decide +kernel
theorem dX9_image_166 : decode cX9_image 166 = .ok (.iinc 3 1, 3) := by decide +kernel
theorem dX9_image_169 : decode cX9_image 169 = .ok (.goto (-26), 3) := by decide +kernel
theorem dX9_image_172 : decode cX9_image 172 = .ok (.iconst 0, 1) := by decide +kernel
theorem dX9_image_173 : decode cX9_image 173 = .ok (.istore_n 3, 1) := by decide +kernel
theorem dX9_image_174 : decode cX9_image 174 = .ok (.iload_n 3, 1) := by decide +kernel
theorem dX9_image_175 : decode cX9_image 175 = .ok (.bipush 16, 2) := by decide +kernel
theorem dX9_image_177 : decode cX9_image 177 = .ok (.if_icmp .ge 26, 3) := by decide +kernel
theorem dX9_image_180 : decode cX9_image 180 = .ok (.aload_n 0, 1) := by decide +kernel
theorem dX9_image_181 : decode cX9_image 181 = .ok (.getfield 56, 3) := by decide +kernel
theorem dX9_image_184 : decode cX9_image 184 = .ok (.iload_n 2, 1) := by decide +kernel
theorem dX9_image_185 : decode cX9_image 185 = .ok (.bipush 51, 2) := by decide +kernel
theorem dX9_image_187 : decode cX9_image 187 = .ok (.iadd, 1) := by decide +kernel
theorem dX9_image_188 : decode cX9_image 188 = .ok (.iload_n 3, 1) := by decide +kernel
theorem dX9_image_189 : decode cX9_image 189 = .ok (.iadd, 1) := by decide +kernel
theorem dX9_image_190 : decode cX9_image 190 = .ok (.aload_n 0, 1) := by decide +kernel
theorem dX9_image_191 : decode cX9_image 191 = .ok (.getfield 31, 3) := by decide +kernel
theorem dX9_image_194 : decode cX9_image 194 = .ok (.iload_n 3, 1) := by decide +kernel
theorem dX9_image_195 : decode cX9_image 195 = .ok (.iaload, 1) := by decide +kernel
theorem dX9_image_196 : decode cX9_image 196 = .ok (.iastore, 1) := by decide +kernel
theorem dX9_image_197 : decode cX9_image 197 = .ok (.iinc 3 1, 3) := by decide +kernel
theorem dX9_image_200 : decode cX9_image 200 = .ok (.goto (-26), 3) := by decide +kernel
theorem dX9_image_203 : decode cX9_image 203 = .ok (.aload_n 0, 1) := by decide +kernel
theorem dX9_image_204 : decode cX9_image 204 = .ok (.getfield 56, 3) := by decide +kernel
theorem dX9_image_207 : decode cX9_image 207 = .ok (.iload_n 2, 1) := by decide +kernel
theorem dX9_image_208 : decode cX9_image 208 = .ok (.bipush 70, 2) := by decide +kernel
theorem dX9_image_210 : decode cX9_image 210 = .ok (.iadd, 1) := by decide +kernel
theorem dX9_image_211 : decode cX9_image 211 = .ok (.aload_n 0, 1) := by decide +kernel
theorem dX9_image_212 : decode cX9_image 212 = .ok (.getfield 141, 3) := by decide +kernel
theorem dX9_image_215 : decode cX9_image 215 = .ok (.iastore, 1) := by decide +kernel
theorem dX9_image_216 : decode cX9_image 216 = .ok (.aload_n 0, 1) := by decide +kernel
theorem dX9_image_217 : decode cX9_image 217 = .ok (.getfield 59, 3) := by decide +kernel
theorem dX9_image_220 : decode cX9_image 220 = .ok (.iload_n 1, 1) := by decide +kernel
theorem dX9_image_221 : decode cX9_image 221 = .ok (.iconst 1, 1) := by decide +kernel
theorem dX9_image_222 : decode cX9_image 222 = .ok (.bastore, 1) := by decide +kernel
theorem dX9_image_223 : decode cX9_image 223 = .ok (.iconst 1, 1) := by decide +kernel
theorem dX9_image_224 : decode cX9_image 224 = .ok (.ireturn, 1) := by decide +kernel
theorem dX9_restore_0 : decode cX9_restore 0 = .ok (.iload_n 1, 1) := by decide +kernel
theorem dX9_restore_1 : decode cX9_restore 1 = .ok (.iconst 0, 1) := by decide +kernel
theorem dX9_restore_2 : decode cX9_restore 2 = .ok (.iconst 1, 1) := by decide +kernel
theorem dX9_restore_3 : decode cX9_restore 3 = .ok (.invokestatic 63, 3) := by decide +kernel
theorem dX9_restore_6 : decode cX9_restore 6 = .ok (.ifCond .ne 6, 3) := by decide +kernel
theorem dX9_restore_9 : decode cX9_restore 9 = .ok (.bipush (-2), 2) := by decide +kernel
theorem dX9_restore_11 : decode cX9_restore 11 = .ok (.ireturn, 1) := by decide +kernel
theorem dX9_restore_12 : decode cX9_restore 12 = .ok (.aload_n 0, 1) := by decide +kernel
theorem dX9_restore_13 : decode cX9_restore 13 = .ok (.getfield 59, 3) := by decide +kernel
theorem dX9_restore_16 : decode cX9_restore 16 = .ok (.iload_n 1, 1) := by decide +kernel
theorem dX9_restore_17 : decode cX9_restore 17 = .ok (.baload, 1) := by decide +kernel
theorem dX9_restore_18 : decode cX9_restore 18 = .ok (.ifCond .ne 6, 3) := by decide +kernel
theorem dX9_restore_21 : decode cX9_restore 21 = .ok (.bipush (-3), 2) := by decide +kernel
theorem dX9_restore_23 : decode cX9_restore 23 = .ok (.ireturn, 1) := by decide +kernel
theorem dX9_restore_24 : decode cX9_restore 24 = .ok (.bipush 80, 2) := by decide +kernel
theorem dX9_restore_26 : decode cX9_restore 26 = .ok (.iload_n 1, 1) := by decide +kernel
theorem dX9_restore_27 : decode cX9_restore 27 = .ok (.imul, 1) := by decide +kernel
theorem dX9_restore_28 : decode cX9_restore 28 = .ok (.istore_n 2, 1) := by decide +kernel
theorem dX9_restore_29 : decode cX9_restore 29 = .ok (.iconst 0, 1) := by decide +kernel
theorem dX9_restore_30 : decode cX9_restore 30 = .ok (.istore_n 3, 1) := by decide +kernel
theorem dX9_restore_31 : decode cX9_restore 31 = .ok (.iload_n 3, 1) := by decide +kernel
theorem dX9_restore_32 : decode cX9_restore 32 = .ok (.bipush 15, 2) := by decide +kernel
theorem dX9_restore_34 : decode cX9_restore 34 = .ok (.if_icmp .ge 23, 3) := by decide +kernel
theorem dX9_restore_37 : decode cX9_restore 37 = .ok (.aload_n 0, 1) := by decide +kernel
theorem dX9_restore_38 : decode cX9_restore 38 = .ok (.getfield 7, 3) := by decide +kernel
theorem dX9_restore_41 : decode cX9_restore 41 = .ok (.iload_n 3, 1) := by decide +kernel
theorem dX9_restore_42 : decode cX9_restore 42 = .ok (.aload_n 0, 1) := by decide +kernel
theorem dX9_restore_43 : decode cX9_restore 43 = .ok (.getfield 56, 3) := by decide +kernel
theorem dX9_restore_46 : decode cX9_restore 46 = .ok (.iload_n 2, 1) := by decide +kernel
theorem dX9_restore_47 : decode cX9_restore 47 = .ok (.iload_n 3, 1) := by decide +kernel
theorem dX9_restore_48 : decode cX9_restore 48 = .ok (.iadd, 1) := by decide +kernel
theorem dX9_restore_49 : decode cX9_restore 49 = .ok (.iaload, 1) := by decide +kernel
theorem dX9_restore_50 : decode cX9_restore 50 = .ok (.iastore, 1) := by decide +kernel
theorem dX9_restore_51 : decode cX9_restore 51 = .ok (.iinc 3 1, 3) := by decide +kernel
theorem dX9_restore_54 : decode cX9_restore 54 = .ok (.goto (-23), 3) := by decide +kernel
theorem dX9_restore_57 : decode cX9_restore 57 = .ok (.iconst 0, 1) := by decide +kernel
theorem dX9_restore_58 : decode cX9_restore 58 = .ok (.istore_n 3, 1) := by decide +kernel
theorem dX9_restore_59 : decode cX9_restore 59 = .ok (.iload_n 3, 1) := by decide +kernel
theorem dX9_restore_60 : decode cX9_restore 60 = .ok (.bipush 6, 2) := by decide +kernel
theorem dX9_restore_62 : decode cX9_restore 62 = .ok (.if_icmp .ge 60, 3) := by decide +kernel
theorem dX9_restore_65 : decode cX9_restore 65 = .ok (.aload_n 0, 1) := by decide +kernel
theorem dX9_restore_66 : decode cX9_restore 66 = .ok (.getfield 16, 3) := by decide +kernel
theorem dX9_restore_69 : decode cX9_restore 69 = .ok (.iload_n 3, 1) := by decide +kernel
theorem dX9_restore_70 : decode cX9_restore 70 = .ok (.aload_n 0, 1) := by decide +kernel
theorem dX9_restore_71 : decode cX9_restore 71 = .ok (.getfield 56, 3) := by decide +kernel
theorem dX9_restore_74 : decode cX9_restore 74 = .ok (.iload_n 2, 1) := by decide +kernel
theorem dX9_restore_75 : decode cX9_restore 75 = .ok (.bipush 15, 2) := by decide +kernel
theorem dX9_restore_77 : decode cX9_restore 77 = .ok (.iadd, 1) := by decide +kernel
theorem dX9_restore_78 : decode cX9_restore 78 = .ok (.iload_n 3, 1) := by decide +kernel
theorem dX9_restore_79 : decode cX9_restore 79 = .ok (.iadd, 1) := by decide +kernel
theorem dX9_restore_80 : decode cX9_restore 80 = .ok (.iaload, 1) := by decide +kernel
theorem dX9_restore_81 : decode cX9_restore 81 = .ok (.iastore, 1) := by decide +kernel
theorem dX9_restore_82 : decode cX9_restore 82 = .ok (.aload_n 0, 1) := by decide +kernel
theorem dX9_restore_83 : decode cX9_restore 83 = .ok (.getfield 19, 3) := by decide +kernel
theorem dX9_restore_86 : decode cX9_restore 86 = .ok (.iload_n 3, 1) := by decide +kernel
theorem dX9_restore_87 : decode cX9_restore 87 = .ok (.aload_n 0, 1) := by decide +kernel
theorem dX9_restore_88 : decode cX9_restore 88 = .ok (.getfield 56, 3) := by decide +kernel
theorem dX9_restore_91 : decode cX9_restore 91 = .ok (.iload_n 2, 1) := by decide +kernel
theorem dX9_restore_92 : decode cX9_restore 92 = .ok (.bipush 21, 2) := by decide +kernel
theorem dX9_restore_94 : decode cX9_restore 94 = .ok (.iadd, 1) := by decide +kernel
theorem dX9_restore_95 : decode cX9_restore 95 = .ok (.iload_n 3, 1) := by decide +kernel
theorem dX9_restore_96 : decode cX9_restore 96 = .ok (.iadd, 1) := by decide +kernel
theorem dX9_restore_97 : decode cX9_restore 97 = .ok (.iaload, 1) := by decide +kernel
theorem dX9_restore_98 : decode cX9_restore 98 = .ok (.iastore, 1) := by decide +kernel
theorem dX9_restore_99 : decode cX9_restore 99 = .ok (.aload_n 0, 1) := by decide +kernel
theorem dX9_restore_100 : decode cX9_restore 100 = .ok (.getfield 22, 3) := by decide +kernel
theorem dX9_restore_103 : decode cX9_restore 103 = .ok (.iload_n 3, 1) := by decide +kernel
theorem dX9_restore_104 : decode cX9_restore 104 = .ok (.aload_n 0, 1) := by decide +kernel
theorem dX9_restore_105 : decode cX9_restore 105 = .ok (.getfield 56, 3) := by decide +kernel
theorem dX9_restore_108 : decode cX9_restore 108 = .ok (.iload_n 2, 1) := by decide +kernel
theorem dX9_restore_109 : decode cX9_restore 109 = .ok (.bipush 27, 2) := by decide +kernel
theorem dX9_restore_111 : decode cX9_restore 111 = .ok (.iadd, 1) := by decide +kernel
theorem dX9_restore_112 : decode cX9_restore 112 = .ok (.iload_n 3, 1) := by decide +kernel
theorem dX9_restore_113 : decode cX9_restore 113 = .ok (.iadd, 1) := by decide +kernel
theorem dX9_restore_114 : decode cX9_restore 114 = .ok (.iaload, 1) := by decide +kernel
theorem dX9_restore_115 : decode cX9_restore 115 = .ok (.iastore, 1) := by decide +kernel
theorem dX9_restore_116 : decode cX9_restore 116 = .ok (.iinc 3 1, 3) := by decide +kernel
theorem dX9_restore_119 : decode cX9_restore 119 = .ok (.goto (-60), 3) := by decide +kernel
theorem dX9_restore_122 : decode cX9_restore 122 = .ok (.iconst 0, 1) := by decide +kernel
theorem dX9_restore_123 : decode cX9_restore 123 = .ok (.istore_n 3, 1) := by decide +kernel
theorem dX9_restore_124 : decode cX9_restore 124 = .ok (.iload_n 3, 1) := by decide +kernel
theorem dX9_restore_125 : decode cX9_restore 125 = .ok (.bipush 8, 2) := by decide +kernel
theorem dX9_restore_127 : decode cX9_restore 127 = .ok (.if_icmp .ge 26, 3) := by decide +kernel
theorem dX9_restore_130 : decode cX9_restore 130 = .ok (.aload_n 0, 1) := by decide +kernel
theorem dX9_restore_131 : decode cX9_restore 131 = .ok (.getfield 25, 3) := by decide +kernel
theorem dX9_restore_134 : decode cX9_restore 134 = .ok (.iload_n 3, 1) := by decide +kernel
theorem dX9_restore_135 : decode cX9_restore 135 = .ok (.aload_n 0, 1) := by decide +kernel
theorem dX9_restore_136 : decode cX9_restore 136 = .ok (.getfield 56, 3) := by decide +kernel
theorem dX9_restore_139 : decode cX9_restore 139 = .ok (.iload_n 2, 1) := by decide +kernel
theorem dX9_restore_140 : decode cX9_restore 140 = .ok (.bipush 33, 2) := by decide +kernel
theorem dX9_restore_142 : decode cX9_restore 142 = .ok (.iadd, 1) := by decide +kernel
theorem dX9_restore_143 : decode cX9_restore 143 = .ok (.iload_n 3, 1) := by decide +kernel
theorem dX9_restore_144 : decode cX9_restore 144 = .ok (.iadd, 1) := by decide +kernel
theorem dX9_restore_145 : decode cX9_restore 145 = .ok (.iaload, 1) := by decide +kernel
theorem dX9_restore_146 : decode cX9_restore 146 = .ok (.iastore, 1) := by decide +kernel
theorem dX9_restore_147 : decode cX9_restore 147 = .ok (.iinc 3 1, 3) := by decide +kernel
theorem dX9_restore_150 : decode cX9_restore 150 = .ok (.goto (-26), 3) := by decide +kernel
theorem dX9_restore_153 : decode cX9_restore 153 = .ok (.iconst 0, 1) := by decide +kernel
theorem dX9_restore_154 : decode cX9_restore 154 = .ok (.istore_n 3, 1) := by decide +kernel
theorem dX9_restore_155 : decode cX9_restore 155 = .ok (.iload_n 3, 1) := by decide +kernel
theorem dX9_restore_156 : decode cX9_restore 156 = .ok (.bipush 10, 2) := by decide +kernel
theorem dX9_restore_158 : decode cX9_restore 158 = .ok (.if_icmp .ge 26, 3) := by decide +kernel
theorem dX9_restore_161 : decode cX9_restore 161 = .ok (.aload_n 0, 1) := by decide +kernel
theorem dX9_restore_162 : decode cX9_restore 162 = .ok (.getfield 28, 3) := by decide +kernel
theorem dX9_restore_165 : decode cX9_restore 165 = .ok (.iload_n 3, 1) := by decide +kernel
theorem dX9_restore_166 : decode cX9_restore 166 = .ok (.aload_n 0, 1) := by decide +kernel
theorem dX9_restore_167 : decode cX9_restore 167 = .ok (.getfield 56, 3) := by decide +kernel
theorem dX9_restore_170 : decode cX9_restore 170 = .ok (.iload_n 2, 1) := by decide +kernel
theorem dX9_restore_171 : decode cX9_restore 171 = .ok (.bipush 41, 2) := by decide +kernel
theorem dX9_restore_173 : decode cX9_restore 173 = .ok (.iadd, 1) := by decide +kernel
theorem dX9_restore_174 : decode cX9_restore 174 = .ok (.iload_n 3, 1) := by decide +kernel
theorem dX9_restore_175 : decode cX9_restore 175 = .ok (.iadd, 1) := by decide +kernel
theorem dX9_restore_176 : decode cX9_restore 176 = .ok (.iaload, 1) := by decide +kernel
theorem dX9_restore_177 : decode cX9_restore 177 = .ok (.iastore, 1) := by decide +kernel
theorem dX9_restore_178 : decode cX9_restore 178 = .ok (.iinc 3 1, 3) := by decide +kernel
theorem dX9_restore_181 : decode cX9_restore 181 = .ok (.goto (-26), 3) := by decide +kernel
theorem dX9_restore_184 : decode cX9_restore 184 = .ok (.iconst 0, 1) := by decide +kernel
theorem dX9_restore_185 : decode cX9_restore 185 = .ok (.istore_n 3, 1) := by decide +kernel
theorem dX9_restore_186 : decode cX9_restore 186 = .ok (.iload_n 3, 1) := by decide +kernel
theorem dX9_restore_187 : decode cX9_restore 187 = .ok (.bipush 16, 2) := by decide +kernel
theorem dX9_restore_189 : decode cX9_restore 189 = .ok (.if_icmp .ge 26, 3) := by decide +kernel
theorem dX9_restore_192 : decode cX9_restore 192 = .ok (.aload_n 0, 1) := by decide +kernel
theorem dX9_restore_193 : decode cX9_restore 193 = .ok (.getfield 31, 3) := by decide +kernel
theorem dX9_restore_196 : decode cX9_restore 196 = .ok (.iload_n 3, 1) := by decide +kernel
theorem dX9_restore_197 : decode cX9_restore 197 = .ok (.aload_n 0, 1) := by decide +kernel
theorem dX9_restore_198 : decode cX9_restore 198 = .ok (.getfield 56, 3) := by decide +kernel
theorem dX9_restore_201 : decode cX9_restore 201 = .ok (.iload_n 2, 1) := by decide +kernel
theorem dX9_restore_202 : decode cX9_restore 202 = .ok (.bipush 51, 2) := by decide +kernel
theorem dX9_restore_204 : decode cX9_restore 204 = .ok (.iadd, 1) := by decide +kernel
theorem dX9_restore_205 : decode cX9_restore 205 = .ok (.iload_n 3, 1) := by decide +kernel
theorem dX9_restore_206 : decode cX9_restore 206 = .ok (.iadd, 1) := by decide +kernel
theorem dX9_restore_207 : decode cX9_restore 207 = .ok (.iaload, 1) := by decide +kernel
theorem dX9_restore_208 : decode cX9_restore 208 = .ok (.iastore, 1) := by decide +kernel
theorem dX9_restore_209 : decode cX9_restore 209 = .ok (.iinc 3 1, 3) := by decide +kernel
theorem dX9_restore_212 : decode cX9_restore 212 = .ok (.goto (-26), 3) := by decide +kernel
theorem dX9_restore_215 : decode cX9_restore 215 = .ok (.aload_n 0, 1) := by decide +kernel
theorem dX9_restore_216 : decode cX9_restore 216 = .ok (.aload_n 0, 1) := by decide +kernel
theorem dX9_restore_217 : decode cX9_restore 217 = .ok (.getfield 56, 3) := by decide +kernel
theorem dX9_restore_220 : decode cX9_restore 220 = .ok (.iload_n 2, 1) := by decide +kernel
theorem dX9_restore_221 : decode cX9_restore 221 = .ok (.bipush 70, 2) := by decide +kernel
theorem dX9_restore_223 : decode cX9_restore 223 = .ok (.iadd, 1) := by decide +kernel
theorem dX9_restore_224 : decode cX9_restore 224 = .ok (.iaload, 1) := by decide +kernel
theorem dX9_restore_225 : decode cX9_restore 225 = .ok (.putfield 141, 3) := by decide +kernel
theorem dX9_restore_228 : decode cX9_restore 228 = .ok (.iconst 1, 1) := by decide +kernel
theorem dX9_restore_229 : decode cX9_restore 229 = .ok (.ireturn, 1) := by decide +kernel
theorem dX9_told_0 : decode cX9_told 0 = .ok (.iload_n 1, 1) := by decide +kernel
theorem dX9_told_1 : decode cX9_told 1 = .ok (.bipush 100, 2) := by decide +kernel
theorem dX9_told_3 : decode cX9_told 3 = .ok (.if_icmp .lt 47, 3) := by decide +kernel
theorem dX9_told_6 : decode cX9_told 6 = .ok (.iload_n 1, 1) := by decide +kernel
theorem dX9_told_7 : decode cX9_told 7 = .ok (.bipush 10, 2) := by decide +kernel
theorem dX9_told_9 : decode cX9_told 9 = .ok (.idiv, 1) := by decide +kernel
theorem dX9_told_10 : decode cX9_told 10 = .ok (.bipush 10, 2) := by decide +kernel
theorem dX9_told_12 : decode cX9_told 12 = .ok (.isub, 1) := by decide +kernel
theorem dX9_told_13 : decode cX9_told 13 = .ok (.istore_n 2, 1) := by decide +kernel
theorem dX9_told_14 : decode cX9_told 14 = .ok (.aload_n 0, 1) := by decide +kernel
theorem dX9_told_15 : decode cX9_told 15 = .ok (.iload_n 2, 1) := by decide +kernel
theorem dX9_told_16 : decode cX9_told 16 = .ok (.invokevirtual 131, 3) := by decide +kernel
theorem dX9_told_19 : decode cX9_told 19 = .ok (.ifCond .eq 28, 3) := by decide +kernel
theorem dX9_told_22 : decode cX9_told 22 = .ok (.iload_n 1, 1) := by decide +kernel
theorem dX9_told_23 : decode cX9_told 23 = .ok (.bipush 10, 2) := by decide +kernel
theorem dX9_told_25 : decode cX9_told 25 = .ok (.irem, 1) := by decide +kernel
theorem dX9_told_26 : decode cX9_told 26 = .ok (.iconst 2, 1) := by decide +kernel
theorem dX9_told_27 : decode cX9_told 27 = .ok (.if_icmp .ge 20, 3) := by decide +kernel
theorem dX9_told_30 : decode cX9_told 30 = .ok (.aload_n 0, 1) := by decide +kernel
theorem dX9_told_31 : decode cX9_told 31 = .ok (.getfield 7, 3) := by decide +kernel
theorem dX9_told_34 : decode cX9_told 34 = .ok (.bipush 6, 2) := by decide +kernel
theorem dX9_told_36 : decode cX9_told 36 = .ok (.iload_n 1, 1) := by decide +kernel
theorem dX9_told_37 : decode cX9_told 37 = .ok (.bipush 10, 2) := by decide +kernel
theorem dX9_told_39 : decode cX9_told 39 = .ok (.irem, 1) := by decide +kernel
theorem dX9_told_40 : decode cX9_told 40 = .ok (.imul, 1) := by decide +kernel
theorem dX9_told_41 : decode cX9_told 41 = .ok (.iload_n 2, 1) := by decide +kernel
theorem dX9_told_42 : decode cX9_told 42 = .ok (.iadd, 1) := by decide +kernel
theorem dX9_told_43 : decode cX9_told 43 = .ok (.iaload, 1) := by decide +kernel
theorem dX9_told_44 : decode cX9_told 44 = .ok (.goto 5, 3) := by decide +kernel
theorem dX9_told_47 : decode cX9_told 47 = .ok (.bipush (-2), 2) := by decide +kernel
theorem dX9_told_49 : decode cX9_told 49 = .ok (.ireturn, 1) := by decide +kernel
theorem dX9_told_50 : decode cX9_told 50 = .ok (.iload_n 1, 1) := by decide +kernel
theorem dX9_told_51 : decode cX9_told 51 = .ok (.bipush 30, 2) := by decide +kernel
theorem dX9_told_53 : decode cX9_told 53 = .ok (.if_icmp .lt 47, 3) := by decide +kernel
theorem dX9_told_56 : decode cX9_told 56 = .ok (.iload_n 1, 1) := by decide +kernel
theorem dX9_told_57 : decode cX9_told 57 = .ok (.bipush 30, 2) := by decide +kernel
theorem dX9_told_59 : decode cX9_told 59 = .ok (.isub, 1) := by decide +kernel
theorem dX9_told_60 : decode cX9_told 60 = .ok (.istore_n 2, 1) := by decide +kernel
theorem dX9_told_61 : decode cX9_told 61 = .ok (.iload_n 2, 1) := by decide +kernel
theorem dX9_told_62 : decode cX9_told 62 = .ok (.bipush 6, 2) := by decide +kernel
theorem dX9_told_64 : decode cX9_told 64 = .ok (.if_icmp .ge 33, 3) := by decide +kernel
theorem dX9_told_67 : decode cX9_told 67 = .ok (.sipush 1000, 3) := by decide +kernel
theorem dX9_told_70 : decode cX9_told 70 = .ok (.aload_n 0, 1) := by decide +kernel
theorem dX9_told_71 : decode cX9_told 71 = .ok (.getfield 16, 3) := by decide +kernel
theorem dX9_told_74 : decode cX9_told 74 = .ok (.iload_n 2, 1) := by decide +kernel
theorem dX9_told_75 : decode cX9_told 75 = .ok (.iaload, 1) := by decide +kernel
theorem dX9_told_76 : decode cX9_told 76 = .ok (.imul, 1) := by decide +kernel
theorem dX9_told_77 : decode cX9_told 77 = .ok (.bipush 10, 2) := by decide +kernel
theorem dX9_told_79 : decode cX9_told 79 = .ok (.aload_n 0, 1) := by decide +kernel
theorem dX9_told_80 : decode cX9_told 80 = .ok (.getfield 19, 3) := by decide +kernel
theorem dX9_told_83 : decode cX9_told 83 = .ok (.iload_n 2, 1) := by decide +kernel
theorem dX9_told_84 : decode cX9_told 84 = .ok (.iaload, 1) := by decide +kernel
theorem dX9_told_85 : decode cX9_told 85 = .ok (.imul, 1) := by decide +kernel
theorem dX9_told_86 : decode cX9_told 86 = .ok (.iadd, 1) := by decide +kernel
theorem dX9_told_87 : decode cX9_told 87 = .ok (.aload_n 0, 1) := by decide +kernel
theorem dX9_told_88 : decode cX9_told 88 = .ok (.getfield 22, 3) := by decide +kernel
theorem dX9_told_91 : decode cX9_told 91 = .ok (.iload_n 2, 1) := by decide +kernel
theorem dX9_told_92 : decode cX9_told 92 = .ok (.iaload, 1) := by decide +kernel
theorem dX9_told_93 : decode cX9_told 93 = .ok (.iadd, 1) := by decide +kernel
theorem dX9_told_94 : decode cX9_told 94 = .ok (.goto 5, 3) := by decide +kernel
theorem dX9_told_97 : decode cX9_told 97 = .ok (.bipush (-2), 2) := by decide +kernel
theorem dX9_told_99 : decode cX9_told 99 = .ok (.ireturn, 1) := by decide +kernel
theorem dX9_told_100 : decode cX9_told 100 = .ok (.iload_n 1, 1) := by decide +kernel
theorem dX9_told_101 : decode cX9_told 101 = .ok (.bipush 20, 2) := by decide +kernel
theorem dX9_told_103 : decode cX9_told 103 = .ok (.if_icmp .lt 24, 3) := by decide +kernel
theorem dX9_told_106 : decode cX9_told 106 = .ok (.iload_n 1, 1) := by decide +kernel
theorem dX9_told_107 : decode cX9_told 107 = .ok (.bipush 28, 2) := by decide +kernel
theorem dX9_told_109 : decode cX9_told 109 = .ok (.if_icmp .ge 15, 3) := by decide +kernel
theorem dX9_told_112 : decode cX9_told 112 = .ok (.aload_n 0, 1) := by decide +kernel
theorem dX9_told_113 : decode cX9_told 113 = .ok (.getfield 25, 3) := by decide +kernel
theorem dX9_told_116 : decode cX9_told 116 = .ok (.iload_n 1, 1) := by decide +kernel
theorem dX9_told_117 : decode cX9_told 117 = .ok (.bipush 20, 2) := by decide +kernel
theorem dX9_told_119 : decode cX9_told 119 = .ok (.isub, 1) := by decide +kernel
theorem dX9_told_120 : decode cX9_told 120 = .ok (.iaload, 1) := by decide +kernel
theorem dX9_told_121 : decode cX9_told 121 = .ok (.goto 5, 3) := by decide +kernel
theorem dX9_told_124 : decode cX9_told 124 = .ok (.bipush (-2), 2) := by decide +kernel
theorem dX9_told_126 : decode cX9_told 126 = .ok (.ireturn, 1) := by decide +kernel
theorem dX9_told_127 : decode cX9_told 127 = .ok (.iload_n 1, 1) := by decide +kernel
theorem dX9_told_128 : decode cX9_told 128 = .ok (.bipush 10, 2) := by decide +kernel
theorem dX9_told_130 : decode cX9_told 130 = .ok (.if_icmp .lt 13, 3) := by decide +kernel
theorem dX9_told_133 : decode cX9_told 133 = .ok (.aload_n 0, 1) := by decide +kernel
theorem dX9_told_134 : decode cX9_told 134 = .ok (.getfield 28, 3) := by decide +kernel
theorem dX9_told_137 : decode cX9_told 137 = .ok (.iload_n 1, 1) := by decide +kernel
theorem dX9_told_138 : decode cX9_told 138 = .ok (.bipush 10, 2) := by decide +kernel
theorem dX9_told_140 : decode cX9_told 140 = .ok (.isub, 1) := by decide +kernel
theorem dX9_told_141 : decode cX9_told 141 = .ok (.iaload, 1) := by decide +kernel
theorem dX9_told_142 : decode cX9_told 142 = .ok (.ireturn, 1) := by decide +kernel
theorem dX9_told_143 : decode cX9_told 143 = .ok (.iload_n 1, 1) := by decide +kernel
theorem dX9_told_144 : decode cX9_told 144 = .ok (.tableswitch 47 0 3 #[32, 37, 37, 37], 32) := by decide +kernel
theorem dX9_told_176 : decode cX9_told 176 = .ok (.aload_n 0, 1) := by decide +kernel
theorem dX9_told_177 : decode cX9_told 177 = .ok (.getfield 75, 3) := by decide +kernel
theorem dX9_told_180 : decode cX9_told 180 = .ok (.ireturn, 1) := by decide +kernel
theorem dX9_told_181 : decode cX9_told 181 = .ok (.aload_n 0, 1) := by decide +kernel
theorem dX9_told_182 : decode cX9_told 182 = .ok (.getfield 7, 3) := by decide +kernel
theorem dX9_told_185 : decode cX9_told 185 = .ok (.bipush 11, 2) := by decide +kernel
theorem dX9_told_187 : decode cX9_told 187 = .ok (.iload_n 1, 1) := by decide +kernel
theorem dX9_told_188 : decode cX9_told 188 = .ok (.iadd, 1) := by decide +kernel
theorem dX9_told_189 : decode cX9_told 189 = .ok (.iaload, 1) := by decide +kernel
theorem dX9_told_190 : decode cX9_told 190 = .ok (.ireturn, 1) := by decide +kernel
theorem dX9_told_191 : decode cX9_told 191 = .ok (.iload_n 1, 1) := by decide +kernel
theorem dX9_told_192 : decode cX9_told 192 = .ok (.iconst 4, 1) := by decide +kernel
theorem dX9_told_193 : decode cX9_told 193 = .ok (.if_icmp .ne 10, 3) := by decide +kernel
theorem dX9_told_196 : decode cX9_told 196 = .ok (.aload_n 0, 1) := by decide +kernel
theorem dX9_told_197 : decode cX9_told 197 = .ok (.getfield 141, 3) := by decide +kernel
theorem dX9_told_200 : decode cX9_told 200 = .ok (.goto 5, 3) := by decide +kernel
theorem dX9_told_203 : decode cX9_told 203 = .ok (.bipush (-2), 2) := by decide +kernel
theorem dX9_told_205 : decode cX9_told 205 = .ok (.ireturn, 1) := by decide +kernel
theorem dJ6_bitCount_0f7a4_0 : decode cJ6_bitCount_0f7a4 0 = .ok (.iload_n 0, 1) := by decide +kernel
theorem dJ6_bitCount_0f7a4_1 : decode cJ6_bitCount_0f7a4 1 = .ok (.iload_n 0, 1) := by decide +kernel
theorem dJ6_bitCount_0f7a4_2 : decode cJ6_bitCount_0f7a4 2 = .ok (.iconst 1, 1) := by decide +kernel
theorem dJ6_bitCount_0f7a4_3 : decode cJ6_bitCount_0f7a4 3 = .ok (.iushr, 1) := by decide +kernel
theorem dJ6_bitCount_0f7a4_4 : decode cJ6_bitCount_0f7a4 4 = .ok (.ldc_w 265, 3) := by decide +kernel
theorem dJ6_bitCount_0f7a4_7 : decode cJ6_bitCount_0f7a4 7 = .ok (.iand, 1) := by decide +kernel
theorem dJ6_bitCount_0f7a4_8 : decode cJ6_bitCount_0f7a4 8 = .ok (.isub, 1) := by decide +kernel
theorem dJ6_bitCount_0f7a4_9 : decode cJ6_bitCount_0f7a4 9 = .ok (.istore_n 0, 1) := by decide +kernel
theorem dJ6_bitCount_0f7a4_10 : decode cJ6_bitCount_0f7a4 10 = .ok (.iload_n 0, 1) := by decide +kernel
theorem dJ6_bitCount_0f7a4_11 : decode cJ6_bitCount_0f7a4 11 = .ok (.ldc_w 266, 3) := by decide +kernel
theorem dJ6_bitCount_0f7a4_14 : decode cJ6_bitCount_0f7a4 14 = .ok (.iand, 1) := by decide +kernel
theorem dJ6_bitCount_0f7a4_15 : decode cJ6_bitCount_0f7a4 15 = .ok (.iload_n 0, 1) := by decide +kernel
theorem dJ6_bitCount_0f7a4_16 : decode cJ6_bitCount_0f7a4 16 = .ok (.iconst 2, 1) := by decide +kernel
theorem dJ6_bitCount_0f7a4_17 : decode cJ6_bitCount_0f7a4 17 = .ok (.iushr, 1) := by decide +kernel
theorem dJ6_bitCount_0f7a4_18 : decode cJ6_bitCount_0f7a4 18 = .ok (.ldc_w 266, 3) := by decide +kernel
theorem dJ6_bitCount_0f7a4_21 : decode cJ6_bitCount_0f7a4 21 = .ok (.iand, 1) := by decide +kernel
theorem dJ6_bitCount_0f7a4_22 : decode cJ6_bitCount_0f7a4 22 = .ok (.iadd, 1) := by decide +kernel
theorem dJ6_bitCount_0f7a4_23 : decode cJ6_bitCount_0f7a4 23 = .ok (.istore_n 0, 1) := by decide +kernel
theorem dJ6_bitCount_0f7a4_24 : decode cJ6_bitCount_0f7a4 24 = .ok (.iload_n 0, 1) := by decide +kernel
theorem dJ6_bitCount_0f7a4_25 : decode cJ6_bitCount_0f7a4 25 = .ok (.iload_n 0, 1) := by decide +kernel
theorem dJ6_bitCount_0f7a4_26 : decode cJ6_bitCount_0f7a4 26 = .ok (.iconst 4, 1) := by decide +kernel
theorem dJ6_bitCount_0f7a4_27 : decode cJ6_bitCount_0f7a4 27 = .ok (.iushr, 1) := by decide +kernel
theorem dJ6_bitCount_0f7a4_28 : decode cJ6_bitCount_0f7a4 28 = .ok (.iadd, 1) := by decide +kernel
theorem dJ6_bitCount_0f7a4_29 : decode cJ6_bitCount_0f7a4 29 = .ok (.ldc_w 267, 3) := by decide +kernel
theorem dJ6_bitCount_0f7a4_32 : decode cJ6_bitCount_0f7a4 32 = .ok (.iand, 1) := by decide +kernel
theorem dJ6_bitCount_0f7a4_33 : decode cJ6_bitCount_0f7a4 33 = .ok (.istore_n 0, 1) := by decide +kernel
theorem dJ6_bitCount_0f7a4_34 : decode cJ6_bitCount_0f7a4 34 = .ok (.iload_n 0, 1) := by decide +kernel
theorem dJ6_bitCount_0f7a4_35 : decode cJ6_bitCount_0f7a4 35 = .ok (.iload_n 0, 1) := by decide +kernel
theorem dJ6_bitCount_0f7a4_36 : decode cJ6_bitCount_0f7a4 36 = .ok (.bipush 8, 2) := by decide +kernel
theorem dJ6_bitCount_0f7a4_38 : decode cJ6_bitCount_0f7a4 38 = .ok (.iushr, 1) := by decide +kernel
theorem dJ6_bitCount_0f7a4_39 : decode cJ6_bitCount_0f7a4 39 = .ok (.iadd, 1) := by decide +kernel
theorem dJ6_bitCount_0f7a4_40 : decode cJ6_bitCount_0f7a4 40 = .ok (.istore_n 0, 1) := by decide +kernel
theorem dJ6_bitCount_0f7a4_41 : decode cJ6_bitCount_0f7a4 41 = .ok (.iload_n 0, 1) := by decide +kernel
theorem dJ6_bitCount_0f7a4_42 : decode cJ6_bitCount_0f7a4 42 = .ok (.iload_n 0, 1) := by decide +kernel
theorem dJ6_bitCount_0f7a4_43 : decode cJ6_bitCount_0f7a4 43 = .ok (.bipush 16, 2) := by decide +kernel
theorem dJ6_bitCount_0f7a4_45 : decode cJ6_bitCount_0f7a4 45 = .ok (.iushr, 1) := by decide +kernel
theorem dJ6_bitCount_0f7a4_46 : decode cJ6_bitCount_0f7a4 46 = .ok (.iadd, 1) := by decide +kernel
theorem dJ6_bitCount_0f7a4_47 : decode cJ6_bitCount_0f7a4 47 = .ok (.istore_n 0, 1) := by decide +kernel
theorem dJ6_bitCount_0f7a4_48 : decode cJ6_bitCount_0f7a4 48 = .ok (.iload_n 0, 1) := by decide +kernel
theorem dJ6_bitCount_0f7a4_49 : decode cJ6_bitCount_0f7a4 49 = .ok (.bipush 63, 2) := by decide +kernel
theorem dJ6_bitCount_0f7a4_51 : decode cJ6_bitCount_0f7a4 51 = .ok (.iand, 1) := by decide +kernel
theorem dJ6_bitCount_0f7a4_52 : decode cJ6_bitCount_0f7a4 52 = .ok (.ireturn, 1) := by decide +kernel
theorem dJ9_max_7cf53_0 : decode cJ9_max_7cf53 0 = .ok (.iload_n 0, 1) := by decide +kernel
theorem dJ9_max_7cf53_1 : decode cJ9_max_7cf53 1 = .ok (.iload_n 1, 1) := by decide +kernel
theorem dJ9_max_7cf53_2 : decode cJ9_max_7cf53 2 = .ok (.if_icmp .lt 7, 3) := by decide +kernel
theorem dJ9_max_7cf53_5 : decode cJ9_max_7cf53 5 = .ok (.iload_n 0, 1) := by decide +kernel
theorem dJ9_max_7cf53_6 : decode cJ9_max_7cf53 6 = .ok (.goto 4, 3) := by decide +kernel
theorem dJ9_max_7cf53_9 : decode cJ9_max_7cf53 9 = .ok (.iload_n 1, 1) := by decide +kernel
theorem dJ9_max_7cf53_10 : decode cJ9_max_7cf53 10 = .ok (.ireturn, 1) := by decide +kernel
theorem dJ9_min_7cf53_0 : decode cJ9_min_7cf53 0 = .ok (.iload_n 0, 1) := by decide +kernel
theorem dJ9_min_7cf53_1 : decode cJ9_min_7cf53 1 = .ok (.iload_n 1, 1) := by decide +kernel
theorem dJ9_min_7cf53_2 : decode cJ9_min_7cf53 2 = .ok (.if_icmp .gt 7, 3) := by decide +kernel
theorem dJ9_min_7cf53_5 : decode cJ9_min_7cf53 5 = .ok (.iload_n 0, 1) := by decide +kernel
theorem dJ9_min_7cf53_6 : decode cJ9_min_7cf53 6 = .ok (.goto 4, 3) := by decide +kernel
theorem dJ9_min_7cf53_9 : decode cJ9_min_7cf53 9 = .ok (.iload_n 1, 1) := by decide +kernel
theorem dJ9_min_7cf53_10 : decode cJ9_min_7cf53 10 = .ok (.ireturn, 1) := by decide +kernel
theorem dL_law_0 : decode cL_law 0 = .ok (.new 7, 3) := by decide +kernel
theorem dL_law_3 : decode cL_law 3 = .ok (.dup, 1) := by decide +kernel
theorem dL_law_4 : decode cL_law 4 = .ok (.invokespecial 9, 3) := by decide +kernel
theorem dL_law_7 : decode cL_law 7 = .ok (.astore_n 1, 1) := by decide +kernel
theorem dL_law_8 : decode cL_law 8 = .ok (.new 10, 3) := by decide +kernel
theorem dL_law_11 : decode cL_law 11 = .ok (.dup, 1) := by decide +kernel
theorem dL_law_12 : decode cL_law 12 = .ok (.invokespecial 12, 3) := by decide +kernel
theorem dL_law_15 : decode cL_law 15 = .ok (.astore_n 2, 1) := by decide +kernel
theorem dL_law_16 : decode cL_law 16 = .ok (.iconst 0, 1) := by decide +kernel
theorem dL_law_17 : decode cL_law 17 = .ok (.istore_n 3, 1) := by decide +kernel
theorem dL_law_18 : decode cL_law 18 = .ok (.iload_n 3, 1) := by decide +kernel
theorem dL_law_19 : decode cL_law 19 = .ok (.aload_n 0, 1) := by decide +kernel
theorem dL_law_20 : decode cL_law 20 = .ok (.arraylength, 1) := by decide +kernel
theorem dL_law_21 : decode cL_law 21 = .ok (.iconst 5, 1) := by decide +kernel
theorem dL_law_22 : decode cL_law 22 = .ok (.isub, 1) := by decide +kernel
theorem dL_law_23 : decode cL_law 23 = .ok (.if_icmp .gt 963, 3) := by decide +kernel
theorem dL_law_26 : decode cL_law 26 = .ok (.aload_n 0, 1) := by decide +kernel
theorem dL_law_27 : decode cL_law 27 = .ok (.iload_n 3, 1) := by decide +kernel
theorem dL_law_28 : decode cL_law 28 = .ok (.iaload, 1) := by decide +kernel
theorem dL_law_29 : decode cL_law 29 = .ok (.bipush 31, 2) := by decide +kernel
theorem dL_law_31 : decode cL_law 31 = .ok (.iand, 1) := by decide +kernel
theorem dL_law_32 : decode cL_law 32 = .ok (.tableswitch 948 0 26 #[124, 167, 220, 243, 286, 345, 368, 381, 394, 417, 430, 463, 486, 509, 542, 565, 598, 641, 690, 703, 726, 749, 782, 836, 879, 902, 925], 124) := by decide +kernel
theorem dL_law_156 : decode cL_law 156 = .ok (.aload_n 1, 1) := by decide +kernel
theorem dL_law_157 : decode cL_law 157 = .ok (.aload_n 0, 1) := by decide +kernel
theorem dL_law_158 : decode cL_law 158 = .ok (.iload_n 3, 1) := by decide +kernel
theorem dL_law_159 : decode cL_law 159 = .ok (.iconst 1, 1) := by decide +kernel
theorem dL_law_160 : decode cL_law 160 = .ok (.iadd, 1) := by decide +kernel
theorem dL_law_161 : decode cL_law 161 = .ok (.iaload, 1) := by decide +kernel
theorem dL_law_162 : decode cL_law 162 = .ok (.aload_n 0, 1) := by decide +kernel
theorem dL_law_163 : decode cL_law 163 = .ok (.iload_n 3, 1) := by decide +kernel
theorem dL_law_164 : decode cL_law 164 = .ok (.iconst 2, 1) := by decide +kernel
theorem dL_law_165 : decode cL_law 165 = .ok (.iadd, 1) := by decide +kernel
theorem dL_law_166 : decode cL_law 166 = .ok (.iaload, 1) := by decide +kernel
theorem dL_law_167 : decode cL_law 167 = .ok (.aload_n 0, 1) := by decide +kernel
theorem dL_law_168 : decode cL_law 168 = .ok (.iload_n 3, 1) := by decide +kernel
theorem dL_law_169 : decode cL_law 169 = .ok (.iconst 3, 1) := by decide +kernel
theorem dL_law_170 : decode cL_law 170 = .ok (.iadd, 1) := by decide +kernel
theorem dL_law_171 : decode cL_law 171 = .ok (.iaload, 1) := by decide +kernel
theorem dL_law_172 : decode cL_law 172 = .ok (.invokevirtual 13, 3) := by decide +kernel
theorem dL_law_175 : decode cL_law 175 = .ok (.aload_n 2, 1) := by decide +kernel
theorem dL_law_176 : decode cL_law 176 = .ok (.aload_n 0, 1) := by decide +kernel
theorem dL_law_177 : decode cL_law 177 = .ok (.iload_n 3, 1) := by decide +kernel
theorem dL_law_178 : decode cL_law 178 = .ok (.iconst 1, 1) := by decide +kernel
theorem dL_law_179 : decode cL_law 179 = .ok (.iadd, 1) := by decide +kernel
theorem dL_law_180 : decode cL_law 180 = .ok (.iaload, 1) := by decide +kernel
theorem dL_law_181 : decode cL_law 181 = .ok (.aload_n 0, 1) := by decide +kernel
theorem dL_law_182 : decode cL_law 182 = .ok (.iload_n 3, 1) := by decide +kernel
theorem dL_law_183 : decode cL_law 183 = .ok (.iconst 2, 1) := by decide +kernel
theorem dL_law_184 : decode cL_law 184 = .ok (.iadd, 1) := by decide +kernel
theorem dL_law_185 : decode cL_law 185 = .ok (.iaload, 1) := by decide +kernel
theorem dL_law_186 : decode cL_law 186 = .ok (.aload_n 0, 1) := by decide +kernel
theorem dL_law_187 : decode cL_law 187 = .ok (.iload_n 3, 1) := by decide +kernel
theorem dL_law_188 : decode cL_law 188 = .ok (.iconst 3, 1) := by decide +kernel
theorem dL_law_189 : decode cL_law 189 = .ok (.iadd, 1) := by decide +kernel
theorem dL_law_190 : decode cL_law 190 = .ok (.iaload, 1) := by decide +kernel
theorem dL_law_191 : decode cL_law 191 = .ok (.invokevirtual 17, 3) := by decide +kernel
theorem dL_law_194 : decode cL_law 194 = .ok (.if_icmp .eq 786, 3) := by decide +kernel
theorem dL_law_197 : decode cL_law 197 = .ok (.iconst 0, 1) := by decide +kernel
theorem dL_law_198 : decode cL_law 198 = .ok (.ireturn, 1) := by decide +kernel
theorem dL_law_199 : decode cL_law 199 = .ok (.aload_n 1, 1) := by decide +kernel
theorem dL_law_200 : decode cL_law 200 = .ok (.aload_n 0, 1) := by decide +kernel
theorem dL_law_201 : decode cL_law 201 = .ok (.iload_n 3, 1) := by decide +kernel
theorem dL_law_202 : decode cL_law 202 = .ok (.iconst 1, 1) := by decide +kernel
theorem dL_law_203 : decode cL_law 203 = .ok (.iadd, 1) := by decide +kernel
theorem dL_law_204 : decode cL_law 204 = .ok (.iaload, 1) := by decide +kernel
theorem dL_law_205 : decode cL_law 205 = .ok (.aload_n 0, 1) := by decide +kernel
theorem dL_law_206 : decode cL_law 206 = .ok (.iload_n 3, 1) := by decide +kernel
theorem dL_law_207 : decode cL_law 207 = .ok (.iconst 2, 1) := by decide +kernel
theorem dL_law_208 : decode cL_law 208 = .ok (.iadd, 1) := by decide +kernel
theorem dL_law_209 : decode cL_law 209 = .ok (.iaload, 1) := by decide +kernel
theorem dL_law_210 : decode cL_law 210 = .ok (.aload_n 0, 1) := by decide +kernel
theorem dL_law_211 : decode cL_law 211 = .ok (.iload_n 3, 1) := by decide +kernel
theorem dL_law_212 : decode cL_law 212 = .ok (.iconst 3, 1) := by decide +kernel
theorem dL_law_213 : decode cL_law 213 = .ok (.iadd, 1) := by decide +kernel
theorem dL_law_214 : decode cL_law 214 = .ok (.iaload, 1) := by decide +kernel
theorem dL_law_215 : decode cL_law 215 = .ok (.aload_n 0, 1) := by decide +kernel
theorem dL_law_216 : decode cL_law 216 = .ok (.iload_n 3, 1) := by decide +kernel
theorem dL_law_217 : decode cL_law 217 = .ok (.iconst 4, 1) := by decide +kernel
theorem dL_law_218 : decode cL_law 218 = .ok (.iadd, 1) := by decide +kernel
theorem dL_law_219 : decode cL_law 219 = .ok (.iaload, 1) := by decide +kernel
theorem dL_law_220 : decode cL_law 220 = .ok (.invokevirtual 18, 3) := by decide +kernel
theorem dL_law_223 : decode cL_law 223 = .ok (.aload_n 2, 1) := by decide +kernel
theorem dL_law_224 : decode cL_law 224 = .ok (.aload_n 0, 1) := by decide +kernel
theorem dL_law_225 : decode cL_law 225 = .ok (.iload_n 3, 1) := by decide +kernel
theorem dL_law_226 : decode cL_law 226 = .ok (.iconst 1, 1) := by decide +kernel
theorem dL_law_227 : decode cL_law 227 = .ok (.iadd, 1) := by decide +kernel
theorem dL_law_228 : decode cL_law 228 = .ok (.iaload, 1) := by decide +kernel
theorem dL_law_229 : decode cL_law 229 = .ok (.aload_n 0, 1) := by decide +kernel
theorem dL_law_230 : decode cL_law 230 = .ok (.iload_n 3, 1) := by decide +kernel
theorem dL_law_231 : decode cL_law 231 = .ok (.iconst 2, 1) := by decide +kernel
theorem dL_law_232 : decode cL_law 232 = .ok (.iadd, 1) := by decide +kernel
theorem dL_law_233 : decode cL_law 233 = .ok (.iaload, 1) := by decide +kernel
theorem dL_law_234 : decode cL_law 234 = .ok (.aload_n 0, 1) := by decide +kernel
theorem dL_law_235 : decode cL_law 235 = .ok (.iload_n 3, 1) := by decide +kernel
theorem dL_law_236 : decode cL_law 236 = .ok (.iconst 3, 1) := by decide +kernel
theorem dL_law_237 : decode cL_law 237 = .ok (.iadd, 1) := by decide +kernel
theorem dL_law_238 : decode cL_law 238 = .ok (.iaload, 1) := by decide +kernel
theorem dL_law_239 : decode cL_law 239 = .ok (.aload_n 0, 1) := by decide +kernel
theorem dL_law_240 : decode cL_law 240 = .ok (.iload_n 3, 1) := by decide +kernel
theorem dL_law_241 : decode cL_law 241 = .ok (.iconst 4, 1) := by decide +kernel
theorem dL_law_242 : decode cL_law 242 = .ok (.iadd, 1) := by decide +kernel
theorem dL_law_243 : decode cL_law 243 = .ok (.iaload, 1) := by decide +kernel
theorem dL_law_244 : decode cL_law 244 = .ok (.invokevirtual 22, 3) := by decide +kernel
theorem dL_law_247 : decode cL_law 247 = .ok (.if_icmp .eq 733, 3) := by decide +kernel
theorem dL_law_250 : decode cL_law 250 = .ok (.iconst 0, 1) := by decide +kernel
theorem dL_law_251 : decode cL_law 251 = .ok (.ireturn, 1) := by decide +kernel
theorem dL_law_252 : decode cL_law 252 = .ok (.aload_n 1, 1) := by decide +kernel
theorem dL_law_253 : decode cL_law 253 = .ok (.aload_n 0, 1) := by decide +kernel
theorem dL_law_254 : decode cL_law 254 = .ok (.iload_n 3, 1) := by decide +kernel
theorem dL_law_255 : decode cL_law 255 = .ok (.iconst 1, 1) := by decide +kernel
theorem dL_law_256 : decode cL_law 256 = .ok (.iadd, 1) := by decide +kernel
theorem dL_law_257 : decode cL_law 257 = .ok (.iaload, 1) := by decide +kernel
theorem dL_law_258 : decode cL_law 258 = .ok (.invokevirtual 23, 3) := by decide +kernel
theorem dL_law_261 : decode cL_law 261 = .ok (.aload_n 2, 1) := by decide +kernel
theorem dL_law_262 : decode cL_law 262 = .ok (.aload_n 0, 1) := by decide +kernel
theorem dL_law_263 : decode cL_law 263 = .ok (.iload_n 3, 1) := by decide +kernel
theorem dL_law_264 : decode cL_law 264 = .ok (.iconst 1, 1) := by decide +kernel
theorem dL_law_265 : decode cL_law 265 = .ok (.iadd, 1) := by decide +kernel
theorem dL_law_266 : decode cL_law 266 = .ok (.iaload, 1) := by decide +kernel
theorem dL_law_267 : decode cL_law 267 = .ok (.invokevirtual 27, 3) := by decide +kernel
theorem dL_law_270 : decode cL_law 270 = .ok (.if_icmp .eq 710, 3) := by decide +kernel
theorem dL_law_273 : decode cL_law 273 = .ok (.iconst 0, 1) := by decide +kernel
theorem dL_law_274 : decode cL_law 274 = .ok (.ireturn, 1) := by decide +kernel
theorem dL_law_275 : decode cL_law 275 = .ok (.aload_n 1, 1) := by decide +kernel
theorem dL_law_276 : decode cL_law 276 = .ok (.aload_n 0, 1) := by decide +kernel
theorem dL_law_277 : decode cL_law 277 = .ok (.iload_n 3, 1) := by decide +kernel
theorem dL_law_278 : decode cL_law 278 = .ok (.iconst 1, 1) := by decide +kernel
theorem dL_law_279 : decode cL_law 279 = .ok (.iadd, 1) := by decide +kernel
theorem dL_law_280 : decode cL_law 280 = .ok (.iaload, 1) := by decide +kernel
theorem dL_law_281 : decode cL_law 281 = .ok (.aload_n 0, 1) := by decide +kernel
theorem dL_law_282 : decode cL_law 282 = .ok (.iload_n 3, 1) := by decide +kernel
theorem dL_law_283 : decode cL_law 283 = .ok (.iconst 2, 1) := by decide +kernel
theorem dL_law_284 : decode cL_law 284 = .ok (.iadd, 1) := by decide +kernel
theorem dL_law_285 : decode cL_law 285 = .ok (.iaload, 1) := by decide +kernel
theorem dL_law_286 : decode cL_law 286 = .ok (.aload_n 0, 1) := by decide +kernel
theorem dL_law_287 : decode cL_law 287 = .ok (.iload_n 3, 1) := by decide +kernel
theorem dL_law_288 : decode cL_law 288 = .ok (.iconst 3, 1) := by decide +kernel
theorem dL_law_289 : decode cL_law 289 = .ok (.iadd, 1) := by decide +kernel
theorem dL_law_290 : decode cL_law 290 = .ok (.iaload, 1) := by decide +kernel
theorem dL_law_291 : decode cL_law 291 = .ok (.invokevirtual 28, 3) := by decide +kernel
theorem dL_law_294 : decode cL_law 294 = .ok (.aload_n 2, 1) := by decide +kernel
theorem dL_law_295 : decode cL_law 295 = .ok (.aload_n 0, 1) := by decide +kernel
theorem dL_law_296 : decode cL_law 296 = .ok (.iload_n 3, 1) := by decide +kernel
theorem dL_law_297 : decode cL_law 297 = .ok (.iconst 1, 1) := by decide +kernel
theorem dL_law_298 : decode cL_law 298 = .ok (.iadd, 1) := by decide +kernel
theorem dL_law_299 : decode cL_law 299 = .ok (.iaload, 1) := by decide +kernel
theorem dL_law_300 : decode cL_law 300 = .ok (.aload_n 0, 1) := by decide +kernel
theorem dL_law_301 : decode cL_law 301 = .ok (.iload_n 3, 1) := by decide +kernel
theorem dL_law_302 : decode cL_law 302 = .ok (.iconst 2, 1) := by decide +kernel
theorem dL_law_303 : decode cL_law 303 = .ok (.iadd, 1) := by decide +kernel
theorem dL_law_304 : decode cL_law 304 = .ok (.iaload, 1) := by decide +kernel
theorem dL_law_305 : decode cL_law 305 = .ok (.aload_n 0, 1) := by decide +kernel
theorem dL_law_306 : decode cL_law 306 = .ok (.iload_n 3, 1) := by decide +kernel
theorem dL_law_307 : decode cL_law 307 = .ok (.iconst 3, 1) := by decide +kernel
theorem dL_law_308 : decode cL_law 308 = .ok (.iadd, 1) := by decide +kernel
theorem dL_law_309 : decode cL_law 309 = .ok (.iaload, 1) := by decide +kernel
theorem dL_law_310 : decode cL_law 310 = .ok (.invokevirtual 31, 3) := by decide +kernel
theorem dL_law_313 : decode cL_law 313 = .ok (.if_icmp .eq 667, 3) := by decide +kernel
theorem dL_law_316 : decode cL_law 316 = .ok (.iconst 0, 1) := by decide +kernel
theorem dL_law_317 : decode cL_law 317 = .ok (.ireturn, 1) := by decide +kernel
theorem dL_law_318 : decode cL_law 318 = .ok (.aload_n 1, 1) := by decide +kernel
theorem dL_law_319 : decode cL_law 319 = .ok (.aload_n 0, 1) := by decide +kernel
theorem dL_law_320 : decode cL_law 320 = .ok (.iload_n 3, 1) := by decide +kernel
theorem dL_law_321 : decode cL_law 321 = .ok (.iconst 1, 1) := by decide +kernel
theorem dL_law_322 : decode cL_law 322 = .ok (.iadd, 1) := by decide +kernel
theorem dL_law_323 : decode cL_law 323 = .ok (.iaload, 1) := by decide +kernel
theorem dL_law_324 : decode cL_law 324 = .ok (.aload_n 0, 1) := by decide +kernel
theorem dL_law_325 : decode cL_law 325 = .ok (.iload_n 3, 1) := by decide +kernel
theorem dL_law_326 : decode cL_law 326 = .ok (.iconst 2, 1) := by decide +kernel
theorem dL_law_327 : decode cL_law 327 = .ok (.iadd, 1) := by decide +kernel
theorem dL_law_328 : decode cL_law 328 = .ok (.iaload, 1) := by decide +kernel
theorem dL_law_329 : decode cL_law 329 = .ok (.aload_n 0, 1) := by decide +kernel
theorem dL_law_330 : decode cL_law 330 = .ok (.iload_n 3, 1) := by decide +kernel
theorem dL_law_331 : decode cL_law 331 = .ok (.iconst 3, 1) := by decide +kernel
theorem dL_law_332 : decode cL_law 332 = .ok (.iadd, 1) := by decide +kernel
theorem dL_law_333 : decode cL_law 333 = .ok (.iaload, 1) := by decide +kernel
theorem dL_law_334 : decode cL_law 334 = .ok (.ifCond .eq 7, 3) := by decide +kernel
theorem dL_law_337 : decode cL_law 337 = .ok (.iconst 1, 1) := by decide +kernel
theorem dL_law_338 : decode cL_law 338 = .ok (.goto 4, 3) := by decide +kernel
theorem dL_law_341 : decode cL_law 341 = .ok (.iconst 0, 1) := by decide +kernel
theorem dL_law_342 : decode cL_law 342 = .ok (.invokevirtual 32, 3) := by decide +kernel
theorem dL_law_345 : decode cL_law 345 = .ok (.aload_n 2, 1) := by decide +kernel
theorem dL_law_346 : decode cL_law 346 = .ok (.aload_n 0, 1) := by decide +kernel
theorem dL_law_347 : decode cL_law 347 = .ok (.iload_n 3, 1) := by decide +kernel
theorem dL_law_348 : decode cL_law 348 = .ok (.iconst 1, 1) := by decide +kernel
theorem dL_law_349 : decode cL_law 349 = .ok (.iadd, 1) := by decide +kernel
theorem dL_law_350 : decode cL_law 350 = .ok (.iaload, 1) := by decide +kernel
theorem dL_law_351 : decode cL_law 351 = .ok (.aload_n 0, 1) := by decide +kernel
theorem dL_law_352 : decode cL_law 352 = .ok (.iload_n 3, 1) := by decide +kernel
theorem dL_law_353 : decode cL_law 353 = .ok (.iconst 2, 1) := by decide +kernel
theorem dL_law_354 : decode cL_law 354 = .ok (.iadd, 1) := by decide +kernel
theorem dL_law_355 : decode cL_law 355 = .ok (.iaload, 1) := by decide +kernel
theorem dL_law_356 : decode cL_law 356 = .ok (.aload_n 0, 1) := by decide +kernel
theorem dL_law_357 : decode cL_law 357 = .ok (.iload_n 3, 1) := by decide +kernel
theorem dL_law_358 : decode cL_law 358 = .ok (.iconst 3, 1) := by decide +kernel
theorem dL_law_359 : decode cL_law 359 = .ok (.iadd, 1) := by decide +kernel
theorem dL_law_360 : decode cL_law 360 = .ok (.iaload, 1) := by decide +kernel
theorem dL_law_361 : decode cL_law 361 = .ok (.ifCond .eq 7, 3) := by decide +kernel
theorem dL_law_364 : decode cL_law 364 = .ok (.iconst 1, 1) := by decide +kernel
theorem dL_law_365 : decode cL_law 365 = .ok (.goto 4, 3) := by decide +kernel
theorem dL_law_368 : decode cL_law 368 = .ok (.iconst 0, 1) := by decide +kernel
theorem dL_law_369 : decode cL_law 369 = .ok (.invokevirtual 36, 3) := by decide +kernel
theorem dL_law_372 : decode cL_law 372 = .ok (.if_icmp .eq 608, 3) := by decide +kernel
theorem dL_law_375 : decode cL_law 375 = .ok (.iconst 0, 1) := by decide +kernel
theorem dL_law_376 : decode cL_law 376 = .ok (.ireturn, 1) := by decide +kernel
theorem dL_law_377 : decode cL_law 377 = .ok (.aload_n 1, 1) := by decide +kernel
theorem dL_law_378 : decode cL_law 378 = .ok (.aload_n 0, 1) := by decide +kernel
theorem dL_law_379 : decode cL_law 379 = .ok (.iload_n 3, 1) := by decide +kernel
theorem dL_law_380 : decode cL_law 380 = .ok (.iconst 1, 1) := by decide +kernel
theorem dL_law_381 : decode cL_law 381 = .ok (.iadd, 1) := by decide +kernel
theorem dL_law_382 : decode cL_law 382 = .ok (.iaload, 1) := by decide +kernel
theorem dL_law_383 : decode cL_law 383 = .ok (.invokevirtual 37, 3) := by decide +kernel
theorem dL_law_386 : decode cL_law 386 = .ok (.aload_n 2, 1) := by decide +kernel
theorem dL_law_387 : decode cL_law 387 = .ok (.aload_n 0, 1) := by decide +kernel
theorem dL_law_388 : decode cL_law 388 = .ok (.iload_n 3, 1) := by decide +kernel
theorem dL_law_389 : decode cL_law 389 = .ok (.iconst 1, 1) := by decide +kernel
theorem dL_law_390 : decode cL_law 390 = .ok (.iadd, 1) := by decide +kernel
theorem dL_law_391 : decode cL_law 391 = .ok (.iaload, 1) := by decide +kernel
theorem dL_law_392 : decode cL_law 392 = .ok (.invokevirtual 40, 3) := by decide +kernel
theorem dL_law_395 : decode cL_law 395 = .ok (.if_icmp .eq 585, 3) := by decide +kernel
theorem dL_law_398 : decode cL_law 398 = .ok (.iconst 0, 1) := by decide +kernel
theorem dL_law_399 : decode cL_law 399 = .ok (.ireturn, 1) := by decide +kernel
theorem dL_law_400 : decode cL_law 400 = .ok (.aload_n 1, 1) := by decide +kernel
theorem dL_law_401 : decode cL_law 401 = .ok (.invokevirtual 41, 3) := by decide +kernel
theorem dL_law_404 : decode cL_law 404 = .ok (.aload_n 2, 1) := by decide +kernel
theorem dL_law_405 : decode cL_law 405 = .ok (.invokevirtual 45, 3) := by decide +kernel
theorem dL_law_408 : decode cL_law 408 = .ok (.if_icmp .eq 572, 3) := by decide +kernel
theorem dL_law_411 : decode cL_law 411 = .ok (.iconst 0, 1) := by decide +kernel
theorem dL_law_412 : decode cL_law 412 = .ok (.ireturn, 1) := by decide +kernel
theorem dL_law_413 : decode cL_law 413 = .ok (.aload_n 1, 1) := by decide +kernel
theorem dL_law_414 : decode cL_law 414 = .ok (.invokevirtual 46, 3) := by decide +kernel
theorem dL_law_417 : decode cL_law 417 = .ok (.aload_n 2, 1) := by decide +kernel
theorem dL_law_418 : decode cL_law 418 = .ok (.invokevirtual 49, 3) := by decide +kernel
theorem dL_law_421 : decode cL_law 421 = .ok (.if_icmp .eq 559, 3) := by decide +kernel
theorem dL_law_424 : decode cL_law 424 = .ok (.iconst 0, 1) := by decide +kernel
theorem dL_law_425 : decode cL_law 425 = .ok (.ireturn, 1) := by decide +kernel
theorem dL_law_426 : decode cL_law 426 = .ok (.aload_n 1, 1) := by decide +kernel
theorem dL_law_427 : decode cL_law 427 = .ok (.aload_n 0, 1) := by decide +kernel
theorem dL_law_428 : decode cL_law 428 = .ok (.iload_n 3, 1) := by decide +kernel
theorem dL_law_429 : decode cL_law 429 = .ok (.iconst 1, 1) := by decide +kernel
theorem dL_law_430 : decode cL_law 430 = .ok (.iadd, 1) := by decide +kernel
theorem dL_law_431 : decode cL_law 431 = .ok (.iaload, 1) := by decide +kernel
theorem dL_law_432 : decode cL_law 432 = .ok (.invokevirtual 50, 3) := by decide +kernel
theorem dL_law_435 : decode cL_law 435 = .ok (.aload_n 2, 1) := by decide +kernel
theorem dL_law_436 : decode cL_law 436 = .ok (.aload_n 0, 1) := by decide +kernel
theorem dL_law_437 : decode cL_law 437 = .ok (.iload_n 3, 1) := by decide +kernel
theorem dL_law_438 : decode cL_law 438 = .ok (.iconst 1, 1) := by decide +kernel
theorem dL_law_439 : decode cL_law 439 = .ok (.iadd, 1) := by decide +kernel
theorem dL_law_440 : decode cL_law 440 = .ok (.iaload, 1) := by decide +kernel
theorem dL_law_441 : decode cL_law 441 = .ok (.invokevirtual 53, 3) := by decide +kernel
theorem dL_law_444 : decode cL_law 444 = .ok (.if_icmp .eq 536, 3) := by decide +kernel
theorem dL_law_447 : decode cL_law 447 = .ok (.iconst 0, 1) := by decide +kernel
theorem dL_law_448 : decode cL_law 448 = .ok (.ireturn, 1) := by decide +kernel
theorem dL_law_449 : decode cL_law 449 = .ok (.aload_n 1, 1) := by decide +kernel
theorem dL_law_450 : decode cL_law 450 = .ok (.invokevirtual 54, 3) := by decide +kernel
theorem dL_law_453 : decode cL_law 453 = .ok (.aload_n 2, 1) := by decide +kernel
theorem dL_law_454 : decode cL_law 454 = .ok (.invokevirtual 57, 3) := by decide +kernel
theorem dL_law_457 : decode cL_law 457 = .ok (.if_icmp .eq 523, 3) := by decide +kernel
theorem dL_law_460 : decode cL_law 460 = .ok (.iconst 0, 1) := by decide +kernel
theorem dL_law_461 : decode cL_law 461 = .ok (.ireturn, 1) := by decide +kernel
theorem dL_law_462 : decode cL_law 462 = .ok (.aload_n 1, 1) := by decide +kernel
theorem dL_law_463 : decode cL_law 463 = .ok (.aload_n 0, 1) := by decide +kernel
theorem dL_law_464 : decode cL_law 464 = .ok (.iload_n 3, 1) := by decide +kernel
theorem dL_law_465 : decode cL_law 465 = .ok (.iconst 1, 1) := by decide +kernel
theorem dL_law_466 : decode cL_law 466 = .ok (.iadd, 1) := by decide +kernel
theorem dL_law_467 : decode cL_law 467 = .ok (.iaload, 1) := by decide +kernel
theorem dL_law_468 : decode cL_law 468 = .ok (.aload_n 0, 1) := by decide +kernel
theorem dL_law_469 : decode cL_law 469 = .ok (.iload_n 3, 1) := by decide +kernel
theorem dL_law_470 : decode cL_law 470 = .ok (.iconst 2, 1) := by decide +kernel
theorem dL_law_471 : decode cL_law 471 = .ok (.iadd, 1) := by decide +kernel
theorem dL_law_472 : decode cL_law 472 = .ok (.iaload, 1) := by decide +kernel
theorem dL_law_473 : decode cL_law 473 = .ok (.invokevirtual 58, 3) := by decide +kernel
theorem dL_law_476 : decode cL_law 476 = .ok (.aload_n 2, 1) := by decide +kernel
theorem dL_law_477 : decode cL_law 477 = .ok (.aload_n 0, 1) := by decide +kernel
theorem dL_law_478 : decode cL_law 478 = .ok (.iload_n 3, 1) := by decide +kernel
theorem dL_law_479 : decode cL_law 479 = .ok (.iconst 1, 1) := by decide +kernel
theorem dL_law_480 : decode cL_law 480 = .ok (.iadd, 1) := by decide +kernel
theorem dL_law_481 : decode cL_law 481 = .ok (.iaload, 1) := by decide +kernel
theorem dL_law_482 : decode cL_law 482 = .ok (.aload_n 0, 1) := by decide +kernel
theorem dL_law_483 : decode cL_law 483 = .ok (.iload_n 3, 1) := by decide +kernel
theorem dL_law_484 : decode cL_law 484 = .ok (.iconst 2, 1) := by decide +kernel
theorem dL_law_485 : decode cL_law 485 = .ok (.iadd, 1) := by decide +kernel
theorem dL_law_486 : decode cL_law 486 = .ok (.iaload, 1) := by decide +kernel
theorem dL_law_487 : decode cL_law 487 = .ok (.invokevirtual 62, 3) := by decide +kernel
theorem dL_law_490 : decode cL_law 490 = .ok (.if_icmp .eq 490, 3) := by decide +kernel
theorem dL_law_493 : decode cL_law 493 = .ok (.iconst 0, 1) := by decide +kernel
theorem dL_law_494 : decode cL_law 494 = .ok (.ireturn, 1) := by decide +kernel
theorem dL_law_495 : decode cL_law 495 = .ok (.aload_n 1, 1) := by decide +kernel
theorem dL_law_496 : decode cL_law 496 = .ok (.aload_n 0, 1) := by decide +kernel
theorem dL_law_497 : decode cL_law 497 = .ok (.iload_n 3, 1) := by decide +kernel
theorem dL_law_498 : decode cL_law 498 = .ok (.iconst 1, 1) := by decide +kernel
theorem dL_law_499 : decode cL_law 499 = .ok (.iadd, 1) := by decide +kernel
theorem dL_law_500 : decode cL_law 500 = .ok (.iaload, 1) := by decide +kernel
theorem dL_law_501 : decode cL_law 501 = .ok (.invokevirtual 63, 3) := by decide +kernel
theorem dL_law_504 : decode cL_law 504 = .ok (.aload_n 2, 1) := by decide +kernel
theorem dL_law_505 : decode cL_law 505 = .ok (.aload_n 0, 1) := by decide +kernel
theorem dL_law_506 : decode cL_law 506 = .ok (.iload_n 3, 1) := by decide +kernel
theorem dL_law_507 : decode cL_law 507 = .ok (.iconst 1, 1) := by decide +kernel
theorem dL_law_508 : decode cL_law 508 = .ok (.iadd, 1) := by decide +kernel
theorem dL_law_509 : decode cL_law 509 = .ok (.iaload, 1) := by decide +kernel
theorem dL_law_510 : decode cL_law 510 = .ok (.invokevirtual 66, 3) := by decide +kernel
theorem dL_law_513 : decode cL_law 513 = .ok (.if_icmp .eq 467, 3) := by decide +kernel
theorem dL_law_516 : decode cL_law 516 = .ok (.iconst 0, 1) := by decide +kernel
theorem dL_law_517 : decode cL_law 517 = .ok (.ireturn, 1) := by decide +kernel
theorem dL_law_518 : decode cL_law 518 = .ok (.aload_n 1, 1) := by decide +kernel
theorem dL_law_519 : decode cL_law 519 = .ok (.aload_n 0, 1) := by decide +kernel
theorem dL_law_520 : decode cL_law 520 = .ok (.iload_n 3, 1) := by decide +kernel
theorem dL_law_521 : decode cL_law 521 = .ok (.iconst 1, 1) := by decide +kernel
theorem dL_law_522 : decode cL_law 522 = .ok (.iadd, 1) := by decide +kernel
theorem dL_law_523 : decode cL_law 523 = .ok (.iaload, 1) := by decide +kernel
theorem dL_law_524 : decode cL_law 524 = .ok (.invokevirtual 67, 3) := by decide +kernel
theorem dL_law_527 : decode cL_law 527 = .ok (.aload_n 2, 1) := by decide +kernel
theorem dL_law_528 : decode cL_law 528 = .ok (.aload_n 0, 1) := by decide +kernel
theorem dL_law_529 : decode cL_law 529 = .ok (.iload_n 3, 1) := by decide +kernel
theorem dL_law_530 : decode cL_law 530 = .ok (.iconst 1, 1) := by decide +kernel
theorem dL_law_531 : decode cL_law 531 = .ok (.iadd, 1) := by decide +kernel
theorem dL_law_532 : decode cL_law 532 = .ok (.iaload, 1) := by decide +kernel
theorem dL_law_533 : decode cL_law 533 = .ok (.invokevirtual 70, 3) := by decide +kernel
theorem dL_law_536 : decode cL_law 536 = .ok (.if_icmp .eq 444, 3) := by decide +kernel
theorem dL_law_539 : decode cL_law 539 = .ok (.iconst 0, 1) := by decide +kernel
theorem dL_law_540 : decode cL_law 540 = .ok (.ireturn, 1) := by decide +kernel
theorem dL_law_541 : decode cL_law 541 = .ok (.aload_n 1, 1) := by decide +kernel
theorem dL_law_542 : decode cL_law 542 = .ok (.aload_n 0, 1) := by decide +kernel
theorem dL_law_543 : decode cL_law 543 = .ok (.iload_n 3, 1) := by decide +kernel
theorem dL_law_544 : decode cL_law 544 = .ok (.iconst 1, 1) := by decide +kernel
theorem dL_law_545 : decode cL_law 545 = .ok (.iadd, 1) := by decide +kernel
theorem dL_law_546 : decode cL_law 546 = .ok (.iaload, 1) := by decide +kernel
theorem dL_law_547 : decode cL_law 547 = .ok (.aload_n 0, 1) := by decide +kernel
theorem dL_law_548 : decode cL_law 548 = .ok (.iload_n 3, 1) := by decide +kernel
theorem dL_law_549 : decode cL_law 549 = .ok (.iconst 2, 1) := by decide +kernel
theorem dL_law_550 : decode cL_law 550 = .ok (.iadd, 1) := by decide +kernel
theorem dL_law_551 : decode cL_law 551 = .ok (.iaload, 1) := by decide +kernel
theorem dL_law_552 : decode cL_law 552 = .ok (.invokevirtual 71, 3) := by decide +kernel
theorem dL_law_555 : decode cL_law 555 = .ok (.aload_n 2, 1) := by decide +kernel
theorem dL_law_556 : decode cL_law 556 = .ok (.aload_n 0, 1) := by decide +kernel
theorem dL_law_557 : decode cL_law 557 = .ok (.iload_n 3, 1) := by decide +kernel
theorem dL_law_558 : decode cL_law 558 = .ok (.iconst 1, 1) := by decide +kernel
theorem dL_law_559 : decode cL_law 559 = .ok (.iadd, 1) := by decide +kernel
theorem dL_law_560 : decode cL_law 560 = .ok (.iaload, 1) := by decide +kernel
theorem dL_law_561 : decode cL_law 561 = .ok (.aload_n 0, 1) := by decide +kernel
theorem dL_law_562 : decode cL_law 562 = .ok (.iload_n 3, 1) := by decide +kernel
theorem dL_law_563 : decode cL_law 563 = .ok (.iconst 2, 1) := by decide +kernel
theorem dL_law_564 : decode cL_law 564 = .ok (.iadd, 1) := by decide +kernel
theorem dL_law_565 : decode cL_law 565 = .ok (.iaload, 1) := by decide +kernel
theorem dL_law_566 : decode cL_law 566 = .ok (.invokevirtual 74, 3) := by decide +kernel
theorem dL_law_569 : decode cL_law 569 = .ok (.if_icmp .eq 411, 3) := by decide +kernel
theorem dL_law_572 : decode cL_law 572 = .ok (.iconst 0, 1) := by decide +kernel
theorem dL_law_573 : decode cL_law 573 = .ok (.ireturn, 1) := by decide +kernel
theorem dL_law_574 : decode cL_law 574 = .ok (.aload_n 1, 1) := by decide +kernel
theorem dL_law_575 : decode cL_law 575 = .ok (.aload_n 0, 1) := by decide +kernel
theorem dL_law_576 : decode cL_law 576 = .ok (.iload_n 3, 1) := by decide +kernel
theorem dL_law_577 : decode cL_law 577 = .ok (.iconst 1, 1) := by decide +kernel
theorem dL_law_578 : decode cL_law 578 = .ok (.iadd, 1) := by decide +kernel
theorem dL_law_579 : decode cL_law 579 = .ok (.iaload, 1) := by decide +kernel
theorem dL_law_580 : decode cL_law 580 = .ok (.invokevirtual 75, 3) := by decide +kernel
theorem dL_law_583 : decode cL_law 583 = .ok (.aload_n 2, 1) := by decide +kernel
theorem dL_law_584 : decode cL_law 584 = .ok (.aload_n 0, 1) := by decide +kernel
theorem dL_law_585 : decode cL_law 585 = .ok (.iload_n 3, 1) := by decide +kernel
theorem dL_law_586 : decode cL_law 586 = .ok (.iconst 1, 1) := by decide +kernel
theorem dL_law_587 : decode cL_law 587 = .ok (.iadd, 1) := by decide +kernel
theorem dL_law_588 : decode cL_law 588 = .ok (.iaload, 1) := by decide +kernel
theorem dL_law_589 : decode cL_law 589 = .ok (.invokevirtual 78, 3) := by decide +kernel
theorem dL_law_592 : decode cL_law 592 = .ok (.if_icmp .eq 388, 3) := by decide +kernel
theorem dL_law_595 : decode cL_law 595 = .ok (.iconst 0, 1) := by decide +kernel
theorem dL_law_596 : decode cL_law 596 = .ok (.ireturn, 1) := by decide +kernel
theorem dL_law_597 : decode cL_law 597 = .ok (.aload_n 1, 1) := by decide +kernel
theorem dL_law_598 : decode cL_law 598 = .ok (.aload_n 0, 1) := by decide +kernel
theorem dL_law_599 : decode cL_law 599 = .ok (.iload_n 3, 1) := by decide +kernel
theorem dL_law_600 : decode cL_law 600 = .ok (.iconst 1, 1) := by decide +kernel
theorem dL_law_601 : decode cL_law 601 = .ok (.iadd, 1) := by decide +kernel
theorem dL_law_602 : decode cL_law 602 = .ok (.iaload, 1) := by decide +kernel
theorem dL_law_603 : decode cL_law 603 = .ok (.aload_n 0, 1) := by decide +kernel
theorem dL_law_604 : decode cL_law 604 = .ok (.iload_n 3, 1) := by decide +kernel
theorem dL_law_605 : decode cL_law 605 = .ok (.iconst 2, 1) := by decide +kernel
theorem dL_law_606 : decode cL_law 606 = .ok (.iadd, 1) := by decide +kernel
theorem dL_law_607 : decode cL_law 607 = .ok (.iaload, 1) := by decide +kernel
theorem dL_law_608 : decode cL_law 608 = .ok (.invokevirtual 79, 3) := by decide +kernel
theorem dL_law_611 : decode cL_law 611 = .ok (.aload_n 2, 1) := by decide +kernel
theorem dL_law_612 : decode cL_law 612 = .ok (.aload_n 0, 1) := by decide +kernel
theorem dL_law_613 : decode cL_law 613 = .ok (.iload_n 3, 1) := by decide +kernel
theorem dL_law_614 : decode cL_law 614 = .ok (.iconst 1, 1) := by decide +kernel
theorem dL_law_615 : decode cL_law 615 = .ok (.iadd, 1) := by decide +kernel
theorem dL_law_616 : decode cL_law 616 = .ok (.iaload, 1) := by decide +kernel
theorem dL_law_617 : decode cL_law 617 = .ok (.aload_n 0, 1) := by decide +kernel
theorem dL_law_618 : decode cL_law 618 = .ok (.iload_n 3, 1) := by decide +kernel
theorem dL_law_619 : decode cL_law 619 = .ok (.iconst 2, 1) := by decide +kernel
theorem dL_law_620 : decode cL_law 620 = .ok (.iadd, 1) := by decide +kernel
theorem dL_law_621 : decode cL_law 621 = .ok (.iaload, 1) := by decide +kernel
theorem dL_law_622 : decode cL_law 622 = .ok (.invokevirtual 82, 3) := by decide +kernel
theorem dL_law_625 : decode cL_law 625 = .ok (.if_icmp .eq 355, 3) := by decide +kernel
theorem dL_law_628 : decode cL_law 628 = .ok (.iconst 0, 1) := by decide +kernel
theorem dL_law_629 : decode cL_law 629 = .ok (.ireturn, 1) := by decide +kernel
theorem dL_law_630 : decode cL_law 630 = .ok (.aload_n 1, 1) := by decide +kernel
theorem dL_law_631 : decode cL_law 631 = .ok (.aload_n 0, 1) := by decide +kernel
theorem dL_law_632 : decode cL_law 632 = .ok (.iload_n 3, 1) := by decide +kernel
theorem dL_law_633 : decode cL_law 633 = .ok (.iconst 1, 1) := by decide +kernel
theorem dL_law_634 : decode cL_law 634 = .ok (.iadd, 1) := by decide +kernel
theorem dL_law_635 : decode cL_law 635 = .ok (.iaload, 1) := by decide +kernel
theorem dL_law_636 : decode cL_law 636 = .ok (.aload_n 0, 1) := by decide +kernel
theorem dL_law_637 : decode cL_law 637 = .ok (.iload_n 3, 1) := by decide +kernel
theorem dL_law_638 : decode cL_law 638 = .ok (.iconst 2, 1) := by decide +kernel
theorem dL_law_639 : decode cL_law 639 = .ok (.iadd, 1) := by decide +kernel
theorem dL_law_640 : decode cL_law 640 = .ok (.iaload, 1) := by decide +kernel
theorem dL_law_641 : decode cL_law 641 = .ok (.aload_n 0, 1) := by decide +kernel
theorem dL_law_642 : decode cL_law 642 = .ok (.iload_n 3, 1) := by decide +kernel
theorem dL_law_643 : decode cL_law 643 = .ok (.iconst 3, 1) := by decide +kernel
theorem dL_law_644 : decode cL_law 644 = .ok (.iadd, 1) := by decide +kernel
theorem dL_law_645 : decode cL_law 645 = .ok (.iaload, 1) := by decide +kernel
theorem dL_law_646 : decode cL_law 646 = .ok (.invokevirtual 83, 3) := by decide +kernel
theorem dL_law_649 : decode cL_law 649 = .ok (.aload_n 2, 1) := by decide +kernel
theorem dL_law_650 : decode cL_law 650 = .ok (.aload_n 0, 1) := by decide +kernel
theorem dL_law_651 : decode cL_law 651 = .ok (.iload_n 3, 1) := by decide +kernel
theorem dL_law_652 : decode cL_law 652 = .ok (.iconst 1, 1) := by decide +kernel
theorem dL_law_653 : decode cL_law 653 = .ok (.iadd, 1) := by decide +kernel
theorem dL_law_654 : decode cL_law 654 = .ok (.iaload, 1) := by decide +kernel
theorem dL_law_655 : decode cL_law 655 = .ok (.aload_n 0, 1) := by decide +kernel
theorem dL_law_656 : decode cL_law 656 = .ok (.iload_n 3, 1) := by decide +kernel
theorem dL_law_657 : decode cL_law 657 = .ok (.iconst 2, 1) := by decide +kernel
theorem dL_law_658 : decode cL_law 658 = .ok (.iadd, 1) := by decide +kernel
theorem dL_law_659 : decode cL_law 659 = .ok (.iaload, 1) := by decide +kernel
theorem dL_law_660 : decode cL_law 660 = .ok (.aload_n 0, 1) := by decide +kernel
theorem dL_law_661 : decode cL_law 661 = .ok (.iload_n 3, 1) := by decide +kernel
theorem dL_law_662 : decode cL_law 662 = .ok (.iconst 3, 1) := by decide +kernel
theorem dL_law_663 : decode cL_law 663 = .ok (.iadd, 1) := by decide +kernel
theorem dL_law_664 : decode cL_law 664 = .ok (.iaload, 1) := by decide +kernel
theorem dL_law_665 : decode cL_law 665 = .ok (.invokevirtual 86, 3) := by decide +kernel
theorem dL_law_668 : decode cL_law 668 = .ok (.if_icmp .eq 312, 3) := by decide +kernel
theorem dL_law_671 : decode cL_law 671 = .ok (.iconst 0, 1) := by decide +kernel
theorem dL_law_672 : decode cL_law 672 = .ok (.ireturn, 1) := by decide +kernel
theorem dL_law_673 : decode cL_law 673 = .ok (.aload_n 1, 1) := by decide +kernel
theorem dL_law_674 : decode cL_law 674 = .ok (.aload_n 0, 1) := by decide +kernel
theorem dL_law_675 : decode cL_law 675 = .ok (.iload_n 3, 1) := by decide +kernel
theorem dL_law_676 : decode cL_law 676 = .ok (.iconst 1, 1) := by decide +kernel
theorem dL_law_677 : decode cL_law 677 = .ok (.iadd, 1) := by decide +kernel
theorem dL_law_678 : decode cL_law 678 = .ok (.iaload, 1) := by decide +kernel
theorem dL_law_679 : decode cL_law 679 = .ok (.aload_n 0, 1) := by decide +kernel
theorem dL_law_680 : decode cL_law 680 = .ok (.iload_n 3, 1) := by decide +kernel
theorem dL_law_681 : decode cL_law 681 = .ok (.iconst 2, 1) := by decide +kernel
theorem dL_law_682 : decode cL_law 682 = .ok (.iadd, 1) := by decide +kernel
theorem dL_law_683 : decode cL_law 683 = .ok (.iaload, 1) := by decide +kernel
theorem dL_law_684 : decode cL_law 684 = .ok (.ifCond .eq 7, 3) := by decide +kernel
theorem dL_law_687 : decode cL_law 687 = .ok (.iconst 1, 1) := by decide +kernel
theorem dL_law_688 : decode cL_law 688 = .ok (.goto 4, 3) := by decide +kernel
theorem dL_law_691 : decode cL_law 691 = .ok (.iconst 0, 1) := by decide +kernel
theorem dL_law_692 : decode cL_law 692 = .ok (.invokevirtual 87, 3) := by decide +kernel
theorem dL_law_695 : decode cL_law 695 = .ok (.aload_n 2, 1) := by decide +kernel
theorem dL_law_696 : decode cL_law 696 = .ok (.aload_n 0, 1) := by decide +kernel
theorem dL_law_697 : decode cL_law 697 = .ok (.iload_n 3, 1) := by decide +kernel
theorem dL_law_698 : decode cL_law 698 = .ok (.iconst 1, 1) := by decide +kernel
theorem dL_law_699 : decode cL_law 699 = .ok (.iadd, 1) := by decide +kernel
theorem dL_law_700 : decode cL_law 700 = .ok (.iaload, 1) := by decide +kernel
theorem dL_law_701 : decode cL_law 701 = .ok (.aload_n 0, 1) := by decide +kernel
theorem dL_law_702 : decode cL_law 702 = .ok (.iload_n 3, 1) := by decide +kernel
theorem dL_law_703 : decode cL_law 703 = .ok (.iconst 2, 1) := by decide +kernel
theorem dL_law_704 : decode cL_law 704 = .ok (.iadd, 1) := by decide +kernel
theorem dL_law_705 : decode cL_law 705 = .ok (.iaload, 1) := by decide +kernel
theorem dL_law_706 : decode cL_law 706 = .ok (.ifCond .eq 7, 3) := by decide +kernel
theorem dL_law_709 : decode cL_law 709 = .ok (.iconst 1, 1) := by decide +kernel
theorem dL_law_710 : decode cL_law 710 = .ok (.goto 4, 3) := by decide +kernel
theorem dL_law_713 : decode cL_law 713 = .ok (.iconst 0, 1) := by decide +kernel
theorem dL_law_714 : decode cL_law 714 = .ok (.invokevirtual 91, 3) := by decide +kernel
theorem dL_law_717 : decode cL_law 717 = .ok (.if_icmp .eq 263, 3) := by decide +kernel
theorem dL_law_720 : decode cL_law 720 = .ok (.iconst 0, 1) := by decide +kernel
theorem dL_law_721 : decode cL_law 721 = .ok (.ireturn, 1) := by decide +kernel
theorem dL_law_722 : decode cL_law 722 = .ok (.aload_n 1, 1) := by decide +kernel
theorem dL_law_723 : decode cL_law 723 = .ok (.invokevirtual 92, 3) := by decide +kernel
theorem dL_law_726 : decode cL_law 726 = .ok (.aload_n 2, 1) := by decide +kernel
theorem dL_law_727 : decode cL_law 727 = .ok (.invokevirtual 95, 3) := by decide +kernel
theorem dL_law_730 : decode cL_law 730 = .ok (.if_icmp .eq 250, 3) := by decide +kernel
theorem dL_law_733 : decode cL_law 733 = .ok (.iconst 0, 1) := by decide +kernel
theorem dL_law_734 : decode cL_law 734 = .ok (.ireturn, 1) := by decide +kernel
theorem dL_law_735 : decode cL_law 735 = .ok (.aload_n 1, 1) := by decide +kernel
theorem dL_law_736 : decode cL_law 736 = .ok (.aload_n 0, 1) := by decide +kernel
theorem dL_law_737 : decode cL_law 737 = .ok (.iload_n 3, 1) := by decide +kernel
theorem dL_law_738 : decode cL_law 738 = .ok (.iconst 1, 1) := by decide +kernel
theorem dL_law_739 : decode cL_law 739 = .ok (.iadd, 1) := by decide +kernel
theorem dL_law_740 : decode cL_law 740 = .ok (.iaload, 1) := by decide +kernel
theorem dL_law_741 : decode cL_law 741 = .ok (.invokevirtual 96, 3) := by decide +kernel
theorem dL_law_744 : decode cL_law 744 = .ok (.aload_n 2, 1) := by decide +kernel
theorem dL_law_745 : decode cL_law 745 = .ok (.aload_n 0, 1) := by decide +kernel
theorem dL_law_746 : decode cL_law 746 = .ok (.iload_n 3, 1) := by decide +kernel
theorem dL_law_747 : decode cL_law 747 = .ok (.iconst 1, 1) := by decide +kernel
theorem dL_law_748 : decode cL_law 748 = .ok (.iadd, 1) := by decide +kernel
theorem dL_law_749 : decode cL_law 749 = .ok (.iaload, 1) := by decide +kernel
theorem dL_law_750 : decode cL_law 750 = .ok (.invokevirtual 99, 3) := by decide +kernel
theorem dL_law_753 : decode cL_law 753 = .ok (.if_icmp .eq 227, 3) := by decide +kernel
theorem dL_law_756 : decode cL_law 756 = .ok (.iconst 0, 1) := by decide +kernel
theorem dL_law_757 : decode cL_law 757 = .ok (.ireturn, 1) := by decide +kernel
theorem dL_law_758 : decode cL_law 758 = .ok (.aload_n 1, 1) := by decide +kernel
theorem dL_law_759 : decode cL_law 759 = .ok (.aload_n 0, 1) := by decide +kernel
theorem dL_law_760 : decode cL_law 760 = .ok (.iload_n 3, 1) := by decide +kernel
theorem dL_law_761 : decode cL_law 761 = .ok (.iconst 1, 1) := by decide +kernel
theorem dL_law_762 : decode cL_law 762 = .ok (.iadd, 1) := by decide +kernel
theorem dL_law_763 : decode cL_law 763 = .ok (.iaload, 1) := by decide +kernel
theorem dL_law_764 : decode cL_law 764 = .ok (.invokevirtual 100, 3) := by decide +kernel
theorem dL_law_767 : decode cL_law 767 = .ok (.aload_n 2, 1) := by decide +kernel
theorem dL_law_768 : decode cL_law 768 = .ok (.aload_n 0, 1) := by decide +kernel
theorem dL_law_769 : decode cL_law 769 = .ok (.iload_n 3, 1) := by decide +kernel
theorem dL_law_770 : decode cL_law 770 = .ok (.iconst 1, 1) := by decide +kernel
theorem dL_law_771 : decode cL_law 771 = .ok (.iadd, 1) := by decide +kernel
theorem dL_law_772 : decode cL_law 772 = .ok (.iaload, 1) := by decide +kernel
theorem dL_law_773 : decode cL_law 773 = .ok (.invokevirtual 103, 3) := by decide +kernel
theorem dL_law_776 : decode cL_law 776 = .ok (.if_icmp .eq 204, 3) := by decide +kernel
theorem dL_law_779 : decode cL_law 779 = .ok (.iconst 0, 1) := by decide +kernel
theorem dL_law_780 : decode cL_law 780 = .ok (.ireturn, 1) := by decide +kernel
theorem dL_law_781 : decode cL_law 781 = .ok (.aload_n 1, 1) := by decide +kernel
theorem dL_law_782 : decode cL_law 782 = .ok (.aload_n 0, 1) := by decide +kernel
theorem dL_law_783 : decode cL_law 783 = .ok (.iload_n 3, 1) := by decide +kernel
theorem dL_law_784 : decode cL_law 784 = .ok (.iconst 1, 1) := by decide +kernel
theorem dL_law_785 : decode cL_law 785 = .ok (.iadd, 1) := by decide +kernel
theorem dL_law_786 : decode cL_law 786 = .ok (.iaload, 1) := by decide +kernel
theorem dL_law_787 : decode cL_law 787 = .ok (.aload_n 0, 1) := by decide +kernel
theorem dL_law_788 : decode cL_law 788 = .ok (.iload_n 3, 1) := by decide +kernel
theorem dL_law_789 : decode cL_law 789 = .ok (.iconst 2, 1) := by decide +kernel
theorem dL_law_790 : decode cL_law 790 = .ok (.iadd, 1) := by decide +kernel
theorem dL_law_791 : decode cL_law 791 = .ok (.iaload, 1) := by decide +kernel
theorem dL_law_792 : decode cL_law 792 = .ok (.invokevirtual 104, 3) := by decide +kernel
theorem dL_law_795 : decode cL_law 795 = .ok (.aload_n 2, 1) := by decide +kernel
theorem dL_law_796 : decode cL_law 796 = .ok (.aload_n 0, 1) := by decide +kernel
theorem dL_law_797 : decode cL_law 797 = .ok (.iload_n 3, 1) := by decide +kernel
theorem dL_law_798 : decode cL_law 798 = .ok (.iconst 1, 1) := by decide +kernel
theorem dL_law_799 : decode cL_law 799 = .ok (.iadd, 1) := by decide +kernel
theorem dL_law_800 : decode cL_law 800 = .ok (.iaload, 1) := by decide +kernel
theorem dL_law_801 : decode cL_law 801 = .ok (.aload_n 0, 1) := by decide +kernel
theorem dL_law_802 : decode cL_law 802 = .ok (.iload_n 3, 1) := by decide +kernel
theorem dL_law_803 : decode cL_law 803 = .ok (.iconst 2, 1) := by decide +kernel
theorem dL_law_804 : decode cL_law 804 = .ok (.iadd, 1) := by decide +kernel
theorem dL_law_805 : decode cL_law 805 = .ok (.iaload, 1) := by decide +kernel
theorem dL_law_806 : decode cL_law 806 = .ok (.invokevirtual 107, 3) := by decide +kernel
theorem dL_law_809 : decode cL_law 809 = .ok (.if_icmp .eq 171, 3) := by decide +kernel
theorem dL_law_812 : decode cL_law 812 = .ok (.iconst 0, 1) := by decide +kernel
theorem dL_law_813 : decode cL_law 813 = .ok (.ireturn, 1) := by decide +kernel
theorem dL_law_814 : decode cL_law 814 = .ok (.aload_n 1, 1) := by decide +kernel
theorem dL_law_815 : decode cL_law 815 = .ok (.aload_n 0, 1) := by decide +kernel
theorem dL_law_816 : decode cL_law 816 = .ok (.iload_n 3, 1) := by decide +kernel
theorem dL_law_817 : decode cL_law 817 = .ok (.iconst 1, 1) := by decide +kernel
theorem dL_law_818 : decode cL_law 818 = .ok (.iadd, 1) := by decide +kernel
theorem dL_law_819 : decode cL_law 819 = .ok (.iaload, 1) := by decide +kernel
theorem dL_law_820 : decode cL_law 820 = .ok (.aload_n 0, 1) := by decide +kernel
theorem dL_law_821 : decode cL_law 821 = .ok (.iload_n 3, 1) := by decide +kernel
theorem dL_law_822 : decode cL_law 822 = .ok (.iconst 2, 1) := by decide +kernel
theorem dL_law_823 : decode cL_law 823 = .ok (.iadd, 1) := by decide +kernel
theorem dL_law_824 : decode cL_law 824 = .ok (.iaload, 1) := by decide +kernel
theorem dL_law_825 : decode cL_law 825 = .ok (.aload_n 0, 1) := by decide +kernel
theorem dL_law_826 : decode cL_law 826 = .ok (.iload_n 3, 1) := by decide +kernel
theorem dL_law_827 : decode cL_law 827 = .ok (.iconst 3, 1) := by decide +kernel
theorem dL_law_828 : decode cL_law 828 = .ok (.iadd, 1) := by decide +kernel
theorem dL_law_829 : decode cL_law 829 = .ok (.iaload, 1) := by decide +kernel
theorem dL_law_830 : decode cL_law 830 = .ok (.aload_n 0, 1) := by decide +kernel
theorem dL_law_831 : decode cL_law 831 = .ok (.iload_n 3, 1) := by decide +kernel
theorem dL_law_832 : decode cL_law 832 = .ok (.iconst 4, 1) := by decide +kernel
theorem dL_law_833 : decode cL_law 833 = .ok (.iadd, 1) := by decide +kernel
theorem dL_law_834 : decode cL_law 834 = .ok (.iaload, 1) := by decide +kernel
theorem dL_law_835 : decode cL_law 835 = .ok (.invokevirtual 108, 3) := by decide +kernel
theorem dL_law_838 : decode cL_law 838 = .ok (.aload_n 2, 1) := by decide +kernel
theorem dL_law_839 : decode cL_law 839 = .ok (.aload_n 0, 1) := by decide +kernel
theorem dL_law_840 : decode cL_law 840 = .ok (.iload_n 3, 1) := by decide +kernel
theorem dL_law_841 : decode cL_law 841 = .ok (.iconst 1, 1) := by decide +kernel
theorem dL_law_842 : decode cL_law 842 = .ok (.iadd, 1) := by decide +kernel
theorem dL_law_843 : decode cL_law 843 = .ok (.iaload, 1) := by decide +kernel
theorem dL_law_844 : decode cL_law 844 = .ok (.aload_n 0, 1) := by decide +kernel
theorem dL_law_845 : decode cL_law 845 = .ok (.iload_n 3, 1) := by decide +kernel
theorem dL_law_846 : decode cL_law 846 = .ok (.iconst 2, 1) := by decide +kernel
theorem dL_law_847 : decode cL_law 847 = .ok (.iadd, 1) := by decide +kernel
theorem dL_law_848 : decode cL_law 848 = .ok (.iaload, 1) := by decide +kernel
theorem dL_law_849 : decode cL_law 849 = .ok (.aload_n 0, 1) := by decide +kernel
theorem dL_law_850 : decode cL_law 850 = .ok (.iload_n 3, 1) := by decide +kernel
theorem dL_law_851 : decode cL_law 851 = .ok (.iconst 3, 1) := by decide +kernel
theorem dL_law_852 : decode cL_law 852 = .ok (.iadd, 1) := by decide +kernel
theorem dL_law_853 : decode cL_law 853 = .ok (.iaload, 1) := by decide +kernel
theorem dL_law_854 : decode cL_law 854 = .ok (.aload_n 0, 1) := by decide +kernel
theorem dL_law_855 : decode cL_law 855 = .ok (.iload_n 3, 1) := by decide +kernel
theorem dL_law_856 : decode cL_law 856 = .ok (.iconst 4, 1) := by decide +kernel
theorem dL_law_857 : decode cL_law 857 = .ok (.iadd, 1) := by decide +kernel
theorem dL_law_858 : decode cL_law 858 = .ok (.iaload, 1) := by decide +kernel
theorem dL_law_859 : decode cL_law 859 = .ok (.invokevirtual 112, 3) := by decide +kernel
theorem dL_law_862 : decode cL_law 862 = .ok (.lcmp, 1) := by decide +kernel
theorem dL_law_863 : decode cL_law 863 = .ok (.ifCond .eq 117, 3) := by decide +kernel
theorem dL_law_866 : decode cL_law 866 = .ok (.iconst 0, 1) := by decide +kernel
theorem dL_law_867 : decode cL_law 867 = .ok (.ireturn, 1) := by decide +kernel
theorem dL_law_868 : decode cL_law 868 = .ok (.aload_n 1, 1) := by decide +kernel
theorem dL_law_869 : decode cL_law 869 = .ok (.aload_n 0, 1) := by decide +kernel
theorem dL_law_870 : decode cL_law 870 = .ok (.iload_n 3, 1) := by decide +kernel
theorem dL_law_871 : decode cL_law 871 = .ok (.iconst 1, 1) := by decide +kernel
theorem dL_law_872 : decode cL_law 872 = .ok (.iadd, 1) := by decide +kernel
theorem dL_law_873 : decode cL_law 873 = .ok (.iaload, 1) := by decide +kernel
theorem dL_law_874 : decode cL_law 874 = .ok (.aload_n 0, 1) := by decide +kernel
theorem dL_law_875 : decode cL_law 875 = .ok (.iload_n 3, 1) := by decide +kernel
theorem dL_law_876 : decode cL_law 876 = .ok (.iconst 2, 1) := by decide +kernel
theorem dL_law_877 : decode cL_law 877 = .ok (.iadd, 1) := by decide +kernel
theorem dL_law_878 : decode cL_law 878 = .ok (.iaload, 1) := by decide +kernel
theorem dL_law_879 : decode cL_law 879 = .ok (.aload_n 0, 1) := by decide +kernel
theorem dL_law_880 : decode cL_law 880 = .ok (.iload_n 3, 1) := by decide +kernel
theorem dL_law_881 : decode cL_law 881 = .ok (.iconst 3, 1) := by decide +kernel
theorem dL_law_882 : decode cL_law 882 = .ok (.iadd, 1) := by decide +kernel
theorem dL_law_883 : decode cL_law 883 = .ok (.iaload, 1) := by decide +kernel
theorem dL_law_884 : decode cL_law 884 = .ok (.invokevirtual 113, 3) := by decide +kernel
theorem dL_law_887 : decode cL_law 887 = .ok (.aload_n 2, 1) := by decide +kernel
theorem dL_law_888 : decode cL_law 888 = .ok (.aload_n 0, 1) := by decide +kernel
theorem dL_law_889 : decode cL_law 889 = .ok (.iload_n 3, 1) := by decide +kernel
theorem dL_law_890 : decode cL_law 890 = .ok (.iconst 1, 1) := by decide +kernel
theorem dL_law_891 : decode cL_law 891 = .ok (.iadd, 1) := by decide +kernel
theorem dL_law_892 : decode cL_law 892 = .ok (.iaload, 1) := by decide +kernel
theorem dL_law_893 : decode cL_law 893 = .ok (.aload_n 0, 1) := by decide +kernel
theorem dL_law_894 : decode cL_law 894 = .ok (.iload_n 3, 1) := by decide +kernel
theorem dL_law_895 : decode cL_law 895 = .ok (.iconst 2, 1) := by decide +kernel
theorem dL_law_896 : decode cL_law 896 = .ok (.iadd, 1) := by decide +kernel
theorem dL_law_897 : decode cL_law 897 = .ok (.iaload, 1) := by decide +kernel
theorem dL_law_898 : decode cL_law 898 = .ok (.aload_n 0, 1) := by decide +kernel
theorem dL_law_899 : decode cL_law 899 = .ok (.iload_n 3, 1) := by decide +kernel
theorem dL_law_900 : decode cL_law 900 = .ok (.iconst 3, 1) := by decide +kernel
theorem dL_law_901 : decode cL_law 901 = .ok (.iadd, 1) := by decide +kernel
theorem dL_law_902 : decode cL_law 902 = .ok (.iaload, 1) := by decide +kernel
theorem dL_law_903 : decode cL_law 903 = .ok (.invokevirtual 116, 3) := by decide +kernel
theorem dL_law_906 : decode cL_law 906 = .ok (.if_icmp .eq 74, 3) := by decide +kernel
theorem dL_law_909 : decode cL_law 909 = .ok (.iconst 0, 1) := by decide +kernel
theorem dL_law_910 : decode cL_law 910 = .ok (.ireturn, 1) := by decide +kernel
theorem dL_law_911 : decode cL_law 911 = .ok (.aload_n 1, 1) := by decide +kernel
theorem dL_law_912 : decode cL_law 912 = .ok (.aload_n 0, 1) := by decide +kernel
theorem dL_law_913 : decode cL_law 913 = .ok (.iload_n 3, 1) := by decide +kernel
theorem dL_law_914 : decode cL_law 914 = .ok (.iconst 1, 1) := by decide +kernel
theorem dL_law_915 : decode cL_law 915 = .ok (.iadd, 1) := by decide +kernel
theorem dL_law_916 : decode cL_law 916 = .ok (.iaload, 1) := by decide +kernel
theorem dL_law_917 : decode cL_law 917 = .ok (.invokevirtual 117, 3) := by decide +kernel
theorem dL_law_920 : decode cL_law 920 = .ok (.aload_n 2, 1) := by decide +kernel
theorem dL_law_921 : decode cL_law 921 = .ok (.aload_n 0, 1) := by decide +kernel
theorem dL_law_922 : decode cL_law 922 = .ok (.iload_n 3, 1) := by decide +kernel
theorem dL_law_923 : decode cL_law 923 = .ok (.iconst 1, 1) := by decide +kernel
theorem dL_law_924 : decode cL_law 924 = .ok (.iadd, 1) := by decide +kernel
theorem dL_law_925 : decode cL_law 925 = .ok (.iaload, 1) := by decide +kernel
theorem dL_law_926 : decode cL_law 926 = .ok (.invokevirtual 120, 3) := by decide +kernel
theorem dL_law_929 : decode cL_law 929 = .ok (.if_icmp .eq 51, 3) := by decide +kernel
theorem dL_law_932 : decode cL_law 932 = .ok (.iconst 0, 1) := by decide +kernel
theorem dL_law_933 : decode cL_law 933 = .ok (.ireturn, 1) := by decide +kernel
theorem dL_law_934 : decode cL_law 934 = .ok (.aload_n 1, 1) := by decide +kernel
theorem dL_law_935 : decode cL_law 935 = .ok (.aload_n 0, 1) := by decide +kernel
theorem dL_law_936 : decode cL_law 936 = .ok (.iload_n 3, 1) := by decide +kernel
theorem dL_law_937 : decode cL_law 937 = .ok (.iconst 1, 1) := by decide +kernel
theorem dL_law_938 : decode cL_law 938 = .ok (.iadd, 1) := by decide +kernel
theorem dL_law_939 : decode cL_law 939 = .ok (.iaload, 1) := by decide +kernel
theorem dL_law_940 : decode cL_law 940 = .ok (.invokevirtual 121, 3) := by decide +kernel
theorem dL_law_943 : decode cL_law 943 = .ok (.aload_n 2, 1) := by decide +kernel
theorem dL_law_944 : decode cL_law 944 = .ok (.aload_n 0, 1) := by decide +kernel
theorem dL_law_945 : decode cL_law 945 = .ok (.iload_n 3, 1) := by decide +kernel
theorem dL_law_946 : decode cL_law 946 = .ok (.iconst 1, 1) := by decide +kernel
theorem dL_law_947 : decode cL_law 947 = .ok (.iadd, 1) := by decide +kernel
theorem dL_law_948 : decode cL_law 948 = .ok (.iaload, 1) := by decide +kernel
theorem dL_law_949 : decode cL_law 949 = .ok (.invokevirtual 124, 3) := by decide +kernel
theorem dL_law_952 : decode cL_law 952 = .ok (.if_icmp .eq 28, 3) := by decide +kernel
theorem dL_law_955 : decode cL_law 955 = .ok (.iconst 0, 1) := by decide +kernel
theorem dL_law_956 : decode cL_law 956 = .ok (.ireturn, 1) := by decide +kernel
theorem dL_law_957 : decode cL_law 957 = .ok (.aload_n 1, 1) := by decide +kernel
theorem dL_law_958 : decode cL_law 958 = .ok (.aload_n 0, 1) := by decide +kernel
theorem dL_law_959 : decode cL_law 959 = .ok (.iload_n 3, 1) := by decide +kernel
theorem dL_law_960 : decode cL_law 960 = .ok (.iconst 1, 1) := by decide +kernel
theorem dL_law_961 : decode cL_law 961 = .ok (.iadd, 1) := by decide +kernel
theorem dL_law_962 : decode cL_law 962 = .ok (.iaload, 1) := by decide +kernel
theorem dL_law_963 : decode cL_law 963 = .ok (.invokevirtual 125, 3) := by decide +kernel
theorem dL_law_966 : decode cL_law 966 = .ok (.aload_n 2, 1) := by decide +kernel
theorem dL_law_967 : decode cL_law 967 = .ok (.aload_n 0, 1) := by decide +kernel
theorem dL_law_968 : decode cL_law 968 = .ok (.iload_n 3, 1) := by decide +kernel
theorem dL_law_969 : decode cL_law 969 = .ok (.iconst 1, 1) := by decide +kernel
theorem dL_law_970 : decode cL_law 970 = .ok (.iadd, 1) := by decide +kernel
theorem dL_law_971 : decode cL_law 971 = .ok (.iaload, 1) := by decide +kernel
theorem dL_law_972 : decode cL_law 972 = .ok (.invokevirtual 128, 3) := by decide +kernel
theorem dL_law_975 : decode cL_law 975 = .ok (.if_icmp .eq 5, 3) := by decide +kernel
theorem dL_law_978 : decode cL_law 978 = .ok (.iconst 0, 1) := by decide +kernel
theorem dL_law_979 : decode cL_law 979 = .ok (.ireturn, 1) := by decide +kernel
theorem dL_law_980 : decode cL_law 980 = .ok (.iinc 3 5, 3) := by decide +kernel
theorem dL_law_983 : decode cL_law 983 = .ok (.goto (-965), 3) := by decide +kernel
theorem dL_law_986 : decode cL_law 986 = .ok (.iconst 1, 1) := by decide +kernel
theorem dL_law_987 : decode cL_law 987 = .ok (.ireturn, 1) := by decide +kernel
end
section
/-! THE Z LAYER: one world for all methods. Every cell that the law makes has a place k, counted from the first (address b + k); what kind of cell stands at a place is fixed ahead (zts); what the cells hold are three functions: ints, longs, references (places). -/
abbrev zI : Type := Nat → Nat → Int32
abbrev zL : Type := Nat → Nat → Int64
abbrev zR : Type := Nat → Nat → Option Nat
abbrev zcl : List vw_C := [(RX0, TX0, 3), (RX1, TX1, 7), (RX2, TX2, 2), (RX3, TX3, 13), (RX4, TX4, 4), (RX5, TX5, 2), (RX6, TX6, 1), (RX7, TX7, 2), (RX8, TX8, 8), (RX9, TX9, 24)]
/-- fields of a class -/
def zcn (c : Nat) : Nat := [3, 7, 2, 13, 4, 2, 1, 2, 8, 24].getD c 0
/-- which fields are references -/
def zrfs : List (List Bool) := [[false, false, false], [true, true, false, false, false, false, false], [true, true], [true, true, true, true, true, true, true, true, true, true, false, false, false], [true, true, true, false], [true, false], [true], [true, false], [true, true, true, true, true, true, true, true], [true, true, true, true, true, true, true, false, true, false, true, false, false, false, false, false, true, true, true, true, true, true, true, true]]
def zrf (c j : Nat) : Bool := (zrfs.getD c []).getD j false
/-- kind and length of the cell at a place: 0 int rows, 1 long rows, 2 boolean rows, 3 rows of Mires, 4 + c objects of class c -/
def zmire : List (Nat × Nat) := [(7, 13), (0, 6), (0, 6), (0, 6), (0, 6), (0, 6), (0, 8), (0, 8), (0, 10), (0, 8), (2, 8)]
def zts : List (Nat × Nat) := (12, 8) :: (zmire ++ ([(9, 2), (0, 60), (5, 7)] ++ (zmire ++ ([(4, 3), (10, 1), (0, 100), (8, 4), (10, 1), (0, 100), (0, 6), (0, 64), (11, 2), (0, 256), (6, 2), (0, 10), (0, 10), (3, 2), (13, 24), (0, 15), (0, 15), (0, 6), (0, 6), (0, 6), (0, 8), (0, 10), (0, 16), (0, 60), (0, 100), (0, 6), (0, 64), (0, 10), (0, 10), (1, 19), (0, 160), (2, 2)] ++ (zmire ++ zmire)))))
def zt (k : Nat) : Nat × Nat := zts.getD k (0, 0)
/-- the private members of nest mates that are called: caller's class, pool entry, method, host -/
def zNW : List (String × Nat × MethodName × String) := [(RX8, 18, yX5_init, RX8), (RX8, 25, yX1_init, RX8), (RX1, 20, yX0_init, RX8), (RX8, 32, yX6_init, RX8), (RX8, 39, yX4_init, RX8), (RX4, 11, yX6_init, RX8), (RX8, 46, yX7_init, RX8), (RX8, 53, yX2_init, RX8), (RX5, 31, yX8_isFrom, RX8), (RX3, 53, yX8_copyRow, RX8), (RX3, 57, yX8_isFrom, RX8), (RX3, 103, yX8_isHold, RX8), (RX3, 67, yX8_isWithin, RX8), (RX6, 24, yX8_isFrom, RX8), (RX6, 33, yX8_isIn, RX8), (RX4, 39, yX8_isWithin, RX8), (RX4, 47, yX8_isIn, RX8), (RX3, 114, yX8_isIn, RX8), (RX3, 126, yX8_hoursFrom, RX8), (RX7, 25, yX8_isFrom, RX8), (RX7, 36, yX8_isWithin, RX8), (RX2, 30, yX8_isIn, RX8)]
/-- launch, base address, array classes, object classes -/
abbrev zG : Type := Launch × Nat × (Nat → ClassId) × va_G
def zvr (b : Nat) (r : Option Nat) : Option Nat := r.map (fun q => b + q)
def zc (b : Nat) (D : Nat → ClassId) (I : zI) (L : zL) (R : zR) (k : Nat) : va_E := match (zt k).1 with
  | 0 => .inl (D 0, (zt k).2, .inl (I k))
  | 1 => .inl (D 1, (zt k).2, .inr (.inl (L k)))
  | 2 => .inl (D 2, (zt k).2, .inl (I k))
  | 3 => .inl (D 3, (zt k).2, .inr (.inr (.inr (.inr (fun j => zvr b (R k j))))))
  | c + 4 => .inr (c, (List.range (zcn c)).map (fun j => if zrf c j = true then va_rf (zvr b (R k j)) else .int (I k j)))
def zw (b : Nat) (D : Nat → ClassId) (N : Nat) (I : zI) (L : zL) (R : zR) : va_W := (List.range N).map (fun k => (b + k, zc b D I L R k))
def ztys (D : Nat → ClassId) : List (ClassId × FieldType) := [(D 0, .int), (D 1, .long), (D 2, .boolean), (D 3, .object "MireWrestle$Mire")]
def zP (g : zG) (N : Nat) (I : zI) (L : zL) (R : zR) (H : Heap) : Prop := H.size = g.2.1 + N ∧ va_P g.2.2.2 zcl (zw g.2.1 g.2.2.1 N I L R) H
def zS (g : zG) (U : State) : Prop := va_K g.2.2.2 zcl (ztys g.2.2.1) U ∧ (∀ q ∈ zNW, va_Nw (.methodLinkNest q.1 q.2.1 q.2.2.1 q.2.2.2) U) ∧ va_AO "MireWrestle$Mire" U
theorem zS.warm {g : zG} {s U : State} (hW : s.WarmedH U.vm) (h : zS g s) : zS g U := ⟨va_K.moved hW.alike h.1, fun q hq => va_Nw.warmM hW (h.2.1 q hq), va_AO.moved hW.alike h.2.2⟩
theorem zS.same {g : zG} {u U : State} (e : u.vm = U.vm) (h : zS g u) : zS g U := ⟨va_K.moved (by rw [← e]; exact Vm.Alike.refl u.vm) h.1, fun q hq => va_Nw.same rfl e (h.2.1 q hq), va_AO.moved (by rw [← e]; exact Vm.Alike.refl u.vm) h.2.2⟩
theorem zw_at {b : Nat} {D : Nat → ClassId} {N : Nat} {I : zI} {L : zL} {R : zR} {k : Nat} (hk : k < N) : (zw b D N I L R)[k]? = some (b + k, zc b D I L R k) := by
  simp [zw, List.getElem?_map, List.getElem?_range hk]
theorem zw_some {b : Nat} {D : Nat → ClassId} {N : Nat} {I : zI} {L : zL} {R : zR} {k : Nat} {q : Nat × va_E} (h : (zw b D N I L R)[k]? = some q) : k < N ∧ q = (b + k, zc b D I L R k) := by
  have hl := (List.getElem?_eq_some_iff.mp h).1
  have hk : k < N := by simpa [zw] using hl
  rw [zw_at hk] at h
  exact ⟨hk, (Option.some.inj h).symm⟩
theorem zw_D {b : Nat} {D : Nat → ClassId} {N : Nat} {I : zI} {L : zL} {R : zR} : va_D (fun q => b ≤ q) (zw b D N I L R) := by
  refine ⟨fun i j p q hi hj e => ?_, fun k q h => ?_⟩
  · obtain ⟨-, rfl⟩ := zw_some hi
    obtain ⟨-, rfl⟩ := zw_some hj
    have e : b + i = b + j := e
    omega
  · obtain ⟨-, rfl⟩ := zw_some h
    exact Nat.le_add_right b k
/-- two worlds that agree on every place but k, where the new cell is e -/
theorem zw_set {b : Nat} {D : Nat → ClassId} {N : Nat} {I I' : zI} {L L' : zL} {R R' : zR} {k : Nat} {e : va_E} (he : zc b D I' L' R' k = e) (ho : ∀ j, j ≠ k → zc b D I' L' R' j = zc b D I L R j) : (zw b D N I L R).set k (b + k, e) = zw b D N I' L' R' := by
  apply List.ext_getElem?
  intro i
  by_cases hi : i < N
  · rw [zw_at hi]
    by_cases hk : i = k
    · subst hk
      rw [List.getElem?_set_self (by simpa [zw] using hi), he]
    · rw [List.getElem?_set_ne (Ne.symm hk), zw_at hi, ho i hk]
  · rw [List.getElem?_eq_none (by simp [zw]; omega), List.getElem?_eq_none (by simp [zw]; omega)]
theorem zw_push {b : Nat} {D : Nat → ClassId} {N : Nat} {I I' : zI} {L L' : zL} {R R' : zR} {e : va_E} (he : zc b D I' L' R' N = e) (ho : ∀ j, j < N → zc b D I' L' R' j = zc b D I L R j) : zw b D N I L R ++ [(b + N, e)] = zw b D (N + 1) I' L' R' := by
  apply List.ext_getElem?
  intro i
  by_cases hi : i < N
  · rw [List.getElem?_append_left (by simpa [zw] using hi), zw_at hi, zw_at (by omega), ho i hi]
  · rw [List.getElem?_append_right (by simp [zw]; omega)]
    by_cases hN : i = N
    · subst hN
      rw [zw_at (by omega), he]
      simp [zw]
    · rw [List.getElem?_eq_none (by simp [zw]; omega), List.getElem?_eq_none (by simp [zw]; omega)]
theorem zc_int {b : Nat} {D : Nat → ClassId} {I : zI} {L : zL} {R : zR} {k n : Nat} (h : zt k = (0, n)) : zc b D I L R k = .inl (D 0, n, .inl (I k)) := by simp [zc, h]
theorem zc_long {b : Nat} {D : Nat → ClassId} {I : zI} {L : zL} {R : zR} {k n : Nat} (h : zt k = (1, n)) : zc b D I L R k = .inl (D 1, n, .inr (.inl (L k))) := by simp [zc, h]
theorem zc_bool {b : Nat} {D : Nat → ClassId} {I : zI} {L : zL} {R : zR} {k n : Nat} (h : zt k = (2, n)) : zc b D I L R k = .inl (D 2, n, .inl (I k)) := by simp [zc, h]
theorem zc_ref {b : Nat} {D : Nat → ClassId} {I : zI} {L : zL} {R : zR} {k n : Nat} (h : zt k = (3, n)) : zc b D I L R k = .inl (D 3, n, .inr (.inr (.inr (.inr (fun j => zvr b (R k j)))))) := by simp [zc, h]
theorem zc_obj {b : Nat} {D : Nat → ClassId} {I : zI} {L : zL} {R : zR} {k c n : Nat} (h : zt k = (c + 4, n)) : zc b D I L R k = .inr (c, (List.range (zcn c)).map (fun j => if zrf c j = true then va_rf (zvr b (R k j)) else .int (I k j))) := by simp [zc, h]
/-- the worlds that are told by what is seen of them: a place's cell hangs on what stands at that place alone -/
theorem zc_congr {b : Nat} {D : Nat → ClassId} {I I' : zI} {L L' : zL} {R R' : zR} {k : Nat} (hI : ∀ j, I' k j = I k j) (hL : ∀ j, L' k j = L k j) (hR : ∀ j, R' k j = R k j) : zc b D I' L' R' k = zc b D I L R k := by
  have e1 : I' k = I k := funext hI
  have e2 : L' k = L k := funext hL
  have e3 : R' k = R k := funext hR
  simp only [zc, e1, e2, e3]
/-- a new int at one place -/
def zu (I : zI) (k j : Nat) (v : Int32) : zI := fun a i => if a = k then (if i = j then v else I k i) else I a i
def zuL (L : zL) (k j : Nat) (v : Int64) : zL := fun a i => if a = k then (if i = j then v else L k i) else L a i
def zuR (R : zR) (k j : Nat) (v : Option Nat) : zR := fun a i => if a = k then (if i = j then v else R k i) else R a i
theorem zu_row (I : zI) (k j : Nat) (v : Int32) : zu I k j v k = upd (I k) j v := by funext i; simp [zu, upd]
theorem zu_self (I : zI) (k j : Nat) (v : Int32) : zu I k j v k j = v := by simp [zu]
theorem zu_ne (I : zI) {k j a i : Nat} (v : Int32) (h : a ≠ k ∨ i ≠ j) : zu I k j v a i = I a i := by
  unfold zu
  by_cases h1 : a = k
  · subst h1
    rw [if_pos rfl, if_neg]
    rcases h with h | h
    · exact absurd rfl h
    · exact h
  · rw [if_neg h1]
theorem zu_same {I : zI} {k j : Nat} {v : Int32} (h : I k j = v) : zu I k j v = I := by
  funext a i
  unfold zu
  by_cases h1 : a = k
  · subst h1
    rw [if_pos rfl]
    by_cases h2 : i = j
    · subst h2; rw [if_pos rfl, h]
    · rw [if_neg h2]
  · rw [if_neg h1]
/-- fresh cells: zeros, no references -/
def z0 (I : zI) (k : Nat) : zI := fun a i => if a = k then 0 else I a i
def z0L (L : zL) (k : Nat) : zL := fun a i => if a = k then 0 else L a i
def z0R (R : zR) (k : Nat) : zR := fun a i => if a = k then none else R a i
end
section
/-! THE JUDGEMENT X: the machine, in a method's frame at pc with locals lo, stack st, over the world (N, I, L, R), comes to Q. M: what the method is (code, class, locals, return type, room). -/
abbrev zM : Type := ByteArray × String × Nat × Option FieldType × Room × String
abbrev zE : Type := Program × Env × State × MethodId × Array Value × List Frame × Method × Code
def zl : Nat → List (Option Value) → List (Nat × Value)
  | _, [] => []
  | k, none :: t => zl (k + 1) t
  | k, some v :: t => (k, v) :: zl (k + 1) t
def zok (g : zG) (M : zM) (E : zE) : Prop := match E with
  | (p, _, s, m, args, _, meth, c) => p.tables.exec = Jvm.exec ∧ c.code = M.1 ∧ c.maxLocals = M.2.2.1 ∧ s.vm.findClass M.2.1 = some m.cls ∧ (∀ w ∈ wsL_law, w.before args s = true) ∧ zS g s ∧ meth.locks = false ∧ meth.sig.returnType = M.2.2.2.1 ∧ meth.name = M.2.2.2.2.2
def zs (E : zE) : State := E.2.2.1
def X (g : zG) (M : zM) (E : zE) (Q : State → Prop) (kc ks pc : Nat) (lo : List (Option Value)) (st : List Value) (N : Nat) (I : zI) (L : zL) (R : zR) : Prop :=
  zok g M E → ∀ (ls : Array Slot) (H : Heap) (locs : List Loc), lv_has ls M.2.2.1 (zl 0 lo) → zP g N I L R H → va_S (fun q => g.2.1 ≤ q) (zs E).heap H locs →
    match E with
    | (p, e, s, m, args, below, meth, c) => W p g.1 e M.2.2.2.2.1 s m args below meth c H locs kc ks Q (F0 m pc ls st)
theorem zl_get {lo : List (Option Value)} {i : Nat} {v : Value} : ∀ {k : Nat}, lo[i]? = some (some v) → (k + i, v) ∈ zl k lo := by
  induction lo generalizing i with
  | nil => intro k h; simp at h
  | cons a t ih =>
    intro k h
    cases i with
    | zero =>
      rw [List.getElem?_cons_zero] at h
      cases h
      exact List.mem_cons_self
    | succ i =>
      rw [List.getElem?_cons_succ] at h
      have h2 := ih (k := k + 1) h
      have e : k + 1 + i = k + (i + 1) := by omega
      rw [e] at h2
      cases a with
      | none => exact h2
      | some w => exact List.mem_cons_of_mem _ h2
theorem zl_mem {lo : List (Option Value)} {q : Nat × Value} : ∀ {k : Nat}, q ∈ zl k lo → ∃ i, q.1 = k + i ∧ lo[i]? = some (some q.2) := by
  induction lo with
  | nil => intro k h; cases h
  | cons a t ih =>
    intro k h
    cases a with
    | none =>
      obtain ⟨i, h1, h2⟩ := ih (k := k + 1) h
      exact ⟨i + 1, by omega, by rw [List.getElem?_cons_succ]; exact h2⟩
    | some w =>
      rcases List.mem_cons.mp h with rfl | h
      · exact ⟨0, rfl, rfl⟩
      · obtain ⟨i, h1, h2⟩ := ih (k := k + 1) h
        exact ⟨i + 1, by omega, by rw [List.getElem?_cons_succ]; exact h2⟩
theorem zl_at {ls : Array Slot} {n i : Nat} {lo : List (Option Value)} {v : Value} (h : lv_has ls n (zl 0 lo)) (hi : lo[i]? = some (some v)) : ls[i]? = some (.val v) := by
  have h2 := h.2.2 _ (zl_get (k := 0) hi)
  rwa [show (0 + i, v).1 = i by simp] at h2
/-- no long stands just ahead of place i -/
def zfree (lo : List (Option Value)) : Nat → Bool
  | 0 => true
  | i + 1 => match lo[i]? with
    | some (some (.long _)) => false
    | some (some (.double _)) => false
    | _ => true
theorem zfree_of {lo : List (Option Value)} {i j : Nat} {v : Value} (h : zfree lo i = true) (hj : lo[j]? = some (some v)) (e : j + 1 = i) : ¬ v.category = 2 := by
  subst e
  simp only [zfree, hj] at h
  cases v <;> simp_all [Value.category]
theorem zl_put {ls : Array Slot} {n i : Nat} {lo : List (Option Value)} {v : Value} (hf : zfree lo i = true) (h : lv_has ls n ((i, v) :: (zl 0 lo).filter (fun q => !(q.1 == i) && !(q.1 + 1 == i && q.2.category == 2)))) : lv_has ls n (zl 0 (lo.set i (some v))) := by
  refine ⟨h.1, h.2.1, fun q hq => h.2.2 q ?_⟩
  obtain ⟨j, h1, h2⟩ := zl_mem hq
  have h1 : q.1 = j := by omega
  by_cases hj : j = i
  · subst hj
    by_cases hl : j < lo.length
    · rw [List.getElem?_set_self hl] at h2
      have e : q = (j, v) := by rw [← h1]; cases q; simp at h2; simp [h2]
      rw [e]; exact List.mem_cons_self
    · rw [List.getElem?_eq_none (by simp; omega)] at h2
      cases h2
  · rw [List.getElem?_set_ne (Ne.symm hj)] at h2
    refine List.mem_cons_of_mem _ (List.mem_filter.mpr ⟨?_, ?_⟩)
    · have h3 := zl_get (k := 0) h2
      rw [Nat.zero_add, ← h1] at h3
      exact h3
    · simp only [Bool.and_eq_true, Bool.not_eq_true', beq_eq_false_iff_ne, ne_eq, Bool.and_eq_false_iff]
      refine ⟨by rw [h1]; exact hj, ?_⟩
      by_cases e : j + 1 = i
      · exact Or.inr (zfree_of hf h2 e)
      · exact Or.inl (by rw [h1]; exact e)
theorem zl_put2 {ls : Array Slot} {n i : Nat} {lo : List (Option Value)} {v : Value} (hf : zfree lo i = true) (h : lv_has ls n ((i, v) :: (zl 0 lo).filter (fun q => !(q.1 == i) && (!(q.1 == i + 1) && !(q.1 + 1 == i && q.2.category == 2))))) : lv_has ls n (zl 0 ((lo.set (i + 1) none).set i (some v))) := by
  refine ⟨h.1, h.2.1, fun q hq => h.2.2 q ?_⟩
  obtain ⟨j, h1, h2⟩ := zl_mem hq
  have h1 : q.1 = j := by omega
  by_cases hj : j = i
  · subst hj
    by_cases hl : j < (lo.set (j + 1) none).length
    · rw [List.getElem?_set_self hl] at h2
      have e : q = (j, v) := by rw [← h1]; cases q; simp at h2; simp [h2]
      rw [e]; exact List.mem_cons_self
    · rw [List.getElem?_eq_none (by simp at hl ⊢; omega)] at h2
      cases h2
  · rw [List.getElem?_set_ne (Ne.symm hj)] at h2
    by_cases hj2 : j = i + 1
    · subst hj2
      by_cases hl : i + 1 < lo.length
      · rw [List.getElem?_set_self hl] at h2
        cases h2
      · rw [List.getElem?_eq_none (by simp; omega)] at h2
        cases h2
    · rw [List.getElem?_set_ne (Ne.symm hj2)] at h2
      refine List.mem_cons_of_mem _ (List.mem_filter.mpr ⟨?_, ?_⟩)
      · have h3 := zl_get (k := 0) h2
        rw [Nat.zero_add, ← h1] at h3
        exact h3
      · simp only [Bool.and_eq_true, Bool.not_eq_true', beq_eq_false_iff_ne, ne_eq, Bool.and_eq_false_iff]
        refine ⟨by rw [h1]; exact hj, by rw [h1]; exact hj2, ?_⟩
        by_cases e : j + 1 = i
        · exact Or.inr (zfree_of hf h2 e)
        · exact Or.inl (by rw [h1]; exact e)
theorem zl_lt {ls : Array Slot} {n i : Nat} {lo : List (Option Value)} {v : Value} (h : lv_has ls n (zl 0 lo)) (hi : lo[i]? = some (some v)) : i < n := by
  have h1 := zl_at h hi
  have h2 := lv_lt h1
  have h3 := h.1
  omega
section ZROWS
variable {g : zG} {M : zM} {E : zE} {Q : State → Prop} {kc ks pc : Nat} {lo : List (Option Value)} {rest : List Value} {N : Nat} {I : zI} {L : zL} {R : zR}
theorem x_iconst {n : Int} {v : Int32} (hd : decode M.1 pc = .ok (.iconst n, 1)) (hv : Int32.ofInt n = v) (k : X g M E Q kc ks (pc + 1) lo (.int v :: rest) N I L R) : X g M E Q kc ks pc lo rest N I L R := by
  obtain ⟨p, e, s, m, args, below, meth, c⟩ := E
  intro hx ls H locs hl hP hS
  obtain ⟨hexec, hb, hml, hown, hts, hG, hlk, hrt, hnm⟩ := id hx
  exact lv_iconst hexec hb hd hv (k hx ls H locs hl hP hS)
theorem x_bipush {n : Int} {v : Int32} (hd : decode M.1 pc = .ok (.bipush n, 2)) (hv : (Int8.ofInt n).toInt32 = v) (k : X g M E Q kc ks (pc + 2) lo (.int v :: rest) N I L R) : X g M E Q kc ks pc lo rest N I L R := by
  obtain ⟨p, e, s, m, args, below, meth, c⟩ := E
  intro hx ls H locs hl hP hS
  obtain ⟨hexec, hb, hml, hown, hts, hG, hlk, hrt, hnm⟩ := id hx
  exact lv_bipush hexec hb hd hv (k hx ls H locs hl hP hS)
theorem x_sipush {n : Int} {v : Int32} (hd : decode M.1 pc = .ok (.sipush n, 3)) (hv : (Int16.ofInt n).toInt32 = v) (k : X g M E Q kc ks (pc + 3) lo (.int v :: rest) N I L R) : X g M E Q kc ks pc lo rest N I L R := by
  obtain ⟨p, e, s, m, args, below, meth, c⟩ := E
  intro hx ls H locs hl hP hS
  obtain ⟨hexec, hb, hml, hown, hts, hG, hlk, hrt, hnm⟩ := id hx
  exact lv_sipush hexec hb hd hv (k hx ls H locs hl hP hS)
theorem x_lconst {n : Fin 2} {v : Int64} (hd : decode M.1 pc = .ok (.lconst n, 1)) (hv : Int64.ofNat (n : Nat) = v) (k : X g M E Q kc ks (pc + 1) lo (.long v :: rest) N I L R) : X g M E Q kc ks pc lo rest N I L R := by
  obtain ⟨p, e, s, m, args, below, meth, c⟩ := E
  intro hx ls H locs hl hP hS
  obtain ⟨hexec, hb, hml, hown, hts, hG, hlk, hrt, hnm⟩ := id hx
  exact lv_lconst hexec hb hd hv (k hx ls H locs hl hP hS)
theorem x_ldc {i : Nat} {v : Int32} (hd : decode M.1 pc = .ok (.ldc i, 2)) (hv : Cond.constant M.2.1 i v ∈ wsL_law) (k : X g M E Q kc ks (pc + 2) lo (.int v :: rest) N I L R) : X g M E Q kc ks pc lo rest N I L R := by
  obtain ⟨p, e, s, m, args, below, meth, c⟩ := E
  intro hx ls H locs hl hP hS
  obtain ⟨hexec, hb, hml, hown, hts, hG, hlk, hrt, hnm⟩ := id hx
  exact lv_ldc hexec hb hown (hts _ hv) hd (k hx ls H locs hl hP hS)
theorem x_ldcw {i : Nat} {v : Int32} (hd : decode M.1 pc = .ok (.ldc_w i, 3)) (hv : Cond.constant M.2.1 i v ∈ wsL_law) (k : X g M E Q kc ks (pc + 3) lo (.int v :: rest) N I L R) : X g M E Q kc ks pc lo rest N I L R := by
  obtain ⟨p, e, s, m, args, below, meth, c⟩ := E
  intro hx ls H locs hl hP hS
  obtain ⟨hexec, hb, hml, hown, hts, hG, hlk, hrt, hnm⟩ := id hx
  exact lv_ldcw hexec hb hown (hts _ hv) hd (k hx ls H locs hl hP hS)
theorem x_ldc2 {i : Nat} {v : Int64} (hd : decode M.1 pc = .ok (.ldc2_w i, 3)) (hv : Cond.constantLong M.2.1 i v ∈ wsL_law) (k : X g M E Q kc ks (pc + 3) lo (.long v :: rest) N I L R) : X g M E Q kc ks pc lo rest N I L R := by
  obtain ⟨p, e, s, m, args, below, meth, c⟩ := E
  intro hx ls H locs hl hP hS
  obtain ⟨hexec, hb, hml, hown, hts, hG, hlk, hrt, hnm⟩ := id hx
  exact lv_ldc2 hexec hb hown (hts _ hv) hd (k hx ls H locs hl hP hS)
theorem x_iload {i : Nat} {x : Int32} (hd : decode M.1 pc = .ok (.iload i, 2)) (hv : lo[i]? = some (some (.int x))) (k : X g M E Q kc ks (pc + 2) lo (.int x :: rest) N I L R) : X g M E Q kc ks pc lo rest N I L R := by
  obtain ⟨p, e, s, m, args, below, meth, c⟩ := E
  intro hx ls H locs hl hP hS
  obtain ⟨hexec, hb, hml, hown, hts, hG, hlk, hrt, hnm⟩ := id hx
  exact lv_iload hexec hb hd (zl_at hl hv) (k hx ls H locs hl hP hS)
theorem x_iload_n {n : Fin 4} {x : Int32} (hd : decode M.1 pc = .ok (.iload_n n, 1)) (hv : lo[(n : Nat)]? = some (some (.int x))) (k : X g M E Q kc ks (pc + 1) lo (.int x :: rest) N I L R) : X g M E Q kc ks pc lo rest N I L R := by
  obtain ⟨p, e, s, m, args, below, meth, c⟩ := E
  intro hx ls H locs hl hP hS
  obtain ⟨hexec, hb, hml, hown, hts, hG, hlk, hrt, hnm⟩ := id hx
  exact lv_iload_n hexec hb hd rfl (zl_at hl hv) (k hx ls H locs hl hP hS)
theorem x_lload {i : Nat} {x : Int64} (hd : decode M.1 pc = .ok (.lload i, 2)) (hv : lo[i]? = some (some (.long x))) (k : X g M E Q kc ks (pc + 2) lo (.long x :: rest) N I L R) : X g M E Q kc ks pc lo rest N I L R := by
  obtain ⟨p, e, s, m, args, below, meth, c⟩ := E
  intro hx ls H locs hl hP hS
  obtain ⟨hexec, hb, hml, hown, hts, hG, hlk, hrt, hnm⟩ := id hx
  exact lv_lload hexec hb hd (zl_at hl hv) (k hx ls H locs hl hP hS)
theorem x_lload_n {n : Fin 4} {x : Int64} (hd : decode M.1 pc = .ok (.lload_n n, 1)) (hv : lo[(n : Nat)]? = some (some (.long x))) (k : X g M E Q kc ks (pc + 1) lo (.long x :: rest) N I L R) : X g M E Q kc ks pc lo rest N I L R := by
  obtain ⟨p, e, s, m, args, below, meth, c⟩ := E
  intro hx ls H locs hl hP hS
  obtain ⟨hexec, hb, hml, hown, hts, hG, hlk, hrt, hnm⟩ := id hx
  exact lv_lload_n hexec hb hd rfl (zl_at hl hv) (k hx ls H locs hl hP hS)
theorem x_aload_n {n : Fin 4} {x : Nat} (hd : decode M.1 pc = .ok (.aload_n n, 1)) (hv : lo[(n : Nat)]? = some (some (.ref x))) (k : X g M E Q kc ks (pc + 1) lo (.ref x :: rest) N I L R) : X g M E Q kc ks pc lo rest N I L R := by
  obtain ⟨p, e, s, m, args, below, meth, c⟩ := E
  intro hx ls H locs hl hP hS
  obtain ⟨hexec, hb, hml, hown, hts, hG, hlk, hrt, hnm⟩ := id hx
  exact lv_aload_n hexec hb hd rfl (zl_at hl hv) (k hx ls H locs hl hP hS)
theorem x_istore {i : Nat} {x : Int32} {lo2 : List (Option Value)} (hd : decode M.1 pc = .ok (.istore i, 2)) (hi : i < M.2.2.1) (hf : zfree lo i = true) (hl2 : lo.set i (some (.int x)) = lo2) (k : X g M E Q kc ks (pc + 2) lo2 rest N I L R) : X g M E Q kc ks pc lo (.int x :: rest) N I L R := by
  obtain ⟨p, e, s, m, args, below, meth, c⟩ := E
  intro hx ls H locs hl hP hS
  obtain ⟨hexec, hb, hml, hown, hts, hG, hlk, hrt, hnm⟩ := id hx
  exact lv_istore hexec hb hd hl hi rfl (fun ls2 h2 => k hx ls2 H locs (hl2 ▸ zl_put hf h2) hP hS)
theorem x_istore_n {n : Fin 4} {x : Int32} {lo2 : List (Option Value)} (hd : decode M.1 pc = .ok (.istore_n n, 1)) (hi : (n : Nat) < M.2.2.1) (hf : zfree lo n = true) (hl2 : lo.set n (some (.int x)) = lo2) (k : X g M E Q kc ks (pc + 1) lo2 rest N I L R) : X g M E Q kc ks pc lo (.int x :: rest) N I L R := by
  obtain ⟨p, e, s, m, args, below, meth, c⟩ := E
  intro hx ls H locs hl hP hS
  obtain ⟨hexec, hb, hml, hown, hts, hG, hlk, hrt, hnm⟩ := id hx
  exact lv_istore_n hexec hb hd rfl hl hi rfl (fun ls2 h2 => k hx ls2 H locs (hl2 ▸ zl_put hf h2) hP hS)
theorem x_astore_n {n : Fin 4} {x : Nat} {lo2 : List (Option Value)} (hd : decode M.1 pc = .ok (.astore_n n, 1)) (hi : (n : Nat) < M.2.2.1) (hf : zfree lo n = true) (hl2 : lo.set n (some (.ref x)) = lo2) (k : X g M E Q kc ks (pc + 1) lo2 rest N I L R) : X g M E Q kc ks pc lo (.ref x :: rest) N I L R := by
  obtain ⟨p, e, s, m, args, below, meth, c⟩ := E
  intro hx ls H locs hl hP hS
  obtain ⟨hexec, hb, hml, hown, hts, hG, hlk, hrt, hnm⟩ := id hx
  exact lv_astore_n hexec hb hd rfl hl hi rfl (fun ls2 h2 => k hx ls2 H locs (hl2 ▸ zl_put hf h2) hP hS)
theorem x_lstore {i : Nat} {x : Int64} {lo2 : List (Option Value)} (hd : decode M.1 pc = .ok (.lstore i, 2)) (hi : i + 1 < M.2.2.1) (hf : zfree lo i = true) (hl2 : (lo.set (i + 1) none).set i (some (.long x)) = lo2) (k : X g M E Q kc ks (pc + 2) lo2 rest N I L R) : X g M E Q kc ks pc lo (.long x :: rest) N I L R := by
  obtain ⟨p, e, s, m, args, below, meth, c⟩ := E
  intro hx ls H locs hl hP hS
  obtain ⟨hexec, hb, hml, hown, hts, hG, hlk, hrt, hnm⟩ := id hx
  exact lv_lstore hexec hb hd hl hi rfl (fun ls2 h2 => k hx ls2 H locs (hl2 ▸ zl_put2 hf h2) hP hS)
theorem x_lstore_n {n : Fin 4} {x : Int64} {lo2 : List (Option Value)} (hd : decode M.1 pc = .ok (.lstore_n n, 1)) (hi : (n : Nat) + 1 < M.2.2.1) (hf : zfree lo n = true) (hl2 : (lo.set ((n : Nat) + 1) none).set n (some (.long x)) = lo2) (k : X g M E Q kc ks (pc + 1) lo2 rest N I L R) : X g M E Q kc ks pc lo (.long x :: rest) N I L R := by
  obtain ⟨p, e, s, m, args, below, meth, c⟩ := E
  intro hx ls H locs hl hP hS
  obtain ⟨hexec, hb, hml, hown, hts, hG, hlk, hrt, hnm⟩ := id hx
  exact lv_lstore_n hexec hb hd rfl hl hi rfl (fun ls2 h2 => k hx ls2 H locs (hl2 ▸ zl_put2 hf h2) hP hS)
theorem x_iinc {i : Nat} {n : Int} {x v : Int32} {lo2 : List (Option Value)} (hd : decode M.1 pc = .ok (.iinc i n, 3)) (hv : lo[i]? = some (some (.int x))) (hn : x + Int32.ofInt n = v) (hf : zfree lo i = true) (hl2 : lo.set i (some (.int v)) = lo2) (k : X g M E Q kc ks (pc + 3) lo2 rest N I L R) : X g M E Q kc ks pc lo rest N I L R := by
  obtain ⟨p, e, s, m, args, below, meth, c⟩ := E
  intro hx ls H locs hl hP hS
  obtain ⟨hexec, hb, hml, hown, hts, hG, hlk, hrt, hnm⟩ := id hx
  have hm := zl_get (k := 0) hv
  rw [Nat.zero_add] at hm
  obtain ⟨j, hj⟩ := List.getElem?_of_mem hm
  exact lv_iinc hexec hb hd hl hj hn (zl_lt hl hv) rfl (fun ls2 h2 => k hx ls2 H locs (hl2 ▸ zl_put hf h2) hP hS)
theorem x_iadd {x y : Int32} (hd : decode M.1 pc = .ok (.iadd, 1)) (k : X g M E Q kc ks (pc + 1) lo (.int (x + y) :: rest) N I L R) : X g M E Q kc ks pc lo (.int y :: .int x :: rest) N I L R := by
  obtain ⟨p, e, s, m, args, below, meth, c⟩ := E
  intro hx ls H locs hl hP hS
  obtain ⟨hexec, hb, hml, hown, hts, hG, hlk, hrt, hnm⟩ := id hx
  exact lv_iadd hexec hb hd (k hx ls H locs hl hP hS)
theorem x_isub {x y : Int32} (hd : decode M.1 pc = .ok (.isub, 1)) (k : X g M E Q kc ks (pc + 1) lo (.int (x - y) :: rest) N I L R) : X g M E Q kc ks pc lo (.int y :: .int x :: rest) N I L R := by
  obtain ⟨p, e, s, m, args, below, meth, c⟩ := E
  intro hx ls H locs hl hP hS
  obtain ⟨hexec, hb, hml, hown, hts, hG, hlk, hrt, hnm⟩ := id hx
  exact lv_isub hexec hb hd (k hx ls H locs hl hP hS)
theorem x_imul {x y : Int32} (hd : decode M.1 pc = .ok (.imul, 1)) (k : X g M E Q kc ks (pc + 1) lo (.int (x * y) :: rest) N I L R) : X g M E Q kc ks pc lo (.int y :: .int x :: rest) N I L R := by
  obtain ⟨p, e, s, m, args, below, meth, c⟩ := E
  intro hx ls H locs hl hP hS
  obtain ⟨hexec, hb, hml, hown, hts, hG, hlk, hrt, hnm⟩ := id hx
  exact lv_imul hexec hb hd (k hx ls H locs hl hP hS)
theorem x_iand {x y : Int32} (hd : decode M.1 pc = .ok (.iand, 1)) (k : X g M E Q kc ks (pc + 1) lo (.int (x &&& y) :: rest) N I L R) : X g M E Q kc ks pc lo (.int y :: .int x :: rest) N I L R := by
  obtain ⟨p, e, s, m, args, below, meth, c⟩ := E
  intro hx ls H locs hl hP hS
  obtain ⟨hexec, hb, hml, hown, hts, hG, hlk, hrt, hnm⟩ := id hx
  exact lv_iand hexec hb hd (k hx ls H locs hl hP hS)
theorem x_ior {x y : Int32} (hd : decode M.1 pc = .ok (.ior, 1)) (k : X g M E Q kc ks (pc + 1) lo (.int (x ||| y) :: rest) N I L R) : X g M E Q kc ks pc lo (.int y :: .int x :: rest) N I L R := by
  obtain ⟨p, e, s, m, args, below, meth, c⟩ := E
  intro hx ls H locs hl hP hS
  obtain ⟨hexec, hb, hml, hown, hts, hG, hlk, hrt, hnm⟩ := id hx
  exact lv_ior hexec hb hd (k hx ls H locs hl hP hS)
theorem x_ixor {x y : Int32} (hd : decode M.1 pc = .ok (.ixor, 1)) (k : X g M E Q kc ks (pc + 1) lo (.int (x ^^^ y) :: rest) N I L R) : X g M E Q kc ks pc lo (.int y :: .int x :: rest) N I L R := by
  obtain ⟨p, e, s, m, args, below, meth, c⟩ := E
  intro hx ls H locs hl hP hS
  obtain ⟨hexec, hb, hml, hown, hts, hG, hlk, hrt, hnm⟩ := id hx
  exact lv_ixor hexec hb hd (k hx ls H locs hl hP hS)
theorem x_ishl {x y : Int32} (hd : decode M.1 pc = .ok (.ishl, 1)) (k : X g M E Q kc ks (pc + 1) lo (.int (x <<< (y &&& 31)) :: rest) N I L R) : X g M E Q kc ks pc lo (.int y :: .int x :: rest) N I L R := by
  obtain ⟨p, e, s, m, args, below, meth, c⟩ := E
  intro hx ls H locs hl hP hS
  obtain ⟨hexec, hb, hml, hown, hts, hG, hlk, hrt, hnm⟩ := id hx
  exact lv_ishl hexec hb hd (k hx ls H locs hl hP hS)
theorem x_ishr {x y : Int32} (hd : decode M.1 pc = .ok (.ishr, 1)) (k : X g M E Q kc ks (pc + 1) lo (.int (x >>> (y &&& 31)) :: rest) N I L R) : X g M E Q kc ks pc lo (.int y :: .int x :: rest) N I L R := by
  obtain ⟨p, e, s, m, args, below, meth, c⟩ := E
  intro hx ls H locs hl hP hS
  obtain ⟨hexec, hb, hml, hown, hts, hG, hlk, hrt, hnm⟩ := id hx
  exact lv_ishr hexec hb hd (k hx ls H locs hl hP hS)
theorem x_iushr {x y : Int32} (hd : decode M.1 pc = .ok (.iushr, 1)) (k : X g M E Q kc ks (pc + 1) lo (.int ((x.toUInt32 >>> (y.toUInt32 &&& Int32.toUInt32 31)).toInt32) :: rest) N I L R) : X g M E Q kc ks pc lo (.int y :: .int x :: rest) N I L R := by
  obtain ⟨p, e, s, m, args, below, meth, c⟩ := E
  intro hx ls H locs hl hP hS
  obtain ⟨hexec, hb, hml, hown, hts, hG, hlk, hrt, hnm⟩ := id hx
  exact lv_iushr hexec hb hd rfl (k hx ls H locs hl hP hS)
theorem x_idiv {x y : Int32} (hd : decode M.1 pc = .ok (.idiv, 1)) (hne : ¬ y = 0) (k : X g M E Q kc ks (pc + 1) lo (.int (x / y) :: rest) N I L R) : X g M E Q kc ks pc lo (.int y :: .int x :: rest) N I L R := by
  obtain ⟨p, e, s, m, args, below, meth, c⟩ := E
  intro hx ls H locs hl hP hS
  obtain ⟨hexec, hb, hml, hown, hts, hG, hlk, hrt, hnm⟩ := id hx
  exact lv_idiv hexec hb hd hne (k hx ls H locs hl hP hS)
theorem x_irem {x y : Int32} (hd : decode M.1 pc = .ok (.irem, 1)) (hne : ¬ y = 0) (k : X g M E Q kc ks (pc + 1) lo (.int (x - x / y * y) :: rest) N I L R) : X g M E Q kc ks pc lo (.int y :: .int x :: rest) N I L R := by
  obtain ⟨p, e, s, m, args, below, meth, c⟩ := E
  intro hx ls H locs hl hP hS
  obtain ⟨hexec, hb, hml, hown, hts, hG, hlk, hrt, hnm⟩ := id hx
  exact lv_irem hexec hb hd hne (k hx ls H locs hl hP hS)
theorem x_ladd {x y : Int64} (hd : decode M.1 pc = .ok (.ladd, 1)) (k : X g M E Q kc ks (pc + 1) lo (.long (x + y) :: rest) N I L R) : X g M E Q kc ks pc lo (.long y :: .long x :: rest) N I L R := by
  obtain ⟨p, e, s, m, args, below, meth, c⟩ := E
  intro hx ls H locs hl hP hS
  obtain ⟨hexec, hb, hml, hown, hts, hG, hlk, hrt, hnm⟩ := id hx
  exact lv_ladd hexec hb hd (k hx ls H locs hl hP hS)
theorem x_lmul {x y : Int64} (hd : decode M.1 pc = .ok (.lmul, 1)) (k : X g M E Q kc ks (pc + 1) lo (.long (x * y) :: rest) N I L R) : X g M E Q kc ks pc lo (.long y :: .long x :: rest) N I L R := by
  obtain ⟨p, e, s, m, args, below, meth, c⟩ := E
  intro hx ls H locs hl hP hS
  obtain ⟨hexec, hb, hml, hown, hts, hG, hlk, hrt, hnm⟩ := id hx
  exact lv_lmul hexec hb hd (k hx ls H locs hl hP hS)
theorem x_ldiv {x y : Int64} (hd : decode M.1 pc = .ok (.ldiv, 1)) (hne : ¬ y = 0) (k : X g M E Q kc ks (pc + 1) lo (.long (x / y) :: rest) N I L R) : X g M E Q kc ks pc lo (.long y :: .long x :: rest) N I L R := by
  obtain ⟨p, e, s, m, args, below, meth, c⟩ := E
  intro hx ls H locs hl hP hS
  obtain ⟨hexec, hb, hml, hown, hts, hG, hlk, hrt, hnm⟩ := id hx
  exact lv_ldiv hexec hb hd hne (k hx ls H locs hl hP hS)
theorem x_lrem {x y : Int64} (hd : decode M.1 pc = .ok (.lrem, 1)) (hne : ¬ y = 0) (k : X g M E Q kc ks (pc + 1) lo (.long (x - x / y * y) :: rest) N I L R) : X g M E Q kc ks pc lo (.long y :: .long x :: rest) N I L R := by
  obtain ⟨p, e, s, m, args, below, meth, c⟩ := E
  intro hx ls H locs hl hP hS
  obtain ⟨hexec, hb, hml, hown, hts, hG, hlk, hrt, hnm⟩ := id hx
  exact lv_lrem hexec hb hd hne (k hx ls H locs hl hP hS)
theorem x_lcmp {x y : Int64} (hd : decode M.1 pc = .ok (.lcmp, 1)) (k : X g M E Q kc ks (pc + 1) lo (.int (lg_cmp x y) :: rest) N I L R) : X g M E Q kc ks pc lo (.long y :: .long x :: rest) N I L R := by
  obtain ⟨p, e, s, m, args, below, meth, c⟩ := E
  intro hx ls H locs hl hP hS
  obtain ⟨hexec, hb, hml, hown, hts, hG, hlk, hrt, hnm⟩ := id hx
  exact W.lcmp hexec hb hd (k hx ls H locs hl hP hS)
theorem x_i2l {x : Int32} (hd : decode M.1 pc = .ok (.i2l, 1)) (k : X g M E Q kc ks (pc + 1) lo (.long x.toInt64 :: rest) N I L R) : X g M E Q kc ks pc lo (.int x :: rest) N I L R := by
  obtain ⟨p, e, s, m, args, below, meth, c⟩ := E
  intro hx ls H locs hl hP hS
  obtain ⟨hexec, hb, hml, hown, hts, hG, hlk, hrt, hnm⟩ := id hx
  exact lv_i2l hexec hb hd rfl (k hx ls H locs hl hP hS)
theorem x_dup {v : Value} (hd : decode M.1 pc = .ok (.dup, 1)) (hv : v.category = 1) (k : X g M E Q kc ks (pc + 1) lo (v :: v :: rest) N I L R) : X g M E Q kc ks pc lo (v :: rest) N I L R := by
  obtain ⟨p, e, s, m, args, below, meth, c⟩ := E
  intro hx ls H locs hl hP hS
  obtain ⟨hexec, hb, hml, hown, hts, hG, hlk, hrt, hnm⟩ := id hx
  exact lv_dup hexec hb hd hv (k hx ls H locs hl hP hS)
theorem x_pop {v : Value} (hd : decode M.1 pc = .ok (.pop, 1)) (hv : v.category = 1) (k : X g M E Q kc ks (pc + 1) lo rest N I L R) : X g M E Q kc ks pc lo (v :: rest) N I L R := by
  obtain ⟨p, e, s, m, args, below, meth, c⟩ := E
  intro hx ls H locs hl hP hS
  obtain ⟨hexec, hb, hml, hown, hts, hG, hlk, hrt, hnm⟩ := id hx
  exact lv_pop hexec hb hd hv (k hx ls H locs hl hP hS)
theorem x_dup2 {v w : Value} (hd : decode M.1 pc = .ok (.dup2, 1)) (hv : v.category = 1) (hw : w.category = 1) (k : X g M E Q kc ks (pc + 1) lo (v :: w :: v :: w :: rest) N I L R) : X g M E Q kc ks pc lo (v :: w :: rest) N I L R := by
  obtain ⟨p, e, s, m, args, below, meth, c⟩ := E
  intro hx ls H locs hl hP hS
  obtain ⟨hexec, hb, hml, hown, hts, hG, hlk, hrt, hnm⟩ := id hx
  exact lv_dup2_11 hexec hb hd hv hw (k hx ls H locs hl hP hS)
theorem x_goto {off : Int} {tgt : Nat} (hd : decode M.1 pc = .ok (.goto off, 3)) (ht : (pc : Int) + off = (tgt : Int)) (k : X g M E Q kc ks tgt lo rest N I L R) : X g M E Q kc ks pc lo rest N I L R := by
  obtain ⟨p, e, s, m, args, below, meth, c⟩ := E
  intro hx ls H locs hl hP hS
  obtain ⟨hexec, hb, hml, hown, hts, hG, hlk, hrt, hnm⟩ := id hx
  exact lv_goto hexec hb hd ht (k hx ls H locs hl hP hS)
theorem x_ifnonnull {off : Int} {tgt a : Nat} (hd : decode M.1 pc = .ok (.ifnonnull off, 3)) (ht : (pc : Int) + off = (tgt : Int)) (k : X g M E Q kc ks tgt lo rest N I L R) : X g M E Q kc ks pc lo (.ref a :: rest) N I L R := by
  obtain ⟨p, e, s, m, args, below, meth, c⟩ := E
  intro hx ls H locs hl hP hS
  obtain ⟨hexec, hb, hml, hown, hts, hG, hlk, hrt, hnm⟩ := id hx
  exact lv_ifnonnull hexec hb hd ht (k hx ls H locs hl hP hS)
theorem x_ifnonnullN {off : Int} (hd : decode M.1 pc = .ok (.ifnonnull off, 3)) (k : X g M E Q kc ks (pc + 3) lo rest N I L R) : X g M E Q kc ks pc lo (.null :: rest) N I L R := by
  obtain ⟨p, e, s, m, args, below, meth, c⟩ := E
  intro hx ls H locs hl hP hS
  obtain ⟨hexec, hb, hml, hown, hts, hG, hlk, hrt, hnm⟩ := id hx
  exact lv_ifnonnullN hexec hb hd (k hx ls H locs hl hP hS)
theorem x_if_eq {x : Int32} {off : Int} {tgt : Nat} (hd : decode M.1 pc = .ok (.ifCond .eq off, 3)) (ht : (pc : Int) + off = (tgt : Int)) (kt : x = 0 → X g M E Q kc ks tgt lo rest N I L R) (kf : ¬ x = 0 → X g M E Q kc ks (pc + 3) lo rest N I L R) : X g M E Q kc ks pc lo (.int x :: rest) N I L R := by
  obtain ⟨p, e, s, m, args, below, meth, c⟩ := E
  intro hx ls H locs hl hP hS
  obtain ⟨hexec, hb, hml, hown, hts, hG, hlk, hrt, hnm⟩ := id hx
  exact lv_if_eq hexec hb hd ht (fun h => kt h hx ls H locs hl hP hS) (fun h => kf h hx ls H locs hl hP hS)
theorem x_icmp_eq {x y : Int32} {off : Int} {tgt : Nat} (hd : decode M.1 pc = .ok (.if_icmp .eq off, 3)) (ht : (pc : Int) + off = (tgt : Int)) (kt : x = y → X g M E Q kc ks tgt lo rest N I L R) (kf : ¬ x = y → X g M E Q kc ks (pc + 3) lo rest N I L R) : X g M E Q kc ks pc lo (.int y :: .int x :: rest) N I L R := by
  obtain ⟨p, e, s, m, args, below, meth, c⟩ := E
  intro hx ls H locs hl hP hS
  obtain ⟨hexec, hb, hml, hown, hts, hG, hlk, hrt, hnm⟩ := id hx
  exact lv_icmp_eq hexec hb hd ht (fun h => kt h hx ls H locs hl hP hS) (fun h => kf h hx ls H locs hl hP hS)
theorem x_if_ne {x : Int32} {off : Int} {tgt : Nat} (hd : decode M.1 pc = .ok (.ifCond .ne off, 3)) (ht : (pc : Int) + off = (tgt : Int)) (kt : ¬ x = 0 → X g M E Q kc ks tgt lo rest N I L R) (kf : x = 0 → X g M E Q kc ks (pc + 3) lo rest N I L R) : X g M E Q kc ks pc lo (.int x :: rest) N I L R := by
  obtain ⟨p, e, s, m, args, below, meth, c⟩ := E
  intro hx ls H locs hl hP hS
  obtain ⟨hexec, hb, hml, hown, hts, hG, hlk, hrt, hnm⟩ := id hx
  exact lv_if_ne hexec hb hd ht (fun h => kt h hx ls H locs hl hP hS) (fun h => kf h hx ls H locs hl hP hS)
theorem x_icmp_ne {x y : Int32} {off : Int} {tgt : Nat} (hd : decode M.1 pc = .ok (.if_icmp .ne off, 3)) (ht : (pc : Int) + off = (tgt : Int)) (kt : ¬ x = y → X g M E Q kc ks tgt lo rest N I L R) (kf : x = y → X g M E Q kc ks (pc + 3) lo rest N I L R) : X g M E Q kc ks pc lo (.int y :: .int x :: rest) N I L R := by
  obtain ⟨p, e, s, m, args, below, meth, c⟩ := E
  intro hx ls H locs hl hP hS
  obtain ⟨hexec, hb, hml, hown, hts, hG, hlk, hrt, hnm⟩ := id hx
  exact lv_icmp_ne hexec hb hd ht (fun h => kt h hx ls H locs hl hP hS) (fun h => kf h hx ls H locs hl hP hS)
theorem x_if_lt {x : Int32} {off : Int} {tgt : Nat} (hd : decode M.1 pc = .ok (.ifCond .lt off, 3)) (ht : (pc : Int) + off = (tgt : Int)) (kt : x < 0 → X g M E Q kc ks tgt lo rest N I L R) (kf : ¬ x < 0 → X g M E Q kc ks (pc + 3) lo rest N I L R) : X g M E Q kc ks pc lo (.int x :: rest) N I L R := by
  obtain ⟨p, e, s, m, args, below, meth, c⟩ := E
  intro hx ls H locs hl hP hS
  obtain ⟨hexec, hb, hml, hown, hts, hG, hlk, hrt, hnm⟩ := id hx
  exact lv_if_lt hexec hb hd ht (fun h => kt h hx ls H locs hl hP hS) (fun h => kf h hx ls H locs hl hP hS)
theorem x_icmp_lt {x y : Int32} {off : Int} {tgt : Nat} (hd : decode M.1 pc = .ok (.if_icmp .lt off, 3)) (ht : (pc : Int) + off = (tgt : Int)) (kt : x < y → X g M E Q kc ks tgt lo rest N I L R) (kf : ¬ x < y → X g M E Q kc ks (pc + 3) lo rest N I L R) : X g M E Q kc ks pc lo (.int y :: .int x :: rest) N I L R := by
  obtain ⟨p, e, s, m, args, below, meth, c⟩ := E
  intro hx ls H locs hl hP hS
  obtain ⟨hexec, hb, hml, hown, hts, hG, hlk, hrt, hnm⟩ := id hx
  exact lv_icmp_lt hexec hb hd ht (fun h => kt h hx ls H locs hl hP hS) (fun h => kf h hx ls H locs hl hP hS)
theorem x_if_ge {x : Int32} {off : Int} {tgt : Nat} (hd : decode M.1 pc = .ok (.ifCond .ge off, 3)) (ht : (pc : Int) + off = (tgt : Int)) (kt : 0 ≤ x → X g M E Q kc ks tgt lo rest N I L R) (kf : ¬ 0 ≤ x → X g M E Q kc ks (pc + 3) lo rest N I L R) : X g M E Q kc ks pc lo (.int x :: rest) N I L R := by
  obtain ⟨p, e, s, m, args, below, meth, c⟩ := E
  intro hx ls H locs hl hP hS
  obtain ⟨hexec, hb, hml, hown, hts, hG, hlk, hrt, hnm⟩ := id hx
  exact lv_if_ge hexec hb hd ht (fun h => kt h hx ls H locs hl hP hS) (fun h => kf h hx ls H locs hl hP hS)
theorem x_icmp_ge {x y : Int32} {off : Int} {tgt : Nat} (hd : decode M.1 pc = .ok (.if_icmp .ge off, 3)) (ht : (pc : Int) + off = (tgt : Int)) (kt : y ≤ x → X g M E Q kc ks tgt lo rest N I L R) (kf : ¬ y ≤ x → X g M E Q kc ks (pc + 3) lo rest N I L R) : X g M E Q kc ks pc lo (.int y :: .int x :: rest) N I L R := by
  obtain ⟨p, e, s, m, args, below, meth, c⟩ := E
  intro hx ls H locs hl hP hS
  obtain ⟨hexec, hb, hml, hown, hts, hG, hlk, hrt, hnm⟩ := id hx
  exact lv_icmp_ge hexec hb hd ht (fun h => kt h hx ls H locs hl hP hS) (fun h => kf h hx ls H locs hl hP hS)
theorem x_if_gt {x : Int32} {off : Int} {tgt : Nat} (hd : decode M.1 pc = .ok (.ifCond .gt off, 3)) (ht : (pc : Int) + off = (tgt : Int)) (kt : 0 < x → X g M E Q kc ks tgt lo rest N I L R) (kf : ¬ 0 < x → X g M E Q kc ks (pc + 3) lo rest N I L R) : X g M E Q kc ks pc lo (.int x :: rest) N I L R := by
  obtain ⟨p, e, s, m, args, below, meth, c⟩ := E
  intro hx ls H locs hl hP hS
  obtain ⟨hexec, hb, hml, hown, hts, hG, hlk, hrt, hnm⟩ := id hx
  exact lv_if_gt hexec hb hd ht (fun h => kt h hx ls H locs hl hP hS) (fun h => kf h hx ls H locs hl hP hS)
theorem x_icmp_gt {x y : Int32} {off : Int} {tgt : Nat} (hd : decode M.1 pc = .ok (.if_icmp .gt off, 3)) (ht : (pc : Int) + off = (tgt : Int)) (kt : y < x → X g M E Q kc ks tgt lo rest N I L R) (kf : ¬ y < x → X g M E Q kc ks (pc + 3) lo rest N I L R) : X g M E Q kc ks pc lo (.int y :: .int x :: rest) N I L R := by
  obtain ⟨p, e, s, m, args, below, meth, c⟩ := E
  intro hx ls H locs hl hP hS
  obtain ⟨hexec, hb, hml, hown, hts, hG, hlk, hrt, hnm⟩ := id hx
  exact lv_icmp_gt hexec hb hd ht (fun h => kt h hx ls H locs hl hP hS) (fun h => kf h hx ls H locs hl hP hS)
theorem x_if_le {x : Int32} {off : Int} {tgt : Nat} (hd : decode M.1 pc = .ok (.ifCond .le off, 3)) (ht : (pc : Int) + off = (tgt : Int)) (kt : x ≤ 0 → X g M E Q kc ks tgt lo rest N I L R) (kf : ¬ x ≤ 0 → X g M E Q kc ks (pc + 3) lo rest N I L R) : X g M E Q kc ks pc lo (.int x :: rest) N I L R := by
  obtain ⟨p, e, s, m, args, below, meth, c⟩ := E
  intro hx ls H locs hl hP hS
  obtain ⟨hexec, hb, hml, hown, hts, hG, hlk, hrt, hnm⟩ := id hx
  exact lv_if_le hexec hb hd ht (fun h => kt h hx ls H locs hl hP hS) (fun h => kf h hx ls H locs hl hP hS)
theorem x_icmp_le {x y : Int32} {off : Int} {tgt : Nat} (hd : decode M.1 pc = .ok (.if_icmp .le off, 3)) (ht : (pc : Int) + off = (tgt : Int)) (kt : x ≤ y → X g M E Q kc ks tgt lo rest N I L R) (kf : ¬ x ≤ y → X g M E Q kc ks (pc + 3) lo rest N I L R) : X g M E Q kc ks pc lo (.int y :: .int x :: rest) N I L R := by
  obtain ⟨p, e, s, m, args, below, meth, c⟩ := E
  intro hx ls H locs hl hP hS
  obtain ⟨hexec, hb, hml, hown, hts, hG, hlk, hrt, hnm⟩ := id hx
  exact lv_icmp_le hexec hb hd ht (fun h => kt h hx ls H locs hl hP hS) (fun h => kf h hx ls H locs hl hP hS)
theorem x_lookup {dflt : Int} {ps : Array (Int × Int)} {len : Nat} {x : Int32} {off : Int} {tgt : Nat} (hd : decode M.1 pc = .ok (.lookupswitch dflt ps, len)) (hp : (ps.toList.zip (ps.toList.drop 1)).all (fun (a, next) => a.1 < next.1) = true) (ho : Op.lookupswitch.offset ps.toList dflt x.toInt = off) (ht : (pc : Int) + off = (tgt : Int)) (k : X g M E Q kc ks tgt lo rest N I L R) : X g M E Q kc ks pc lo (.int x :: rest) N I L R := by
  obtain ⟨p, e, s, m, args, below, meth, c⟩ := E
  intro hx ls H locs hl hP hS
  obtain ⟨hexec, hb, hml, hown, hts, hG, hlk, hrt, hnm⟩ := id hx
  exact lv_lookup hexec hb hd hp ho ht (k hx ls H locs hl hP hS)
theorem x_tableOut {dflt lo1 hi : Int} {offs : Array Int} {len : Nat} {x : Int32} {tgt : Nat} (hd : decode M.1 pc = .ok (.tableswitch dflt lo1 hi offs, len)) (h : x.toInt < lo1 ∨ hi < x.toInt) (ht : (pc : Int) + dflt = (tgt : Int)) (k : X g M E Q kc ks tgt lo rest N I L R) : X g M E Q kc ks pc lo (.int x :: rest) N I L R := by
  obtain ⟨p, e, s, m, args, below, meth, c⟩ := E
  intro hx ls H locs hl hP hS
  obtain ⟨hexec, hb, hml, hown, hts, hG, hlk, hrt, hnm⟩ := id hx
  exact lv_tableOut hexec hb hd h ht (k hx ls H locs hl hP hS)
theorem x_tableIn {dflt lo1 hi : Int} {offs : Array Int} {len : Nat} {x : Int32} {off : Int} {tgt : Nat} (hd : decode M.1 pc = .ok (.tableswitch dflt lo1 hi offs, len)) (h1 : ¬ x.toInt < lo1) (h2 : ¬ hi < x.toInt) (ho : offs[(x.toInt - lo1).toNat]? = some off) (ht : (pc : Int) + off = (tgt : Int)) (k : X g M E Q kc ks tgt lo rest N I L R) : X g M E Q kc ks pc lo (.int x :: rest) N I L R := by
  obtain ⟨p, e, s, m, args, below, meth, c⟩ := E
  intro hx ls H locs hl hP hS
  obtain ⟨hexec, hb, hml, hown, hts, hG, hlk, hrt, hnm⟩ := id hx
  exact lv_tableIn hexec hb hd h1 h2 ho ht (k hx ls H locs hl hP hS)
end ZROWS
end
section
theorem z0_row (I : zI) (k : Nat) : z0 I k k = fun _ => 0 := by funext j; simp [z0]
theorem z0L_row (L : zL) (k : Nat) : z0L L k k = fun _ => 0 := by funext j; simp [z0L]
theorem zuL_row (L : zL) (k j : Nat) (v : Int64) : zuL L k j v k = vp_updL (L k) j v := by funext i; simp [zuL, vp_updL]
theorem zts_small : ∀ q ∈ zts, q.2 < 1000 := by decide +kernel
theorem zt_small0 {k t n : Nat} (h : zt k = (t, n)) : n < 1000 := by
  unfold zt at h
  rw [List.getD_eq_getElem?_getD] at h
  cases hq : zts[k]? with
  | none => rw [hq] at h; simp at h; omega
  | some q =>
    rw [hq] at h
    have := zts_small q (List.mem_of_getElem? hq)
    simp at h
    rw [h] at this
    exact this
theorem zt_small {k t n : Nat} (h : zt k = (t, n)) : n < 2 ^ 31 := by have := zt_small0 h; omega
theorem zt_small2 {k t n : Nat} (h : zt k = (t, n)) : n < 1000 := zt_small0 h
/-- a field that is reached: class own's pool entry idx is field j of class ci -/
def zFl (own : String) (idx ci j : Nat) : Prop := ∃ (C : String) (T : u_T) (n : Nat), zcl[ci]? = some (C, T, n) ∧ zcn ci = n ∧ (∀ w ∈ u_ws C T n, w ∈ wsL_law) ∧ Cond.fieldLink own idx C (T j).2.1 (T j).2.2.1 ∈ wsL_law ∧ (T j).1 = C ∧ j < n
/-- an int field that may be written -/
def zFp (own : String) (idx ci j : Nat) : Prop := ∃ (C : String) (T : u_T) (n : Nat) (ty : Nat → FieldType), zcl[ci]? = some (C, T, n) ∧ zcn ci = n ∧ (∀ w ∈ u_ws C T n, w ∈ wsL_law) ∧ Cond.fieldLink own idx C (T j).2.1 (T j).2.2.1 ∈ wsL_law ∧ (T j).1 = C ∧ j < n ∧ (∀ k, k < n → parseFieldDescriptor (T k).2.2.1 = some (ty k)) ∧ (∀ a, a < n → ∀ b, b < n → a ≠ b → (T a).2.1 ≠ (T b).2.1) ∧ (T j).2.2.2 = false ∧ ty j = .int ∧ zrf ci j = false
/-- a reference field of the class itself, written by its constructor -/
def zFq (own : String) (idx ci j : Nat) : Prop := ∃ (T : u_T) (n : Nat) (ty : Nat → FieldType), zcl[ci]? = some (own, T, n) ∧ zcn ci = n ∧ (∀ w ∈ u_ws own T n, w ∈ wsL_law) ∧ Cond.fieldLink own idx own (T j).2.1 (T j).2.2.1 ∈ wsL_law ∧ (T j).1 = own ∧ j < n ∧ (∀ k, k < n → parseFieldDescriptor (T k).2.2.1 = some (ty k)) ∧ (∀ a, a < n → ∀ b, b < n → a ≠ b → (T a).2.1 ≠ (T b).2.1) ∧ (T j).2.2.2 = true ∧ (∀ a : Nat, narrow (ty j) (.ref a) = .ref a ∧ fits (ty j) (.ref a) = true) ∧ zrf ci j = true
theorem zP_put {g : zG} {N : Nat} {I I' : zI} {L L' : zL} {R R' : zR} {H H1 : Heap} {k : Nat} {e : va_E} (hP : zP g N I L R H) (hk : k < N) (hz : zc g.2.1 g.2.2.1 I' L' R' k = e) (he : va_at g.2.2.2 zcl (g.2.1 + k, e) H1) (z : H1.size = H.size) (oq : ∀ q, q ≠ g.2.1 + k → H1[q]? = H[q]?) (ho : ∀ j, j ≠ k → zc g.2.1 g.2.2.1 I' L' R' j = zc g.2.1 g.2.2.1 I L R j) : zP g N I' L' R' H1 := by
  refine ⟨z.trans hP.1, ?_⟩
  rw [← zw_set hz ho]
  exact hP.2.set zw_D (zw_at hk) he oq
theorem zP_push {g : zG} {N : Nat} {I I' : zI} {L L' : zL} {R R' : zR} {H H1 : Heap} {e : va_E} (hP : zP g N I L R H) (hz : zc g.2.1 g.2.2.1 I' L' R' N = e) (he : va_at g.2.2.2 zcl (g.2.1 + N, e) H1) (z : H1.size = H.size + 1) (oq : ∀ q, q < H.size → H1[q]? = H[q]?) (ho : ∀ j, j < N → zc g.2.1 g.2.2.1 I' L' R' j = zc g.2.1 g.2.2.1 I L R j) : zP g (N + 1) I' L' R' H1 := by
  refine ⟨by rw [z, hP.1]; omega, ?_⟩
  rw [← zw_push hz ho]
  refine (hP.2.kept (fun k q hq => oq q.1 (hP.2 k q hq).lt)).app (fun k q hq => ?_)
  have hz : k < 1 := (List.getElem?_eq_some_iff.mp hq).1
  rw [show k = 0 by omega] at hq
  cases hq
  exact he
theorem va_S.push {A : Nat → Prop} {H0 H H1 : Heap} {locs : List Loc} (h : va_S A H0 H locs) (z : H1.size = H.size + 1) (oq : ∀ q : Nat, q < H.size → H1[q]? = H[q]?) : va_S A H0 H1 locs :=
  ⟨Nat.le_trans h.1 (by omega), fun x h1 h2 => (oq x (Nat.lt_of_lt_of_le h1 h.1)).trans (h.2.1 x h1 h2), h.2.2⟩
section ZHEAP
variable {g : zG} {M : zM} {E : zE} {Q : State → Prop} {kc ks pc : Nat} {lo : List (Option Value)} {rest : List Value} {N : Nat} {I : zI} {L : zL} {R : zR}
theorem zc_o {b : Nat} {D : Nat → ClassId} {I : zI} {L : zL} {R : zR} {k c : Nat} (h : (zt k).1 = c + 4) : zc b D I L R k = .inr (c, (List.range (zcn c)).map (fun j => if zrf c j = true then va_rf (zvr b (R k j)) else .int (I k j))) := zc_obj (n := (zt k).2) (by rw [← h])
theorem zfs_at {b c k j : Nat} {I : zI} {R : zR} (hj : j < zcn c) : ((List.range (zcn c)).map (fun j => if zrf c j = true then va_rf (zvr b (R k j)) else .int (I k j)))[j]? = some (if zrf c j = true then va_rf (zvr b (R k j)) else .int (I k j)) := by
  simp [List.getElem?_map, List.getElem?_range hj]
theorem zfs_set {b c k j : Nat} {v : Value} {I I' : zI} {R R' : zR} (hj : j < zcn c) (hv : (if zrf c j = true then va_rf (zvr b (R' k j)) else .int (I' k j)) = v) (ho : ∀ i, i ≠ j → I' k i = I k i ∧ R' k i = R k i) : ((List.range (zcn c)).map (fun j => if zrf c j = true then va_rf (zvr b (R' k j)) else .int (I' k j))) = ((List.range (zcn c)).map (fun j => if zrf c j = true then va_rf (zvr b (R k j)) else .int (I k j))).set j v := by
  apply List.ext_getElem?
  intro i
  by_cases hi : i < zcn c
  · rw [zfs_at hi]
    by_cases e : i = j
    · subst e
      rw [List.getElem?_set_self (by simpa using hi), hv]
    · rw [List.getElem?_set_ne (Ne.symm e), zfs_at hi, (ho i e).1, (ho i e).2]
  · rw [List.getElem?_eq_none (by simp; omega), List.getElem?_eq_none (by simp; omega)]
theorem x_get {idx ci j k : Nat} {v : Value} (hd : decode M.1 pc = .ok (.getfield idx, 3)) (hf : zFl M.2.1 idx ci j) (hk : k < N) (ht : (zt k).1 = ci + 4) (hv : (if zrf ci j = true then va_rf (zvr g.2.1 (R k j)) else .int (I k j)) = v) (kk : X g M E Q kc ks (pc + 3) lo (v :: rest) N I L R) : X g M E Q kc ks pc lo (.ref (g.2.1 + k) :: rest) N I L R := by
  obtain ⟨p, e, s, m, args, below, meth, c⟩ := E
  intro hx ls H locs hl hP hS
  obtain ⟨hexec, hb, hml, hown, hts, hG, hlk, hrt, hmn⟩ := id hx
  obtain ⟨C, T, n, hc, hn, hin, hlk2, hsm, hj⟩ := hf
  subst hn
  exact va_get (v := v) hexec hb hts hin hown hG.1 hP.2 k (by rw [zw_at hk, zc_o ht]) hc j hj (hts _ hlk2) (by rw [hsm]; exact fun _ h => h) (by rw [zfs_at hj, hv]) hd (kk hx ls H locs hl hP hS)
theorem x_getI {idx ci j k : Nat} (hd : decode M.1 pc = .ok (.getfield idx, 3)) (hf : zFl M.2.1 idx ci j) (hk : k < N) (ht : (zt k).1 = ci + 4) (hr : zrf ci j = false) (kk : X g M E Q kc ks (pc + 3) lo (.int (I k j) :: rest) N I L R) : X g M E Q kc ks pc lo (.ref (g.2.1 + k) :: rest) N I L R := x_get hd hf hk ht (by simp [hr]) kk
theorem x_getR {idx ci j k q : Nat} (hd : decode M.1 pc = .ok (.getfield idx, 3)) (hf : zFl M.2.1 idx ci j) (hk : k < N) (ht : (zt k).1 = ci + 4) (hr : zrf ci j = true) (hq : R k j = some q) (kk : X g M E Q kc ks (pc + 3) lo (.ref (g.2.1 + q) :: rest) N I L R) : X g M E Q kc ks pc lo (.ref (g.2.1 + k) :: rest) N I L R := x_get hd hf hk ht (by simp [hr, hq, zvr, va_rf]) kk
theorem x_putI {idx ci j k : Nat} {v : Int32} (hd : decode M.1 pc = .ok (.putfield idx, 3)) (hf : zFp M.2.1 idx ci j) (hk : k < N) (ht : (zt k).1 = ci + 4) (kk : X g M E Q kc ks (pc + 3) lo rest N (zu I k j v) L R) : X g M E Q kc ks pc lo (.int v :: .ref (g.2.1 + k) :: rest) N I L R := by
  obtain ⟨p, e, s, m, args, below, meth, c⟩ := E
  intro hx ls H locs hl hP hS
  obtain ⟨hexec, hb, hml, hown, hts, hG, hlk, hrt, hmn⟩ := id hx
  obtain ⟨C, T, n, ty, hc, hn, hin, hlk2, hsm, hj, hty, hnm, hfin, htj, hrf⟩ := hf
  subst hn
  have he := hP.2 k _ (zw_at hk)
  rw [zc_o ht] at he
  have hap := va_apart (own := M.2.1) hts hin ty hty hnm hG.1 hc
  obtain ⟨r, h1, cell, q1, q2, q3, q4⟩ := he
  have hr : r = (C, T, zcn ci) := Option.some.inj (h1.symm.trans hc)
  subst hr
  obtain ⟨hSl, hfc, kC, hkC, hkind⟩ := hG.1.1 ci _ hc
  obtain ⟨cf, kf, fi, f, hi, hsl⟩ := hSl j hj
  have hlay := hts _ (hin _ (u_in_lay hj))
  unfold u_lay at hlay
  rw [if_neg (by rw [hfin]; decide)] at hlay
  have hst := (u_facts hfc hkC (u_lays hts hin hj) hi).1
  have h6 := u_store (v := .int v) hfc hkC hkind hlay hi (by rw [hty j hj, htj]) rfl rfl
  refine W.putK hexec hb (f := f) ⟨hown, hts _ hlk2, ⟨_, _, _, by rw [← hsm]; exact hi⟩, hst⟩ (by rw [q2]; exact h6) q1 q3 (by rw [hsl]; exact k2_hasslot (q4 j hj)) rfl rfl hd fun H' e1 e2 e3 => ?_
  rw [hsl] at e1 ⊢
  refine kk hx ls H' _ hl (zP_put (e := .inr (ci, ((List.range (zcn ci)).map (fun j => if zrf ci j = true then va_rf (zvr g.2.1 (R k j)) else .int (I k j))).set j (.int v))) hP hk ?_ ⟨_, hc, t_OB.to (V := updV (vp_V ((List.range (zcn ci)).map (fun j => if zrf ci j = true then va_rf (zvr g.2.1 (R k j)) else .int (I k j)))) j (.int v)) ⟨_, e1, q2, q3, t_set q4 hap hj (.int v)⟩ (fun i _ => vp_updV_set (by simpa using hj) (.int v) i)⟩ e2 e3 ?_) (hS.put e2 e3 (Nat.le_add_right _ _))
  · rw [zc_o ht, zfs_set (I := I) (R := R) hj (v := .int v) (by simp [hrf, zu]) (fun i hi => ⟨zu_ne I v (Or.inr hi), rfl⟩)]
  · exact fun i hi => zc_congr (fun a => zu_ne I v (Or.inl hi)) (fun _ => rfl) (fun _ => rfl)
theorem x_putF {idx ci j k q : Nat} (hin2 : M.2.2.2.2.2 = "<init>") (hd : decode M.1 pc = .ok (.putfield idx, 3)) (hf : zFq M.2.1 idx ci j) (hk : k < N) (ht : (zt k).1 = ci + 4) (kk : X g M E Q kc ks (pc + 3) lo rest N I L (zuR R k j (some q))) : X g M E Q kc ks pc lo (.ref (g.2.1 + q) :: .ref (g.2.1 + k) :: rest) N I L R := by
  obtain ⟨p, e, s, m, args, below, meth, c⟩ := E
  intro hx ls H locs hl hP hS
  obtain ⟨hexec, hb, hml, hown, hts, hG, hlk, hrt, hmn⟩ := id hx
  obtain ⟨T, n, ty, hc, hn, hin, hlk2, hsm, hj, hty, hnm, hfin, hnf, hrf⟩ := hf
  subst hn
  have he := hP.2 k _ (zw_at hk)
  rw [zc_o ht] at he
  have hap := va_apart (own := M.2.1) hts hin ty hty hnm hG.1 hc
  obtain ⟨r, h1, cell, q1, q2, q3, q4⟩ := he
  have hr : r = (M.2.1, T, zcn ci) := Option.some.inj (h1.symm.trans hc)
  subst hr
  obtain ⟨hSl, hfc, kC, hkC, hkind⟩ := hG.1.1 ci _ hc
  obtain ⟨cf, kf, fi, f, hi, hsl⟩ := hSl j hj
  have hlay := hts _ (hin _ (u_in_lay hj))
  unfold u_lay at hlay
  rw [if_pos hfin] at hlay
  have hst := (u_facts hfc hkC (u_lays hts hin hj) hi).1
  have hcf : m.cls = cf := by
    obtain ⟨_, _, c', _, _, _, -, -, hf', -, -, -, hown2, -⟩ := Cond.laysFinal_spec hlay
    have e1 : c' = cf := by have := hi.symm.trans hf'; simp at this; exact this.1.symm
    rw [hsm] at hown2
    rw [← e1]; exact Option.some.inj (hown.symm.trans hown2)
  have h6 := u_fits (v := .ref (g.2.1 + q)) hfc hkC hkind (Or.inr hlay) hi (hty j hj) (hnf _).1 (hnf _).2
  refine W.putFinK hexec hb hown (hts _ hlk2) (by rw [← hsm]; exact hi) hst hcf (hmn.trans hin2) (by rw [q2]; exact h6) q1 q3 (by rw [hsl]; exact k2_hasslot (q4 j hj)) rfl rfl hd fun H' e1 e2 e3 => ?_
  rw [hsl] at e1 ⊢
  refine kk hx ls H' _ hl (zP_put (e := .inr (ci, ((List.range (zcn ci)).map (fun j => if zrf ci j = true then va_rf (zvr g.2.1 (R k j)) else .int (I k j))).set j (.ref (g.2.1 + q)))) hP hk ?_ ⟨_, hc, t_OB.to (V := updV (vp_V ((List.range (zcn ci)).map (fun j => if zrf ci j = true then va_rf (zvr g.2.1 (R k j)) else .int (I k j)))) j (.ref (g.2.1 + q))) ⟨_, e1, q2, q3, t_set q4 hap hj (.ref (g.2.1 + q))⟩ (fun i _ => vp_updV_set (by simpa using hj) (.ref (g.2.1 + q)) i)⟩ e2 e3 ?_) (hS.put e2 e3 (Nat.le_add_right _ _))
  · rw [zc_o ht, zfs_set (I := I) (R := R) hj (v := .ref (g.2.1 + q)) (by simp [hrf, zuR, zvr, va_rf]) (fun i hi => ⟨rfl, by simp [zuR, hi]⟩)]
  · exact fun i hi => zc_congr (fun _ => rfl) (fun _ => rfl) (fun a => by simp [zuR, hi])
/-- int rows -/
theorem zx_in {j : Int32} {i n : Nat} (hj : j = nI i) (hi : i < n) (hn : n < 2 ^ 31) : vp_in j n ∧ j.toNatClampNeg = i := by
  subst hj
  exact ⟨vp_in_nI hi hn, nI_clamp (by omega)⟩
theorem x_iald {k n : Nat} {j : Int32} (hd : decode M.1 pc = .ok (.iaload, 1)) (hk : k < N) (ht : zt k = (0, n)) (hin : vp_in j n) (kk : X g M E Q kc ks (pc + 1) lo (.int (I k j.toNatClampNeg) :: rest) N I L R) : X g M E Q kc ks pc lo (.int j :: .ref (g.2.1 + k) :: rest) N I L R := by
  obtain ⟨p, e, s, m, args, below, meth, c⟩ := E
  intro hx ls H locs hl hP hS
  obtain ⟨hexec, hb, hml, hown, hts, hG, hlk, hrt, hmn⟩ := id hx
  exact va_iald hexec hb hG.1 hP.2 k 0 (by rw [zw_at hk, zc_int ht]) rfl hin hd (kk hx ls H locs hl hP hS)
theorem x_ialdN {k n i : Nat} {j : Int32} (hd : decode M.1 pc = .ok (.iaload, 1)) (hk : k < N) (ht : zt k = (0, n)) (hj : j = nI i) (hi : i < n) (kk : X g M E Q kc ks (pc + 1) lo (.int (I k i) :: rest) N I L R) : X g M E Q kc ks pc lo (.int j :: .ref (g.2.1 + k) :: rest) N I L R := by
  have hn : n < 2 ^ 31 := zt_small ht
  have h := zx_in hj hi hn
  refine x_iald hd hk ht h.1 ?_
  rw [h.2]
  exact kk
theorem x_zald {k n i : Nat} {j : Int32} (hd : decode M.1 pc = .ok (.baload, 1)) (hk : k < N) (ht : zt k = (2, n)) (hj : j = nI i) (hi : i < n) (kk : X g M E Q kc ks (pc + 1) lo (.int (I k i) :: rest) N I L R) : X g M E Q kc ks pc lo (.int j :: .ref (g.2.1 + k) :: rest) N I L R := by
  obtain ⟨p, e, s, m, args, below, meth, c⟩ := E
  intro hx ls H locs hl hP hS
  obtain ⟨hexec, hb, hml, hown, hts, hG, hlk, hrt, hmn⟩ := id hx
  have h := zx_in hj hi (zt_small ht)
  refine va_zald hexec hb hG.1 hP.2 k 2 (by rw [zw_at hk, zc_bool ht]) rfl h.1 hd ?_
  rw [h.2]
  exact kk hx ls H locs hl hP hS
theorem x_lald {k n i : Nat} {j : Int32} (hd : decode M.1 pc = .ok (.laload, 1)) (hk : k < N) (ht : zt k = (1, n)) (hj : j = nI i) (hi : i < n) (kk : X g M E Q kc ks (pc + 1) lo (.long (L k i) :: rest) N I L R) : X g M E Q kc ks pc lo (.int j :: .ref (g.2.1 + k) :: rest) N I L R := by
  obtain ⟨p, e, s, m, args, below, meth, c⟩ := E
  intro hx ls H locs hl hP hS
  obtain ⟨hexec, hb, hml, hown, hts, hG, hlk, hrt, hmn⟩ := id hx
  have h := zx_in hj hi (zt_small ht)
  refine va_lald hexec hb hG.1 hP.2 k 1 (by rw [zw_at hk, zc_long ht]) rfl h.1 hd ?_
  rw [h.2]
  exact kk hx ls H locs hl hP hS
theorem x_aald {k n i : Nat} {j : Int32} (hd : decode M.1 pc = .ok (.aaload, 1)) (hk : k < N) (ht : zt k = (3, n)) (hj : j = nI i) (hi : i < n) (kk : X g M E Q kc ks (pc + 1) lo (va_rf (zvr g.2.1 (R k i)) :: rest) N I L R) : X g M E Q kc ks pc lo (.int j :: .ref (g.2.1 + k) :: rest) N I L R := by
  obtain ⟨p, e, s, m, args, below, meth, c⟩ := E
  intro hx ls H locs hl hP hS
  obtain ⟨hexec, hb, hml, hown, hts, hG, hlk, hrt, hmn⟩ := id hx
  have h := zx_in hj hi (zt_small ht)
  refine va_aldq hexec hb hG.1 hP.2 k 3 (by rw [zw_at hk, zc_ref ht]) rfl h.1 hd ?_
  rw [h.2]
  exact kk hx ls H locs hl hP hS
theorem x_alen {k n : Nat} {v : Int32} (hd : decode M.1 pc = .ok (.arraylength, 1)) (hk : k < N) (ht : zt k = (0, n)) (hv : Int32.ofNat n = v) (kk : X g M E Q kc ks (pc + 1) lo (.int v :: rest) N I L R) : X g M E Q kc ks pc lo (.ref (g.2.1 + k) :: rest) N I L R := by
  obtain ⟨p, e, s, m, args, below, meth, c⟩ := E
  intro hx ls H locs hl hP hS
  obtain ⟨hexec, hb, hml, hown, hts, hG, hlk, hrt, hmn⟩ := id hx
  exact va_alen hexec hb hG.1 hP.2 k 0 (by rw [zw_at hk, zc_int ht]) rfl hv hd (kk hx ls H locs hl hP hS)
theorem x_iast {k n i : Nat} {j v : Int32} (hd : decode M.1 pc = .ok (.iastore, 1)) (hk : k < N) (ht : zt k = (0, n)) (hj : j = nI i) (hi : i < n) (kk : X g M E Q kc ks (pc + 1) lo rest N (zu I k i v) L R) : X g M E Q kc ks pc lo (.int v :: .int j :: .ref (g.2.1 + k) :: rest) N I L R := by
  obtain ⟨p, e, s, m, args, below, meth, c⟩ := E
  intro hx ls H locs hl hP hS
  obtain ⟨hexec, hb, hml, hown, hts, hG, hlk, hrt, hmn⟩ := id hx
  obtain ⟨hin, hji⟩ := zx_in hj hi (zt_small ht)
  have ha := hP.2 k _ (zw_at hk)
  rw [zc_int ht] at ha
  refine W.iast hexec hb ha ((hG.1.2 0 _ rfl).1 n (fun j => .int (I k j))) (fun q => by cases q) (by show ¬ (j < 0 ∨ (arrV _ _ _).slots.size ≤ _); rw [arrV_size]; exact hin) rfl rfl hd fun H1 e z oq => ?_
  refine kk hx ls H1 _ hl (zP_put (e := .inl (g.2.2.1 0, n, .inl (upd (I k) i v))) hP hk (by rw [zc_int ht, zu_row]) ?_ z oq ?_) (hS.put z oq (Nat.le_add_right _ _))
  · show H1[_]? = some (vp_cell _ _)
    rw [e]
    rw [vp_cell_i, vp_cell_i, arrV_store, hji]
    congr 2
    funext q
    by_cases hq : q = i
    · subst hq
      simp [updV, upd]
    · simp [updV, upd, hq]
  · exact fun i hi => zc_congr (fun a => zu_ne I v (Or.inl hi)) (fun _ => rfl) (fun _ => rfl)
theorem x_zast {k n i : Nat} {j v : Int32} (hd : decode M.1 pc = .ok (.bastore, 1)) (hk : k < N) (ht : zt k = (2, n)) (hj : j = nI i) (hi : i < n) (hv : narrow .boolean (.int v) = .int v) (kk : X g M E Q kc ks (pc + 1) lo rest N (zu I k i v) L R) : X g M E Q kc ks pc lo (.int v :: .int j :: .ref (g.2.1 + k) :: rest) N I L R := by
  obtain ⟨p, e, s, m, args, below, meth, c⟩ := E
  intro hx ls H locs hl hP hS
  obtain ⟨hexec, hb, hml, hown, hts, hG, hlk, hrt, hmn⟩ := id hx
  obtain ⟨hin, hji⟩ := zx_in hj hi (zt_small ht)
  have ha := hP.2 k _ (zw_at hk)
  rw [zc_bool ht] at ha
  refine W.zast hexec hb ha ((hG.1.2 2 _ rfl).1 n (fun j => .int (I k j))) (fun q => by cases q) (by show ¬ (j < 0 ∨ (arrV _ _ _).slots.size ≤ _); rw [arrV_size]; exact hin) rfl rfl hd fun H1 e z oq => ?_
  refine kk hx ls H1 _ hl (zP_put (e := .inl (g.2.2.1 2, n, .inl (upd (I k) i v))) hP hk (by rw [zc_bool ht, zu_row]) ?_ z oq ?_) (hS.put z oq (Nat.le_add_right _ _))
  · show H1[_]? = some (vp_cell _ _)
    rw [e, hv]
    rw [vp_cell_i, vp_cell_i, arrV_store, hji]
    congr 2
    funext q
    by_cases hq : q = i
    · subst hq
      simp [updV, upd]
    · simp [updV, upd, hq]
  · exact fun i hi => zc_congr (fun a => zu_ne I v (Or.inl hi)) (fun _ => rfl) (fun _ => rfl)
theorem x_last {k n i : Nat} {j : Int32} {v : Int64} (hd : decode M.1 pc = .ok (.lastore, 1)) (hk : k < N) (ht : zt k = (1, n)) (hj : j = nI i) (hi : i < n) (kk : X g M E Q kc ks (pc + 1) lo rest N I (zuL L k i v) R) : X g M E Q kc ks pc lo (.long v :: .int j :: .ref (g.2.1 + k) :: rest) N I L R := by
  obtain ⟨p, e, s, m, args, below, meth, c⟩ := E
  intro hx ls H locs hl hP hS
  obtain ⟨hexec, hb, hml, hown, hts, hG, hlk, hrt, hmn⟩ := id hx
  obtain ⟨hin, hji⟩ := zx_in hj hi (zt_small ht)
  have ha := hP.2 k _ (zw_at hk)
  rw [zc_long ht] at ha
  refine W.last hexec hb ha ((hG.1.2 1 _ rfl).1 n (fun j => .long (L k j))) (fun q => by cases q) (by show ¬ (j < 0 ∨ (arrV _ _ _).slots.size ≤ _); rw [arrV_size]; exact hin) rfl rfl hd fun H1 e z oq => ?_
  refine kk hx ls H1 _ hl (zP_put (e := .inl (g.2.2.1 1, n, .inr (.inl (vp_updL (L k) i v)))) hP hk (by rw [zc_long ht, zuL_row]) ?_ z oq ?_) (hS.put z oq (Nat.le_add_right _ _))
  · show H1[_]? = some (vp_cell _ _)
    rw [e]
    rw [vp_cell_l, vp_cell_l, arrV_store, hji]
    congr 2
    funext q
    by_cases hq : q = i
    · subst hq
      simp [updV, vp_updL]
    · simp [updV, vp_updL, hq]
  · exact fun i hi => zc_congr (fun _ => rfl) (fun a => by simp [zuL, hi]) (fun _ => rfl)
theorem x_aast {k n i q : Nat} {j : Int32} (hd : decode M.1 pc = .ok (.aastore, 1)) (hk : k < N) (ht : zt k = (3, n)) (hj : j = nI i) (hi : i < n) (hq : q < N) (hqt : (zt q).1 = 3 + 4) (kk : X g M E Q kc ks (pc + 1) lo rest N I L (zuR R k i (some q))) : X g M E Q kc ks pc lo (.ref (g.2.1 + q) :: .int j :: .ref (g.2.1 + k) :: rest) N I L R := by
  obtain ⟨p, e, s, m, args, below, meth, c⟩ := E
  intro hx ls H locs hl hP hS
  obtain ⟨hexec, hb, hml, hown, hts, hG, hlk, hrt, hmn⟩ := id hx
  obtain ⟨hin, hji⟩ := zx_in hj hi (zt_small ht)
  have ha := hP.2 k _ (zw_at hk)
  rw [zc_ref ht] at ha
  have hv := hP.2 q _ (zw_at hq)
  rw [zc_o hqt] at hv
  obtain ⟨r', hr', cellV, g1, g2, g3, -⟩ := hv
  have hcls := (hG.1.1 3 (RX3, TX3, 13) rfl).2
  obtain ⟨kA, comp, k1, k2, k3, -⟩ := (hG.1.2 3 _ rfl).2
  have hcomp : comp = g.2.2.2.1 3 := Option.some.inj (k3.symm.trans hcls.1)
  subst hcomp
  obtain ⟨kC, hkC, -⟩ := id hcls.2
  refine W.aast hexec hb ha (fun q h => by cases h) (fun h => by cases h) k1 k2 rfl hkC ⟨fun q => hin (Or.inl q), by show _ < (arrV _ _ _).slots.size; rw [arrV_size]; exact Nat.not_le.mp fun q => hin (Or.inr q)⟩ g1 (fun q h => by rw [g3] at h; cases h) (by rw [g2]; exact hkC) (by rw [g2]; exact va_assign hcls) rfl rfl hd fun H1 e z oq => ?_
  refine kk hx ls H1 _ hl (zP_put (e := .inl (g.2.2.1 3, n, .inr (.inr (.inr (.inr (fun a => zvr g.2.1 (zuR R k i (some q) k a))))))) hP hk (by rw [zc_ref ht]) ?_ z oq ?_) (hS.put z oq (Nat.le_add_right _ _))
  · show H1[_]? = some (vp_cell _ _)
    rw [e]
    rw [vp_cell_q, vp_cell_q, arrV_store, hji]
    congr 2
    funext a
    by_cases ha : a = i
    · subst ha
      simp [updV, zuR, zvr, va_rf]
    · simp [updV, zuR, ha]
  · exact fun i hi => zc_congr (fun _ => rfl) (fun _ => rfl) (fun a => by simp [zuR, hi])
/-- new cells -/
theorem x_newI {n : Int32} {n0 : Nat} (hd : decode M.1 pc = .ok (.newarray .int, 2)) (hw : Cond.arrayClass .int ∈ wsL_law) (ht : zt N = (0, n0)) (hn : n = nI n0) (hc : kc + 1 ≤ M.2.2.2.2.1.cells) (hs : ks + n0 ≤ M.2.2.2.2.1.slots) (kk : X g M E Q (kc + 1) (ks + n0) (pc + 2) lo (.ref (g.2.1 + N) :: rest) (N + 1) (z0 I N) (z0L L N) (z0R R N)) : X g M E Q kc ks pc lo (.int n :: rest) N I L R := by
  obtain ⟨p, e, s, m, args, below, meth, c⟩ := E
  intro hx ls H locs hl hP hS
  obtain ⟨hexec, hb, hml, hown, hts, hG, hlk, hrt, hmn⟩ := id hx
  have hsm := zt_small ht
  subst hn
  refine va_newaK hexec hb (atype := .int) (hts _ hw) rfl hd rfl (nI_pos hsm) (nI_clamp hsm) (by have := zt_small2 ht; simp [newarray.typeOf, componentBytes]; omega) hc hs hP.1 fun H1 cA e1 z1 o1 hAr hNm => ?_
  have hcA : cA = g.2.2.1 0 := Option.some.inj (hNm.symm.trans (hG.1.2 0 _ rfl).2)
  subst hcA
  have hsz := hP.1
  refine kk hx ls H1 locs hl (zP_push (e := .inl (g.2.2.1 0, n0, .inl (fun _ => 0))) hP (by rw [zc_int ht, z0_row]) ?_ (by rw [z1, hsz]) (fun q hq => o1 q (by omega)) ?_) (hS.push (by rw [z1, hsz]) (fun q hq => o1 q (by omega)))
  · show H1[_]? = some (vp_cell _ _)
    rw [vp_cell_i]
    exact e1
  · exact fun j hj => zc_congr (fun a => by simp [z0, Nat.ne_of_lt hj]) (fun a => by simp [z0L, Nat.ne_of_lt hj]) (fun a => by simp [z0R, Nat.ne_of_lt hj])
theorem x_newZ {n : Int32} {n0 : Nat} (hd : decode M.1 pc = .ok (.newarray .boolean, 2)) (hw : Cond.arrayClass .boolean ∈ wsL_law) (ht : zt N = (2, n0)) (hn : n = nI n0) (hc : kc + 1 ≤ M.2.2.2.2.1.cells) (hs : ks + n0 ≤ M.2.2.2.2.1.slots) (kk : X g M E Q (kc + 1) (ks + n0) (pc + 2) lo (.ref (g.2.1 + N) :: rest) (N + 1) (z0 I N) (z0L L N) (z0R R N)) : X g M E Q kc ks pc lo (.int n :: rest) N I L R := by
  obtain ⟨p, e, s, m, args, below, meth, c⟩ := E
  intro hx ls H locs hl hP hS
  obtain ⟨hexec, hb, hml, hown, hts, hG, hlk, hrt, hmn⟩ := id hx
  have hsm := zt_small ht
  subst hn
  refine va_newaK hexec hb (atype := .boolean) (hts _ hw) rfl hd rfl (nI_pos hsm) (nI_clamp hsm) (by have := zt_small2 ht; simp [newarray.typeOf, componentBytes]; omega) hc hs hP.1 fun H1 cA e1 z1 o1 hAr hNm => ?_
  have hcA : cA = g.2.2.1 2 := Option.some.inj (hNm.symm.trans (hG.1.2 2 _ rfl).2)
  subst hcA
  have hsz := hP.1
  refine kk hx ls H1 locs hl (zP_push (e := .inl (g.2.2.1 2, n0, .inl (fun _ => 0))) hP (by rw [zc_bool ht, z0_row]) ?_ (by rw [z1, hsz]) (fun q hq => o1 q (by omega)) ?_) (hS.push (by rw [z1, hsz]) (fun q hq => o1 q (by omega)))
  · show H1[_]? = some (vp_cell _ _)
    rw [vp_cell_i]
    exact e1
  · exact fun j hj => zc_congr (fun a => by simp [z0, Nat.ne_of_lt hj]) (fun a => by simp [z0L, Nat.ne_of_lt hj]) (fun a => by simp [z0R, Nat.ne_of_lt hj])
theorem x_newJ {n : Int32} {n0 : Nat} (hd : decode M.1 pc = .ok (.newarray .long, 2)) (hw : Cond.arrayClass .long ∈ wsL_law) (ht : zt N = (1, n0)) (hn : n = nI n0) (hc : kc + 1 ≤ M.2.2.2.2.1.cells) (hs : ks + n0 ≤ M.2.2.2.2.1.slots) (kk : X g M E Q (kc + 1) (ks + n0) (pc + 2) lo (.ref (g.2.1 + N) :: rest) (N + 1) (z0 I N) (z0L L N) (z0R R N)) : X g M E Q kc ks pc lo (.int n :: rest) N I L R := by
  obtain ⟨p, e, s, m, args, below, meth, c⟩ := E
  intro hx ls H locs hl hP hS
  obtain ⟨hexec, hb, hml, hown, hts, hG, hlk, hrt, hmn⟩ := id hx
  have hsm := zt_small ht
  subst hn
  refine va_newaK hexec hb (atype := .long) (hts _ hw) rfl hd rfl (nI_pos hsm) (nI_clamp hsm) (by have := zt_small2 ht; simp [newarray.typeOf, componentBytes]; omega) hc hs hP.1 fun H1 cA e1 z1 o1 hAr hNm => ?_
  have hcA : cA = g.2.2.1 1 := Option.some.inj (hNm.symm.trans (hG.1.2 1 _ rfl).2)
  subst hcA
  have hsz := hP.1
  refine kk hx ls H1 locs hl (zP_push (e := .inl (g.2.2.1 1, n0, .inr (.inl (fun _ => 0)))) hP (by rw [zc_long ht, z0L_row]) ?_ (by rw [z1, hsz]) (fun q hq => o1 q (by omega)) ?_) (hS.push (by rw [z1, hsz]) (fun q hq => o1 q (by omega)))
  · show H1[_]? = some (vp_cell _ _)
    rw [vp_cell_l]
    exact e1
  · exact fun j hj => zc_congr (fun a => by simp [z0, Nat.ne_of_lt hj]) (fun a => by simp [z0L, Nat.ne_of_lt hj]) (fun a => by simp [z0R, Nat.ne_of_lt hj])
theorem x_newQ {idx : Nat} {n : Int32} {n0 : Nat} (hd : decode M.1 pc = .ok (.anewarray idx, 3)) (hw : Cond.classLink M.2.1 idx "MireWrestle$Mire" ∈ wsL_law) (ht : zt N = (3, n0)) (hn : n = nI n0) (hc : kc + 1 ≤ M.2.2.2.2.1.cells) (hs : ks + n0 ≤ M.2.2.2.2.1.slots) (kk : X g M E Q (kc + 1) (ks + n0) (pc + 3) lo (.ref (g.2.1 + N) :: rest) (N + 1) (z0 I N) (z0L L N) (z0R R N)) : X g M E Q kc ks pc lo (.int n :: rest) N I L R := by
  obtain ⟨p, e, s, m, args, below, meth, c⟩ := E
  intro hx ls H locs hl hP hS
  obtain ⟨hexec, hb, hml, hown, hts, hG, hlk, hrt, hmn⟩ := id hx
  have hsm := zt_small ht
  subst hn
  have hcl := nI_clamp hsm
  refine W.anew hexec hb hown (hts _ hw) (va_AO.use hG.2.2) rfl hd rfl (nI_pos hsm) (by rw [hcl]; have := zt_small2 ht; omega) hc (by rw [hcl]; exact hs) fun cA kA comp f1 f2 f3 f4 => ?_
  rw [hcl]
  generalize hH1 : H.push ({ cls := cA, slots := Array.replicate n0 .null, vm := .none } : Cell) = H1
  have z1 : H1.size = H.size + 1 := by rw [← hH1, Array.size_push]
  have e1 : H1[H.size]? = some (arrV cA n0 (fun _ => .null)) := by rw [← hH1, Array.getElem?_push_size, ← arrV_new]
  have o1 : ∀ q : Nat, q < H.size → H1[q]? = H[q]? := fun q hq => by rw [← hH1, Array.getElem?_push, if_neg (Nat.ne_of_lt hq)]
  obtain ⟨kA', comp', j1, j2, j3, j4⟩ := (hG.1.2 3 _ rfl).2
  have hcA : cA = g.2.2.1 3 := Option.some.inj (f1.symm.trans j4)
  subst hcA
  have hsz := hP.1
  rw [hsz] at e1 ⊢
  refine kk hx ls H1 locs hl (zP_push (e := .inl (g.2.2.1 3, n0, .inr (.inr (.inr (.inr (fun _ => none)))))) hP (by rw [zc_ref ht]; congr 7; funext j; simp [z0R, zvr]) ?_ z1 o1 ?_) (hS.push z1 o1)
  · show H1[_]? = some (vp_cell _ _)
    rw [vp_cell_q]
    exact e1
  · exact fun j hj => zc_congr (fun a => by simp [z0, Nat.ne_of_lt hj]) (fun a => by simp [z0L, Nat.ne_of_lt hj]) (fun a => by simp [z0R, Nat.ne_of_lt hj])
/-- what a class needs to be made -/
def zNw (own : String) (idx ci : Nat) : Prop := ∃ (C : String) (T : u_T) (n : Nat) (ty : Nat → FieldType), zcl[ci]? = some (C, T, n) ∧ zcn ci = n ∧ (∀ w ∈ u_ws C T n, w ∈ wsL_law) ∧ (∀ k, k < n → parseFieldDescriptor (T k).2.2.1 = some (ty k)) ∧ Cond.classLink own idx C ∈ wsL_law ∧ Cond.instantiable C n ∈ wsL_law ∧ Cond.initialized C ∈ wsL_law ∧ (∀ j, j < n → defaultValue (ty j) = if zrf ci j = true then .null else .int 0)
theorem x_new {idx ci : Nat} (hd : decode M.1 pc = .ok (.new idx, 3)) (hf : zNw M.2.1 idx ci) (ht : (zt N).1 = ci + 4) (hc : kc + 1 ≤ M.2.2.2.2.1.cells) (hs : ks + zcn ci ≤ M.2.2.2.2.1.slots) (kk : X g M E Q (kc + 1) (ks + zcn ci) (pc + 3) lo (.ref (g.2.1 + N) :: rest) (N + 1) (z0 I N) (z0L L N) (z0R R N)) : X g M E Q kc ks pc lo rest N I L R := by
  obtain ⟨p, e, s, m, args, below, meth, c⟩ := E
  intro hx ls H locs hl hP hS
  obtain ⟨hexec, hb, hml, hown, hts, hG, hlk, hrt, hmn⟩ := id hx
  obtain ⟨C, T, n, ty, hcl, hn, hin, hty, w1, w2, w3, hdef⟩ := hf
  subst hn
  have hKn := hG.1.1 ci _ hcl
  have hsz := hP.1
  refine W.newcK hexec hb hown (hts _ w1) (hts _ w2) (hts _ w3) rfl hd hc hs hKn.2.1 hsz fun H1 kC hkC e1 z1 o1 => ?_
  refine kk hx ls H1 locs hl (zP_push (e := .inr (ci, (List.range (zcn ci)).map (fun j => if zrf ci j = true then .null else .int 0))) hP (by rw [zc_o ht]; congr 2; apply List.map_congr_left; intro j _; simp [z0, z0R, zvr, va_rf]) ?_ (by rw [z1, hsz]) (fun q hq => o1 q (by omega)) ?_) (hS.push (by rw [z1, hsz]) (fun q hq => o1 q (by omega)))
  · refine ⟨_, hcl, (u_born ty hts hin hKn hkC e1 hty).to (fun j hj => ?_)⟩
    rw [hdef j hj]
    simp [vp_V, List.getD_eq_getElem?_getD, List.getElem?_map, List.getElem?_range hj]
  · exact fun j hj => zc_congr (fun a => by simp [z0, Nat.ne_of_lt hj]) (fun a => by simp [z0L, Nat.ne_of_lt hj]) (fun a => by simp [z0R, Nat.ne_of_lt hj])
end ZHEAP
end
section
abbrev zPost : Type := Option Value → Nat → zI → zL → zR → Prop
def zQ (g : zG) (P : zPost) : Array Value → State → Outcome → State → Prop := fun _ st o t => (∃ (r : Option Value) (N : Nat) (I : zI) (L : zL) (R : zR), o = .returned r ∧ P r N I L R ∧ zP g N I L R t.heap) ∧ va_F (fun q => g.2.1 ≤ q) st t
def zMQ (g : zG) (M : zM) (E : zE) (P : zPost) : State → Prop := match E with
  | (_, _, s, _, args, below, _, _) => MQ below (zQ g P) args s M.2.2.2.2.1.cells M.2.2.2.2.1.slots (fun q => g.2.1 ≤ q)
/-- a method's contract: from the world (N, I, L, R), called with av, it returns, and P holds of its answer and of the world behind it -/
def Ct (g : zG) (y : MethodName) (M : zM) (av : List Value) (N : Nat) (I : zI) (L : zL) (R : zR) (P : zPost) : Prop := Met g.1 y (Cond.code y M.1 M.2.2.1 M.2.2.2.1 :: wsL_law) M.2.2.2.2.1 (va_Pc av (fun U => zP g N I L R U.heap ∧ zS g U)) (zQ g P) M.2.2.2.2.1.cells M.2.2.2.2.1.slots (fun q => g.2.1 ≤ q)
/-- just this answer, just this world -/
def zD (r : Option Value) (N : Nat) (I : zI) (L : zL) (R : zR) : zPost := fun r' N' I' L' R' => r' = r ∧ N' = N ∧ I' = I ∧ L' = L ∧ R' = R
theorem zD_rf {r : Option Value} {N : Nat} {I : zI} {L : zL} {R : zR} : zD r N I L R r N I L R := ⟨rfl, rfl, rfl, rfl, rfl⟩
theorem zD_i {v v' : Int32} {N : Nat} {I I' : zI} {L : zL} {R : zR} (h : v = v') (hI : I = I') : zD (some (.int v')) N I' L R (some (.int v)) N I L R := ⟨by rw [h], rfl, hI, rfl, rfl⟩
/-- a method's words -/
def zMt (y : MethodName) (M : zM) (n : Nat) : Prop := Cond.code y M.1 M.2.2.1 M.2.2.2.1 ∈ wsL_law ∧ Cond.initialized y.cls ∈ wsL_law ∧ (y.cls ≠ "java/lang/invoke/MethodHandle" ∧ y.cls ≠ "java/lang/invoke/VarHandle") ∧ (parseMethodDescriptor y.desc).map (fun d => d.parameters.length) = some n
def zMv (y : MethodName) : Prop := Cond.instanceMethod y ∈ wsL_law ∧ Cond.selects y.cls y y ∈ wsL_law
theorem zgood {y : MethodName} {M : zM} (h : Cond.code y M.1 M.2.2.1 M.2.2.2.1 ∈ wsL_law) : GoodIn wsL_law (Cond.code y M.1 M.2.2.1 M.2.2.2.1 :: wsL_law) := by
  have key : ∀ w ∈ wsL_law, w ∈ wsL_law ∧ ((w.onTables && w.keeps) = true ∨ ∃ ty, w = .arrayClass ty) := fun w hw => ⟨hw, good_of_word (List.mem_filter.mp hw).2⟩
  intro w hw
  rcases List.mem_cons.mp hw with rfl | hw
  · exact key _ h
  · exact key _ hw
section ZCALLS
variable {g : zG} {M M2 : zM} {E : zE} {Q : State → Prop} {kc ks kc2 ks2 pc : Nat} {lo : List (Option Value)} {rest st : List Value} {N : Nat} {I : zI} {L : zL} {R : zR} {P P2 : zPost} {y : MethodName} {av As : List Value} {idx n k ci : Nat}
theorem Ct_of {lo0 : List (Option Value)} (hy : plainName y.cls = true) (hown : y.cls = M.2.1) (hnm : y.name = M.2.2.2.2.2) (hlo : zl 0 lo0 = lv_args 0 av) (hlen : (lg_sl av).length ≤ M.2.2.1) (body : ∀ E : zE, X g M E (zMQ g M E P) 0 0 0 lo0 [] N I L R) : Ct g y M av N I L R P := by
  refine Met.ofW (cc := M.1) (maxL := M.2.2.1) (ret := M.2.2.2.1) hy rfl ?_
  intro p e s m args below meth c s₁ B hml hv
  obtain ⟨rfl, hP, hS⟩ := hv
  have hts := atoms_spec (ws := Cond.code y M.1 M.2.2.1 M.2.2.2.1 :: wsL_law) B.pre
  have hown' : s.vm.findClass M.2.1 = some m.cls := by rw [← hown]; exact findClass_of_methodNamed B.named
  have hin := (name_of_methodNamed B.named B.method).1
  rw [lg_entry_eq]
  exact body (p, e, s, m, av.toArray, below, meth, c) ⟨B.exec, B.bytes, hml, hown', fun w hw => hts w (List.mem_cons_of_mem _ hw), hS, B.notSynchronized, B.returns, hin.trans hnm⟩ _ _ _ (hlo ▸ lv_entry av hlen) hP va_S.rf
theorem x_weak (hc : kc ≤ kc2) (hs : ks ≤ ks2) (h : X g M E Q kc2 ks2 pc lo st N I L R) : X g M E Q kc ks pc lo st N I L R := by
  obtain ⟨p, e, s, m, args, below, meth, c⟩ := E
  intro hx ls H locs hl hP hS
  exact W.widen hc hs (h hx ls H locs hl hP hS)
theorem x_iret {v : Int32} (hd : decode M.1 pc = .ok (.ireturn, 1)) (hr : M.2.2.2.1 = some .int) (hc : kc ≤ M.2.2.2.2.1.cells) (hs : ks ≤ M.2.2.2.2.1.slots) (h : P (some (.int v)) N I L R) : X g M E (zMQ g M E P) kc ks pc lo [.int v] N I L R := by
  refine x_weak hc hs ?_
  obtain ⟨p, e, s, m, args, below, meth, c⟩ := E
  intro hx ls H locs hl hP hS
  obtain ⟨hexec, hb, hml, hown, hts, hG, hlk, hrt, hmn⟩ := id hx
  exact W.iret hexec hb (hrt.trans hr) (fun t ht hW => ⟨⟨_, N, I, L, R, rfl, h, by rw [ht]; exact hP⟩, hS.F ht⟩) hS.2.2 hd
theorem x_zret {v : Int32} (hd : decode M.1 pc = .ok (.ireturn, 1)) (hr : M.2.2.2.1 = some .boolean) (hv : narrow .boolean (.int v) = .int v) (hc : kc ≤ M.2.2.2.2.1.cells) (hs : ks ≤ M.2.2.2.2.1.slots) (h : P (some (.int v)) N I L R) : X g M E (zMQ g M E P) kc ks pc lo [.int v] N I L R := by
  refine x_weak hc hs ?_
  obtain ⟨p, e, s, m, args, below, meth, c⟩ := E
  intro hx ls H locs hl hP hS
  obtain ⟨hexec, hb, hml, hown, hts, hG, hlk, hrt, hmn⟩ := id hx
  exact W.zret hexec hb (hrt.trans hr) hv (fun t ht hW => ⟨⟨_, N, I, L, R, rfl, h, by rw [ht]; exact hP⟩, hS.F ht⟩) hS.2.2 hd
theorem x_lret {v : Int64} (hd : decode M.1 pc = .ok (.lreturn, 1)) (hr : M.2.2.2.1 = some .long) (hc : kc ≤ M.2.2.2.2.1.cells) (hs : ks ≤ M.2.2.2.2.1.slots) (h : P (some (.long v)) N I L R) : X g M E (zMQ g M E P) kc ks pc lo [.long v] N I L R := by
  refine x_weak hc hs ?_
  obtain ⟨p, e, s, m, args, below, meth, c⟩ := E
  intro hx ls H locs hl hP hS
  obtain ⟨hexec, hb, hml, hown, hts, hG, hlk, hrt, hmn⟩ := id hx
  exact W.lret hexec hb (hrt.trans hr) (fun t ht hW => ⟨⟨_, N, I, L, R, rfl, h, by rw [ht]; exact hP⟩, hS.F ht⟩) hS.2.2 hd
theorem x_vret (hd : decode M.1 pc = .ok (.return_, 1)) (hr : M.2.2.2.1 = none) (hc : kc ≤ M.2.2.2.2.1.cells) (hs : ks ≤ M.2.2.2.2.1.slots) (h : P none N I L R) : X g M E (zMQ g M E P) kc ks pc lo [] N I L R := by
  refine x_weak hc hs ?_
  obtain ⟨p, e, s, m, args, below, meth, c⟩ := E
  intro hx ls H locs hl hP hS
  obtain ⟨hexec, hb, hml, hown, hts, hG, hlk, hrt, hmn⟩ := id hx
  exact W.vret hexec hb (hrt.trans hr) (fun t ht hW => ⟨⟨_, N, I, L, R, rfl, h, by rw [ht]; exact hP⟩, hS.F ht⟩) hS.2.2 hd
/-- behind a call -/
theorem zrun {p : Program} {e : Env} {s : State} {m : MethodId} {args : Array Value} {below : List Frame} {meth : Method} {c : Code} {H : Heap} {locs : List Loc} {ls : Array Slot} {st0 : List Value} {Rm : Room} {a : Array Value} {mc ms : Nat}
    (hr : va_Run p g.1 e Rm s m args below meth c H locs kc ks mc ms (F0 m pc ls st0) rest (zQ g P2 a) (fun q => g.2.1 ≤ q)) (hS : va_S (fun q => g.2.1 ≤ q) s.heap H locs)
    (kk : ∀ (r : Option Value) (N' : Nat) (I' : zI) (L' : zL) (R' : zR) (H1 : Heap) (locs1 : List Loc), P2 r N' I' L' R' → zP g N' I' L' R' H1 → va_S (fun q => g.2.1 ≤ q) s.heap H1 locs1 → W p g.1 e Rm s m args below meth c H1 locs1 (kc + mc) (ks + ms) Q (F0 m (pc + 3) ls (r.toList ++ rest))) : W p g.1 e Rm s m args below meth c H locs kc ks Q (F0 m pc ls st0) := by
  intro T hT X
  obtain ⟨v, st₀, t, T', L0, h0, X', hL, e1, e2, ⟨⟨r, N', I', L', R', hv, hp, hb⟩, hz, hk⟩, stp⟩ := hr T hT X
  cases hv
  rw [h0] at hz hk
  obtain ⟨t2, a1, b1⟩ := kk v N' I' L' R' T'.heap (locs ++ L0) hp (by rw [e1]; exact hb)
    ⟨Nat.le_trans hS.1 (by rw [e1]; exact hz), fun q h1 h2 => by rw [e1, hk q (Nat.lt_of_lt_of_le h1 hS.1) h2]; exact hS.2.1 q h1 h2, fun q hq => by
      rcases List.mem_append.mp hq with h | h
      · exact hS.2.2 q h
      · exact hL q h⟩ T' rfl X'
  exact ⟨t2, stp t2 a1, b1⟩
theorem zblind {av : List Value} : FrameBlind (va_Pc av (fun U => zP g N I L R U.heap ∧ zS g U)) := fun a U f mk q => ⟨q.1, q.2.1, zS.same (u := U) rfl q.2.2⟩
theorem zcallB {s : State} {args : Array Value} {own : String} (hts : ∀ w ∈ wsL_law, w.before args s = true) (hl : Cond.methodLink own idx y ∈ wsL_law) (hm : zMt y M2 n) (hR : M2.2.2.2.2.1.frames + 1 ≤ M.2.2.2.2.1.frames ∧ 8 + (M2.2.2.1 + 11) + M2.2.2.2.2.1.locals ≤ M.2.2.2.2.1.locals) : CallB M.2.2.2.2.1 s args own idx y M2.1 M2.2.2.1 M2.2.2.2.1 (Cond.code y M2.1 M2.2.2.1 M2.2.2.2.1 :: wsL_law) M2.2.2.2.2.1 M2.2.2.2.2.1.cells M2.2.2.2.2.1.slots n := by
  obtain ⟨h1, h2, h3, h4⟩ := hm
  refine ⟨rfl, rfl, hR.1, hR.2, pay_in hts (zgood h1), List.mem_cons_self, hts _ h1, hts _ h2, h3, fun sig h => ?_, hts _ hl⟩
  rw [h] at h4
  exact (Option.some.inj h4).symm
theorem zcallN {s : State} {args : Array Value} {own host : String} (hG : zS g s) (hts : ∀ w ∈ wsL_law, w.before args s = true) (hl : (own, idx, y, host) ∈ zNW) (hm : zMt y M2 n) (hR : M2.2.2.2.2.1.frames + 1 ≤ M.2.2.2.2.1.frames ∧ 8 + (M2.2.2.1 + 11) + M2.2.2.2.2.1.locals ≤ M.2.2.2.2.1.locals) : va_CN M.2.2.2.2.1 s args own idx y host M2.1 M2.2.2.1 M2.2.2.2.1 (Cond.code y M2.1 M2.2.2.1 M2.2.2.2.1 :: wsL_law) M2.2.2.2.2.1 M2.2.2.2.2.1.cells M2.2.2.2.2.1.slots n := by
  obtain ⟨h1, h2, h3, h4⟩ := hm
  refine ⟨⟨rfl, rfl, hR.1, hR.2, pay_in hts (zgood h1), List.mem_cons_self⟩, hts _ h1, hts _ h2, h3, fun sig h => ?_, va_Nw.use rfl (hG.2.1 _ hl)⟩
  rw [h] at h4
  exact (Option.some.inj h4).symm
theorem x_callV (hd : decode M.1 pc = .ok (.invokevirtual idx, 3)) (hl : Cond.methodLink M.2.1 idx y ∈ wsL_law) (hm : zMt y M2 n) (hi : zMv y) (ct : Ct g y M2 (.ref (g.2.1 + k) :: As) N I L R P2) (hk : k < N) (ht : (zt k).1 = ci + 4) (hcl : (zcl[ci]?).map (fun q => q.1) = some y.cls) (hst : st = As.reverse ++ .ref (g.2.1 + k) :: rest) (hn : As.length = n) (hw : (rest.map fun v => v.category).sum ≤ 8) (hR : M2.2.2.2.2.1.frames + 1 ≤ M.2.2.2.2.1.frames ∧ 8 + (M2.2.2.1 + 11) + M2.2.2.2.2.1.locals ≤ M.2.2.2.2.1.locals) (hcs : kc + M2.2.2.2.2.1.cells ≤ M.2.2.2.2.1.cells ∧ ks + M2.2.2.2.2.1.slots ≤ M.2.2.2.2.1.slots) (kk : ∀ (r : Option Value) (N' : Nat) (I' : zI) (L' : zL) (R' : zR), P2 r N' I' L' R' → X g M E Q (kc + M2.2.2.2.2.1.cells) (ks + M2.2.2.2.2.1.slots) (pc + 3) lo (r.toList ++ rest) N' I' L' R') : X g M E Q kc ks pc lo st N I L R := by
  obtain ⟨p, e, s, m, args, below, meth, c⟩ := E
  intro hx ls H locs hl hP hS
  obtain ⟨hexec, hb, hml, hown, hts, hG, hlk, hrt, hmn⟩ := id hx
  subst hst
  have he := hP.2 k _ (zw_at hk)
  rw [zc_o ht] at he
  have hrv : ∃ cell : Cell, H[g.2.1 + k]? = some cell ∧ cell.vm.isStatics = false ∧ s.vm.findClass y.cls = some cell.cls := by
    obtain ⟨q, h1, cell, g1, g2, g3, -⟩ := he
    have h2 : q.1 = y.cls := by
      have h3 : zcl[ci]? = some q := h1
      rw [h3] at hcl
      exact Option.some.inj hcl
    exact ⟨cell, g1, by rw [g3]; rfl, by rw [← h2, g2]; exact (hG.1.1 ci q h1).2.1⟩
  exact zrun (va_runV (As := As) (rest := rest) ⟨hexec, hb, hml, hown, hts⟩ ct ⟨zcallB hts ‹_› hm hR, hts _ hi.1, hts _ hi.2⟩ ⟨zblind, hrv, fun U hU hW => ⟨rfl, by rw [hU]; exact hP, hG.warm hW⟩⟩ rfl hn hl.1 rfl (lv_room hw) hd hcs) hS (fun r N' I' L' R' H1 locs1 h1 h2 h3 => kk r N' I' L' R' h1 hx ls H1 locs1 hl h2 h3)
theorem x_callS (hd : decode M.1 pc = .ok (.invokestatic idx, 3)) (hl : Cond.methodLink M.2.1 idx y ∈ wsL_law) (hm : zMt y M2 n) (hi : Cond.static y ∈ wsL_law) (ct : Ct g y M2 As N I L R P2) (hst : st = As.reverse ++ rest) (hn : As.length = n) (hw : (rest.map fun v => v.category).sum ≤ 8) (hR : M2.2.2.2.2.1.frames + 1 ≤ M.2.2.2.2.1.frames ∧ 8 + (M2.2.2.1 + 11) + M2.2.2.2.2.1.locals ≤ M.2.2.2.2.1.locals) (hcs : kc + M2.2.2.2.2.1.cells ≤ M.2.2.2.2.1.cells ∧ ks + M2.2.2.2.2.1.slots ≤ M.2.2.2.2.1.slots) (kk : ∀ (r : Option Value) (N' : Nat) (I' : zI) (L' : zL) (R' : zR), P2 r N' I' L' R' → X g M E Q (kc + M2.2.2.2.2.1.cells) (ks + M2.2.2.2.2.1.slots) (pc + 3) lo (r.toList ++ rest) N' I' L' R') : X g M E Q kc ks pc lo st N I L R := by
  obtain ⟨p, e, s, m, args, below, meth, c⟩ := E
  intro hx ls H locs hl hP hS
  obtain ⟨hexec, hb, hml, hown, hts, hG, hlk, hrt, hmn⟩ := id hx
  subst hst
  exact zrun (va_runS (As := As) (rest := rest) ⟨hexec, hb, hml, hown, hts⟩ ct ⟨zcallB hts ‹_› hm hR, hts _ hi⟩ ⟨zblind, fun U hU hW => ⟨rfl, by rw [hU]; exact hP, hG.warm hW⟩⟩ rfl hn hl.1 rfl (lv_room hw) hd hcs) hS (fun r N' I' L' R' H1 locs1 h1 h2 h3 => kk r N' I' L' R' h1 hx ls H1 locs1 hl h2 h3)
theorem x_callN {host : String} (hd : decode M.1 pc = .ok (.invokestatic idx, 3)) (hnw : (M.2.1, idx, y, host) ∈ zNW) (hm : zMt y M2 n) (hi : Cond.static y ∈ wsL_law) (ct : Ct g y M2 As N I L R P2) (hst : st = As.reverse ++ rest) (hn : As.length = n) (hw : (rest.map fun v => v.category).sum ≤ 8) (hR : M2.2.2.2.2.1.frames + 1 ≤ M.2.2.2.2.1.frames ∧ 8 + (M2.2.2.1 + 11) + M2.2.2.2.2.1.locals ≤ M.2.2.2.2.1.locals) (hcs : kc + M2.2.2.2.2.1.cells ≤ M.2.2.2.2.1.cells ∧ ks + M2.2.2.2.2.1.slots ≤ M.2.2.2.2.1.slots) (kk : ∀ (r : Option Value) (N' : Nat) (I' : zI) (L' : zL) (R' : zR), P2 r N' I' L' R' → X g M E Q (kc + M2.2.2.2.2.1.cells) (ks + M2.2.2.2.2.1.slots) (pc + 3) lo (r.toList ++ rest) N' I' L' R') : X g M E Q kc ks pc lo st N I L R := by
  obtain ⟨p, e, s, m, args, below, meth, c⟩ := E
  intro hx ls H locs hl hP hS
  obtain ⟨hexec, hb, hml, hown, hts, hG, hlk, hrt, hmn⟩ := id hx
  subst hst
  exact zrun (va_runSN (As := As) (rest := rest) ⟨hexec, hb, hml, hown, hts⟩ ct ⟨zcallN hG hts hnw hm hR, hts _ hi, trivial⟩ ⟨zblind, fun U hU hW => ⟨rfl, by rw [hU]; exact hP, hG.warm hW⟩⟩ rfl hn hl.1 rfl (lv_room hw) hd hcs) hS (fun r N' I' L' R' H1 locs1 h1 h2 h3 => kk r N' I' L' R' h1 hx ls H1 locs1 hl h2 h3)
theorem x_callI (hd : decode M.1 pc = .ok (.invokespecial idx, 3)) (hl : Cond.methodLink M.2.1 idx y ∈ wsL_law) (hm : zMt y M2 n) (hrn : M2.2.2.2.1 = none) (hi : Cond.instanceMethod y ∈ wsL_law) (hy1 : y.name = "<init>") (ct : Ct g y M2 (.ref (g.2.1 + k) :: As) N I L R P2) (hst : st = As.reverse ++ .ref (g.2.1 + k) :: rest) (hn : As.length = n) (hw : (rest.map fun v => v.category).sum ≤ 8) (hR : M2.2.2.2.2.1.frames + 1 ≤ M.2.2.2.2.1.frames ∧ 8 + (M2.2.2.1 + 11) + M2.2.2.2.2.1.locals ≤ M.2.2.2.2.1.locals) (hcs : kc + M2.2.2.2.2.1.cells ≤ M.2.2.2.2.1.cells ∧ ks + M2.2.2.2.2.1.slots ≤ M.2.2.2.2.1.slots) (kk : ∀ (r : Option Value) (N' : Nat) (I' : zI) (L' : zL) (R' : zR), P2 r N' I' L' R' → X g M E Q (kc + M2.2.2.2.2.1.cells) (ks + M2.2.2.2.2.1.slots) (pc + 3) lo (r.toList ++ rest) N' I' L' R') : X g M E Q kc ks pc lo st N I L R := by
  obtain ⟨p, e, s, m, args, below, meth, c⟩ := E
  intro hx ls H locs hl hP hS
  obtain ⟨hexec, hb, hml, hown, hts, hG, hlk, hrt, hmn⟩ := id hx
  subst hst
  have cb := zcallB (M := M) hts ‹_› hm hR
  obtain ⟨M21, M22, M23, M24, M25⟩ := M2
  have hrn : M24 = none := hrn
  subst hrn
  exact zrun (va_runI (As := As) (rest := rest) ⟨hexec, hb, hml, hown, hts⟩ ct ⟨cb, hy1, hts _ hi⟩ ⟨zblind, fun U hU hW => ⟨rfl, by rw [hU]; exact hP, hG.warm hW⟩⟩ rfl hn hl.1 rfl (lv_room hw) hd hcs) hS (fun r N' I' L' R' H1 locs1 h1 h2 h3 => kk r N' I' L' R' h1 hx ls H1 locs1 hl h2 h3)
theorem x_callIN {host : String} (hd : decode M.1 pc = .ok (.invokespecial idx, 3)) (hnw : (M.2.1, idx, y, host) ∈ zNW) (hm : zMt y M2 n) (hrn : M2.2.2.2.1 = none) (hi : Cond.instanceMethod y ∈ wsL_law) (hy1 : y.name = "<init>") (ct : Ct g y M2 (.ref (g.2.1 + k) :: As) N I L R P2) (hst : st = As.reverse ++ .ref (g.2.1 + k) :: rest) (hn : As.length = n) (hw : (rest.map fun v => v.category).sum ≤ 8) (hR : M2.2.2.2.2.1.frames + 1 ≤ M.2.2.2.2.1.frames ∧ 8 + (M2.2.2.1 + 11) + M2.2.2.2.2.1.locals ≤ M.2.2.2.2.1.locals) (hcs : kc + M2.2.2.2.2.1.cells ≤ M.2.2.2.2.1.cells ∧ ks + M2.2.2.2.2.1.slots ≤ M.2.2.2.2.1.slots) (kk : ∀ (r : Option Value) (N' : Nat) (I' : zI) (L' : zL) (R' : zR), P2 r N' I' L' R' → X g M E Q (kc + M2.2.2.2.2.1.cells) (ks + M2.2.2.2.2.1.slots) (pc + 3) lo (r.toList ++ rest) N' I' L' R') : X g M E Q kc ks pc lo st N I L R := by
  obtain ⟨p, e, s, m, args, below, meth, c⟩ := E
  intro hx ls H locs hl hP hS
  obtain ⟨hexec, hb, hml, hown, hts, hG, hlk, hrt, hmn⟩ := id hx
  subst hst
  have cb := zcallN (M := M) hG hts hnw hm hR
  obtain ⟨M21, M22, M23, M24, M25⟩ := M2
  have hrn : M24 = none := hrn
  subst hrn
  exact zrun (va_runIN (As := As) (rest := rest) ⟨hexec, hb, hml, hown, hts⟩ ct ⟨cb, hy1, hts _ hi⟩ ⟨zblind, fun U hU hW => ⟨rfl, by rw [hU]; exact hP, hG.warm hW⟩⟩ rfl hn hl.1 rfl (lv_room hw) hd hcs) hS (fun r N' I' L' R' H1 locs1 h1 h2 h3 => kk r N' I' L' R' h1 hx ls H1 locs1 hl h2 h3)
theorem x_callVi {v : Value} {N1 : Nat} {I1 : zI} {L1 : zL} {R1 : zR} (hd : decode M.1 pc = .ok (.invokevirtual idx, 3)) (hl : Cond.methodLink M.2.1 idx y ∈ wsL_law) (hm : zMt y M2 n) (hi : zMv y) (ct : Ct g y M2 (.ref (g.2.1 + k) :: As) N I L R (zD (some v) N1 I1 L1 R1)) (hk : k < N) (ht : (zt k).1 = ci + 4) (hcl : (zcl[ci]?).map (fun q => q.1) = some y.cls) (hst : st = As.reverse ++ .ref (g.2.1 + k) :: rest) (hn : As.length = n) (hw : (rest.map fun v => v.category).sum ≤ 8) (hR : M2.2.2.2.2.1.frames + 1 ≤ M.2.2.2.2.1.frames ∧ 8 + (M2.2.2.1 + 11) + M2.2.2.2.2.1.locals ≤ M.2.2.2.2.1.locals) (hz : M2.2.2.2.2.1.cells = 0 ∧ M2.2.2.2.2.1.slots = 0) (hcs : kc ≤ M.2.2.2.2.1.cells ∧ ks ≤ M.2.2.2.2.1.slots) (kk : X g M E Q kc ks (pc + 3) lo (v :: rest) N1 I1 L1 R1) : X g M E Q kc ks pc lo st N I L R := by
  refine x_callV hd hl hm hi ct hk ht hcl hst hn hw hR (by rw [hz.1, hz.2]; exact hcs) (fun r N' I' L' R' h => ?_)
  obtain ⟨rfl, rfl, rfl, rfl, rfl⟩ := h
  rw [hz.1, hz.2]
  exact kk
theorem x_callVv {N1 : Nat} {I1 : zI} {L1 : zL} {R1 : zR} (hd : decode M.1 pc = .ok (.invokevirtual idx, 3)) (hl : Cond.methodLink M.2.1 idx y ∈ wsL_law) (hm : zMt y M2 n) (hi : zMv y) (ct : Ct g y M2 (.ref (g.2.1 + k) :: As) N I L R (zD none N1 I1 L1 R1)) (hk : k < N) (ht : (zt k).1 = ci + 4) (hcl : (zcl[ci]?).map (fun q => q.1) = some y.cls) (hst : st = As.reverse ++ .ref (g.2.1 + k) :: rest) (hn : As.length = n) (hw : (rest.map fun v => v.category).sum ≤ 8) (hR : M2.2.2.2.2.1.frames + 1 ≤ M.2.2.2.2.1.frames ∧ 8 + (M2.2.2.1 + 11) + M2.2.2.2.2.1.locals ≤ M.2.2.2.2.1.locals) (hz : M2.2.2.2.2.1.cells = 0 ∧ M2.2.2.2.2.1.slots = 0) (hcs : kc ≤ M.2.2.2.2.1.cells ∧ ks ≤ M.2.2.2.2.1.slots) (kk : X g M E Q kc ks (pc + 3) lo rest N1 I1 L1 R1) : X g M E Q kc ks pc lo st N I L R := by
  refine x_callV hd hl hm hi ct hk ht hcl hst hn hw hR (by rw [hz.1, hz.2]; exact hcs) (fun r N' I' L' R' h => ?_)
  obtain ⟨rfl, rfl, rfl, rfl, rfl⟩ := h
  rw [hz.1, hz.2]
  exact kk
theorem x_callSi {v : Value} {N1 : Nat} {I1 : zI} {L1 : zL} {R1 : zR} (hd : decode M.1 pc = .ok (.invokestatic idx, 3)) (hl : Cond.methodLink M.2.1 idx y ∈ wsL_law) (hm : zMt y M2 n) (hi : Cond.static y ∈ wsL_law) (ct : Ct g y M2 As N I L R (zD (some v) N1 I1 L1 R1)) (hst : st = As.reverse ++ rest) (hn : As.length = n) (hw : (rest.map fun v => v.category).sum ≤ 8) (hR : M2.2.2.2.2.1.frames + 1 ≤ M.2.2.2.2.1.frames ∧ 8 + (M2.2.2.1 + 11) + M2.2.2.2.2.1.locals ≤ M.2.2.2.2.1.locals) (hz : M2.2.2.2.2.1.cells = 0 ∧ M2.2.2.2.2.1.slots = 0) (hcs : kc ≤ M.2.2.2.2.1.cells ∧ ks ≤ M.2.2.2.2.1.slots) (kk : X g M E Q kc ks (pc + 3) lo (v :: rest) N1 I1 L1 R1) : X g M E Q kc ks pc lo st N I L R := by
  refine x_callS hd hl hm hi ct hst hn hw hR (by rw [hz.1, hz.2]; exact hcs) (fun r N' I' L' R' h => ?_)
  obtain ⟨rfl, rfl, rfl, rfl, rfl⟩ := h
  rw [hz.1, hz.2]
  exact kk
theorem x_callSv {N1 : Nat} {I1 : zI} {L1 : zL} {R1 : zR} (hd : decode M.1 pc = .ok (.invokestatic idx, 3)) (hl : Cond.methodLink M.2.1 idx y ∈ wsL_law) (hm : zMt y M2 n) (hi : Cond.static y ∈ wsL_law) (ct : Ct g y M2 As N I L R (zD none N1 I1 L1 R1)) (hst : st = As.reverse ++ rest) (hn : As.length = n) (hw : (rest.map fun v => v.category).sum ≤ 8) (hR : M2.2.2.2.2.1.frames + 1 ≤ M.2.2.2.2.1.frames ∧ 8 + (M2.2.2.1 + 11) + M2.2.2.2.2.1.locals ≤ M.2.2.2.2.1.locals) (hz : M2.2.2.2.2.1.cells = 0 ∧ M2.2.2.2.2.1.slots = 0) (hcs : kc ≤ M.2.2.2.2.1.cells ∧ ks ≤ M.2.2.2.2.1.slots) (kk : X g M E Q kc ks (pc + 3) lo rest N1 I1 L1 R1) : X g M E Q kc ks pc lo st N I L R := by
  refine x_callS hd hl hm hi ct hst hn hw hR (by rw [hz.1, hz.2]; exact hcs) (fun r N' I' L' R' h => ?_)
  obtain ⟨rfl, rfl, rfl, rfl, rfl⟩ := h
  rw [hz.1, hz.2]
  exact kk
theorem x_callNi {host : String} {v : Value} {N1 : Nat} {I1 : zI} {L1 : zL} {R1 : zR} (hd : decode M.1 pc = .ok (.invokestatic idx, 3)) (hnw : (M.2.1, idx, y, host) ∈ zNW) (hm : zMt y M2 n) (hi : Cond.static y ∈ wsL_law) (ct : Ct g y M2 As N I L R (zD (some v) N1 I1 L1 R1)) (hst : st = As.reverse ++ rest) (hn : As.length = n) (hw : (rest.map fun v => v.category).sum ≤ 8) (hR : M2.2.2.2.2.1.frames + 1 ≤ M.2.2.2.2.1.frames ∧ 8 + (M2.2.2.1 + 11) + M2.2.2.2.2.1.locals ≤ M.2.2.2.2.1.locals) (hz : M2.2.2.2.2.1.cells = 0 ∧ M2.2.2.2.2.1.slots = 0) (hcs : kc ≤ M.2.2.2.2.1.cells ∧ ks ≤ M.2.2.2.2.1.slots) (kk : X g M E Q kc ks (pc + 3) lo (v :: rest) N1 I1 L1 R1) : X g M E Q kc ks pc lo st N I L R := by
  refine x_callN hd hnw hm hi ct hst hn hw hR (by rw [hz.1, hz.2]; exact hcs) (fun r N' I' L' R' h => ?_)
  obtain ⟨rfl, rfl, rfl, rfl, rfl⟩ := h
  rw [hz.1, hz.2]
  exact kk
theorem x_callNv {host : String} {N1 : Nat} {I1 : zI} {L1 : zL} {R1 : zR} (hd : decode M.1 pc = .ok (.invokestatic idx, 3)) (hnw : (M.2.1, idx, y, host) ∈ zNW) (hm : zMt y M2 n) (hi : Cond.static y ∈ wsL_law) (ct : Ct g y M2 As N I L R (zD none N1 I1 L1 R1)) (hst : st = As.reverse ++ rest) (hn : As.length = n) (hw : (rest.map fun v => v.category).sum ≤ 8) (hR : M2.2.2.2.2.1.frames + 1 ≤ M.2.2.2.2.1.frames ∧ 8 + (M2.2.2.1 + 11) + M2.2.2.2.2.1.locals ≤ M.2.2.2.2.1.locals) (hz : M2.2.2.2.2.1.cells = 0 ∧ M2.2.2.2.2.1.slots = 0) (hcs : kc ≤ M.2.2.2.2.1.cells ∧ ks ≤ M.2.2.2.2.1.slots) (kk : X g M E Q kc ks (pc + 3) lo rest N1 I1 L1 R1) : X g M E Q kc ks pc lo st N I L R := by
  refine x_callN hd hnw hm hi ct hst hn hw hR (by rw [hz.1, hz.2]; exact hcs) (fun r N' I' L' R' h => ?_)
  obtain ⟨rfl, rfl, rfl, rfl, rfl⟩ := h
  rw [hz.1, hz.2]
  exact kk
theorem x_obj (hd : decode M.1 pc = .ok (.invokespecial idx, 3)) (hl : Cond.methodLink M.2.1 idx objectInit ∈ wsL_law) (hi : Cond.instanceMethod objectInit ∈ wsL_law) (hc : Cond.code objectInit ⟨#[0xb1]⟩ 1 none ∈ wsL_law) (hw : (rest.map fun v => v.category).sum ≤ 8) (hf : 1 ≤ M.2.2.2.2.1.frames) (hlo : 20 ≤ M.2.2.2.2.1.locals) (kk : X g M E Q kc ks (pc + 3) lo rest N I L R) {a : Nat} : X g M E Q kc ks pc lo (.ref a :: rest) N I L R := by
  obtain ⟨p, e, s, m, args, below, meth, c⟩ := E
  intro hx ls H locs hl hP hS
  obtain ⟨hexec, hb, hml, hown, hts, hG, hlk, hrt, hmn⟩ := id hx
  have hlo2 := lv_room (m := m) (pc := pc) (ls := ls) (rest := .ref a :: rest) hw
  exact W.objInit hexec hb hown (hts _ ‹_›) (hts _ hi) (hts _ hc) rfl (by rw [hml]; exact hl.1) rfl hd hf (by omega) (kk hx ls H locs hl hP hS)
theorem x_mmax {u v : Int32} (hd : decode M.1 pc = .ok (.invokestatic idx, 3)) (hl : Cond.methodLink M.2.1 idx Lib.Math.max.name ∈ wsL_law) (h1 : Cond.static Lib.Math.max.name ∈ wsL_law) (h2 : Cond.initialized "java/lang/Math" ∈ wsL_law) (h3 : Cond.code Lib.Math.max.name Lib.Math.max.code 2 (some .int) ∈ wsL_law) (hw : (rest.map fun v => v.category).sum ≤ 8) (hf : 1 ≤ M.2.2.2.2.1.frames ∧ 21 ≤ M.2.2.2.2.1.locals) (hcs : kc ≤ M.2.2.2.2.1.cells ∧ ks ≤ M.2.2.2.2.1.slots) (kk : X g M E Q kc ks (pc + 3) lo (.int (if u < v then v else u) :: rest) N I L R) : X g M E Q kc ks pc lo (.int v :: .int u :: rest) N I L R := by
  obtain ⟨p, e, s, m, args, below, meth, c⟩ := E
  intro hx ls H locs hl hP hS
  obtain ⟨hexec, hb, hml, hown, hts, hG, hlk, hrt, hmn⟩ := id hx
  exact va_mmax hexec hb (by rw [hml]; exact hl.1.symm) hown (hts _ ‹_›) (hts _ h1) (hts _ h2) (hts _ h3) hf.1 (by omega) hcs.1 hcs.2 hd (kk hx ls H locs hl hP hS)
theorem x_mmin {u v : Int32} (hd : decode M.1 pc = .ok (.invokestatic idx, 3)) (hl : Cond.methodLink M.2.1 idx Lib.Math.min.name ∈ wsL_law) (h1 : Cond.static Lib.Math.min.name ∈ wsL_law) (h2 : Cond.initialized "java/lang/Math" ∈ wsL_law) (h3 : Cond.code Lib.Math.min.name Lib.Math.min.code 2 (some .int) ∈ wsL_law) (hw : (rest.map fun v => v.category).sum ≤ 8) (hf : 1 ≤ M.2.2.2.2.1.frames ∧ 21 ≤ M.2.2.2.2.1.locals) (hcs : kc ≤ M.2.2.2.2.1.cells ∧ ks ≤ M.2.2.2.2.1.slots) (kk : X g M E Q kc ks (pc + 3) lo (.int (if v < u then v else u) :: rest) N I L R) : X g M E Q kc ks pc lo (.int v :: .int u :: rest) N I L R := by
  obtain ⟨p, e, s, m, args, below, meth, c⟩ := E
  intro hx ls H locs hl hP hS
  obtain ⟨hexec, hb, hml, hown, hts, hG, hlk, hrt, hmn⟩ := id hx
  exact va_mmin hexec hb (by rw [hml]; exact hl.1.symm) hown (hts _ ‹_›) (hts _ h1) (hts _ h2) (hts _ h3) hf.1 (by omega) hcs.1 hcs.2 hd (kk hx ls H locs hl hP hS)
/-- a whole row copied over a row of the same length -/
theorem x_copy {k0 k1 n0 : Nat} {u : Int32} (hd : decode M.1 pc = .ok (.invokestatic idx, 3)) (hl : Cond.methodLink M.2.1 idx arraycopyName ∈ wsL_law) (h1 : Cond.native arraycopyName ∈ wsL_law) (h2 : Cond.static arraycopyName ∈ wsL_law) (h3 : Cond.initialized "java/lang/System" ∈ wsL_law) (hk0 : k0 < N) (hk1 : k1 < N) (ht0 : zt k0 = (0, n0)) (ht1 : zt k1 = (0, n0)) (hu : u = nI n0) (hw : (rest.map fun v => v.category).sum ≤ 8) (hf : 1 ≤ M.2.2.2.2.1.frames ∧ 8 + (nativeFrameWords "java/lang/System" "arraycopy" 5 + 11) ≤ M.2.2.2.2.1.locals) (kk : X g M E Q kc ks (pc + 3) lo rest N (fun a i => if a = k1 then (if i < n0 then I k0 i else I k1 i) else I a i) L R) : X g M E Q kc ks pc lo (.int u :: .int 0 :: .ref (g.2.1 + k1) :: .int 0 :: .ref (g.2.1 + k0) :: rest) N I L R := by
  obtain ⟨p, e, s, m, args, below, meth, c⟩ := E
  intro hx ls H locs hl hP hS
  obtain ⟨hexec, hb, hml, hown, hts, hG, hlk, hrt, hmn⟩ := id hx
  have hsm := zt_small ht0
  have hc0 := hP.2 k0 _ (zw_at hk0)
  have hc1 := hP.2 k1 _ (zw_at hk1)
  rw [zc_int ht0] at hc0
  rw [zc_int ht1] at hc1
  have hc0 : H[g.2.1 + k0]? = some (vp_cell (g.2.2.1 0) (n0, .inl (I k0))) := hc0
  have hc1 : H[g.2.1 + k1]? = some (vp_cell (g.2.2.1 0) (n0, .inl (I k1))) := hc1
  obtain ⟨-, kk0, hkk0, cm0, hkk00⟩ := (hG.1.2 0 _ rfl).1 n0 (fun j => .int (I k0 j))
  obtain ⟨-, kk1, hkk1, cm1, hkk11⟩ := (hG.1.2 0 _ rfl).1 n0 (fun j => .int (I k1 j))
  subst hu
  have hcl := nI_clamp hsm
  have hti := nI_toInt hsm
  intro T hT X
  obtain ⟨vm', X', step⟩ := X.arraycopy hexec hown (hts _ ‹Cond.methodLink M.2.1 idx arraycopyName ∈ wsL_law›) (hts _ h1) (hts _ h2) (hts _ h3) (src := g.2.1 + k0) (dst := g.2.1 + k1) (cs := vp_cell (g.2.2.1 0) (n0, .inl (I k0))) (cd := vp_cell (g.2.2.1 0) (n0, .inl (I k1))) (srcPos := 0) (destPos := 0) (n := nI n0) (by rw [hT]; exact hc0) (by rw [hT]; exact hc1)
    (fun _ h => by cases h) (fun _ h => by cases h) (fun h => by cases h) (fun h => by cases h) hkk0 hkk1 hkk00 hkk11 (by simp [refKind]) (by decide) (by decide) (nI_pos hsm)
    (by rw [hti]; show ¬ _ > ((arrV (g.2.2.1 0) n0 (fun j => .int (I k0 j))).slots.size : Int); rw [arrV_size]; simp)
    (by rw [hti]; show ¬ _ > ((arrV (g.2.2.1 0) n0 (fun j => .int (I k1 j))).slots.size : Int); rw [arrV_size]; simp)
    (fun vm₁ _ i hi => by
      rw [hcl] at hi
      have e0 : (0 : Int32).toNatClampNeg = 0 := rfl
      have e : (vp_cell (g.2.2.1 0) (n0, .inl (I k0))).slots.getD ((0 : Int32).toNatClampNeg + i) .null = .int (I k0 i) := by
        show (arrV (g.2.2.1 0) n0 (fun j => .int (I k0 j))).slots.getD _ _ = _
        rw [e0, Nat.zero_add, Array.getD_eq_getD_getElem?, arrV_read _ _ (by omega)]
        rfl
      refine ⟨?_, ?_⟩
      · rw [e]
        rfl
      · rw [e]
        exact trivial)
    (g := F0 m pc ls (.int (nI n0) :: .int 0 :: .ref (g.2.1 + k1) :: .int 0 :: .ref (g.2.1 + k0) :: rest)) rfl (by rw [hml]; exact hl.1) (rest := rest) rfl (by rw [hb]; exact hd) hf.1 (by show 2 * 0 + _ + _ ≤ _; omega)
  have e1 : copied (vp_cell (g.2.2.1 0) (n0, .inl (I k0))) (vp_cell (g.2.2.1 0) (n0, .inl (I k1))) 0 0 (nI n0) = vp_cell (g.2.2.1 0) (n0, .inl (va_cpy (I k0) (I k1) (0 : Int32).toNatClampNeg (0 : Int32).toNatClampNeg (nI n0).toNatClampNeg)) := va_copied (fun z => .int z) (g.2.2.1 0) (g.2.2.1 0) (I k0) (I k1) (by rw [hcl]; simp)
  rw [e1, hcl] at X' step
  have hl1 : g.2.1 + k1 < H.size := (Array.getElem?_eq_some_iff.mp hc1).1
  generalize hcell : vp_cell (g.2.2.1 0) (n0, .inl (va_cpy (I k0) (I k1) (0 : Int32).toNatClampNeg (0 : Int32).toNatClampNeg n0)) = cell at X' step
  have hheap : ((T.setVm vm').setCell (g.2.1 + k1) cell).heap = H.setIfInBounds (g.2.1 + k1) cell := by rw [← hT]; rfl
  have hrow : (fun i => if k1 = k1 then (if i < n0 then I k0 i else I k1 i) else I k1 i) = va_cpy (I k0) (I k1) (0 : Int32).toNatClampNeg (0 : Int32).toNatClampNeg n0 := by
    have e0 : (0 : Int32).toNatClampNeg = 0 := rfl
    funext i; simp [va_cpy, e0]
  have oq : ∀ q : Nat, q ≠ g.2.1 + k1 → (H.setIfInBounds (g.2.1 + k1) cell)[q]? = H[q]? := fun q hq => by simp [Array.getElem?_setIfInBounds, Ne.symm hq]
  obtain ⟨t, a1, b1⟩ := kk hx ls _ _ hl (zP_put (e := .inl (g.2.2.1 0, n0, .inl (va_cpy (I k0) (I k1) (0 : Int32).toNatClampNeg (0 : Int32).toNatClampNeg n0))) hP hk1 (by rw [zc_int ht1]; exact congrArg (fun f => Sum.inl (g.2.2.1 0, n0, Sum.inl f)) hrow) (show (H.setIfInBounds (g.2.1 + k1) cell)[g.2.1 + k1]? = some (vp_cell _ _) by rw [hcell]; simp [Array.getElem?_setIfInBounds, hl1]) (by simp) oq (fun j hj => zc_congr (fun a => by simp [hj]) (fun _ => rfl) (fun _ => rfl))) ⟨by simp; exact hS.1, fun q g1 g2 => by
      rw [oq q (fun e => g2 (by rw [e]; exact Nat.le_add_right _ _))]
      exact hS.2.1 q g1 g2, fun q hq => by
      rcases List.mem_append.mp hq with h | h
      · exact hS.2.2 q h
      · obtain ⟨z, -, hz⟩ := List.mem_map.mp h
        rw [← hz]
        exact Nat.le_add_right _ _⟩ _ hheap X'
  exact ⟨t, step t a1, b1⟩
/-- another world that shows the same -/
theorem x_same {I' : zI} {L' : zL} {R' : zR} (h : ∀ k, k < N → zc g.2.1 g.2.2.1 I' L' R' k = zc g.2.1 g.2.2.1 I L R k) (kk : X g M E Q kc ks pc lo st N I' L' R') : X g M E Q kc ks pc lo st N I L R := by
  obtain ⟨p, e, s, m, args, below, meth, c⟩ := E
  intro hx ls H locs hl hP hS
  obtain ⟨hexec, hb, hml, hown, hts, hG, hlk, hrt, hmn⟩ := id hx
  refine kk hx ls H locs hl ⟨hP.1, ?_⟩ hS
  have e : zw g.2.1 g.2.2.1 N I' L' R' = zw g.2.1 g.2.2.1 N I L R := by
    apply List.ext_getElem?
    intro i
    by_cases hi : i < N
    · rw [zw_at hi, zw_at hi, h i hi]
    · rw [List.getElem?_eq_none (by simp [zw]; omega), List.getElem?_eq_none (by simp [zw]; omega)]
  rw [e]
  exact hP.2
theorem x_eq {lo' : List (Option Value)} {I' : zI} {L' : zL} (hlo : lo = lo') (hI : I = I') (hL : L = L') (kk : X g M E Q kc ks pc lo' st N I' L' R) : X g M E Q kc ks pc lo st N I L R := by
  subst hlo; subst hI; subst hL
  exact kk
/-- a loop that counts from i0 up to n1 -/
theorem x_loop {inv : Nat → Prop} (lo' : Nat → List (Option Value)) (I' : Nat → zI) (L' : Nat → zL) (i0 n1 : Nat) (h0 : i0 ≤ n1) (hi : inv i0) (hlo : lo = lo' i0) (hI : I = I' i0) (hL : L = L' i0)
    (step : ∀ i, i0 ≤ i → i < n1 → inv i → (inv (i + 1) → X g M E Q kc ks pc (lo' (i + 1)) st N (I' (i + 1)) (L' (i + 1)) R) → X g M E Q kc ks pc (lo' i) st N (I' i) (L' i) R)
    (ex : inv n1 → X g M E Q kc ks pc (lo' n1) st N (I' n1) (L' n1) R) : X g M E Q kc ks pc lo st N I L R := by
  refine x_eq hlo hI hL ?_
  have key : ∀ d i, i0 ≤ i → i + d = n1 → inv i → X g M E Q kc ks pc (lo' i) st N (I' i) (L' i) R := by
    intro d
    induction d with
    | zero => intro i _ h2 h3; rw [show i = n1 by omega] at h3 ⊢; exact ex h3
    | succ d ih => intro i h1 h2 h3; exact step i h1 (by omega) h3 (fun h4 => ih (i + 1) (by omega) (by omega) h4)
  exact key (n1 - i0) i0 (Nat.le_refl _) (by omega) hi
/-- any loop: a measure falls -/
theorem x_while {σ : Type} (inv : σ → Prop) (μ : σ → Nat) (lo' : σ → List (Option Value)) (I' : σ → zI) (L' : σ → zL) (s0 : σ) (hi : inv s0) (hlo : lo = lo' s0) (hI : I = I' s0) (hL : L = L' s0)
    (step : ∀ s, inv s → (∀ s', inv s' → μ s' < μ s → X g M E Q kc ks pc (lo' s') st N (I' s') (L' s') R) → X g M E Q kc ks pc (lo' s) st N (I' s) (L' s) R) : X g M E Q kc ks pc lo st N I L R := by
  refine x_eq hlo hI hL ?_
  have key : ∀ d s, μ s < d → inv s → X g M E Q kc ks pc (lo' s) st N (I' s) (L' s) R := by
    intro d
    induction d with
    | zero => intro s h; omega
    | succ d ih => intro s h1 h2; exact step s h2 (fun s' h3 h4 => ih s' (by omega) h3)
  exact key (μ s0 + 1) s0 (by omega) hi
end ZCALLS
end
section
/-! FACTS, by program: what each method is (code, class, locals, return, room, name), and where the tables say what is linked -/
abbrev mX0_init : zM := (cX0_init, RX0, 1, none, { frames := 1, cells := 0, slots := 0, locals := 20 }, "<init>")
abbrev mX0_become : zM := (cX0_become, RX0, 4, none, { frames := 0, cells := 0, slots := 0, locals := 0 }, "become")
abbrev mX1_init : zM := (cX1_init, RX1, 1, none, { frames := 2, cells := 12, slots := 88, locals := 41 }, "<init>")
abbrev mX1_run : zM := (cX1_run, RX1, 5, none, { frames := 4, cells := 0, slots := 0, locals := 104 }, "run")
abbrev mX1_begin : zM := (cX1_begin, RX1, 2, none, { frames := 3, cells := 0, slots := 0, locals := 83 }, "begin")
abbrev mX1_noteDown : zM := (cX1_noteDown, RX1, 1, none, { frames := 2, cells := 0, slots := 0, locals := 43 }, "noteDown")
abbrev mX1_runYear : zM := (cX1_runYear, RX1, 6, none, { frames := 4, cells := 0, slots := 0, locals := 86 }, "runYear")
abbrev mX1_draw : zM := (cX1_draw, RX1, 3, none, { frames := 1, cells := 0, slots := 0, locals := 23 }, "draw")
abbrev mX2_init : zM := (cX2_init, RX2, 1, none, { frames := 1, cells := 2, slots := 20, locals := 20 }, "<init>")
abbrev mX2_solve : zM := (cX2_solve, RX2, 4, none, { frames := 3, cells := 0, slots := 0, locals := 68 }, "solve")
abbrev mX2_settle : zM := (cX2_settle, RX2, 4, none, { frames := 2, cells := 0, slots := 0, locals := 45 }, "settle")
abbrev mX2_leastSettled : zM := (cX2_leastSettled, RX2, 5, (some .int), { frames := 1, cells := 0, slots := 0, locals := 21 }, "leastSettled")
abbrev mX2_areAllWon : zM := (cX2_areAllWon, RX2, 4, (some .boolean), { frames := 1, cells := 0, slots := 0, locals := 21 }, "areAllWon")
abbrev mX2_firstMove : zM := (cX2_firstMove, RX2, 3, (some .int), { frames := 2, cells := 0, slots := 0, locals := 45 }, "firstMove")
abbrev mX3_init : zM := (cX3_init, RX3, 2, none, { frames := 1, cells := 10, slots := 72, locals := 20 }, "<init>")
abbrev mX3_become : zM := (cX3_become, RX3, 3, none, { frames := 2, cells := 0, slots := 0, locals := 61 }, "become")
abbrev mX3_isThere : zM := (cX3_isThere, RX3, 2, (some .boolean), { frames := 1, cells := 0, slots := 0, locals := 22 }, "isThere")
abbrev mX3_griefsThere : zM := (cX3_griefsThere, RX3, 3, (some .int), { frames := 0, cells := 0, slots := 0, locals := 0 }, "griefsThere")
abbrev mX3_griefPart : zM := (cX3_griefPart, RX3, 3, (some .int), { frames := 0, cells := 0, slots := 0, locals := 0 }, "griefPart")
abbrev mX3_holdAsNumber : zM := (cX3_holdAsNumber, RX3, 2, (some .int), { frames := 0, cells := 0, slots := 0, locals := 0 }, "holdAsNumber")
abbrev mX3_coatAsNumber : zM := (cX3_coatAsNumber, RX3, 2, (some .int), { frames := 0, cells := 0, slots := 0, locals := 0 }, "coatAsNumber")
abbrev mX3_countMoves : zM := (cX3_countMoves, RX3, 3, (some .int), { frames := 1, cells := 0, slots := 0, locals := 20 }, "countMoves")
abbrev mX3_holdsThatFit : zM := (cX3_holdsThatFit, RX3, 4, (some .int), { frames := 1, cells := 0, slots := 0, locals := 21 }, "holdsThatFit")
abbrev mX3_attempt : zM := (cX3_attempt, RX3, 2, (some .int), { frames := 3, cells := 0, slots := 0, locals := 65 }, "attempt")
abbrev mX3_takeHold : zM := (cX3_takeHold, RX3, 3, (some .int), { frames := 2, cells := 0, slots := 0, locals := 43 }, "takeHold")
abbrev mX3_join : zM := (cX3_join, RX3, 3, (some .int), { frames := 2, cells := 0, slots := 0, locals := 43 }, "join")
abbrev mX3_sitBy : zM := (cX3_sitBy, RX3, 2, (some .int), { frames := 2, cells := 0, slots := 0, locals := 43 }, "sitBy")
abbrev mX3_rest : zM := (cX3_rest, RX3, 1, (some .int), { frames := 1, cells := 0, slots := 0, locals := 21 }, "rest")
abbrev mX3_passHour : zM := (cX3_passHour, RX3, 2, (some .int), { frames := 1, cells := 0, slots := 0, locals := 21 }, "passHour")
abbrev mX3_strengthOf : zM := (cX3_strengthOf, RX3, 4, (some .int), { frames := 1, cells := 0, slots := 0, locals := 21 }, "strengthOf")
abbrev mX3_marksOf : zM := (cX3_marksOf, RX3, 4, (some .int), { frames := 1, cells := 0, slots := 0, locals := 21 }, "marksOf")
abbrev mX3_leastSetWith : zM := (cX3_leastSetWith, RX3, 5, (some .int), { frames := 2, cells := 0, slots := 0, locals := 44 }, "leastSetWith")
abbrev mX3_hoursOf : zM := (cX3_hoursOf, RX3, 4, (some .int), { frames := 1, cells := 0, slots := 0, locals := 21 }, "hoursOf")
abbrev mX3_fewestCoatsFor : zM := (cX3_fewestCoatsFor, RX3, 4, (some .int), { frames := 2, cells := 0, slots := 0, locals := 44 }, "fewestCoatsFor")
abbrev mX3_addSight : zM := (cX3_addSight, RX3, 3, (some .boolean), { frames := 0, cells := 0, slots := 0, locals := 0 }, "addSight")
abbrev mX3_isAsSeen : zM := (cX3_isAsSeen, RX3, 3, (some .boolean), { frames := 1, cells := 0, slots := 0, locals := 21 }, "isAsSeen")
abbrev mX4_init : zM := (cX4_init, RX4, 1, none, { frames := 2, cells := 4, slots := 171, locals := 40 }, "<init>")
abbrev mX4_work : zM := (cX4_work, RX4, 4, none, { frames := 4, cells := 0, slots := 0, locals := 91 }, "work")
abbrev mX4_leastOf : zM := (cX4_leastOf, RX4, 5, (some .int), { frames := 3, cells := 0, slots := 0, locals := 67 }, "leastOf")
abbrev mX4_borneIfFirst : zM := (cX4_borneIfFirst, RX4, 4, (some .int), { frames := 2, cells := 0, slots := 0, locals := 44 }, "borneIfFirst")
abbrev mX4_leastBorne : zM := (cX4_leastBorne, RX4, 1, (some .int), { frames := 0, cells := 0, slots := 0, locals := 0 }, "leastBorne")
abbrev mX4_firstTaken : zM := (cX4_firstTaken, RX4, 3, (some .int), { frames := 3, cells := 0, slots := 0, locals := 67 }, "firstTaken")
abbrev mX5_init : zM := (cX5_init, RX5, 1, none, { frames := 1, cells := 1, slots := 60, locals := 20 }, "<init>")
abbrev mX5_write : zM := (cX5_write, RX5, 2, (some .boolean), { frames := 0, cells := 0, slots := 0, locals := 0 }, "write")
abbrev mX5_findFault : zM := (cX5_findFault, RX5, 3, (some .int), { frames := 3, cells := 0, slots := 0, locals := 63 }, "findFault")
abbrev mX5_awaitedAfter : zM := (cX5_awaitedAfter, RX5, 2, (some .int), { frames := 2, cells := 0, slots := 0, locals := 42 }, "awaitedAfter")
abbrev mX5_read : zM := (cX5_read, RX5, 5, (some .int), { frames := 2, cells := 0, slots := 0, locals := 43 }, "read")
abbrev mX5_signAt : zM := (cX5_signAt, RX5, 2, (some .int), { frames := 1, cells := 0, slots := 0, locals := 22 }, "signAt")
abbrev mX5_isLetter : zM := (cX5_isLetter, RX5, 1, (some .boolean), { frames := 1, cells := 0, slots := 0, locals := 22 }, "isLetter")
abbrev mX6_init : zM := (cX6_init, RX6, 1, none, { frames := 1, cells := 1, slots := 100, locals := 20 }, "<init>")
abbrev mX6_priceOf : zM := (cX6_priceOf, RX6, 6, (some .int), { frames := 2, cells := 0, slots := 0, locals := 47 }, "priceOf")
abbrev mX6_cheapest : zM := (cX6_cheapest, RX6, 7, (some .int), { frames := 1, cells := 0, slots := 0, locals := 21 }, "cheapest")
abbrev mX7_init : zM := (cX7_init, RX7, 1, none, { frames := 1, cells := 1, slots := 256, locals := 20 }, "<init>")
abbrev mX7_find : zM := (cX7_find, RX7, 3, none, { frames := 2, cells := 0, slots := 0, locals := 43 }, "find")
abbrev mX7_shapeAt : zM := (cX7_shapeAt, RX7, 2, (some .int), { frames := 1, cells := 0, slots := 0, locals := 22 }, "shapeAt")
abbrev mX7_holdToTry : zM := (cX7_holdToTry, RX7, 4, (some .int), { frames := 2, cells := 0, slots := 0, locals := 44 }, "holdToTry")
abbrev mX7_mostLeftBy : zM := (cX7_mostLeftBy, RX7, 4, (some .int), { frames := 1, cells := 0, slots := 0, locals := 21 }, "mostLeftBy")
abbrev mX8_init : zM := (cX8_init, RX8, 1, none, { frames := 3, cells := 39, slots := 800, locals := 61 }, "<init>")
abbrev mX8_grief : zM := (cX8_grief, RX8, 4, (some .int), { frames := 2, cells := 0, slots := 0, locals := 42 }, "grief")
abbrev mX8_hold : zM := (cX8_hold, RX8, 6, (some .int), { frames := 2, cells := 0, slots := 0, locals := 42 }, "hold")
abbrev mX8_breath : zM := (cX8_breath, RX8, 3, (some .int), { frames := 1, cells := 0, slots := 0, locals := 22 }, "breath")
abbrev mX8_coat : zM := (cX8_coat, RX8, 5, (some .int), { frames := 2, cells := 0, slots := 0, locals := 43 }, "coat")
abbrev mX8_move : zM := (cX8_move, RX8, 4, (some .int), { frames := 2, cells := 0, slots := 0, locals := 42 }, "move")
abbrev mX8_say : zM := (cX8_say, RX8, 2, (some .int), { frames := 1, cells := 0, slots := 0, locals := 22 }, "say")
abbrev mX8_wipe : zM := (cX8_wipe, RX8, 2, (some .int), { frames := 0, cells := 0, slots := 0, locals := 0 }, "wipe")
abbrev mX8_fault : zM := (cX8_fault, RX8, 1, (some .int), { frames := 4, cells := 0, slots := 0, locals := 85 }, "fault")
abbrev mX8_judge : zM := (cX8_judge, RX8, 2, (some .int), { frames := 5, cells := 0, slots := 0, locals := 128 }, "judge")
abbrev mX8_done : zM := (cX8_done, RX8, 1, (some .int), { frames := 6, cells := 0, slots := 0, locals := 148 }, "done")
abbrev mX8_behind : zM := (cX8_behind, RX8, 3, (some .int), { frames := 6, cells := 0, slots := 0, locals := 148 }, "behind")
abbrev mX8_then : zM := (cX8_then, RX8, 2, (some .int), { frames := 6, cells := 0, slots := 0, locals := 148 }, "then")
abbrev mX8_fitting : zM := (cX8_fitting, RX8, 2, (some .int), { frames := 2, cells := 0, slots := 0, locals := 44 }, "fitting")
abbrev mX8_least : zM := (cX8_least, RX8, 4, (some .int), { frames := 3, cells := 0, slots := 0, locals := 72 }, "least")
abbrev mX8_order : zM := (cX8_order, RX8, 2, (some .int), { frames := 5, cells := 0, slots := 0, locals := 114 }, "order")
abbrev mX8_make : zM := (cX8_make, RX8, 4, (some .int), { frames := 3, cells := 0, slots := 0, locals := 68 }, "make")
abbrev mX8_ring : zM := (cX8_ring, RX8, 5, (some .int), { frames := 3, cells := 0, slots := 0, locals := 67 }, "ring")
abbrev mX8_seen : zM := (cX8_seen, RX8, 3, (some .int), { frames := 2, cells := 0, slots := 0, locals := 42 }, "seen")
abbrev mX8_forget : zM := (cX8_forget, RX8, 2, (some .int), { frames := 0, cells := 0, slots := 0, locals := 0 }, "forget")
abbrev mX8_shape : zM := (cX8_shape, RX8, 2, (some .int), { frames := 3, cells := 0, slots := 0, locals := 65 }, "shape")
abbrev mX8_ask : zM := (cX8_ask, RX8, 3, (some .int), { frames := 3, cells := 0, slots := 0, locals := 67 }, "ask")
abbrev mX8_play : zM := (cX8_play, RX8, 3, (some .int), { frames := 4, cells := 0, slots := 0, locals := 91 }, "play")
abbrev mX8_themselves : zM := (cX8_themselves, RX8, 10, (some .long), { frames := 1, cells := 0, slots := 0, locals := 25 }, "themselves")
abbrev mX8_year : zM := (cX8_year, RX8, 5, (some .int), { frames := 5, cells := 0, slots := 0, locals := 111 }, "year")
abbrev mX8_image : zM := (cX8_image, RX8, 2, (some .int), { frames := 3, cells := 11, slots := 85, locals := 83 }, "image")
abbrev mX8_restore : zM := (cX8_restore, RX8, 2, (some .int), { frames := 3, cells := 0, slots := 0, locals := 83 }, "restore")
abbrev mX8_told : zM := (cX8_told, RX8, 2, (some .int), { frames := 3, cells := 0, slots := 0, locals := 65 }, "told")
abbrev mX8_toldOfGrief : zM := (cX8_toldOfGrief, RX8, 3, (some .int), { frames := 2, cells := 0, slots := 0, locals := 43 }, "toldOfGrief")
abbrev mX8_tryDays : zM := (cX8_tryDays, RX8, 1, (some .boolean), { frames := 5, cells := 0, slots := 0, locals := 128 }, "tryDays")
abbrev mX8_isFrom : zM := (cX8_isFrom, RX8, 3, (some .boolean), { frames := 0, cells := 0, slots := 0, locals := 0 }, "isFrom")
abbrev mX8_isHold : zM := (cX8_isHold, RX8, 1, (some .boolean), { frames := 1, cells := 0, slots := 0, locals := 22 }, "isHold")
abbrev mX8_isState : zM := (cX8_isState, RX8, 1, (some .boolean), { frames := 1, cells := 0, slots := 0, locals := 22 }, "isState")
abbrev mX8_isSetOfMarks : zM := (cX8_isSetOfMarks, RX8, 1, (some .boolean), { frames := 1, cells := 0, slots := 0, locals := 22 }, "isSetOfMarks")
abbrev mX8_areHours : zM := (cX8_areHours, RX8, 2, (some .boolean), { frames := 1, cells := 0, slots := 0, locals := 22 }, "areHours")
abbrev mX8_isIn : zM := (cX8_isIn, RX8, 2, (some .boolean), { frames := 0, cells := 0, slots := 0, locals := 0 }, "isIn")
abbrev mX8_isWithin : zM := (cX8_isWithin, RX8, 2, (some .boolean), { frames := 0, cells := 0, slots := 0, locals := 0 }, "isWithin")
abbrev mX8_hoursFrom : zM := (cX8_hoursFrom, RX8, 2, (some .int), { frames := 0, cells := 0, slots := 0, locals := 0 }, "hoursFrom")
abbrev mX8_choose : zM := (cX8_choose, RX8, 5, (some .long), { frames := 0, cells := 0, slots := 0, locals := 0 }, "choose")
abbrev mX8_power : zM := (cX8_power, RX8, 6, (some .long), { frames := 0, cells := 0, slots := 0, locals := 0 }, "power")
abbrev mX8_copyRow : zM := (cX8_copyRow, RX8, 2, none, { frames := 1, cells := 0, slots := 0, locals := 40 }, "copyRow")
abbrev mX9_init : zM := (cX9_init, RX9, 2, none, { frames := 1, cells := 17, slots := 513, locals := 20 }, "<init>")
abbrev mX9_in : zM := (cX9_in, RX9, 3, (some .boolean), { frames := 0, cells := 0, slots := 0, locals := 0 }, "in")
abbrev mX9_has : zM := (cX9_has, RX9, 2, (some .boolean), { frames := 0, cells := 0, slots := 0, locals := 0 }, "has")
abbrev mX9_bits : zM := (cX9_bits, RX9, 3, (some .int), { frames := 0, cells := 0, slots := 0, locals := 0 }, "bits")
abbrev mX9_isThere : zM := (cX9_isThere, RX9, 2, (some .boolean), { frames := 1, cells := 0, slots := 0, locals := 22 }, "isThere")
abbrev mX9_grief : zM := (cX9_grief, RX9, 4, (some .int), { frames := 1, cells := 0, slots := 0, locals := 22 }, "grief")
abbrev mX9_hold : zM := (cX9_hold, RX9, 6, (some .int), { frames := 1, cells := 0, slots := 0, locals := 22 }, "hold")
abbrev mX9_breath : zM := (cX9_breath, RX9, 3, (some .int), { frames := 1, cells := 0, slots := 0, locals := 22 }, "breath")
abbrev mX9_coat : zM := (cX9_coat, RX9, 5, (some .int), { frames := 1, cells := 0, slots := 0, locals := 22 }, "coat")
abbrev mX9_move : zM := (cX9_move, RX9, 6, (some .int), { frames := 1, cells := 0, slots := 0, locals := 22 }, "move")
abbrev mX9_say : zM := (cX9_say, RX9, 2, (some .int), { frames := 1, cells := 0, slots := 0, locals := 22 }, "say")
abbrev mX9_wipe : zM := (cX9_wipe, RX9, 2, (some .int), { frames := 0, cells := 0, slots := 0, locals := 0 }, "wipe")
abbrev mX9_faultOf : zM := (cX9_faultOf, RX9, 6, (some .int), { frames := 1, cells := 0, slots := 0, locals := 22 }, "faultOf")
abbrev mX9_fault : zM := (cX9_fault, RX9, 1, (some .int), { frames := 2, cells := 0, slots := 0, locals := 47 }, "fault")
abbrev mX9_asNow : zM := (cX9_asNow, RX9, 2, none, { frames := 0, cells := 0, slots := 0, locals := 0 }, "asNow")
abbrev mX9_stands : zM := (cX9_stands, RX9, 2, (some .boolean), { frames := 1, cells := 0, slots := 0, locals := 22 }, "stands")
abbrev mX9_grip : zM := (cX9_grip, RX9, 3, (some .int), { frames := 2, cells := 0, slots := 0, locals := 43 }, "grip")
abbrev mX9_join : zM := (cX9_join, RX9, 3, (some .int), { frames := 2, cells := 0, slots := 0, locals := 43 }, "join")
abbrev mX9_sitBy : zM := (cX9_sitBy, RX9, 2, (some .int), { frames := 2, cells := 0, slots := 0, locals := 43 }, "sitBy")
abbrev mX9_rest : zM := (cX9_rest, RX9, 1, (some .int), { frames := 0, cells := 0, slots := 0, locals := 0 }, "rest")
abbrev mX9_endHour : zM := (cX9_endHour, RX9, 2, (some .int), { frames := 2, cells := 0, slots := 0, locals := 43 }, "endHour")
abbrev mX9_griefAct : zM := (cX9_griefAct, RX9, 4, (some .int), { frames := 3, cells := 0, slots := 0, locals := 65 }, "griefAct")
abbrev mX9_goDays : zM := (cX9_goDays, RX9, 5, (some .int), { frames := 4, cells := 0, slots := 0, locals := 88 }, "goDays")
abbrev mX9_judge : zM := (cX9_judge, RX9, 3, (some .int), { frames := 5, cells := 0, slots := 0, locals := 112 }, "judge")
abbrev mX9_barOfDays : zM := (cX9_barOfDays, RX9, 1, (some .int), { frames := 5, cells := 0, slots := 0, locals := 112 }, "barOfDays")
abbrev mX9_done : zM := (cX9_done, RX9, 2, (some .int), { frames := 6, cells := 0, slots := 0, locals := 132 }, "done")
abbrev mX9_behind : zM := (cX9_behind, RX9, 3, (some .int), { frames := 6, cells := 0, slots := 0, locals := 132 }, "behind")
abbrev mX9_then : zM := (cX9_then, RX9, 2, (some .int), { frames := 6, cells := 0, slots := 0, locals := 132 }, "then")
abbrev mX9_fitsOf : zM := (cX9_fitsOf, RX9, 4, (some .int), { frames := 0, cells := 0, slots := 0, locals := 0 }, "fitsOf")
abbrev mX9_fitting : zM := (cX9_fitting, RX9, 2, (some .int), { frames := 2, cells := 0, slots := 0, locals := 43 }, "fitting")
abbrev mX9_leastOf : zM := (cX9_leastOf, RX9, 7, (some .int), { frames := 1, cells := 0, slots := 0, locals := 23 }, "leastOf")
abbrev mX9_least : zM := (cX9_least, RX9, 4, (some .int), { frames := 2, cells := 0, slots := 0, locals := 49 }, "least")
abbrev mX9_order : zM := (cX9_order, RX9, 9, (some .int), { frames := 2, cells := 0, slots := 0, locals := 49 }, "order")
abbrev mX9_make : zM := (cX9_make, RX9, 9, (some .int), { frames := 1, cells := 0, slots := 0, locals := 22 }, "make")
abbrev mX9_ring : zM := (cX9_ring, RX9, 10, (some .int), { frames := 1, cells := 0, slots := 0, locals := 22 }, "ring")
abbrev mX9_seen : zM := (cX9_seen, RX9, 3, (some .int), { frames := 1, cells := 0, slots := 0, locals := 22 }, "seen")
abbrev mX9_forget : zM := (cX9_forget, RX9, 2, (some .int), { frames := 0, cells := 0, slots := 0, locals := 0 }, "forget")
abbrev mX9_isFit : zM := (cX9_isFit, RX9, 4, (some .boolean), { frames := 0, cells := 0, slots := 0, locals := 0 }, "isFit")
abbrev mX9_shape : zM := (cX9_shape, RX9, 4, (some .int), { frames := 1, cells := 0, slots := 0, locals := 23 }, "shape")
abbrev mX9_ask : zM := (cX9_ask, RX9, 9, (some .int), { frames := 1, cells := 0, slots := 0, locals := 23 }, "ask")
abbrev mX9_layMud : zM := (cX9_layMud, RX9, 7, none, { frames := 1, cells := 0, slots := 0, locals := 21 }, "layMud")
abbrev mX9_play : zM := (cX9_play, RX9, 5, (some .int), { frames := 2, cells := 0, slots := 0, locals := 47 }, "play")
abbrev mX9_themselves : zM := (cX9_themselves, RX9, 13, (some .long), { frames := 1, cells := 0, slots := 0, locals := 22 }, "themselves")
abbrev mX9_year : zM := (cX9_year, RX9, 8, (some .int), { frames := 3, cells := 0, slots := 0, locals := 65 }, "year")
abbrev mX9_image : zM := (cX9_image, RX9, 4, (some .int), { frames := 1, cells := 0, slots := 0, locals := 22 }, "image")
abbrev mX9_restore : zM := (cX9_restore, RX9, 4, (some .int), { frames := 1, cells := 0, slots := 0, locals := 22 }, "restore")
abbrev mX9_told : zM := (cX9_told, RX9, 3, (some .int), { frames := 2, cells := 0, slots := 0, locals := 43 }, "told")
abbrev mJ6_bitCount_0f7a4 : zM := (cJ6_bitCount_0f7a4, RJ6, 1, (some .int), { frames := 0, cells := 0, slots := 0, locals := 0 }, "bitCount")
abbrev mJ9_max_7cf53 : zM := (cJ9_max_7cf53, RJ9, 2, (some .int), { frames := 0, cells := 0, slots := 0, locals := 0 }, "max")
abbrev mJ9_min_7cf53 : zM := (cJ9_min_7cf53, RJ9, 2, (some .int), { frames := 0, cells := 0, slots := 0, locals := 0 }, "min")
theorem inlX0 : ∀ w ∈ wsX00, w ∈ wsL_law := zin_of [155, 157, 159] (by decide +kernel) (by decide +kernel)
theorem inlX1 : ∀ w ∈ wsX10, w ∈ wsL_law := zin_of [175, 177, 179, 181, 183, 185, 187] (by decide +kernel) (by decide +kernel)
theorem inlX2 : ∀ w ∈ wsX20, w ∈ wsL_law := zin_of [245, 247] (by decide +kernel) (by decide +kernel)
theorem inlX3 : ∀ w ∈ wsX30, w ∈ wsL_law := zin_of [89, 91, 93, 95, 97, 99, 101, 103, 105, 107, 109, 111, 113] (by decide +kernel) (by decide +kernel)
theorem inlX4 : ∀ w ∈ wsX40, w ∈ wsL_law := zin_of [212, 214, 216, 218] (by decide +kernel) (by decide +kernel)
theorem inlX5 : ∀ w ∈ wsX50, w ∈ wsL_law := zin_of [128, 130] (by decide +kernel) (by decide +kernel)
theorem inlX6 : ∀ w ∈ wsX60, w ∈ wsL_law := zin_of [197] (by decide +kernel) (by decide +kernel)
theorem inlX7 : ∀ w ∈ wsX70, w ∈ wsL_law := zin_of [230, 232] (by decide +kernel) (by decide +kernel)
theorem inlX8 : ∀ w ∈ wsX80, w ∈ wsL_law := zin_of [259, 261, 263, 265, 267, 269, 271, 273] (by decide +kernel) (by decide +kernel)
theorem inlX9 : ∀ w ∈ wsX90, w ∈ wsL_law := zin_of [699, 701, 703, 705, 707, 709, 711, 713, 715, 717, 719, 721, 723, 725, 727, 729, 731, 733, 735, 737, 739, 741, 743, 745] (by decide +kernel) (by decide +kernel)
theorem fl_X3_9 : zFl RX3 9 3 0 := ⟨RX3, TX3, 13, rfl, rfl, inlX3, (zmem 61 (by decide +kernel) rfl), rfl, by decide⟩
theorem fq_X3_9 : zFq RX3 9 3 0 := ⟨TX3, 13, tyX3, rfl, rfl, inlX3, (zmem 61 (by decide +kernel) rfl), rfl, by decide, tyX3_ok, nmX3, rfl, fun _ => ⟨rfl, rfl⟩, rfl⟩
theorem fl_X6_21 : zFl RX6 21 3 0 := ⟨RX3, TX3, 13, rfl, rfl, inlX3, (zmem 62 (by decide +kernel) rfl), rfl, by decide⟩
theorem fl_X8_70 : zFl RX8 70 3 0 := ⟨RX3, TX3, 13, rfl, rfl, inlX3, (zmem 63 (by decide +kernel) rfl), rfl, by decide⟩
theorem fl_X3_15 : zFl RX3 15 3 1 := ⟨RX3, TX3, 13, rfl, rfl, inlX3, (zmem 64 (by decide +kernel) rfl), rfl, by decide⟩
theorem fq_X3_15 : zFq RX3 15 3 1 := ⟨TX3, 13, tyX3, rfl, rfl, inlX3, (zmem 64 (by decide +kernel) rfl), rfl, by decide, tyX3_ok, nmX3, rfl, fun _ => ⟨rfl, rfl⟩, rfl⟩
theorem fl_X8_74 : zFl RX8 74 3 1 := ⟨RX3, TX3, 13, rfl, rfl, inlX3, (zmem 65 (by decide +kernel) rfl), rfl, by decide⟩
theorem fl_X3_18 : zFl RX3 18 3 2 := ⟨RX3, TX3, 13, rfl, rfl, inlX3, (zmem 66 (by decide +kernel) rfl), rfl, by decide⟩
theorem fq_X3_18 : zFq RX3 18 3 2 := ⟨TX3, 13, tyX3, rfl, rfl, inlX3, (zmem 66 (by decide +kernel) rfl), rfl, by decide, tyX3_ok, nmX3, rfl, fun _ => ⟨rfl, rfl⟩, rfl⟩
theorem fl_X8_93 : zFl RX8 93 3 2 := ⟨RX3, TX3, 13, rfl, rfl, inlX3, (zmem 67 (by decide +kernel) rfl), rfl, by decide⟩
theorem fl_X7_29 : zFl RX7 29 3 2 := ⟨RX3, TX3, 13, rfl, rfl, inlX3, (zmem 68 (by decide +kernel) rfl), rfl, by decide⟩
theorem fl_X3_21 : zFl RX3 21 3 3 := ⟨RX3, TX3, 13, rfl, rfl, inlX3, (zmem 69 (by decide +kernel) rfl), rfl, by decide⟩
theorem fq_X3_21 : zFq RX3 21 3 3 := ⟨TX3, 13, tyX3, rfl, rfl, inlX3, (zmem 69 (by decide +kernel) rfl), rfl, by decide, tyX3_ok, nmX3, rfl, fun _ => ⟨rfl, rfl⟩, rfl⟩
theorem fl_X6_37 : zFl RX6 37 3 3 := ⟨RX3, TX3, 13, rfl, rfl, inlX3, (zmem 70 (by decide +kernel) rfl), rfl, by decide⟩
theorem fl_X8_96 : zFl RX8 96 3 3 := ⟨RX3, TX3, 13, rfl, rfl, inlX3, (zmem 71 (by decide +kernel) rfl), rfl, by decide⟩
theorem fl_X3_24 : zFl RX3 24 3 4 := ⟨RX3, TX3, 13, rfl, rfl, inlX3, (zmem 72 (by decide +kernel) rfl), rfl, by decide⟩
theorem fq_X3_24 : zFq RX3 24 3 4 := ⟨TX3, 13, tyX3, rfl, rfl, inlX3, (zmem 72 (by decide +kernel) rfl), rfl, by decide, tyX3_ok, nmX3, rfl, fun _ => ⟨rfl, rfl⟩, rfl⟩
theorem fl_X6_46 : zFl RX6 46 3 4 := ⟨RX3, TX3, 13, rfl, rfl, inlX3, (zmem 73 (by decide +kernel) rfl), rfl, by decide⟩
theorem fl_X8_99 : zFl RX8 99 3 4 := ⟨RX3, TX3, 13, rfl, rfl, inlX3, (zmem 74 (by decide +kernel) rfl), rfl, by decide⟩
theorem fl_X3_27 : zFl RX3 27 3 5 := ⟨RX3, TX3, 13, rfl, rfl, inlX3, (zmem 75 (by decide +kernel) rfl), rfl, by decide⟩
theorem fq_X3_27 : zFq RX3 27 3 5 := ⟨TX3, 13, tyX3, rfl, rfl, inlX3, (zmem 75 (by decide +kernel) rfl), rfl, by decide, tyX3_ok, nmX3, rfl, fun _ => ⟨rfl, rfl⟩, rfl⟩
theorem fl_X8_113 : zFl RX8 113 3 5 := ⟨RX3, TX3, 13, rfl, rfl, inlX3, (zmem 76 (by decide +kernel) rfl), rfl, by decide⟩
theorem fl_X3_30 : zFl RX3 30 3 6 := ⟨RX3, TX3, 13, rfl, rfl, inlX3, (zmem 77 (by decide +kernel) rfl), rfl, by decide⟩
theorem fq_X3_30 : zFq RX3 30 3 6 := ⟨TX3, 13, tyX3, rfl, rfl, inlX3, (zmem 77 (by decide +kernel) rfl), rfl, by decide, tyX3_ok, nmX3, rfl, fun _ => ⟨rfl, rfl⟩, rfl⟩
theorem fl_X8_116 : zFl RX8 116 3 6 := ⟨RX3, TX3, 13, rfl, rfl, inlX3, (zmem 78 (by decide +kernel) rfl), rfl, by decide⟩
theorem fl_X3_33 : zFl RX3 33 3 7 := ⟨RX3, TX3, 13, rfl, rfl, inlX3, (zmem 79 (by decide +kernel) rfl), rfl, by decide⟩
theorem fq_X3_33 : zFq RX3 33 3 7 := ⟨TX3, 13, tyX3, rfl, rfl, inlX3, (zmem 79 (by decide +kernel) rfl), rfl, by decide, tyX3_ok, nmX3, rfl, fun _ => ⟨rfl, rfl⟩, rfl⟩
theorem fl_X8_122 : zFl RX8 122 3 7 := ⟨RX3, TX3, 13, rfl, rfl, inlX3, (zmem 80 (by decide +kernel) rfl), rfl, by decide⟩
theorem fl_X3_36 : zFl RX3 36 3 8 := ⟨RX3, TX3, 13, rfl, rfl, inlX3, (zmem 81 (by decide +kernel) rfl), rfl, by decide⟩
theorem fq_X3_36 : zFq RX3 36 3 8 := ⟨TX3, 13, tyX3, rfl, rfl, inlX3, (zmem 81 (by decide +kernel) rfl), rfl, by decide, tyX3_ok, nmX3, rfl, fun _ => ⟨rfl, rfl⟩, rfl⟩
theorem fl_X3_39 : zFl RX3 39 3 9 := ⟨RX3, TX3, 13, rfl, rfl, inlX3, (zmem 82 (by decide +kernel) rfl), rfl, by decide⟩
theorem fq_X3_39 : zFq RX3 39 3 9 := ⟨TX3, 13, tyX3, rfl, rfl, inlX3, (zmem 82 (by decide +kernel) rfl), rfl, by decide, tyX3_ok, nmX3, rfl, fun _ => ⟨rfl, rfl⟩, rfl⟩
theorem fl_X3_43 : zFl RX3 43 3 10 := ⟨RX3, TX3, 13, rfl, rfl, inlX3, (zmem 83 (by decide +kernel) rfl), rfl, by decide⟩
theorem fp_X3_43 : zFp RX3 43 3 10 := ⟨RX3, TX3, 13, tyX3, rfl, rfl, inlX3, (zmem 83 (by decide +kernel) rfl), rfl, by decide, tyX3_ok, nmX3, rfl, rfl, rfl⟩
theorem fl_X8_210 : zFl RX8 210 3 10 := ⟨RX3, TX3, 13, rfl, rfl, inlX3, (zmem 84 (by decide +kernel) rfl), rfl, by decide⟩
theorem fp_X8_210 : zFp RX8 210 3 10 := ⟨RX3, TX3, 13, tyX3, rfl, rfl, inlX3, (zmem 84 (by decide +kernel) rfl), rfl, by decide, tyX3_ok, nmX3, rfl, rfl, rfl⟩
theorem fl_X3_47 : zFl RX3 47 3 11 := ⟨RX3, TX3, 13, rfl, rfl, inlX3, (zmem 85 (by decide +kernel) rfl), rfl, by decide⟩
theorem fp_X3_47 : zFp RX3 47 3 11 := ⟨RX3, TX3, 13, tyX3, rfl, rfl, inlX3, (zmem 85 (by decide +kernel) rfl), rfl, by decide, tyX3_ok, nmX3, rfl, rfl, rfl⟩
theorem fl_X8_102 : zFl RX8 102 3 11 := ⟨RX3, TX3, 13, rfl, rfl, inlX3, (zmem 86 (by decide +kernel) rfl), rfl, by decide⟩
theorem fp_X8_102 : zFp RX8 102 3 11 := ⟨RX3, TX3, 13, tyX3, rfl, rfl, inlX3, (zmem 86 (by decide +kernel) rfl), rfl, by decide, tyX3_ok, nmX3, rfl, rfl, rfl⟩
theorem fl_X3_50 : zFl RX3 50 3 12 := ⟨RX3, TX3, 13, rfl, rfl, inlX3, (zmem 87 (by decide +kernel) rfl), rfl, by decide⟩
theorem fp_X3_50 : zFp RX3 50 3 12 := ⟨RX3, TX3, 13, tyX3, rfl, rfl, inlX3, (zmem 87 (by decide +kernel) rfl), rfl, by decide, tyX3_ok, nmX3, rfl, rfl, rfl⟩
theorem fl_X8_165 : zFl RX8 165 3 12 := ⟨RX3, TX3, 13, rfl, rfl, inlX3, (zmem 88 (by decide +kernel) rfl), rfl, by decide⟩
theorem fp_X8_165 : zFp RX8 165 3 12 := ⟨RX3, TX3, 13, tyX3, rfl, rfl, inlX3, (zmem 88 (by decide +kernel) rfl), rfl, by decide, tyX3_ok, nmX3, rfl, rfl, rfl⟩
theorem fl_X5_9 : zFl RX5 9 5 0 := ⟨RX5, TX5, 2, rfl, rfl, inlX5, (zmem 124 (by decide +kernel) rfl), rfl, by decide⟩
theorem fq_X5_9 : zFq RX5 9 5 0 := ⟨TX5, 2, tyX5, rfl, rfl, inlX5, (zmem 124 (by decide +kernel) rfl), rfl, by decide, tyX5_ok, nmX5, rfl, fun _ => ⟨rfl, rfl⟩, rfl⟩
theorem fl_X5_15 : zFl RX5 15 5 1 := ⟨RX5, TX5, 2, rfl, rfl, inlX5, (zmem 125 (by decide +kernel) rfl), rfl, by decide⟩
theorem fp_X5_15 : zFp RX5 15 5 1 := ⟨RX5, TX5, 2, tyX5, rfl, rfl, inlX5, (zmem 125 (by decide +kernel) rfl), rfl, by decide, tyX5_ok, nmX5, rfl, rfl, rfl⟩
theorem fl_X1_45 : zFl RX1 45 5 1 := ⟨RX5, TX5, 2, rfl, rfl, inlX5, (zmem 126 (by decide +kernel) rfl), rfl, by decide⟩
theorem fp_X1_45 : zFp RX1 45 5 1 := ⟨RX5, TX5, 2, tyX5, rfl, rfl, inlX5, (zmem 126 (by decide +kernel) rfl), rfl, by decide, tyX5_ok, nmX5, rfl, rfl, rfl⟩
theorem fl_X8_131 : zFl RX8 131 5 1 := ⟨RX5, TX5, 2, rfl, rfl, inlX5, (zmem 127 (by decide +kernel) rfl), rfl, by decide⟩
theorem fp_X8_131 : zFp RX8 131 5 1 := ⟨RX5, TX5, 2, tyX5, rfl, rfl, inlX5, (zmem 127 (by decide +kernel) rfl), rfl, by decide, tyX5_ok, nmX5, rfl, rfl, rfl⟩
theorem fl_X0_9 : zFl RX0 9 0 0 := ⟨RX0, TX0, 3, rfl, rfl, inlX0, (zmem 147 (by decide +kernel) rfl), rfl, by decide⟩
theorem fp_X0_9 : zFp RX0 9 0 0 := ⟨RX0, TX0, 3, tyX0, rfl, rfl, inlX0, (zmem 147 (by decide +kernel) rfl), rfl, by decide, tyX0_ok, nmX0, rfl, rfl, rfl⟩
theorem fl_X1_64 : zFl RX1 64 0 0 := ⟨RX0, TX0, 3, rfl, rfl, inlX0, (zmem 148 (by decide +kernel) rfl), rfl, by decide⟩
theorem fp_X1_64 : zFp RX1 64 0 0 := ⟨RX0, TX0, 3, tyX0, rfl, rfl, inlX0, (zmem 148 (by decide +kernel) rfl), rfl, by decide, tyX0_ok, nmX0, rfl, rfl, rfl⟩
theorem fl_X3_71 : zFl RX3 71 0 0 := ⟨RX0, TX0, 3, rfl, rfl, inlX0, (zmem 149 (by decide +kernel) rfl), rfl, by decide⟩
theorem fp_X3_71 : zFp RX3 71 0 0 := ⟨RX0, TX0, 3, tyX0, rfl, rfl, inlX0, (zmem 149 (by decide +kernel) rfl), rfl, by decide, tyX0_ok, nmX0, rfl, rfl, rfl⟩
theorem fl_X0_13 : zFl RX0 13 0 1 := ⟨RX0, TX0, 3, rfl, rfl, inlX0, (zmem 150 (by decide +kernel) rfl), rfl, by decide⟩
theorem fp_X0_13 : zFp RX0 13 0 1 := ⟨RX0, TX0, 3, tyX0, rfl, rfl, inlX0, (zmem 150 (by decide +kernel) rfl), rfl, by decide, tyX0_ok, nmX0, rfl, rfl, rfl⟩
theorem fl_X1_67 : zFl RX1 67 0 1 := ⟨RX0, TX0, 3, rfl, rfl, inlX0, (zmem 151 (by decide +kernel) rfl), rfl, by decide⟩
theorem fp_X1_67 : zFp RX1 67 0 1 := ⟨RX0, TX0, 3, tyX0, rfl, rfl, inlX0, (zmem 151 (by decide +kernel) rfl), rfl, by decide, tyX0_ok, nmX0, rfl, rfl, rfl⟩
theorem fl_X3_76 : zFl RX3 76 0 1 := ⟨RX0, TX0, 3, rfl, rfl, inlX0, (zmem 152 (by decide +kernel) rfl), rfl, by decide⟩
theorem fp_X3_76 : zFp RX3 76 0 1 := ⟨RX0, TX0, 3, tyX0, rfl, rfl, inlX0, (zmem 152 (by decide +kernel) rfl), rfl, by decide, tyX0_ok, nmX0, rfl, rfl, rfl⟩
theorem fl_X0_16 : zFl RX0 16 0 2 := ⟨RX0, TX0, 3, rfl, rfl, inlX0, (zmem 153 (by decide +kernel) rfl), rfl, by decide⟩
theorem fp_X0_16 : zFp RX0 16 0 2 := ⟨RX0, TX0, 3, tyX0, rfl, rfl, inlX0, (zmem 153 (by decide +kernel) rfl), rfl, by decide, tyX0_ok, nmX0, rfl, rfl, rfl⟩
theorem fl_X3_79 : zFl RX3 79 0 2 := ⟨RX0, TX0, 3, rfl, rfl, inlX0, (zmem 154 (by decide +kernel) rfl), rfl, by decide⟩
theorem fp_X3_79 : zFp RX3 79 0 2 := ⟨RX0, TX0, 3, tyX0, rfl, rfl, inlX0, (zmem 154 (by decide +kernel) rfl), rfl, by decide, tyX0_ok, nmX0, rfl, rfl, rfl⟩
theorem fl_X1_12 : zFl RX1 12 1 0 := ⟨RX1, TX1, 7, rfl, rfl, inlX1, (zmem 162 (by decide +kernel) rfl), rfl, by decide⟩
theorem fq_X1_12 : zFq RX1 12 1 0 := ⟨TX1, 7, tyX1, rfl, rfl, inlX1, (zmem 162 (by decide +kernel) rfl), rfl, by decide, tyX1_ok, nmX1, rfl, fun _ => ⟨rfl, rfl⟩, rfl⟩
theorem fl_X8_151 : zFl RX8 151 1 0 := ⟨RX1, TX1, 7, rfl, rfl, inlX1, (zmem 163 (by decide +kernel) rfl), rfl, by decide⟩
theorem fl_X1_21 : zFl RX1 21 1 1 := ⟨RX1, TX1, 7, rfl, rfl, inlX1, (zmem 164 (by decide +kernel) rfl), rfl, by decide⟩
theorem fq_X1_21 : zFq RX1 21 1 1 := ⟨TX1, 7, tyX1, rfl, rfl, inlX1, (zmem 164 (by decide +kernel) rfl), rfl, by decide, tyX1_ok, nmX1, rfl, fun _ => ⟨rfl, rfl⟩, rfl⟩
theorem fl_X1_25 : zFl RX1 25 1 2 := ⟨RX1, TX1, 7, rfl, rfl, inlX1, (zmem 165 (by decide +kernel) rfl), rfl, by decide⟩
theorem fp_X1_25 : zFp RX1 25 1 2 := ⟨RX1, TX1, 7, tyX1, rfl, rfl, inlX1, (zmem 165 (by decide +kernel) rfl), rfl, by decide, tyX1_ok, nmX1, rfl, rfl, rfl⟩
theorem fl_X8_144 : zFl RX8 144 1 2 := ⟨RX1, TX1, 7, rfl, rfl, inlX1, (zmem 166 (by decide +kernel) rfl), rfl, by decide⟩
theorem fp_X8_144 : zFp RX8 144 1 2 := ⟨RX1, TX1, 7, tyX1, rfl, rfl, inlX1, (zmem 166 (by decide +kernel) rfl), rfl, by decide, tyX1_ok, nmX1, rfl, rfl, rfl⟩
theorem fl_X1_29 : zFl RX1 29 1 3 := ⟨RX1, TX1, 7, rfl, rfl, inlX1, (zmem 167 (by decide +kernel) rfl), rfl, by decide⟩
theorem fp_X1_29 : zFp RX1 29 1 3 := ⟨RX1, TX1, 7, tyX1, rfl, rfl, inlX1, (zmem 167 (by decide +kernel) rfl), rfl, by decide, tyX1_ok, nmX1, rfl, rfl, rfl⟩
theorem fl_X8_141 : zFl RX8 141 1 3 := ⟨RX1, TX1, 7, rfl, rfl, inlX1, (zmem 168 (by decide +kernel) rfl), rfl, by decide⟩
theorem fp_X8_141 : zFp RX8 141 1 3 := ⟨RX1, TX1, 7, tyX1, rfl, rfl, inlX1, (zmem 168 (by decide +kernel) rfl), rfl, by decide, tyX1_ok, nmX1, rfl, rfl, rfl⟩
theorem fl_X1_32 : zFl RX1 32 1 4 := ⟨RX1, TX1, 7, rfl, rfl, inlX1, (zmem 169 (by decide +kernel) rfl), rfl, by decide⟩
theorem fp_X1_32 : zFp RX1 32 1 4 := ⟨RX1, TX1, 7, tyX1, rfl, rfl, inlX1, (zmem 169 (by decide +kernel) rfl), rfl, by decide, tyX1_ok, nmX1, rfl, rfl, rfl⟩
theorem fl_X8_168 : zFl RX8 168 1 4 := ⟨RX1, TX1, 7, rfl, rfl, inlX1, (zmem 170 (by decide +kernel) rfl), rfl, by decide⟩
theorem fp_X8_168 : zFp RX8 168 1 4 := ⟨RX1, TX1, 7, tyX1, rfl, rfl, inlX1, (zmem 170 (by decide +kernel) rfl), rfl, by decide, tyX1_ok, nmX1, rfl, rfl, rfl⟩
theorem fl_X1_35 : zFl RX1 35 1 5 := ⟨RX1, TX1, 7, rfl, rfl, inlX1, (zmem 171 (by decide +kernel) rfl), rfl, by decide⟩
theorem fp_X1_35 : zFp RX1 35 1 5 := ⟨RX1, TX1, 7, tyX1, rfl, rfl, inlX1, (zmem 171 (by decide +kernel) rfl), rfl, by decide, tyX1_ok, nmX1, rfl, rfl, rfl⟩
theorem fl_X8_171 : zFl RX8 171 1 5 := ⟨RX1, TX1, 7, rfl, rfl, inlX1, (zmem 172 (by decide +kernel) rfl), rfl, by decide⟩
theorem fp_X8_171 : zFp RX8 171 1 5 := ⟨RX1, TX1, 7, tyX1, rfl, rfl, inlX1, (zmem 172 (by decide +kernel) rfl), rfl, by decide, tyX1_ok, nmX1, rfl, rfl, rfl⟩
theorem fl_X1_38 : zFl RX1 38 1 6 := ⟨RX1, TX1, 7, rfl, rfl, inlX1, (zmem 173 (by decide +kernel) rfl), rfl, by decide⟩
theorem fp_X1_38 : zFp RX1 38 1 6 := ⟨RX1, TX1, 7, tyX1, rfl, rfl, inlX1, (zmem 173 (by decide +kernel) rfl), rfl, by decide, tyX1_ok, nmX1, rfl, rfl, rfl⟩
theorem fl_X8_174 : zFl RX8 174 1 6 := ⟨RX1, TX1, 7, rfl, rfl, inlX1, (zmem 174 (by decide +kernel) rfl), rfl, by decide⟩
theorem fp_X8_174 : zFp RX8 174 1 6 := ⟨RX1, TX1, 7, tyX1, rfl, rfl, inlX1, (zmem 174 (by decide +kernel) rfl), rfl, by decide, tyX1_ok, nmX1, rfl, rfl, rfl⟩
theorem fl_X6_9 : zFl RX6 9 6 0 := ⟨RX6, TX6, 1, rfl, rfl, inlX6, (zmem 196 (by decide +kernel) rfl), rfl, by decide⟩
theorem fq_X6_9 : zFq RX6 9 6 0 := ⟨TX6, 1, tyX6, rfl, rfl, inlX6, (zmem 196 (by decide +kernel) rfl), rfl, by decide, tyX6_ok, nmX6, rfl, fun _ => ⟨rfl, rfl⟩, rfl⟩
theorem fl_X4_12 : zFl RX4 12 4 0 := ⟨RX4, TX4, 4, rfl, rfl, inlX4, (zmem 208 (by decide +kernel) rfl), rfl, by decide⟩
theorem fq_X4_12 : zFq RX4 12 4 0 := ⟨TX4, 4, tyX4, rfl, rfl, inlX4, (zmem 208 (by decide +kernel) rfl), rfl, by decide, tyX4_ok, nmX4, rfl, fun _ => ⟨rfl, rfl⟩, rfl⟩
theorem fl_X4_18 : zFl RX4 18 4 1 := ⟨RX4, TX4, 4, rfl, rfl, inlX4, (zmem 209 (by decide +kernel) rfl), rfl, by decide⟩
theorem fq_X4_18 : zFq RX4 18 4 1 := ⟨TX4, 4, tyX4, rfl, rfl, inlX4, (zmem 209 (by decide +kernel) rfl), rfl, by decide, tyX4_ok, nmX4, rfl, fun _ => ⟨rfl, rfl⟩, rfl⟩
theorem fl_X4_22 : zFl RX4 22 4 2 := ⟨RX4, TX4, 4, rfl, rfl, inlX4, (zmem 210 (by decide +kernel) rfl), rfl, by decide⟩
theorem fq_X4_22 : zFq RX4 22 4 2 := ⟨TX4, 4, tyX4, rfl, rfl, inlX4, (zmem 210 (by decide +kernel) rfl), rfl, by decide, tyX4_ok, nmX4, rfl, fun _ => ⟨rfl, rfl⟩, rfl⟩
theorem fl_X4_25 : zFl RX4 25 4 3 := ⟨RX4, TX4, 4, rfl, rfl, inlX4, (zmem 211 (by decide +kernel) rfl), rfl, by decide⟩
theorem fp_X4_25 : zFp RX4 25 4 3 := ⟨RX4, TX4, 4, tyX4, rfl, rfl, inlX4, (zmem 211 (by decide +kernel) rfl), rfl, by decide, tyX4_ok, nmX4, rfl, rfl, rfl⟩
theorem fl_X7_9 : zFl RX7 9 7 0 := ⟨RX7, TX7, 2, rfl, rfl, inlX7, (zmem 227 (by decide +kernel) rfl), rfl, by decide⟩
theorem fq_X7_9 : zFq RX7 9 7 0 := ⟨TX7, 2, tyX7, rfl, rfl, inlX7, (zmem 227 (by decide +kernel) rfl), rfl, by decide, tyX7_ok, nmX7, rfl, fun _ => ⟨rfl, rfl⟩, rfl⟩
theorem fl_X7_15 : zFl RX7 15 7 1 := ⟨RX7, TX7, 2, rfl, rfl, inlX7, (zmem 228 (by decide +kernel) rfl), rfl, by decide⟩
theorem fp_X7_15 : zFp RX7 15 7 1 := ⟨RX7, TX7, 2, tyX7, rfl, rfl, inlX7, (zmem 228 (by decide +kernel) rfl), rfl, by decide, tyX7_ok, nmX7, rfl, rfl, rfl⟩
theorem fl_X8_216 : zFl RX8 216 7 1 := ⟨RX7, TX7, 2, rfl, rfl, inlX7, (zmem 229 (by decide +kernel) rfl), rfl, by decide⟩
theorem fp_X8_216 : zFp RX8 216 7 1 := ⟨RX7, TX7, 2, tyX7, rfl, rfl, inlX7, (zmem 229 (by decide +kernel) rfl), rfl, by decide, tyX7_ok, nmX7, rfl, rfl, rfl⟩
theorem fl_X2_9 : zFl RX2 9 2 0 := ⟨RX2, TX2, 2, rfl, rfl, inlX2, (zmem 241 (by decide +kernel) rfl), rfl, by decide⟩
theorem fq_X2_9 : zFq RX2 9 2 0 := ⟨TX2, 2, tyX2, rfl, rfl, inlX2, (zmem 241 (by decide +kernel) rfl), rfl, by decide, tyX2_ok, nmX2, rfl, fun _ => ⟨rfl, rfl⟩, rfl⟩
theorem fl_X8_230 : zFl RX8 230 2 0 := ⟨RX2, TX2, 2, rfl, rfl, inlX2, (zmem 242 (by decide +kernel) rfl), rfl, by decide⟩
theorem fl_X2_15 : zFl RX2 15 2 1 := ⟨RX2, TX2, 2, rfl, rfl, inlX2, (zmem 243 (by decide +kernel) rfl), rfl, by decide⟩
theorem fq_X2_15 : zFq RX2 15 2 1 := ⟨TX2, 2, tyX2, rfl, rfl, inlX2, (zmem 243 (by decide +kernel) rfl), rfl, by decide, tyX2_ok, nmX2, rfl, fun _ => ⟨rfl, rfl⟩, rfl⟩
theorem fl_X8_233 : zFl RX8 233 2 1 := ⟨RX2, TX2, 2, rfl, rfl, inlX2, (zmem 244 (by decide +kernel) rfl), rfl, by decide⟩
theorem fl_X8_10 : zFl RX8 10 8 0 := ⟨RX8, TX8, 8, rfl, rfl, inlX8, (zmem 251 (by decide +kernel) rfl), rfl, by decide⟩
theorem fq_X8_10 : zFq RX8 10 8 0 := ⟨TX8, 8, tyX8, rfl, rfl, inlX8, (zmem 251 (by decide +kernel) rfl), rfl, by decide, tyX8_ok, nmX8, rfl, fun _ => ⟨rfl, rfl⟩, rfl⟩
theorem fl_X8_19 : zFl RX8 19 8 1 := ⟨RX8, TX8, 8, rfl, rfl, inlX8, (zmem 252 (by decide +kernel) rfl), rfl, by decide⟩
theorem fq_X8_19 : zFq RX8 19 8 1 := ⟨TX8, 8, tyX8, rfl, rfl, inlX8, (zmem 252 (by decide +kernel) rfl), rfl, by decide, tyX8_ok, nmX8, rfl, fun _ => ⟨rfl, rfl⟩, rfl⟩
theorem fl_X8_26 : zFl RX8 26 8 2 := ⟨RX8, TX8, 8, rfl, rfl, inlX8, (zmem 253 (by decide +kernel) rfl), rfl, by decide⟩
theorem fq_X8_26 : zFq RX8 26 8 2 := ⟨TX8, 8, tyX8, rfl, rfl, inlX8, (zmem 253 (by decide +kernel) rfl), rfl, by decide, tyX8_ok, nmX8, rfl, fun _ => ⟨rfl, rfl⟩, rfl⟩
theorem fl_X8_33 : zFl RX8 33 8 3 := ⟨RX8, TX8, 8, rfl, rfl, inlX8, (zmem 254 (by decide +kernel) rfl), rfl, by decide⟩
theorem fq_X8_33 : zFq RX8 33 8 3 := ⟨TX8, 8, tyX8, rfl, rfl, inlX8, (zmem 254 (by decide +kernel) rfl), rfl, by decide, tyX8_ok, nmX8, rfl, fun _ => ⟨rfl, rfl⟩, rfl⟩
theorem fl_X8_40 : zFl RX8 40 8 4 := ⟨RX8, TX8, 8, rfl, rfl, inlX8, (zmem 255 (by decide +kernel) rfl), rfl, by decide⟩
theorem fq_X8_40 : zFq RX8 40 8 4 := ⟨TX8, 8, tyX8, rfl, rfl, inlX8, (zmem 255 (by decide +kernel) rfl), rfl, by decide, tyX8_ok, nmX8, rfl, fun _ => ⟨rfl, rfl⟩, rfl⟩
theorem fl_X8_47 : zFl RX8 47 8 5 := ⟨RX8, TX8, 8, rfl, rfl, inlX8, (zmem 256 (by decide +kernel) rfl), rfl, by decide⟩
theorem fq_X8_47 : zFq RX8 47 8 5 := ⟨TX8, 8, tyX8, rfl, rfl, inlX8, (zmem 256 (by decide +kernel) rfl), rfl, by decide, tyX8_ok, nmX8, rfl, fun _ => ⟨rfl, rfl⟩, rfl⟩
theorem fl_X8_54 : zFl RX8 54 8 6 := ⟨RX8, TX8, 8, rfl, rfl, inlX8, (zmem 257 (by decide +kernel) rfl), rfl, by decide⟩
theorem fq_X8_54 : zFq RX8 54 8 6 := ⟨TX8, 8, tyX8, rfl, rfl, inlX8, (zmem 257 (by decide +kernel) rfl), rfl, by decide, tyX8_ok, nmX8, rfl, fun _ => ⟨rfl, rfl⟩, rfl⟩
theorem fl_X8_58 : zFl RX8 58 8 7 := ⟨RX8, TX8, 8, rfl, rfl, inlX8, (zmem 258 (by decide +kernel) rfl), rfl, by decide⟩
theorem fq_X8_58 : zFq RX8 58 8 7 := ⟨TX8, 8, tyX8, rfl, rfl, inlX8, (zmem 258 (by decide +kernel) rfl), rfl, by decide, tyX8_ok, nmX8, rfl, fun _ => ⟨rfl, rfl⟩, rfl⟩
theorem fl_X9_7 : zFl RX9 7 9 0 := ⟨RX9, TX9, 24, rfl, rfl, inlX9, (zmem 675 (by decide +kernel) rfl), rfl, by decide⟩
theorem fq_X9_7 : zFq RX9 7 9 0 := ⟨TX9, 24, tyX9, rfl, rfl, inlX9, (zmem 675 (by decide +kernel) rfl), rfl, by decide, tyX9_ok, nmX9, rfl, fun _ => ⟨rfl, rfl⟩, rfl⟩
theorem fl_X9_13 : zFl RX9 13 9 1 := ⟨RX9, TX9, 24, rfl, rfl, inlX9, (zmem 676 (by decide +kernel) rfl), rfl, by decide⟩
theorem fq_X9_13 : zFq RX9 13 9 1 := ⟨TX9, 24, tyX9, rfl, rfl, inlX9, (zmem 676 (by decide +kernel) rfl), rfl, by decide, tyX9_ok, nmX9, rfl, fun _ => ⟨rfl, rfl⟩, rfl⟩
theorem fl_X9_16 : zFl RX9 16 9 2 := ⟨RX9, TX9, 24, rfl, rfl, inlX9, (zmem 677 (by decide +kernel) rfl), rfl, by decide⟩
theorem fq_X9_16 : zFq RX9 16 9 2 := ⟨TX9, 24, tyX9, rfl, rfl, inlX9, (zmem 677 (by decide +kernel) rfl), rfl, by decide, tyX9_ok, nmX9, rfl, fun _ => ⟨rfl, rfl⟩, rfl⟩
theorem fl_X9_19 : zFl RX9 19 9 3 := ⟨RX9, TX9, 24, rfl, rfl, inlX9, (zmem 678 (by decide +kernel) rfl), rfl, by decide⟩
theorem fq_X9_19 : zFq RX9 19 9 3 := ⟨TX9, 24, tyX9, rfl, rfl, inlX9, (zmem 678 (by decide +kernel) rfl), rfl, by decide, tyX9_ok, nmX9, rfl, fun _ => ⟨rfl, rfl⟩, rfl⟩
theorem fl_X9_22 : zFl RX9 22 9 4 := ⟨RX9, TX9, 24, rfl, rfl, inlX9, (zmem 679 (by decide +kernel) rfl), rfl, by decide⟩
theorem fq_X9_22 : zFq RX9 22 9 4 := ⟨TX9, 24, tyX9, rfl, rfl, inlX9, (zmem 679 (by decide +kernel) rfl), rfl, by decide, tyX9_ok, nmX9, rfl, fun _ => ⟨rfl, rfl⟩, rfl⟩
theorem fl_X9_25 : zFl RX9 25 9 5 := ⟨RX9, TX9, 24, rfl, rfl, inlX9, (zmem 680 (by decide +kernel) rfl), rfl, by decide⟩
theorem fq_X9_25 : zFq RX9 25 9 5 := ⟨TX9, 24, tyX9, rfl, rfl, inlX9, (zmem 680 (by decide +kernel) rfl), rfl, by decide, tyX9_ok, nmX9, rfl, fun _ => ⟨rfl, rfl⟩, rfl⟩
theorem fl_X9_28 : zFl RX9 28 9 6 := ⟨RX9, TX9, 24, rfl, rfl, inlX9, (zmem 681 (by decide +kernel) rfl), rfl, by decide⟩
theorem fq_X9_28 : zFq RX9 28 9 6 := ⟨TX9, 24, tyX9, rfl, rfl, inlX9, (zmem 681 (by decide +kernel) rfl), rfl, by decide, tyX9_ok, nmX9, rfl, fun _ => ⟨rfl, rfl⟩, rfl⟩
theorem fl_X9_141 : zFl RX9 141 9 7 := ⟨RX9, TX9, 24, rfl, rfl, inlX9, (zmem 682 (by decide +kernel) rfl), rfl, by decide⟩
theorem fp_X9_141 : zFp RX9 141 9 7 := ⟨RX9, TX9, 24, tyX9, rfl, rfl, inlX9, (zmem 682 (by decide +kernel) rfl), rfl, by decide, tyX9_ok, nmX9, rfl, rfl, rfl⟩
theorem fl_X9_31 : zFl RX9 31 9 8 := ⟨RX9, TX9, 24, rfl, rfl, inlX9, (zmem 683 (by decide +kernel) rfl), rfl, by decide⟩
theorem fq_X9_31 : zFq RX9 31 9 8 := ⟨TX9, 24, tyX9, rfl, rfl, inlX9, (zmem 683 (by decide +kernel) rfl), rfl, by decide, tyX9_ok, nmX9, rfl, fun _ => ⟨rfl, rfl⟩, rfl⟩
theorem fl_X9_75 : zFl RX9 75 9 9 := ⟨RX9, TX9, 24, rfl, rfl, inlX9, (zmem 684 (by decide +kernel) rfl), rfl, by decide⟩
theorem fp_X9_75 : zFp RX9 75 9 9 := ⟨RX9, TX9, 24, tyX9, rfl, rfl, inlX9, (zmem 684 (by decide +kernel) rfl), rfl, by decide, tyX9_ok, nmX9, rfl, rfl, rfl⟩
theorem fl_X9_34 : zFl RX9 34 9 10 := ⟨RX9, TX9, 24, rfl, rfl, inlX9, (zmem 685 (by decide +kernel) rfl), rfl, by decide⟩
theorem fq_X9_34 : zFq RX9 34 9 10 := ⟨TX9, 24, tyX9, rfl, rfl, inlX9, (zmem 685 (by decide +kernel) rfl), rfl, by decide, tyX9_ok, nmX9, rfl, fun _ => ⟨rfl, rfl⟩, rfl⟩
theorem fl_X9_83 : zFl RX9 83 9 11 := ⟨RX9, TX9, 24, rfl, rfl, inlX9, (zmem 686 (by decide +kernel) rfl), rfl, by decide⟩
theorem fp_X9_83 : zFp RX9 83 9 11 := ⟨RX9, TX9, 24, tyX9, rfl, rfl, inlX9, (zmem 686 (by decide +kernel) rfl), rfl, by decide, tyX9_ok, nmX9, rfl, rfl, rfl⟩
theorem fl_X9_86 : zFl RX9 86 9 12 := ⟨RX9, TX9, 24, rfl, rfl, inlX9, (zmem 687 (by decide +kernel) rfl), rfl, by decide⟩
theorem fp_X9_86 : zFp RX9 86 9 12 := ⟨RX9, TX9, 24, tyX9, rfl, rfl, inlX9, (zmem 687 (by decide +kernel) rfl), rfl, by decide, tyX9_ok, nmX9, rfl, rfl, rfl⟩
theorem fl_X9_89 : zFl RX9 89 9 13 := ⟨RX9, TX9, 24, rfl, rfl, inlX9, (zmem 688 (by decide +kernel) rfl), rfl, by decide⟩
theorem fp_X9_89 : zFp RX9 89 9 13 := ⟨RX9, TX9, 24, tyX9, rfl, rfl, inlX9, (zmem 688 (by decide +kernel) rfl), rfl, by decide, tyX9_ok, nmX9, rfl, rfl, rfl⟩
theorem fl_X9_116 : zFl RX9 116 9 14 := ⟨RX9, TX9, 24, rfl, rfl, inlX9, (zmem 689 (by decide +kernel) rfl), rfl, by decide⟩
theorem fp_X9_116 : zFp RX9 116 9 14 := ⟨RX9, TX9, 24, tyX9, rfl, rfl, inlX9, (zmem 689 (by decide +kernel) rfl), rfl, by decide, tyX9_ok, nmX9, rfl, rfl, rfl⟩
theorem fl_X9_109 : zFl RX9 109 9 15 := ⟨RX9, TX9, 24, rfl, rfl, inlX9, (zmem 690 (by decide +kernel) rfl), rfl, by decide⟩
theorem fp_X9_109 : zFp RX9 109 9 15 := ⟨RX9, TX9, 24, tyX9, rfl, rfl, inlX9, (zmem 690 (by decide +kernel) rfl), rfl, by decide, tyX9_ok, nmX9, rfl, rfl, rfl⟩
theorem fl_X9_37 : zFl RX9 37 9 16 := ⟨RX9, TX9, 24, rfl, rfl, inlX9, (zmem 691 (by decide +kernel) rfl), rfl, by decide⟩
theorem fq_X9_37 : zFq RX9 37 9 16 := ⟨TX9, 24, tyX9, rfl, rfl, inlX9, (zmem 691 (by decide +kernel) rfl), rfl, by decide, tyX9_ok, nmX9, rfl, fun _ => ⟨rfl, rfl⟩, rfl⟩
theorem fl_X9_40 : zFl RX9 40 9 17 := ⟨RX9, TX9, 24, rfl, rfl, inlX9, (zmem 692 (by decide +kernel) rfl), rfl, by decide⟩
theorem fq_X9_40 : zFq RX9 40 9 17 := ⟨TX9, 24, tyX9, rfl, rfl, inlX9, (zmem 692 (by decide +kernel) rfl), rfl, by decide, tyX9_ok, nmX9, rfl, fun _ => ⟨rfl, rfl⟩, rfl⟩
theorem fl_X9_43 : zFl RX9 43 9 18 := ⟨RX9, TX9, 24, rfl, rfl, inlX9, (zmem 693 (by decide +kernel) rfl), rfl, by decide⟩
theorem fq_X9_43 : zFq RX9 43 9 18 := ⟨TX9, 24, tyX9, rfl, rfl, inlX9, (zmem 693 (by decide +kernel) rfl), rfl, by decide, tyX9_ok, nmX9, rfl, fun _ => ⟨rfl, rfl⟩, rfl⟩
theorem fl_X9_46 : zFl RX9 46 9 19 := ⟨RX9, TX9, 24, rfl, rfl, inlX9, (zmem 694 (by decide +kernel) rfl), rfl, by decide⟩
theorem fq_X9_46 : zFq RX9 46 9 19 := ⟨TX9, 24, tyX9, rfl, rfl, inlX9, (zmem 694 (by decide +kernel) rfl), rfl, by decide, tyX9_ok, nmX9, rfl, fun _ => ⟨rfl, rfl⟩, rfl⟩
theorem fl_X9_49 : zFl RX9 49 9 20 := ⟨RX9, TX9, 24, rfl, rfl, inlX9, (zmem 695 (by decide +kernel) rfl), rfl, by decide⟩
theorem fq_X9_49 : zFq RX9 49 9 20 := ⟨TX9, 24, tyX9, rfl, rfl, inlX9, (zmem 695 (by decide +kernel) rfl), rfl, by decide, tyX9_ok, nmX9, rfl, fun _ => ⟨rfl, rfl⟩, rfl⟩
theorem fl_X9_52 : zFl RX9 52 9 21 := ⟨RX9, TX9, 24, rfl, rfl, inlX9, (zmem 696 (by decide +kernel) rfl), rfl, by decide⟩
theorem fq_X9_52 : zFq RX9 52 9 21 := ⟨TX9, 24, tyX9, rfl, rfl, inlX9, (zmem 696 (by decide +kernel) rfl), rfl, by decide, tyX9_ok, nmX9, rfl, fun _ => ⟨rfl, rfl⟩, rfl⟩
theorem fl_X9_56 : zFl RX9 56 9 22 := ⟨RX9, TX9, 24, rfl, rfl, inlX9, (zmem 697 (by decide +kernel) rfl), rfl, by decide⟩
theorem fq_X9_56 : zFq RX9 56 9 22 := ⟨TX9, 24, tyX9, rfl, rfl, inlX9, (zmem 697 (by decide +kernel) rfl), rfl, by decide, tyX9_ok, nmX9, rfl, fun _ => ⟨rfl, rfl⟩, rfl⟩
theorem fl_X9_59 : zFl RX9 59 9 23 := ⟨RX9, TX9, 24, rfl, rfl, inlX9, (zmem 698 (by decide +kernel) rfl), rfl, by decide⟩
theorem fq_X9_59 : zFq RX9 59 9 23 := ⟨TX9, 24, tyX9, rfl, rfl, inlX9, (zmem 698 (by decide +kernel) rfl), rfl, by decide, tyX9_ok, nmX9, rfl, fun _ => ⟨rfl, rfl⟩, rfl⟩
theorem cl_L_7 : Cond.classLink RL 7 RX8 ∈ wsL_law := zmem 47 (by decide +kernel) rfl
theorem nw_L_7 : zNw RL 7 8 := ⟨RX8, TX8, 8, tyX8, rfl, rfl, inlX8, tyX8_ok, cl_L_7, zmem 48 (by decide +kernel) rfl, zmem 34 (by decide +kernel) rfl, by decide +kernel⟩
theorem cl_X8_7 : Cond.classLink RX8 7 RX3 ∈ wsL_law := zmem 55 (by decide +kernel) rfl
theorem nw_X8_7 : zNw RX8 7 3 := ⟨RX3, TX3, 13, tyX3, rfl, rfl, inlX3, tyX3_ok, cl_X8_7, zmem 56 (by decide +kernel) rfl, zmem 35 (by decide +kernel) rfl, by decide +kernel⟩
theorem cl_X8_16 : Cond.classLink RX8 16 RX5 ∈ wsL_law := zmem 118 (by decide +kernel) rfl
theorem nw_X8_16 : zNw RX8 16 5 := ⟨RX5, TX5, 2, tyX5, rfl, rfl, inlX5, tyX5_ok, cl_X8_16, zmem 119 (by decide +kernel) rfl, zmem 36 (by decide +kernel) rfl, by decide +kernel⟩
theorem cl_X8_23 : Cond.classLink RX8 23 RX1 ∈ wsL_law := zmem 133 (by decide +kernel) rfl
theorem nw_X8_23 : zNw RX8 23 1 := ⟨RX1, TX1, 7, tyX1, rfl, rfl, inlX1, tyX1_ok, cl_X8_23, zmem 134 (by decide +kernel) rfl, zmem 37 (by decide +kernel) rfl, by decide +kernel⟩
theorem cl_X1_9 : Cond.classLink RX1 9 RX3 ∈ wsL_law := zmem 139 (by decide +kernel) rfl
theorem nw_X1_9 : zNw RX1 9 3 := ⟨RX3, TX3, 13, tyX3, rfl, rfl, inlX3, tyX3_ok, cl_X1_9, zmem 56 (by decide +kernel) rfl, zmem 35 (by decide +kernel) rfl, by decide +kernel⟩
theorem cl_X1_18 : Cond.classLink RX1 18 RX0 ∈ wsL_law := zmem 141 (by decide +kernel) rfl
theorem nw_X1_18 : zNw RX1 18 0 := ⟨RX0, TX0, 3, tyX0, rfl, rfl, inlX0, tyX0_ok, cl_X1_18, zmem 142 (by decide +kernel) rfl, zmem 38 (by decide +kernel) rfl, by decide +kernel⟩
theorem cl_X8_30 : Cond.classLink RX8 30 RX6 ∈ wsL_law := zmem 190 (by decide +kernel) rfl
theorem nw_X8_30 : zNw RX8 30 6 := ⟨RX6, TX6, 1, tyX6, rfl, rfl, inlX6, tyX6_ok, cl_X8_30, zmem 191 (by decide +kernel) rfl, zmem 39 (by decide +kernel) rfl, by decide +kernel⟩
theorem cl_X8_37 : Cond.classLink RX8 37 RX4 ∈ wsL_law := zmem 200 (by decide +kernel) rfl
theorem nw_X8_37 : zNw RX8 37 4 := ⟨RX4, TX4, 4, tyX4, rfl, rfl, inlX4, tyX4_ok, cl_X8_37, zmem 201 (by decide +kernel) rfl, zmem 40 (by decide +kernel) rfl, by decide +kernel⟩
theorem cl_X4_9 : Cond.classLink RX4 9 RX6 ∈ wsL_law := zmem 206 (by decide +kernel) rfl
theorem nw_X4_9 : zNw RX4 9 6 := ⟨RX6, TX6, 1, tyX6, rfl, rfl, inlX6, tyX6_ok, cl_X4_9, zmem 191 (by decide +kernel) rfl, zmem 39 (by decide +kernel) rfl, by decide +kernel⟩
theorem cl_X8_44 : Cond.classLink RX8 44 RX7 ∈ wsL_law := zmem 221 (by decide +kernel) rfl
theorem nw_X8_44 : zNw RX8 44 7 := ⟨RX7, TX7, 2, tyX7, rfl, rfl, inlX7, tyX7_ok, cl_X8_44, zmem 222 (by decide +kernel) rfl, zmem 41 (by decide +kernel) rfl, by decide +kernel⟩
theorem cl_X8_51 : Cond.classLink RX8 51 RX2 ∈ wsL_law := zmem 235 (by decide +kernel) rfl
theorem nw_X8_51 : zNw RX8 51 2 := ⟨RX2, TX2, 2, tyX2, rfl, rfl, inlX2, tyX2_ok, cl_X8_51, zmem 236 (by decide +kernel) rfl, zmem 42 (by decide +kernel) rfl, by decide +kernel⟩
theorem cl_L_10 : Cond.classLink RL 10 RX9 ∈ wsL_law := zmem 669 (by decide +kernel) rfl
theorem nw_L_10 : zNw RL 10 9 := ⟨RX9, TX9, 24, tyX9, rfl, rfl, inlX9, tyX9_ok, cl_L_10, zmem 670 (by decide +kernel) rfl, zmem 43 (by decide +kernel) rfl, by decide +kernel⟩
theorem cn_J6_265 : Cond.constant RJ6 265 (1431655765) ∈ wsL_law := zmem 293 (by decide +kernel) rfl
theorem cn_J6_266 : Cond.constant RJ6 266 (858993459) ∈ wsL_law := zmem 294 (by decide +kernel) rfl
theorem cn_J6_267 : Cond.constant RJ6 267 (252645135) ∈ wsL_law := zmem 295 (by decide +kernel) rfl
theorem cn_X6_32 : Cond.constant RX6 32 (1000000000) ∈ wsL_law := zmem 484 (by decide +kernel) rfl
theorem cn_X4_46 : Cond.constant RX4 46 (1000000000) ∈ wsL_law := zmem 505 (by decide +kernel) rfl
theorem cn_X1_74 : Cond.constant RX1 74 (65537) ∈ wsL_law := zmem 647 (by decide +kernel) rfl
theorem cn_X9_137 : Cond.constant RX9 137 (1000000) ∈ wsL_law := zmem 870 (by decide +kernel) rfl
theorem cn_X9_154 : Cond.constant RX9 154 (65537) ∈ wsL_law := zmem 921 (by decide +kernel) rfl
theorem cn_X8_240 : Cond.constantLong RX8 240 (-1000000000000000002) ∈ wsL_law := zmem 629 (by decide +kernel) rfl
theorem cn_X8_250 : Cond.constantLong RX8 250 (10) ∈ wsL_law := zmem 636 (by decide +kernel) rfl
theorem cn_X8_252 : Cond.constantLong RX8 252 (2) ∈ wsL_law := zmem 637 (by decide +kernel) rfl
theorem cn_X8_254 : Cond.constantLong RX8 254 (5) ∈ wsL_law := zmem 638 (by decide +kernel) rfl
theorem cn_X9_150 : Cond.constantLong RX9 150 (-1000000000000000002) ∈ wsL_law := zmem 915 (by decide +kernel) rfl
theorem cn_X9_152 : Cond.constantLong RX9 152 (10) ∈ wsL_law := zmem 916 (by decide +kernel) rfl
theorem mt_X0_init : zMt yX0_init mX0_init 0 := ⟨zmem 145 (by decide +kernel) rfl, zmem 38 (by decide +kernel) rfl, by decide +kernel, by decide +kernel⟩
theorem im_X0_init : Cond.instanceMethod yX0_init ∈ wsL_law := zmem 144 (by decide +kernel) rfl
theorem mt_X0_become : zMt yX0_become mX0_become 3 := ⟨zmem 397 (by decide +kernel) rfl, zmem 38 (by decide +kernel) rfl, by decide +kernel, by decide +kernel⟩
theorem im_X0_become : Cond.instanceMethod yX0_become ∈ wsL_law := zmem 395 (by decide +kernel) rfl
theorem mv_X0_become : zMv yX0_become := ⟨im_X0_become, zmem 396 (by decide +kernel) rfl⟩
theorem mt_X1_init : zMt yX1_init mX1_init 0 := ⟨zmem 137 (by decide +kernel) rfl, zmem 37 (by decide +kernel) rfl, by decide +kernel, by decide +kernel⟩
theorem im_X1_init : Cond.instanceMethod yX1_init ∈ wsL_law := zmem 136 (by decide +kernel) rfl
theorem mt_X1_run : zMt yX1_run mX1_run 2 := ⟨zmem 372 (by decide +kernel) rfl, zmem 37 (by decide +kernel) rfl, by decide +kernel, by decide +kernel⟩
theorem im_X1_run : Cond.instanceMethod yX1_run ∈ wsL_law := zmem 370 (by decide +kernel) rfl
theorem mv_X1_run : zMv yX1_run := ⟨im_X1_run, zmem 371 (by decide +kernel) rfl⟩
theorem mt_X1_begin : zMt yX1_begin mX1_begin 1 := ⟨zmem 376 (by decide +kernel) rfl, zmem 37 (by decide +kernel) rfl, by decide +kernel, by decide +kernel⟩
theorem im_X1_begin : Cond.instanceMethod yX1_begin ∈ wsL_law := zmem 375 (by decide +kernel) rfl
theorem mv_X1_begin : zMv yX1_begin := ⟨im_X1_begin, zmem 1 (by decide +kernel) rfl⟩
theorem mt_X1_noteDown : zMt yX1_noteDown mX1_noteDown 0 := ⟨zmem 438 (by decide +kernel) rfl, zmem 37 (by decide +kernel) rfl, by decide +kernel, by decide +kernel⟩
theorem im_X1_noteDown : Cond.instanceMethod yX1_noteDown ∈ wsL_law := zmem 437 (by decide +kernel) rfl
theorem mv_X1_noteDown : zMv yX1_noteDown := ⟨im_X1_noteDown, zmem 7 (by decide +kernel) rfl⟩
theorem mt_X1_runYear : zMt yX1_runYear mX1_runYear 3 := ⟨zmem 646 (by decide +kernel) rfl, zmem 37 (by decide +kernel) rfl, by decide +kernel, by decide +kernel⟩
theorem im_X1_runYear : Cond.instanceMethod yX1_runYear ∈ wsL_law := zmem 644 (by decide +kernel) rfl
theorem mv_X1_runYear : zMv yX1_runYear := ⟨im_X1_runYear, zmem 645 (by decide +kernel) rfl⟩
theorem mt_X1_draw : zMt yX1_draw mX1_draw 2 := ⟨zmem 651 (by decide +kernel) rfl, zmem 37 (by decide +kernel) rfl, by decide +kernel, by decide +kernel⟩
theorem im_X1_draw : Cond.instanceMethod yX1_draw ∈ wsL_law := zmem 650 (by decide +kernel) rfl
theorem mv_X1_draw : zMv yX1_draw := ⟨im_X1_draw, zmem 15 (by decide +kernel) rfl⟩
theorem mt_X2_init : zMt yX2_init mX2_init 0 := ⟨zmem 239 (by decide +kernel) rfl, zmem 42 (by decide +kernel) rfl, by decide +kernel, by decide +kernel⟩
theorem im_X2_init : Cond.instanceMethod yX2_init ∈ wsL_law := zmem 238 (by decide +kernel) rfl
theorem mt_X2_solve : zMt yX2_solve mX2_solve 1 := ⟨zmem 607 (by decide +kernel) rfl, zmem 42 (by decide +kernel) rfl, by decide +kernel, by decide +kernel⟩
theorem im_X2_solve : Cond.instanceMethod yX2_solve ∈ wsL_law := zmem 605 (by decide +kernel) rfl
theorem mv_X2_solve : zMv yX2_solve := ⟨im_X2_solve, zmem 606 (by decide +kernel) rfl⟩
theorem mt_X2_settle : zMt yX2_settle mX2_settle 3 := ⟨zmem 611 (by decide +kernel) rfl, zmem 42 (by decide +kernel) rfl, by decide +kernel, by decide +kernel⟩
theorem im_X2_settle : Cond.instanceMethod yX2_settle ∈ wsL_law := zmem 610 (by decide +kernel) rfl
theorem mv_X2_settle : zMv yX2_settle := ⟨im_X2_settle, zmem 12 (by decide +kernel) rfl⟩
theorem mt_X2_leastSettled : zMt yX2_leastSettled mX2_leastSettled 3 := ⟨zmem 615 (by decide +kernel) rfl, zmem 42 (by decide +kernel) rfl, by decide +kernel, by decide +kernel⟩
theorem im_X2_leastSettled : Cond.instanceMethod yX2_leastSettled ∈ wsL_law := zmem 614 (by decide +kernel) rfl
theorem mv_X2_leastSettled : zMv yX2_leastSettled := ⟨im_X2_leastSettled, zmem 13 (by decide +kernel) rfl⟩
theorem mt_X2_areAllWon : zMt yX2_areAllWon mX2_areAllWon 2 := ⟨zmem 620 (by decide +kernel) rfl, zmem 42 (by decide +kernel) rfl, by decide +kernel, by decide +kernel⟩
theorem im_X2_areAllWon : Cond.instanceMethod yX2_areAllWon ∈ wsL_law := zmem 619 (by decide +kernel) rfl
theorem mv_X2_areAllWon : zMv yX2_areAllWon := ⟨im_X2_areAllWon, zmem 14 (by decide +kernel) rfl⟩
theorem mt_X2_firstMove : zMt yX2_firstMove mX2_firstMove 2 := ⟨zmem 624 (by decide +kernel) rfl, zmem 42 (by decide +kernel) rfl, by decide +kernel, by decide +kernel⟩
theorem im_X2_firstMove : Cond.instanceMethod yX2_firstMove ∈ wsL_law := zmem 622 (by decide +kernel) rfl
theorem mv_X2_firstMove : zMv yX2_firstMove := ⟨im_X2_firstMove, zmem 623 (by decide +kernel) rfl⟩
theorem mt_X3_init : zMt yX3_init mX3_init 0 := ⟨zmem 59 (by decide +kernel) rfl, zmem 35 (by decide +kernel) rfl, by decide +kernel, by decide +kernel⟩
theorem im_X3_init : Cond.instanceMethod yX3_init ∈ wsL_law := zmem 58 (by decide +kernel) rfl
theorem mt_X3_become : zMt yX3_become mX3_become 1 := ⟨zmem 380 (by decide +kernel) rfl, zmem 35 (by decide +kernel) rfl, by decide +kernel, by decide +kernel⟩
theorem im_X3_become : Cond.instanceMethod yX3_become ∈ wsL_law := zmem 378 (by decide +kernel) rfl
theorem mv_X3_become : zMv yX3_become := ⟨im_X3_become, zmem 379 (by decide +kernel) rfl⟩
theorem mt_X3_isThere : zMt yX3_isThere mX3_isThere 1 := ⟨zmem 409 (by decide +kernel) rfl, zmem 35 (by decide +kernel) rfl, by decide +kernel, by decide +kernel⟩
theorem im_X3_isThere : Cond.instanceMethod yX3_isThere ∈ wsL_law := zmem 407 (by decide +kernel) rfl
theorem mv_X3_isThere : zMv yX3_isThere := ⟨im_X3_isThere, zmem 408 (by decide +kernel) rfl⟩
theorem mt_X3_griefsThere : zMt yX3_griefsThere mX3_griefsThere 0 := ⟨zmem 289 (by decide +kernel) rfl, zmem 35 (by decide +kernel) rfl, by decide +kernel, by decide +kernel⟩
theorem im_X3_griefsThere : Cond.instanceMethod yX3_griefsThere ∈ wsL_law := zmem 287 (by decide +kernel) rfl
theorem mv_X3_griefsThere : zMv yX3_griefsThere := ⟨im_X3_griefsThere, zmem 288 (by decide +kernel) rfl⟩
theorem mt_X3_griefPart : zMt yX3_griefPart mX3_griefPart 2 := ⟨zmem 457 (by decide +kernel) rfl, zmem 35 (by decide +kernel) rfl, by decide +kernel, by decide +kernel⟩
theorem im_X3_griefPart : Cond.instanceMethod yX3_griefPart ∈ wsL_law := zmem 455 (by decide +kernel) rfl
theorem mv_X3_griefPart : zMv yX3_griefPart := ⟨im_X3_griefPart, zmem 456 (by decide +kernel) rfl⟩
theorem mt_X3_holdAsNumber : zMt yX3_holdAsNumber mX3_holdAsNumber 1 := ⟨zmem 306 (by decide +kernel) rfl, zmem 35 (by decide +kernel) rfl, by decide +kernel, by decide +kernel⟩
theorem im_X3_holdAsNumber : Cond.instanceMethod yX3_holdAsNumber ∈ wsL_law := zmem 304 (by decide +kernel) rfl
theorem mv_X3_holdAsNumber : zMv yX3_holdAsNumber := ⟨im_X3_holdAsNumber, zmem 305 (by decide +kernel) rfl⟩
theorem mt_X3_coatAsNumber : zMt yX3_coatAsNumber mX3_coatAsNumber 1 := ⟨zmem 321 (by decide +kernel) rfl, zmem 35 (by decide +kernel) rfl, by decide +kernel, by decide +kernel⟩
theorem im_X3_coatAsNumber : Cond.instanceMethod yX3_coatAsNumber ∈ wsL_law := zmem 319 (by decide +kernel) rfl
theorem mv_X3_coatAsNumber : zMv yX3_coatAsNumber := ⟨im_X3_coatAsNumber, zmem 320 (by decide +kernel) rfl⟩
theorem mt_X3_countMoves : zMt yX3_countMoves mX3_countMoves 0 := ⟨zmem 332 (by decide +kernel) rfl, zmem 35 (by decide +kernel) rfl, by decide +kernel, by decide +kernel⟩
theorem im_X3_countMoves : Cond.instanceMethod yX3_countMoves ∈ wsL_law := zmem 330 (by decide +kernel) rfl
theorem mv_X3_countMoves : zMv yX3_countMoves := ⟨im_X3_countMoves, zmem 331 (by decide +kernel) rfl⟩
theorem mt_X3_holdsThatFit : zMt yX3_holdsThatFit mX3_holdsThatFit 1 := ⟨zmem 469 (by decide +kernel) rfl, zmem 35 (by decide +kernel) rfl, by decide +kernel, by decide +kernel⟩
theorem im_X3_holdsThatFit : Cond.instanceMethod yX3_holdsThatFit ∈ wsL_law := zmem 467 (by decide +kernel) rfl
theorem mv_X3_holdsThatFit : zMv yX3_holdsThatFit := ⟨im_X3_holdsThatFit, zmem 468 (by decide +kernel) rfl⟩
theorem mt_X3_attempt : zMt yX3_attempt mX3_attempt 1 := ⟨zmem 401 (by decide +kernel) rfl, zmem 35 (by decide +kernel) rfl, by decide +kernel, by decide +kernel⟩
theorem im_X3_attempt : Cond.instanceMethod yX3_attempt ∈ wsL_law := zmem 399 (by decide +kernel) rfl
theorem mv_X3_attempt : zMv yX3_attempt := ⟨im_X3_attempt, zmem 400 (by decide +kernel) rfl⟩
theorem mt_X3_takeHold : zMt yX3_takeHold mX3_takeHold 2 := ⟨zmem 405 (by decide +kernel) rfl, zmem 35 (by decide +kernel) rfl, by decide +kernel, by decide +kernel⟩
theorem im_X3_takeHold : Cond.instanceMethod yX3_takeHold ∈ wsL_law := zmem 404 (by decide +kernel) rfl
theorem mv_X3_takeHold : zMv yX3_takeHold := ⟨im_X3_takeHold, zmem 2 (by decide +kernel) rfl⟩
theorem mt_X3_join : zMt yX3_join mX3_join 2 := ⟨zmem 421 (by decide +kernel) rfl, zmem 35 (by decide +kernel) rfl, by decide +kernel, by decide +kernel⟩
theorem im_X3_join : Cond.instanceMethod yX3_join ∈ wsL_law := zmem 420 (by decide +kernel) rfl
theorem mv_X3_join : zMv yX3_join := ⟨im_X3_join, zmem 3 (by decide +kernel) rfl⟩
theorem mt_X3_sitBy : zMt yX3_sitBy mX3_sitBy 1 := ⟨zmem 426 (by decide +kernel) rfl, zmem 35 (by decide +kernel) rfl, by decide +kernel, by decide +kernel⟩
theorem im_X3_sitBy : Cond.instanceMethod yX3_sitBy ∈ wsL_law := zmem 425 (by decide +kernel) rfl
theorem mv_X3_sitBy : zMv yX3_sitBy := ⟨im_X3_sitBy, zmem 4 (by decide +kernel) rfl⟩
theorem mt_X3_rest : zMt yX3_rest mX3_rest 0 := ⟨zmem 430 (by decide +kernel) rfl, zmem 35 (by decide +kernel) rfl, by decide +kernel, by decide +kernel⟩
theorem im_X3_rest : Cond.instanceMethod yX3_rest ∈ wsL_law := zmem 429 (by decide +kernel) rfl
theorem mv_X3_rest : zMv yX3_rest := ⟨im_X3_rest, zmem 5 (by decide +kernel) rfl⟩
theorem mt_X3_passHour : zMt yX3_passHour mX3_passHour 0 := ⟨zmem 434 (by decide +kernel) rfl, zmem 35 (by decide +kernel) rfl, by decide +kernel, by decide +kernel⟩
theorem im_X3_passHour : Cond.instanceMethod yX3_passHour ∈ wsL_law := zmem 433 (by decide +kernel) rfl
theorem mv_X3_passHour : zMv yX3_passHour := ⟨im_X3_passHour, zmem 6 (by decide +kernel) rfl⟩
theorem mt_X3_strengthOf : zMt yX3_strengthOf mX3_strengthOf 1 := ⟨zmem 514 (by decide +kernel) rfl, zmem 35 (by decide +kernel) rfl, by decide +kernel, by decide +kernel⟩
theorem im_X3_strengthOf : Cond.instanceMethod yX3_strengthOf ∈ wsL_law := zmem 512 (by decide +kernel) rfl
theorem mv_X3_strengthOf : zMv yX3_strengthOf := ⟨im_X3_strengthOf, zmem 513 (by decide +kernel) rfl⟩
theorem mt_X3_marksOf : zMt yX3_marksOf mX3_marksOf 1 := ⟨zmem 537 (by decide +kernel) rfl, zmem 35 (by decide +kernel) rfl, by decide +kernel, by decide +kernel⟩
theorem im_X3_marksOf : Cond.instanceMethod yX3_marksOf ∈ wsL_law := zmem 535 (by decide +kernel) rfl
theorem mv_X3_marksOf : zMv yX3_marksOf := ⟨im_X3_marksOf, zmem 536 (by decide +kernel) rfl⟩
theorem mt_X3_leastSetWith : zMt yX3_leastSetWith mX3_leastSetWith 1 := ⟨zmem 532 (by decide +kernel) rfl, zmem 35 (by decide +kernel) rfl, by decide +kernel, by decide +kernel⟩
theorem im_X3_leastSetWith : Cond.instanceMethod yX3_leastSetWith ∈ wsL_law := zmem 530 (by decide +kernel) rfl
theorem mv_X3_leastSetWith : zMv yX3_leastSetWith := ⟨im_X3_leastSetWith, zmem 531 (by decide +kernel) rfl⟩
theorem mt_X3_hoursOf : zMt yX3_hoursOf mX3_hoursOf 1 := ⟨zmem 554 (by decide +kernel) rfl, zmem 35 (by decide +kernel) rfl, by decide +kernel, by decide +kernel⟩
theorem im_X3_hoursOf : Cond.instanceMethod yX3_hoursOf ∈ wsL_law := zmem 552 (by decide +kernel) rfl
theorem mv_X3_hoursOf : zMv yX3_hoursOf := ⟨im_X3_hoursOf, zmem 553 (by decide +kernel) rfl⟩
theorem mt_X3_fewestCoatsFor : zMt yX3_fewestCoatsFor mX3_fewestCoatsFor 1 := ⟨zmem 550 (by decide +kernel) rfl, zmem 35 (by decide +kernel) rfl, by decide +kernel, by decide +kernel⟩
theorem im_X3_fewestCoatsFor : Cond.instanceMethod yX3_fewestCoatsFor ∈ wsL_law := zmem 548 (by decide +kernel) rfl
theorem mv_X3_fewestCoatsFor : zMv yX3_fewestCoatsFor := ⟨im_X3_fewestCoatsFor, zmem 549 (by decide +kernel) rfl⟩
theorem mt_X3_addSight : zMt yX3_addSight mX3_addSight 2 := ⟨zmem 563 (by decide +kernel) rfl, zmem 35 (by decide +kernel) rfl, by decide +kernel, by decide +kernel⟩
theorem im_X3_addSight : Cond.instanceMethod yX3_addSight ∈ wsL_law := zmem 561 (by decide +kernel) rfl
theorem mv_X3_addSight : zMv yX3_addSight := ⟨im_X3_addSight, zmem 562 (by decide +kernel) rfl⟩
theorem mt_X3_isAsSeen : zMt yX3_isAsSeen mX3_isAsSeen 1 := ⟨zmem 579 (by decide +kernel) rfl, zmem 35 (by decide +kernel) rfl, by decide +kernel, by decide +kernel⟩
theorem im_X3_isAsSeen : Cond.instanceMethod yX3_isAsSeen ∈ wsL_law := zmem 577 (by decide +kernel) rfl
theorem mv_X3_isAsSeen : zMv yX3_isAsSeen := ⟨im_X3_isAsSeen, zmem 578 (by decide +kernel) rfl⟩
theorem mt_X4_init : zMt yX4_init mX4_init 0 := ⟨zmem 204 (by decide +kernel) rfl, zmem 40 (by decide +kernel) rfl, by decide +kernel, by decide +kernel⟩
theorem im_X4_init : Cond.instanceMethod yX4_init ∈ wsL_law := zmem 203 (by decide +kernel) rfl
theorem mt_X4_work : zMt yX4_work mX4_work 1 := ⟨zmem 497 (by decide +kernel) rfl, zmem 40 (by decide +kernel) rfl, by decide +kernel, by decide +kernel⟩
theorem im_X4_work : Cond.instanceMethod yX4_work ∈ wsL_law := zmem 495 (by decide +kernel) rfl
theorem mv_X4_work : zMv yX4_work := ⟨im_X4_work, zmem 496 (by decide +kernel) rfl⟩
theorem mt_X4_leastOf : zMt yX4_leastOf mX4_leastOf 2 := ⟨zmem 504 (by decide +kernel) rfl, zmem 40 (by decide +kernel) rfl, by decide +kernel, by decide +kernel⟩
theorem im_X4_leastOf : Cond.instanceMethod yX4_leastOf ∈ wsL_law := zmem 503 (by decide +kernel) rfl
theorem mv_X4_leastOf : zMv yX4_leastOf := ⟨im_X4_leastOf, zmem 10 (by decide +kernel) rfl⟩
theorem mt_X4_borneIfFirst : zMt yX4_borneIfFirst mX4_borneIfFirst 3 := ⟨zmem 510 (by decide +kernel) rfl, zmem 40 (by decide +kernel) rfl, by decide +kernel, by decide +kernel⟩
theorem im_X4_borneIfFirst : Cond.instanceMethod yX4_borneIfFirst ∈ wsL_law := zmem 509 (by decide +kernel) rfl
theorem mv_X4_borneIfFirst : zMv yX4_borneIfFirst := ⟨im_X4_borneIfFirst, zmem 11 (by decide +kernel) rfl⟩
theorem mt_X4_leastBorne : zMt yX4_leastBorne mX4_leastBorne 0 := ⟨zmem 520 (by decide +kernel) rfl, zmem 40 (by decide +kernel) rfl, by decide +kernel, by decide +kernel⟩
theorem im_X4_leastBorne : Cond.instanceMethod yX4_leastBorne ∈ wsL_law := zmem 518 (by decide +kernel) rfl
theorem mv_X4_leastBorne : zMv yX4_leastBorne := ⟨im_X4_leastBorne, zmem 519 (by decide +kernel) rfl⟩
theorem mt_X4_firstTaken : zMt yX4_firstTaken mX4_firstTaken 1 := ⟨zmem 524 (by decide +kernel) rfl, zmem 40 (by decide +kernel) rfl, by decide +kernel, by decide +kernel⟩
theorem im_X4_firstTaken : Cond.instanceMethod yX4_firstTaken ∈ wsL_law := zmem 522 (by decide +kernel) rfl
theorem mv_X4_firstTaken : zMv yX4_firstTaken := ⟨im_X4_firstTaken, zmem 523 (by decide +kernel) rfl⟩
theorem mt_X5_init : zMt yX5_init mX5_init 0 := ⟨zmem 122 (by decide +kernel) rfl, zmem 36 (by decide +kernel) rfl, by decide +kernel, by decide +kernel⟩
theorem im_X5_init : Cond.instanceMethod yX5_init ∈ wsL_law := zmem 121 (by decide +kernel) rfl
theorem mt_X5_write : zMt yX5_write mX5_write 1 := ⟨zmem 341 (by decide +kernel) rfl, zmem 36 (by decide +kernel) rfl, by decide +kernel, by decide +kernel⟩
theorem im_X5_write : Cond.instanceMethod yX5_write ∈ wsL_law := zmem 339 (by decide +kernel) rfl
theorem mv_X5_write : zMv yX5_write := ⟨im_X5_write, zmem 340 (by decide +kernel) rfl⟩
theorem mt_X5_findFault : zMt yX5_findFault mX5_findFault 0 := ⟨zmem 353 (by decide +kernel) rfl, zmem 36 (by decide +kernel) rfl, by decide +kernel, by decide +kernel⟩
theorem im_X5_findFault : Cond.instanceMethod yX5_findFault ∈ wsL_law := zmem 351 (by decide +kernel) rfl
theorem mv_X5_findFault : zMv yX5_findFault := ⟨im_X5_findFault, zmem 352 (by decide +kernel) rfl⟩
theorem mt_X5_awaitedAfter : zMt yX5_awaitedAfter mX5_awaitedAfter 2 := ⟨zmem 361 (by decide +kernel) rfl, zmem 36 (by decide +kernel) rfl, by decide +kernel, by decide +kernel⟩
theorem st_X5_awaitedAfter : Cond.static yX5_awaitedAfter ∈ wsL_law := zmem 360 (by decide +kernel) rfl
theorem mt_X5_read : zMt yX5_read mX5_read 2 := ⟨zmem 393 (by decide +kernel) rfl, zmem 36 (by decide +kernel) rfl, by decide +kernel, by decide +kernel⟩
theorem im_X5_read : Cond.instanceMethod yX5_read ∈ wsL_law := zmem 391 (by decide +kernel) rfl
theorem mv_X5_read : zMv yX5_read := ⟨im_X5_read, zmem 392 (by decide +kernel) rfl⟩
theorem mt_X5_signAt : zMt yX5_signAt mX5_signAt 1 := ⟨zmem 357 (by decide +kernel) rfl, zmem 36 (by decide +kernel) rfl, by decide +kernel, by decide +kernel⟩
theorem im_X5_signAt : Cond.instanceMethod yX5_signAt ∈ wsL_law := zmem 356 (by decide +kernel) rfl
theorem mv_X5_signAt : zMv yX5_signAt := ⟨im_X5_signAt, zmem 0 (by decide +kernel) rfl⟩
theorem mt_X5_isLetter : zMt yX5_isLetter mX5_isLetter 1 := ⟨zmem 364 (by decide +kernel) rfl, zmem 36 (by decide +kernel) rfl, by decide +kernel, by decide +kernel⟩
theorem st_X5_isLetter : Cond.static yX5_isLetter ∈ wsL_law := zmem 363 (by decide +kernel) rfl
theorem mt_X6_init : zMt yX6_init mX6_init 0 := ⟨zmem 194 (by decide +kernel) rfl, zmem 39 (by decide +kernel) rfl, by decide +kernel, by decide +kernel⟩
theorem im_X6_init : Cond.instanceMethod yX6_init ∈ wsL_law := zmem 193 (by decide +kernel) rfl
theorem mt_X6_priceOf : zMt yX6_priceOf mX6_priceOf 2 := ⟨zmem 477 (by decide +kernel) rfl, zmem 39 (by decide +kernel) rfl, by decide +kernel, by decide +kernel⟩
theorem im_X6_priceOf : Cond.instanceMethod yX6_priceOf ∈ wsL_law := zmem 475 (by decide +kernel) rfl
theorem mv_X6_priceOf : zMv yX6_priceOf := ⟨im_X6_priceOf, zmem 476 (by decide +kernel) rfl⟩
theorem mt_X6_cheapest : zMt yX6_cheapest mX6_cheapest 3 := ⟨zmem 483 (by decide +kernel) rfl, zmem 39 (by decide +kernel) rfl, by decide +kernel, by decide +kernel⟩
theorem im_X6_cheapest : Cond.instanceMethod yX6_cheapest ∈ wsL_law := zmem 482 (by decide +kernel) rfl
theorem mv_X6_cheapest : zMv yX6_cheapest := ⟨im_X6_cheapest, zmem 9 (by decide +kernel) rfl⟩
theorem mt_X7_init : zMt yX7_init mX7_init 0 := ⟨zmem 225 (by decide +kernel) rfl, zmem 41 (by decide +kernel) rfl, by decide +kernel, by decide +kernel⟩
theorem im_X7_init : Cond.instanceMethod yX7_init ∈ wsL_law := zmem 224 (by decide +kernel) rfl
theorem mt_X7_find : zMt yX7_find mX7_find 1 := ⟨zmem 575 (by decide +kernel) rfl, zmem 41 (by decide +kernel) rfl, by decide +kernel, by decide +kernel⟩
theorem im_X7_find : Cond.instanceMethod yX7_find ∈ wsL_law := zmem 573 (by decide +kernel) rfl
theorem mv_X7_find : zMv yX7_find := ⟨im_X7_find, zmem 574 (by decide +kernel) rfl⟩
theorem mt_X7_shapeAt : zMt yX7_shapeAt mX7_shapeAt 1 := ⟨zmem 583 (by decide +kernel) rfl, zmem 41 (by decide +kernel) rfl, by decide +kernel, by decide +kernel⟩
theorem im_X7_shapeAt : Cond.instanceMethod yX7_shapeAt ∈ wsL_law := zmem 581 (by decide +kernel) rfl
theorem mv_X7_shapeAt : zMv yX7_shapeAt := ⟨im_X7_shapeAt, zmem 582 (by decide +kernel) rfl⟩
theorem mt_X7_holdToTry : zMt yX7_holdToTry mX7_holdToTry 1 := ⟨zmem 592 (by decide +kernel) rfl, zmem 41 (by decide +kernel) rfl, by decide +kernel, by decide +kernel⟩
theorem im_X7_holdToTry : Cond.instanceMethod yX7_holdToTry ∈ wsL_law := zmem 590 (by decide +kernel) rfl
theorem mv_X7_holdToTry : zMv yX7_holdToTry := ⟨im_X7_holdToTry, zmem 591 (by decide +kernel) rfl⟩
theorem mt_X7_mostLeftBy : zMt yX7_mostLeftBy mX7_mostLeftBy 1 := ⟨zmem 596 (by decide +kernel) rfl, zmem 41 (by decide +kernel) rfl, by decide +kernel, by decide +kernel⟩
theorem im_X7_mostLeftBy : Cond.instanceMethod yX7_mostLeftBy ∈ wsL_law := zmem 594 (by decide +kernel) rfl
theorem mv_X7_mostLeftBy : zMv yX7_mostLeftBy := ⟨im_X7_mostLeftBy, zmem 595 (by decide +kernel) rfl⟩
theorem mt_X8_init : zMt yX8_init mX8_init 0 := ⟨zmem 51 (by decide +kernel) rfl, zmem 34 (by decide +kernel) rfl, by decide +kernel, by decide +kernel⟩
theorem im_X8_init : Cond.instanceMethod yX8_init ∈ wsL_law := zmem 50 (by decide +kernel) rfl
theorem mt_X8_grief : zMt yX8_grief mX8_grief 3 := ⟨zmem 279 (by decide +kernel) rfl, zmem 34 (by decide +kernel) rfl, by decide +kernel, by decide +kernel⟩
theorem im_X8_grief : Cond.instanceMethod yX8_grief ∈ wsL_law := zmem 277 (by decide +kernel) rfl
theorem mv_X8_grief : zMv yX8_grief := ⟨im_X8_grief, zmem 278 (by decide +kernel) rfl⟩
theorem mt_X8_hold : zMt yX8_hold mX8_hold 4 := ⟨zmem 299 (by decide +kernel) rfl, zmem 34 (by decide +kernel) rfl, by decide +kernel, by decide +kernel⟩
theorem im_X8_hold : Cond.instanceMethod yX8_hold ∈ wsL_law := zmem 297 (by decide +kernel) rfl
theorem mv_X8_hold : zMv yX8_hold := ⟨im_X8_hold, zmem 298 (by decide +kernel) rfl⟩
theorem mt_X8_breath : zMt yX8_breath mX8_breath 1 := ⟨zmem 310 (by decide +kernel) rfl, zmem 34 (by decide +kernel) rfl, by decide +kernel, by decide +kernel⟩
theorem im_X8_breath : Cond.instanceMethod yX8_breath ∈ wsL_law := zmem 308 (by decide +kernel) rfl
theorem mv_X8_breath : zMv yX8_breath := ⟨im_X8_breath, zmem 309 (by decide +kernel) rfl⟩
theorem mt_X8_coat : zMt yX8_coat mX8_coat 3 := ⟨zmem 314 (by decide +kernel) rfl, zmem 34 (by decide +kernel) rfl, by decide +kernel, by decide +kernel⟩
theorem im_X8_coat : Cond.instanceMethod yX8_coat ∈ wsL_law := zmem 312 (by decide +kernel) rfl
theorem mv_X8_coat : zMv yX8_coat := ⟨im_X8_coat, zmem 313 (by decide +kernel) rfl⟩
theorem mt_X8_move : zMt yX8_move mX8_move 3 := ⟨zmem 325 (by decide +kernel) rfl, zmem 34 (by decide +kernel) rfl, by decide +kernel, by decide +kernel⟩
theorem im_X8_move : Cond.instanceMethod yX8_move ∈ wsL_law := zmem 323 (by decide +kernel) rfl
theorem mv_X8_move : zMv yX8_move := ⟨im_X8_move, zmem 324 (by decide +kernel) rfl⟩
theorem mt_X8_say : zMt yX8_say mX8_say 1 := ⟨zmem 337 (by decide +kernel) rfl, zmem 34 (by decide +kernel) rfl, by decide +kernel, by decide +kernel⟩
theorem im_X8_say : Cond.instanceMethod yX8_say ∈ wsL_law := zmem 335 (by decide +kernel) rfl
theorem mv_X8_say : zMv yX8_say := ⟨im_X8_say, zmem 336 (by decide +kernel) rfl⟩
theorem mt_X8_wipe : zMt yX8_wipe mX8_wipe 0 := ⟨zmem 345 (by decide +kernel) rfl, zmem 34 (by decide +kernel) rfl, by decide +kernel, by decide +kernel⟩
theorem im_X8_wipe : Cond.instanceMethod yX8_wipe ∈ wsL_law := zmem 343 (by decide +kernel) rfl
theorem mv_X8_wipe : zMv yX8_wipe := ⟨im_X8_wipe, zmem 344 (by decide +kernel) rfl⟩
theorem mt_X8_fault : zMt yX8_fault mX8_fault 0 := ⟨zmem 349 (by decide +kernel) rfl, zmem 34 (by decide +kernel) rfl, by decide +kernel, by decide +kernel⟩
theorem im_X8_fault : Cond.instanceMethod yX8_fault ∈ wsL_law := zmem 347 (by decide +kernel) rfl
theorem mv_X8_fault : zMv yX8_fault := ⟨im_X8_fault, zmem 348 (by decide +kernel) rfl⟩
theorem mt_X8_judge : zMt yX8_judge mX8_judge 1 := ⟨zmem 368 (by decide +kernel) rfl, zmem 34 (by decide +kernel) rfl, by decide +kernel, by decide +kernel⟩
theorem im_X8_judge : Cond.instanceMethod yX8_judge ∈ wsL_law := zmem 366 (by decide +kernel) rfl
theorem mv_X8_judge : zMv yX8_judge := ⟨im_X8_judge, zmem 367 (by decide +kernel) rfl⟩
theorem mt_X8_done : zMt yX8_done mX8_done 0 := ⟨zmem 443 (by decide +kernel) rfl, zmem 34 (by decide +kernel) rfl, by decide +kernel, by decide +kernel⟩
theorem im_X8_done : Cond.instanceMethod yX8_done ∈ wsL_law := zmem 441 (by decide +kernel) rfl
theorem mv_X8_done : zMv yX8_done := ⟨im_X8_done, zmem 442 (by decide +kernel) rfl⟩
theorem mt_X8_behind : zMt yX8_behind mX8_behind 2 := ⟨zmem 452 (by decide +kernel) rfl, zmem 34 (by decide +kernel) rfl, by decide +kernel, by decide +kernel⟩
theorem im_X8_behind : Cond.instanceMethod yX8_behind ∈ wsL_law := zmem 450 (by decide +kernel) rfl
theorem mv_X8_behind : zMv yX8_behind := ⟨im_X8_behind, zmem 451 (by decide +kernel) rfl⟩
theorem mt_X8_then : zMt yX8_then mX8_then 1 := ⟨zmem 461 (by decide +kernel) rfl, zmem 34 (by decide +kernel) rfl, by decide +kernel, by decide +kernel⟩
theorem im_X8_then : Cond.instanceMethod yX8_then ∈ wsL_law := zmem 459 (by decide +kernel) rfl
theorem mv_X8_then : zMv yX8_then := ⟨im_X8_then, zmem 460 (by decide +kernel) rfl⟩
theorem mt_X8_fitting : zMt yX8_fitting mX8_fitting 1 := ⟨zmem 465 (by decide +kernel) rfl, zmem 34 (by decide +kernel) rfl, by decide +kernel, by decide +kernel⟩
theorem im_X8_fitting : Cond.instanceMethod yX8_fitting ∈ wsL_law := zmem 463 (by decide +kernel) rfl
theorem mv_X8_fitting : zMv yX8_fitting := ⟨im_X8_fitting, zmem 464 (by decide +kernel) rfl⟩
theorem mt_X8_least : zMt yX8_least mX8_least 2 := ⟨zmem 473 (by decide +kernel) rfl, zmem 34 (by decide +kernel) rfl, by decide +kernel, by decide +kernel⟩
theorem im_X8_least : Cond.instanceMethod yX8_least ∈ wsL_law := zmem 471 (by decide +kernel) rfl
theorem mv_X8_least : zMv yX8_least := ⟨im_X8_least, zmem 472 (by decide +kernel) rfl⟩
theorem mt_X8_order : zMt yX8_order mX8_order 1 := ⟨zmem 493 (by decide +kernel) rfl, zmem 34 (by decide +kernel) rfl, by decide +kernel, by decide +kernel⟩
theorem im_X8_order : Cond.instanceMethod yX8_order ∈ wsL_law := zmem 491 (by decide +kernel) rfl
theorem mv_X8_order : zMv yX8_order := ⟨im_X8_order, zmem 492 (by decide +kernel) rfl⟩
theorem mt_X8_make : zMt yX8_make mX8_make 2 := ⟨zmem 528 (by decide +kernel) rfl, zmem 34 (by decide +kernel) rfl, by decide +kernel, by decide +kernel⟩
theorem im_X8_make : Cond.instanceMethod yX8_make ∈ wsL_law := zmem 526 (by decide +kernel) rfl
theorem mv_X8_make : zMv yX8_make := ⟨im_X8_make, zmem 527 (by decide +kernel) rfl⟩
theorem mt_X8_ring : zMt yX8_ring mX8_ring 3 := ⟨zmem 543 (by decide +kernel) rfl, zmem 34 (by decide +kernel) rfl, by decide +kernel, by decide +kernel⟩
theorem im_X8_ring : Cond.instanceMethod yX8_ring ∈ wsL_law := zmem 541 (by decide +kernel) rfl
theorem mv_X8_ring : zMv yX8_ring := ⟨im_X8_ring, zmem 542 (by decide +kernel) rfl⟩
theorem mt_X8_seen : zMt yX8_seen mX8_seen 2 := ⟨zmem 559 (by decide +kernel) rfl, zmem 34 (by decide +kernel) rfl, by decide +kernel, by decide +kernel⟩
theorem im_X8_seen : Cond.instanceMethod yX8_seen ∈ wsL_law := zmem 557 (by decide +kernel) rfl
theorem mv_X8_seen : zMv yX8_seen := ⟨im_X8_seen, zmem 558 (by decide +kernel) rfl⟩
theorem mt_X8_forget : zMt yX8_forget mX8_forget 0 := ⟨zmem 567 (by decide +kernel) rfl, zmem 34 (by decide +kernel) rfl, by decide +kernel, by decide +kernel⟩
theorem im_X8_forget : Cond.instanceMethod yX8_forget ∈ wsL_law := zmem 565 (by decide +kernel) rfl
theorem mv_X8_forget : zMv yX8_forget := ⟨im_X8_forget, zmem 566 (by decide +kernel) rfl⟩
theorem mt_X8_shape : zMt yX8_shape mX8_shape 1 := ⟨zmem 571 (by decide +kernel) rfl, zmem 34 (by decide +kernel) rfl, by decide +kernel, by decide +kernel⟩
theorem im_X8_shape : Cond.instanceMethod yX8_shape ∈ wsL_law := zmem 569 (by decide +kernel) rfl
theorem mv_X8_shape : zMv yX8_shape := ⟨im_X8_shape, zmem 570 (by decide +kernel) rfl⟩
theorem mt_X8_ask : zMt yX8_ask mX8_ask 1 := ⟨zmem 588 (by decide +kernel) rfl, zmem 34 (by decide +kernel) rfl, by decide +kernel, by decide +kernel⟩
theorem im_X8_ask : Cond.instanceMethod yX8_ask ∈ wsL_law := zmem 586 (by decide +kernel) rfl
theorem mv_X8_ask : zMv yX8_ask := ⟨im_X8_ask, zmem 587 (by decide +kernel) rfl⟩
theorem mt_X8_play : zMt yX8_play mX8_play 2 := ⟨zmem 603 (by decide +kernel) rfl, zmem 34 (by decide +kernel) rfl, by decide +kernel, by decide +kernel⟩
theorem im_X8_play : Cond.instanceMethod yX8_play ∈ wsL_law := zmem 601 (by decide +kernel) rfl
theorem mv_X8_play : zMv yX8_play := ⟨im_X8_play, zmem 602 (by decide +kernel) rfl⟩
theorem mt_X8_themselves : zMt yX8_themselves mX8_themselves 4 := ⟨zmem 628 (by decide +kernel) rfl, zmem 34 (by decide +kernel) rfl, by decide +kernel, by decide +kernel⟩
theorem im_X8_themselves : Cond.instanceMethod yX8_themselves ∈ wsL_law := zmem 626 (by decide +kernel) rfl
theorem mv_X8_themselves : zMv yX8_themselves := ⟨im_X8_themselves, zmem 627 (by decide +kernel) rfl⟩
theorem mt_X8_year : zMt yX8_year mX8_year 3 := ⟨zmem 642 (by decide +kernel) rfl, zmem 34 (by decide +kernel) rfl, by decide +kernel, by decide +kernel⟩
theorem im_X8_year : Cond.instanceMethod yX8_year ∈ wsL_law := zmem 640 (by decide +kernel) rfl
theorem mv_X8_year : zMv yX8_year := ⟨im_X8_year, zmem 641 (by decide +kernel) rfl⟩
theorem mt_X8_image : zMt yX8_image mX8_image 1 := ⟨zmem 656 (by decide +kernel) rfl, zmem 34 (by decide +kernel) rfl, by decide +kernel, by decide +kernel⟩
theorem im_X8_image : Cond.instanceMethod yX8_image ∈ wsL_law := zmem 654 (by decide +kernel) rfl
theorem mv_X8_image : zMv yX8_image := ⟨im_X8_image, zmem 655 (by decide +kernel) rfl⟩
theorem mt_X8_restore : zMt yX8_restore mX8_restore 1 := ⟨zmem 660 (by decide +kernel) rfl, zmem 34 (by decide +kernel) rfl, by decide +kernel, by decide +kernel⟩
theorem im_X8_restore : Cond.instanceMethod yX8_restore ∈ wsL_law := zmem 658 (by decide +kernel) rfl
theorem mv_X8_restore : zMv yX8_restore := ⟨im_X8_restore, zmem 659 (by decide +kernel) rfl⟩
theorem mt_X8_told : zMt yX8_told mX8_told 1 := ⟨zmem 664 (by decide +kernel) rfl, zmem 34 (by decide +kernel) rfl, by decide +kernel, by decide +kernel⟩
theorem im_X8_told : Cond.instanceMethod yX8_told ∈ wsL_law := zmem 662 (by decide +kernel) rfl
theorem mv_X8_told : zMv yX8_told := ⟨im_X8_told, zmem 663 (by decide +kernel) rfl⟩
theorem mt_X8_toldOfGrief : zMt yX8_toldOfGrief mX8_toldOfGrief 2 := ⟨zmem 668 (by decide +kernel) rfl, zmem 34 (by decide +kernel) rfl, by decide +kernel, by decide +kernel⟩
theorem im_X8_toldOfGrief : Cond.instanceMethod yX8_toldOfGrief ∈ wsL_law := zmem 667 (by decide +kernel) rfl
theorem mv_X8_toldOfGrief : zMv yX8_toldOfGrief := ⟨im_X8_toldOfGrief, zmem 16 (by decide +kernel) rfl⟩
theorem mt_X8_tryDays : zMt yX8_tryDays mX8_tryDays 0 := ⟨zmem 447 (by decide +kernel) rfl, zmem 34 (by decide +kernel) rfl, by decide +kernel, by decide +kernel⟩
theorem im_X8_tryDays : Cond.instanceMethod yX8_tryDays ∈ wsL_law := zmem 446 (by decide +kernel) rfl
theorem mv_X8_tryDays : zMv yX8_tryDays := ⟨im_X8_tryDays, zmem 8 (by decide +kernel) rfl⟩
theorem mt_X8_isFrom : zMt yX8_isFrom mX8_isFrom 3 := ⟨zmem 282 (by decide +kernel) rfl, zmem 34 (by decide +kernel) rfl, by decide +kernel, by decide +kernel⟩
theorem st_X8_isFrom : Cond.static yX8_isFrom ∈ wsL_law := zmem 281 (by decide +kernel) rfl
theorem mt_X8_isHold : zMt yX8_isHold mX8_isHold 1 := ⟨zmem 302 (by decide +kernel) rfl, zmem 34 (by decide +kernel) rfl, by decide +kernel, by decide +kernel⟩
theorem st_X8_isHold : Cond.static yX8_isHold ∈ wsL_law := zmem 301 (by decide +kernel) rfl
theorem mt_X8_isState : zMt yX8_isState mX8_isState 1 := ⟨zmem 328 (by decide +kernel) rfl, zmem 34 (by decide +kernel) rfl, by decide +kernel, by decide +kernel⟩
theorem st_X8_isState : Cond.static yX8_isState ∈ wsL_law := zmem 327 (by decide +kernel) rfl
theorem mt_X8_isSetOfMarks : zMt yX8_isSetOfMarks mX8_isSetOfMarks 1 := ⟨zmem 285 (by decide +kernel) rfl, zmem 34 (by decide +kernel) rfl, by decide +kernel, by decide +kernel⟩
theorem st_X8_isSetOfMarks : Cond.static yX8_isSetOfMarks ∈ wsL_law := zmem 284 (by decide +kernel) rfl
theorem mt_X8_areHours : zMt yX8_areHours mX8_areHours 2 := ⟨zmem 317 (by decide +kernel) rfl, zmem 34 (by decide +kernel) rfl, by decide +kernel, by decide +kernel⟩
theorem st_X8_areHours : Cond.static yX8_areHours ∈ wsL_law := zmem 316 (by decide +kernel) rfl
theorem mt_X8_isIn : zMt yX8_isIn mX8_isIn 2 := ⟨zmem 487 (by decide +kernel) rfl, zmem 34 (by decide +kernel) rfl, by decide +kernel, by decide +kernel⟩
theorem st_X8_isIn : Cond.static yX8_isIn ∈ wsL_law := zmem 486 (by decide +kernel) rfl
theorem mt_X8_isWithin : zMt yX8_isWithin mX8_isWithin 2 := ⟨zmem 414 (by decide +kernel) rfl, zmem 34 (by decide +kernel) rfl, by decide +kernel, by decide +kernel⟩
theorem st_X8_isWithin : Cond.static yX8_isWithin ∈ wsL_law := zmem 413 (by decide +kernel) rfl
theorem mt_X8_hoursFrom : zMt yX8_hoursFrom mX8_hoursFrom 2 := ⟨zmem 546 (by decide +kernel) rfl, zmem 34 (by decide +kernel) rfl, by decide +kernel, by decide +kernel⟩
theorem st_X8_hoursFrom : Cond.static yX8_hoursFrom ∈ wsL_law := zmem 545 (by decide +kernel) rfl
theorem mt_X8_choose : zMt yX8_choose mX8_choose 2 := ⟨zmem 632 (by decide +kernel) rfl, zmem 34 (by decide +kernel) rfl, by decide +kernel, by decide +kernel⟩
theorem st_X8_choose : Cond.static yX8_choose ∈ wsL_law := zmem 631 (by decide +kernel) rfl
theorem mt_X8_power : zMt yX8_power mX8_power 2 := ⟨zmem 635 (by decide +kernel) rfl, zmem 34 (by decide +kernel) rfl, by decide +kernel, by decide +kernel⟩
theorem st_X8_power : Cond.static yX8_power ∈ wsL_law := zmem 634 (by decide +kernel) rfl
theorem mt_X8_copyRow : zMt yX8_copyRow mX8_copyRow 2 := ⟨zmem 383 (by decide +kernel) rfl, zmem 34 (by decide +kernel) rfl, by decide +kernel, by decide +kernel⟩
theorem st_X8_copyRow : Cond.static yX8_copyRow ∈ wsL_law := zmem 382 (by decide +kernel) rfl
theorem mt_X9_init : zMt yX9_init mX9_init 0 := ⟨zmem 673 (by decide +kernel) rfl, zmem 43 (by decide +kernel) rfl, by decide +kernel, by decide +kernel⟩
theorem im_X9_init : Cond.instanceMethod yX9_init ∈ wsL_law := zmem 672 (by decide +kernel) rfl
theorem mt_X9_in : zMt yX9_in mX9_in 3 := ⟨zmem 755 (by decide +kernel) rfl, zmem 43 (by decide +kernel) rfl, by decide +kernel, by decide +kernel⟩
theorem st_X9_in : Cond.static yX9_in ∈ wsL_law := zmem 754 (by decide +kernel) rfl
theorem mt_X9_has : zMt yX9_has mX9_has 2 := ⟨zmem 817 (by decide +kernel) rfl, zmem 43 (by decide +kernel) rfl, by decide +kernel, by decide +kernel⟩
theorem st_X9_has : Cond.static yX9_has ∈ wsL_law := zmem 816 (by decide +kernel) rfl
theorem mt_X9_bits : zMt yX9_bits mX9_bits 1 := ⟨zmem 758 (by decide +kernel) rfl, zmem 43 (by decide +kernel) rfl, by decide +kernel, by decide +kernel⟩
theorem st_X9_bits : Cond.static yX9_bits ∈ wsL_law := zmem 757 (by decide +kernel) rfl
theorem mt_X9_isThere : zMt yX9_isThere mX9_isThere 1 := ⟨zmem 849 (by decide +kernel) rfl, zmem 43 (by decide +kernel) rfl, by decide +kernel, by decide +kernel⟩
theorem im_X9_isThere : Cond.instanceMethod yX9_isThere ∈ wsL_law := zmem 848 (by decide +kernel) rfl
theorem mv_X9_isThere : zMv yX9_isThere := ⟨im_X9_isThere, zmem 28 (by decide +kernel) rfl⟩
theorem mt_X9_grief : zMt yX9_grief mX9_grief 3 := ⟨zmem 752 (by decide +kernel) rfl, zmem 43 (by decide +kernel) rfl, by decide +kernel, by decide +kernel⟩
theorem im_X9_grief : Cond.instanceMethod yX9_grief ∈ wsL_law := zmem 750 (by decide +kernel) rfl
theorem mv_X9_grief : zMv yX9_grief := ⟨im_X9_grief, zmem 751 (by decide +kernel) rfl⟩
theorem mt_X9_hold : zMt yX9_hold mX9_hold 4 := ⟨zmem 762 (by decide +kernel) rfl, zmem 43 (by decide +kernel) rfl, by decide +kernel, by decide +kernel⟩
theorem im_X9_hold : Cond.instanceMethod yX9_hold ∈ wsL_law := zmem 760 (by decide +kernel) rfl
theorem mv_X9_hold : zMv yX9_hold := ⟨im_X9_hold, zmem 761 (by decide +kernel) rfl⟩
theorem mt_X9_breath : zMt yX9_breath mX9_breath 1 := ⟨zmem 766 (by decide +kernel) rfl, zmem 43 (by decide +kernel) rfl, by decide +kernel, by decide +kernel⟩
theorem im_X9_breath : Cond.instanceMethod yX9_breath ∈ wsL_law := zmem 764 (by decide +kernel) rfl
theorem mv_X9_breath : zMv yX9_breath := ⟨im_X9_breath, zmem 765 (by decide +kernel) rfl⟩
theorem mt_X9_coat : zMt yX9_coat mX9_coat 3 := ⟨zmem 770 (by decide +kernel) rfl, zmem 43 (by decide +kernel) rfl, by decide +kernel, by decide +kernel⟩
theorem im_X9_coat : Cond.instanceMethod yX9_coat ∈ wsL_law := zmem 768 (by decide +kernel) rfl
theorem mv_X9_coat : zMv yX9_coat := ⟨im_X9_coat, zmem 769 (by decide +kernel) rfl⟩
theorem mt_X9_move : zMt yX9_move mX9_move 3 := ⟨zmem 774 (by decide +kernel) rfl, zmem 43 (by decide +kernel) rfl, by decide +kernel, by decide +kernel⟩
theorem im_X9_move : Cond.instanceMethod yX9_move ∈ wsL_law := zmem 772 (by decide +kernel) rfl
theorem mv_X9_move : zMv yX9_move := ⟨im_X9_move, zmem 773 (by decide +kernel) rfl⟩
theorem mt_X9_say : zMt yX9_say mX9_say 1 := ⟨zmem 778 (by decide +kernel) rfl, zmem 43 (by decide +kernel) rfl, by decide +kernel, by decide +kernel⟩
theorem im_X9_say : Cond.instanceMethod yX9_say ∈ wsL_law := zmem 776 (by decide +kernel) rfl
theorem mv_X9_say : zMv yX9_say := ⟨im_X9_say, zmem 777 (by decide +kernel) rfl⟩
theorem mt_X9_wipe : zMt yX9_wipe mX9_wipe 0 := ⟨zmem 782 (by decide +kernel) rfl, zmem 43 (by decide +kernel) rfl, by decide +kernel, by decide +kernel⟩
theorem im_X9_wipe : Cond.instanceMethod yX9_wipe ∈ wsL_law := zmem 780 (by decide +kernel) rfl
theorem mv_X9_wipe : zMv yX9_wipe := ⟨im_X9_wipe, zmem 781 (by decide +kernel) rfl⟩
theorem mt_X9_faultOf : zMt yX9_faultOf mX9_faultOf 0 := ⟨zmem 790 (by decide +kernel) rfl, zmem 43 (by decide +kernel) rfl, by decide +kernel, by decide +kernel⟩
theorem im_X9_faultOf : Cond.instanceMethod yX9_faultOf ∈ wsL_law := zmem 789 (by decide +kernel) rfl
theorem mv_X9_faultOf : zMv yX9_faultOf := ⟨im_X9_faultOf, zmem 17 (by decide +kernel) rfl⟩
theorem mt_X9_fault : zMt yX9_fault mX9_fault 0 := ⟨zmem 786 (by decide +kernel) rfl, zmem 43 (by decide +kernel) rfl, by decide +kernel, by decide +kernel⟩
theorem im_X9_fault : Cond.instanceMethod yX9_fault ∈ wsL_law := zmem 784 (by decide +kernel) rfl
theorem mv_X9_fault : zMv yX9_fault := ⟨im_X9_fault, zmem 785 (by decide +kernel) rfl⟩
theorem mt_X9_asNow : zMt yX9_asNow mX9_asNow 0 := ⟨zmem 802 (by decide +kernel) rfl, zmem 43 (by decide +kernel) rfl, by decide +kernel, by decide +kernel⟩
theorem im_X9_asNow : Cond.instanceMethod yX9_asNow ∈ wsL_law := zmem 801 (by decide +kernel) rfl
theorem mv_X9_asNow : zMv yX9_asNow := ⟨im_X9_asNow, zmem 19 (by decide +kernel) rfl⟩
theorem mt_X9_stands : zMt yX9_stands mX9_stands 1 := ⟨zmem 814 (by decide +kernel) rfl, zmem 43 (by decide +kernel) rfl, by decide +kernel, by decide +kernel⟩
theorem im_X9_stands : Cond.instanceMethod yX9_stands ∈ wsL_law := zmem 813 (by decide +kernel) rfl
theorem mv_X9_stands : zMv yX9_stands := ⟨im_X9_stands, zmem 22 (by decide +kernel) rfl⟩
theorem mt_X9_grip : zMt yX9_grip mX9_grip 2 := ⟨zmem 825 (by decide +kernel) rfl, zmem 43 (by decide +kernel) rfl, by decide +kernel, by decide +kernel⟩
theorem im_X9_grip : Cond.instanceMethod yX9_grip ∈ wsL_law := zmem 824 (by decide +kernel) rfl
theorem mv_X9_grip : zMv yX9_grip := ⟨im_X9_grip, zmem 24 (by decide +kernel) rfl⟩
theorem mt_X9_join : zMt yX9_join mX9_join 2 := ⟨zmem 810 (by decide +kernel) rfl, zmem 43 (by decide +kernel) rfl, by decide +kernel, by decide +kernel⟩
theorem im_X9_join : Cond.instanceMethod yX9_join ∈ wsL_law := zmem 809 (by decide +kernel) rfl
theorem mv_X9_join : zMv yX9_join := ⟨im_X9_join, zmem 21 (by decide +kernel) rfl⟩
theorem mt_X9_sitBy : zMt yX9_sitBy mX9_sitBy 1 := ⟨zmem 821 (by decide +kernel) rfl, zmem 43 (by decide +kernel) rfl, by decide +kernel, by decide +kernel⟩
theorem im_X9_sitBy : Cond.instanceMethod yX9_sitBy ∈ wsL_law := zmem 820 (by decide +kernel) rfl
theorem mv_X9_sitBy : zMv yX9_sitBy := ⟨im_X9_sitBy, zmem 23 (by decide +kernel) rfl⟩
theorem mt_X9_rest : zMt yX9_rest mX9_rest 0 := ⟨zmem 829 (by decide +kernel) rfl, zmem 43 (by decide +kernel) rfl, by decide +kernel, by decide +kernel⟩
theorem im_X9_rest : Cond.instanceMethod yX9_rest ∈ wsL_law := zmem 828 (by decide +kernel) rfl
theorem mv_X9_rest : zMv yX9_rest := ⟨im_X9_rest, zmem 25 (by decide +kernel) rfl⟩
theorem mt_X9_endHour : zMt yX9_endHour mX9_endHour 0 := ⟨zmem 833 (by decide +kernel) rfl, zmem 43 (by decide +kernel) rfl, by decide +kernel, by decide +kernel⟩
theorem im_X9_endHour : Cond.instanceMethod yX9_endHour ∈ wsL_law := zmem 832 (by decide +kernel) rfl
theorem mv_X9_endHour : zMv yX9_endHour := ⟨im_X9_endHour, zmem 26 (by decide +kernel) rfl⟩
theorem mt_X9_griefAct : zMt yX9_griefAct mX9_griefAct 3 := ⟨zmem 806 (by decide +kernel) rfl, zmem 43 (by decide +kernel) rfl, by decide +kernel, by decide +kernel⟩
theorem im_X9_griefAct : Cond.instanceMethod yX9_griefAct ∈ wsL_law := zmem 805 (by decide +kernel) rfl
theorem mv_X9_griefAct : zMv yX9_griefAct := ⟨im_X9_griefAct, zmem 20 (by decide +kernel) rfl⟩
theorem mt_X9_goDays : zMt yX9_goDays mX9_goDays 0 := ⟨zmem 798 (by decide +kernel) rfl, zmem 43 (by decide +kernel) rfl, by decide +kernel, by decide +kernel⟩
theorem im_X9_goDays : Cond.instanceMethod yX9_goDays ∈ wsL_law := zmem 797 (by decide +kernel) rfl
theorem mv_X9_goDays : zMv yX9_goDays := ⟨im_X9_goDays, zmem 18 (by decide +kernel) rfl⟩
theorem mt_X9_judge : zMt yX9_judge mX9_judge 1 := ⟨zmem 794 (by decide +kernel) rfl, zmem 43 (by decide +kernel) rfl, by decide +kernel, by decide +kernel⟩
theorem im_X9_judge : Cond.instanceMethod yX9_judge ∈ wsL_law := zmem 792 (by decide +kernel) rfl
theorem mv_X9_judge : zMv yX9_judge := ⟨im_X9_judge, zmem 793 (by decide +kernel) rfl⟩
theorem mt_X9_barOfDays : zMt yX9_barOfDays mX9_barOfDays 0 := ⟨zmem 841 (by decide +kernel) rfl, zmem 43 (by decide +kernel) rfl, by decide +kernel, by decide +kernel⟩
theorem im_X9_barOfDays : Cond.instanceMethod yX9_barOfDays ∈ wsL_law := zmem 840 (by decide +kernel) rfl
theorem mv_X9_barOfDays : zMv yX9_barOfDays := ⟨im_X9_barOfDays, zmem 27 (by decide +kernel) rfl⟩
theorem mt_X9_done : zMt yX9_done mX9_done 0 := ⟨zmem 837 (by decide +kernel) rfl, zmem 43 (by decide +kernel) rfl, by decide +kernel, by decide +kernel⟩
theorem im_X9_done : Cond.instanceMethod yX9_done ∈ wsL_law := zmem 835 (by decide +kernel) rfl
theorem mv_X9_done : zMv yX9_done := ⟨im_X9_done, zmem 836 (by decide +kernel) rfl⟩
theorem mt_X9_behind : zMt yX9_behind mX9_behind 2 := ⟨zmem 845 (by decide +kernel) rfl, zmem 43 (by decide +kernel) rfl, by decide +kernel, by decide +kernel⟩
theorem im_X9_behind : Cond.instanceMethod yX9_behind ∈ wsL_law := zmem 843 (by decide +kernel) rfl
theorem mv_X9_behind : zMv yX9_behind := ⟨im_X9_behind, zmem 844 (by decide +kernel) rfl⟩
theorem mt_X9_then : zMt yX9_then mX9_then 1 := ⟨zmem 853 (by decide +kernel) rfl, zmem 43 (by decide +kernel) rfl, by decide +kernel, by decide +kernel⟩
theorem im_X9_then : Cond.instanceMethod yX9_then ∈ wsL_law := zmem 851 (by decide +kernel) rfl
theorem mv_X9_then : zMv yX9_then := ⟨im_X9_then, zmem 852 (by decide +kernel) rfl⟩
theorem mt_X9_fitsOf : zMt yX9_fitsOf mX9_fitsOf 1 := ⟨zmem 861 (by decide +kernel) rfl, zmem 43 (by decide +kernel) rfl, by decide +kernel, by decide +kernel⟩
theorem im_X9_fitsOf : Cond.instanceMethod yX9_fitsOf ∈ wsL_law := zmem 860 (by decide +kernel) rfl
theorem mv_X9_fitsOf : zMv yX9_fitsOf := ⟨im_X9_fitsOf, zmem 29 (by decide +kernel) rfl⟩
theorem mt_X9_fitting : zMt yX9_fitting mX9_fitting 1 := ⟨zmem 857 (by decide +kernel) rfl, zmem 43 (by decide +kernel) rfl, by decide +kernel, by decide +kernel⟩
theorem im_X9_fitting : Cond.instanceMethod yX9_fitting ∈ wsL_law := zmem 855 (by decide +kernel) rfl
theorem mv_X9_fitting : zMv yX9_fitting := ⟨im_X9_fitting, zmem 856 (by decide +kernel) rfl⟩
theorem mt_X9_leastOf : zMt yX9_leastOf mX9_leastOf 1 := ⟨zmem 869 (by decide +kernel) rfl, zmem 43 (by decide +kernel) rfl, by decide +kernel, by decide +kernel⟩
theorem im_X9_leastOf : Cond.instanceMethod yX9_leastOf ∈ wsL_law := zmem 868 (by decide +kernel) rfl
theorem mv_X9_leastOf : zMv yX9_leastOf := ⟨im_X9_leastOf, zmem 30 (by decide +kernel) rfl⟩
theorem mt_X9_least : zMt yX9_least mX9_least 2 := ⟨zmem 865 (by decide +kernel) rfl, zmem 43 (by decide +kernel) rfl, by decide +kernel, by decide +kernel⟩
theorem im_X9_least : Cond.instanceMethod yX9_least ∈ wsL_law := zmem 863 (by decide +kernel) rfl
theorem mv_X9_least : zMv yX9_least := ⟨im_X9_least, zmem 864 (by decide +kernel) rfl⟩
theorem mt_X9_order : zMt yX9_order mX9_order 1 := ⟨zmem 874 (by decide +kernel) rfl, zmem 43 (by decide +kernel) rfl, by decide +kernel, by decide +kernel⟩
theorem im_X9_order : Cond.instanceMethod yX9_order ∈ wsL_law := zmem 872 (by decide +kernel) rfl
theorem mv_X9_order : zMv yX9_order := ⟨im_X9_order, zmem 873 (by decide +kernel) rfl⟩
theorem mt_X9_make : zMt yX9_make mX9_make 2 := ⟨zmem 878 (by decide +kernel) rfl, zmem 43 (by decide +kernel) rfl, by decide +kernel, by decide +kernel⟩
theorem im_X9_make : Cond.instanceMethod yX9_make ∈ wsL_law := zmem 876 (by decide +kernel) rfl
theorem mv_X9_make : zMv yX9_make := ⟨im_X9_make, zmem 877 (by decide +kernel) rfl⟩
theorem mt_X9_ring : zMt yX9_ring mX9_ring 3 := ⟨zmem 882 (by decide +kernel) rfl, zmem 43 (by decide +kernel) rfl, by decide +kernel, by decide +kernel⟩
theorem im_X9_ring : Cond.instanceMethod yX9_ring ∈ wsL_law := zmem 880 (by decide +kernel) rfl
theorem mv_X9_ring : zMv yX9_ring := ⟨im_X9_ring, zmem 881 (by decide +kernel) rfl⟩
theorem mt_X9_seen : zMt yX9_seen mX9_seen 2 := ⟨zmem 886 (by decide +kernel) rfl, zmem 43 (by decide +kernel) rfl, by decide +kernel, by decide +kernel⟩
theorem im_X9_seen : Cond.instanceMethod yX9_seen ∈ wsL_law := zmem 884 (by decide +kernel) rfl
theorem mv_X9_seen : zMv yX9_seen := ⟨im_X9_seen, zmem 885 (by decide +kernel) rfl⟩
theorem mt_X9_forget : zMt yX9_forget mX9_forget 0 := ⟨zmem 890 (by decide +kernel) rfl, zmem 43 (by decide +kernel) rfl, by decide +kernel, by decide +kernel⟩
theorem im_X9_forget : Cond.instanceMethod yX9_forget ∈ wsL_law := zmem 888 (by decide +kernel) rfl
theorem mv_X9_forget : zMv yX9_forget := ⟨im_X9_forget, zmem 889 (by decide +kernel) rfl⟩
theorem mt_X9_isFit : zMt yX9_isFit mX9_isFit 1 := ⟨zmem 898 (by decide +kernel) rfl, zmem 43 (by decide +kernel) rfl, by decide +kernel, by decide +kernel⟩
theorem im_X9_isFit : Cond.instanceMethod yX9_isFit ∈ wsL_law := zmem 897 (by decide +kernel) rfl
theorem mv_X9_isFit : zMv yX9_isFit := ⟨im_X9_isFit, zmem 31 (by decide +kernel) rfl⟩
theorem mt_X9_shape : zMt yX9_shape mX9_shape 1 := ⟨zmem 894 (by decide +kernel) rfl, zmem 43 (by decide +kernel) rfl, by decide +kernel, by decide +kernel⟩
theorem im_X9_shape : Cond.instanceMethod yX9_shape ∈ wsL_law := zmem 892 (by decide +kernel) rfl
theorem mv_X9_shape : zMv yX9_shape := ⟨im_X9_shape, zmem 893 (by decide +kernel) rfl⟩
theorem mt_X9_ask : zMt yX9_ask mX9_ask 1 := ⟨zmem 902 (by decide +kernel) rfl, zmem 43 (by decide +kernel) rfl, by decide +kernel, by decide +kernel⟩
theorem im_X9_ask : Cond.instanceMethod yX9_ask ∈ wsL_law := zmem 900 (by decide +kernel) rfl
theorem mv_X9_ask : zMv yX9_ask := ⟨im_X9_ask, zmem 901 (by decide +kernel) rfl⟩
theorem mt_X9_layMud : zMt yX9_layMud mX9_layMud 0 := ⟨zmem 910 (by decide +kernel) rfl, zmem 43 (by decide +kernel) rfl, by decide +kernel, by decide +kernel⟩
theorem im_X9_layMud : Cond.instanceMethod yX9_layMud ∈ wsL_law := zmem 909 (by decide +kernel) rfl
theorem mv_X9_layMud : zMv yX9_layMud := ⟨im_X9_layMud, zmem 32 (by decide +kernel) rfl⟩
theorem mt_X9_play : zMt yX9_play mX9_play 2 := ⟨zmem 906 (by decide +kernel) rfl, zmem 43 (by decide +kernel) rfl, by decide +kernel, by decide +kernel⟩
theorem im_X9_play : Cond.instanceMethod yX9_play ∈ wsL_law := zmem 904 (by decide +kernel) rfl
theorem mv_X9_play : zMv yX9_play := ⟨im_X9_play, zmem 905 (by decide +kernel) rfl⟩
theorem mt_X9_themselves : zMt yX9_themselves mX9_themselves 4 := ⟨zmem 914 (by decide +kernel) rfl, zmem 43 (by decide +kernel) rfl, by decide +kernel, by decide +kernel⟩
theorem im_X9_themselves : Cond.instanceMethod yX9_themselves ∈ wsL_law := zmem 912 (by decide +kernel) rfl
theorem mv_X9_themselves : zMv yX9_themselves := ⟨im_X9_themselves, zmem 913 (by decide +kernel) rfl⟩
theorem mt_X9_year : zMt yX9_year mX9_year 3 := ⟨zmem 920 (by decide +kernel) rfl, zmem 43 (by decide +kernel) rfl, by decide +kernel, by decide +kernel⟩
theorem im_X9_year : Cond.instanceMethod yX9_year ∈ wsL_law := zmem 918 (by decide +kernel) rfl
theorem mv_X9_year : zMv yX9_year := ⟨im_X9_year, zmem 919 (by decide +kernel) rfl⟩
theorem mt_X9_image : zMt yX9_image mX9_image 1 := ⟨zmem 925 (by decide +kernel) rfl, zmem 43 (by decide +kernel) rfl, by decide +kernel, by decide +kernel⟩
theorem im_X9_image : Cond.instanceMethod yX9_image ∈ wsL_law := zmem 923 (by decide +kernel) rfl
theorem mv_X9_image : zMv yX9_image := ⟨im_X9_image, zmem 924 (by decide +kernel) rfl⟩
theorem mt_X9_restore : zMt yX9_restore mX9_restore 1 := ⟨zmem 929 (by decide +kernel) rfl, zmem 43 (by decide +kernel) rfl, by decide +kernel, by decide +kernel⟩
theorem im_X9_restore : Cond.instanceMethod yX9_restore ∈ wsL_law := zmem 927 (by decide +kernel) rfl
theorem mv_X9_restore : zMv yX9_restore := ⟨im_X9_restore, zmem 928 (by decide +kernel) rfl⟩
theorem mt_X9_told : zMt yX9_told mX9_told 1 := ⟨zmem 933 (by decide +kernel) rfl, zmem 43 (by decide +kernel) rfl, by decide +kernel, by decide +kernel⟩
theorem im_X9_told : Cond.instanceMethod yX9_told ∈ wsL_law := zmem 931 (by decide +kernel) rfl
theorem mv_X9_told : zMv yX9_told := ⟨im_X9_told, zmem 932 (by decide +kernel) rfl⟩
theorem mt_J6_bitCount_0f7a4 : zMt yJ6_bitCount_0f7a4 mJ6_bitCount_0f7a4 1 := ⟨zmem 292 (by decide +kernel) rfl, zmem 44 (by decide +kernel) rfl, by decide +kernel, by decide +kernel⟩
theorem st_J6_bitCount_0f7a4 : Cond.static yJ6_bitCount_0f7a4 ∈ wsL_law := zmem 291 (by decide +kernel) rfl
theorem mt_J9_max_7cf53 : zMt yJ9_max_7cf53 mJ9_max_7cf53 2 := ⟨zmem 417 (by decide +kernel) rfl, zmem 45 (by decide +kernel) rfl, by decide +kernel, by decide +kernel⟩
theorem st_J9_max_7cf53 : Cond.static yJ9_max_7cf53 ∈ wsL_law := zmem 416 (by decide +kernel) rfl
theorem mt_J9_min_7cf53 : zMt yJ9_min_7cf53 mJ9_min_7cf53 2 := ⟨zmem 386 (by decide +kernel) rfl, zmem 45 (by decide +kernel) rfl, by decide +kernel, by decide +kernel⟩
theorem st_J9_min_7cf53 : Cond.static yJ9_min_7cf53 ∈ wsL_law := zmem 385 (by decide +kernel) rfl
theorem ml_L_9 : Cond.methodLink RL 9 yX8_init ∈ wsL_law := zmem 49 (by decide +kernel) rfl
theorem ml_X8_1 : Cond.methodLink RX8 1 objectInit ∈ wsL_law := zmem 52 (by decide +kernel) rfl
theorem ml_X8_9 : Cond.methodLink RX8 9 yX3_init ∈ wsL_law := zmem 57 (by decide +kernel) rfl
theorem ml_X3_3 : Cond.methodLink RX3 3 objectInit ∈ wsL_law := zmem 60 (by decide +kernel) rfl
theorem ml_X5_3 : Cond.methodLink RX5 3 objectInit ∈ wsL_law := zmem 123 (by decide +kernel) rfl
theorem ml_X1_3 : Cond.methodLink RX1 3 objectInit ∈ wsL_law := zmem 138 (by decide +kernel) rfl
theorem ml_X1_11 : Cond.methodLink RX1 11 yX3_init ∈ wsL_law := zmem 140 (by decide +kernel) rfl
theorem ml_X0_1 : Cond.methodLink RX0 1 objectInit ∈ wsL_law := zmem 146 (by decide +kernel) rfl
theorem ml_X6_3 : Cond.methodLink RX6 3 objectInit ∈ wsL_law := zmem 195 (by decide +kernel) rfl
theorem ml_X4_3 : Cond.methodLink RX4 3 objectInit ∈ wsL_law := zmem 205 (by decide +kernel) rfl
theorem ml_X7_3 : Cond.methodLink RX7 3 objectInit ∈ wsL_law := zmem 226 (by decide +kernel) rfl
theorem ml_X2_3 : Cond.methodLink RX2 3 objectInit ∈ wsL_law := zmem 240 (by decide +kernel) rfl
theorem ml_L_13 : Cond.methodLink RL 13 yX8_grief ∈ wsL_law := zmem 276 (by decide +kernel) rfl
theorem ml_X8_62 : Cond.methodLink RX8 62 yX8_isFrom ∈ wsL_law := zmem 280 (by decide +kernel) rfl
theorem ml_X8_66 : Cond.methodLink RX8 66 yX8_isSetOfMarks ∈ wsL_law := zmem 283 (by decide +kernel) rfl
theorem ml_X8_77 : Cond.methodLink RX8 77 yX3_griefsThere ∈ wsL_law := zmem 286 (by decide +kernel) rfl
theorem ml_X8_81 : Cond.methodLink RX8 81 yJ6_bitCount_0f7a4 ∈ wsL_law := zmem 290 (by decide +kernel) rfl
theorem ml_L_18 : Cond.methodLink RL 18 yX8_hold ∈ wsL_law := zmem 296 (by decide +kernel) rfl
theorem ml_X8_87 : Cond.methodLink RX8 87 yX8_isHold ∈ wsL_law := zmem 300 (by decide +kernel) rfl
theorem ml_X8_90 : Cond.methodLink RX8 90 yX3_holdAsNumber ∈ wsL_law := zmem 303 (by decide +kernel) rfl
theorem ml_L_23 : Cond.methodLink RL 23 yX8_breath ∈ wsL_law := zmem 307 (by decide +kernel) rfl
theorem ml_L_28 : Cond.methodLink RL 28 yX8_coat ∈ wsL_law := zmem 311 (by decide +kernel) rfl
theorem ml_X8_106 : Cond.methodLink RX8 106 yX8_areHours ∈ wsL_law := zmem 315 (by decide +kernel) rfl
theorem ml_X8_110 : Cond.methodLink RX8 110 yX3_coatAsNumber ∈ wsL_law := zmem 318 (by decide +kernel) rfl
theorem ml_L_32 : Cond.methodLink RL 32 yX8_move ∈ wsL_law := zmem 322 (by decide +kernel) rfl
theorem ml_X8_119 : Cond.methodLink RX8 119 yX8_isState ∈ wsL_law := zmem 326 (by decide +kernel) rfl
theorem ml_X8_125 : Cond.methodLink RX8 125 yX3_countMoves ∈ wsL_law := zmem 329 (by decide +kernel) rfl
theorem ml_X3_61 : Cond.methodLink RX3 61 yJ6_bitCount_0f7a4 ∈ wsL_law := zmem 333 (by decide +kernel) rfl
theorem ml_L_37 : Cond.methodLink RL 37 yX8_say ∈ wsL_law := zmem 334 (by decide +kernel) rfl
theorem ml_X8_128 : Cond.methodLink RX8 128 yX5_write ∈ wsL_law := zmem 338 (by decide +kernel) rfl
theorem ml_L_41 : Cond.methodLink RL 41 yX8_wipe ∈ wsL_law := zmem 342 (by decide +kernel) rfl
theorem ml_L_46 : Cond.methodLink RL 46 yX8_fault ∈ wsL_law := zmem 346 (by decide +kernel) rfl
theorem ml_X8_134 : Cond.methodLink RX8 134 yX5_findFault ∈ wsL_law := zmem 350 (by decide +kernel) rfl
theorem ml_X5_19 : Cond.methodLink RX5 19 yX5_signAt ∈ wsL_law := zmem 354 (by decide +kernel) rfl
theorem ml_X5_23 : Cond.methodLink RX5 23 yX5_awaitedAfter ∈ wsL_law := zmem 359 (by decide +kernel) rfl
theorem ml_X5_27 : Cond.methodLink RX5 27 yX5_isLetter ∈ wsL_law := zmem 362 (by decide +kernel) rfl
theorem ml_L_50 : Cond.methodLink RL 50 yX8_judge ∈ wsL_law := zmem 365 (by decide +kernel) rfl
theorem ml_X8_137 : Cond.methodLink RX8 137 yX1_run ∈ wsL_law := zmem 369 (by decide +kernel) rfl
theorem ml_X1_41 : Cond.methodLink RX1 41 yX1_begin ∈ wsL_law := zmem 373 (by decide +kernel) rfl
theorem ml_X1_61 : Cond.methodLink RX1 61 yX3_become ∈ wsL_law := zmem 377 (by decide +kernel) rfl
theorem ml_X8_263 : Cond.methodLink RX8 263 Lib.Math.min.name ∈ wsL_law := zmem 384 (by decide +kernel) rfl
theorem ml_X8_268 : Cond.methodLink RX8 268 arraycopyName ∈ wsL_law := zmem 387 (by decide +kernel) rfl
theorem ml_X1_50 : Cond.methodLink RX1 50 yX5_read ∈ wsL_law := zmem 390 (by decide +kernel) rfl
theorem ml_X5_37 : Cond.methodLink RX5 37 yX0_become ∈ wsL_law := zmem 394 (by decide +kernel) rfl
theorem ml_X1_54 : Cond.methodLink RX1 54 yX3_attempt ∈ wsL_law := zmem 398 (by decide +kernel) rfl
theorem ml_X3_82 : Cond.methodLink RX3 82 yX3_takeHold ∈ wsL_law := zmem 402 (by decide +kernel) rfl
theorem ml_X3_99 : Cond.methodLink RX3 99 yX3_isThere ∈ wsL_law := zmem 406 (by decide +kernel) rfl
theorem ml_X3_106 : Cond.methodLink RX3 106 Lib.Math.max.name ∈ wsL_law := zmem 415 (by decide +kernel) rfl
theorem ml_X3_86 : Cond.methodLink RX3 86 yX3_join ∈ wsL_law := zmem 418 (by decide +kernel) rfl
theorem ml_X3_111 : Cond.methodLink RX3 111 Lib.Math.min.name ∈ wsL_law := zmem 422 (by decide +kernel) rfl
theorem ml_X3_89 : Cond.methodLink RX3 89 yX3_sitBy ∈ wsL_law := zmem 423 (by decide +kernel) rfl
theorem ml_X3_92 : Cond.methodLink RX3 92 yX3_rest ∈ wsL_law := zmem 427 (by decide +kernel) rfl
theorem ml_X3_96 : Cond.methodLink RX3 96 yX3_passHour ∈ wsL_law := zmem 431 (by decide +kernel) rfl
theorem ml_X1_58 : Cond.methodLink RX1 58 yX1_noteDown ∈ wsL_law := zmem 435 (by decide +kernel) rfl
theorem ml_X1_70 : Cond.methodLink RX1 70 yX3_isThere ∈ wsL_law := zmem 439 (by decide +kernel) rfl
theorem ml_L_54 : Cond.methodLink RL 54 yX8_done ∈ wsL_law := zmem 440 (by decide +kernel) rfl
theorem ml_X8_147 : Cond.methodLink RX8 147 yX8_tryDays ∈ wsL_law := zmem 444 (by decide +kernel) rfl
theorem ml_X8_154 : Cond.methodLink RX8 154 yX3_become ∈ wsL_law := zmem 448 (by decide +kernel) rfl
theorem ml_L_58 : Cond.methodLink RL 58 yX8_behind ∈ wsL_law := zmem 449 (by decide +kernel) rfl
theorem ml_X8_158 : Cond.methodLink RX8 158 yX3_isThere ∈ wsL_law := zmem 453 (by decide +kernel) rfl
theorem ml_X8_161 : Cond.methodLink RX8 161 yX3_griefPart ∈ wsL_law := zmem 454 (by decide +kernel) rfl
theorem ml_L_63 : Cond.methodLink RL 63 yX8_then ∈ wsL_law := zmem 458 (by decide +kernel) rfl
theorem ml_L_67 : Cond.methodLink RL 67 yX8_fitting ∈ wsL_law := zmem 462 (by decide +kernel) rfl
theorem ml_X8_177 : Cond.methodLink RX8 177 yX3_holdsThatFit ∈ wsL_law := zmem 466 (by decide +kernel) rfl
theorem ml_L_71 : Cond.methodLink RL 71 yX8_least ∈ wsL_law := zmem 470 (by decide +kernel) rfl
theorem ml_X8_180 : Cond.methodLink RX8 180 yX6_priceOf ∈ wsL_law := zmem 474 (by decide +kernel) rfl
theorem ml_X6_15 : Cond.methodLink RX6 15 yX3_holdsThatFit ∈ wsL_law := zmem 478 (by decide +kernel) rfl
theorem ml_X6_28 : Cond.methodLink RX6 28 yX6_cheapest ∈ wsL_law := zmem 480 (by decide +kernel) rfl
theorem ml_X6_40 : Cond.methodLink RX6 40 Lib.Math.max.name ∈ wsL_law := zmem 488 (by decide +kernel) rfl
theorem ml_X6_49 : Cond.methodLink RX6 49 Lib.Math.min.name ∈ wsL_law := zmem 489 (by decide +kernel) rfl
theorem ml_L_75 : Cond.methodLink RL 75 yX8_order ∈ wsL_law := zmem 490 (by decide +kernel) rfl
theorem ml_X8_184 : Cond.methodLink RX8 184 yX4_work ∈ wsL_law := zmem 494 (by decide +kernel) rfl
theorem ml_X4_29 : Cond.methodLink RX4 29 yX3_isThere ∈ wsL_law := zmem 498 (by decide +kernel) rfl
theorem ml_X4_35 : Cond.methodLink RX4 35 yX6_priceOf ∈ wsL_law := zmem 499 (by decide +kernel) rfl
theorem ml_X4_43 : Cond.methodLink RX4 43 yX4_leastOf ∈ wsL_law := zmem 501 (by decide +kernel) rfl
theorem ml_X4_50 : Cond.methodLink RX4 50 yX4_borneIfFirst ∈ wsL_law := zmem 507 (by decide +kernel) rfl
theorem ml_X4_60 : Cond.methodLink RX4 60 yX3_strengthOf ∈ wsL_law := zmem 511 (by decide +kernel) rfl
theorem ml_X4_54 : Cond.methodLink RX4 54 Lib.Math.min.name ∈ wsL_law := zmem 516 (by decide +kernel) rfl
theorem ml_X8_187 : Cond.methodLink RX8 187 yX4_leastBorne ∈ wsL_law := zmem 517 (by decide +kernel) rfl
theorem ml_X8_190 : Cond.methodLink RX8 190 yX4_firstTaken ∈ wsL_law := zmem 521 (by decide +kernel) rfl
theorem ml_L_79 : Cond.methodLink RL 79 yX8_make ∈ wsL_law := zmem 525 (by decide +kernel) rfl
theorem ml_X8_194 : Cond.methodLink RX8 194 yX3_leastSetWith ∈ wsL_law := zmem 529 (by decide +kernel) rfl
theorem ml_X3_117 : Cond.methodLink RX3 117 yX3_griefsThere ∈ wsL_law := zmem 533 (by decide +kernel) rfl
theorem ml_X3_120 : Cond.methodLink RX3 120 yX3_marksOf ∈ wsL_law := zmem 534 (by decide +kernel) rfl
theorem ml_X3_123 : Cond.methodLink RX3 123 yX3_strengthOf ∈ wsL_law := zmem 538 (by decide +kernel) rfl
theorem ml_X8_197 : Cond.methodLink RX8 197 yX3_strengthOf ∈ wsL_law := zmem 539 (by decide +kernel) rfl
theorem ml_L_83 : Cond.methodLink RL 83 yX8_ring ∈ wsL_law := zmem 540 (by decide +kernel) rfl
theorem ml_X8_200 : Cond.methodLink RX8 200 yX8_hoursFrom ∈ wsL_law := zmem 544 (by decide +kernel) rfl
theorem ml_X8_203 : Cond.methodLink RX8 203 yX3_fewestCoatsFor ∈ wsL_law := zmem 547 (by decide +kernel) rfl
theorem ml_X3_129 : Cond.methodLink RX3 129 yX3_hoursOf ∈ wsL_law := zmem 551 (by decide +kernel) rfl
theorem ml_L_87 : Cond.methodLink RL 87 yX8_seen ∈ wsL_law := zmem 556 (by decide +kernel) rfl
theorem ml_X8_206 : Cond.methodLink RX8 206 yX3_addSight ∈ wsL_law := zmem 560 (by decide +kernel) rfl
theorem ml_L_92 : Cond.methodLink RL 92 yX8_forget ∈ wsL_law := zmem 564 (by decide +kernel) rfl
theorem ml_L_96 : Cond.methodLink RL 96 yX8_shape ∈ wsL_law := zmem 568 (by decide +kernel) rfl
theorem ml_X8_213 : Cond.methodLink RX8 213 yX7_find ∈ wsL_law := zmem 572 (by decide +kernel) rfl
theorem ml_X7_19 : Cond.methodLink RX7 19 yX3_isAsSeen ∈ wsL_law := zmem 576 (by decide +kernel) rfl
theorem ml_X8_217 : Cond.methodLink RX8 217 yX7_shapeAt ∈ wsL_law := zmem 580 (by decide +kernel) rfl
theorem ml_L_100 : Cond.methodLink RL 100 yX8_ask ∈ wsL_law := zmem 585 (by decide +kernel) rfl
theorem ml_X8_220 : Cond.methodLink RX8 220 yX7_holdToTry ∈ wsL_law := zmem 589 (by decide +kernel) rfl
theorem ml_X7_32 : Cond.methodLink RX7 32 yX7_mostLeftBy ∈ wsL_law := zmem 593 (by decide +kernel) rfl
theorem ml_X7_40 : Cond.methodLink RX7 40 Lib.Math.max.name ∈ wsL_law := zmem 598 (by decide +kernel) rfl
theorem ml_X8_223 : Cond.methodLink RX8 223 yX7_mostLeftBy ∈ wsL_law := zmem 599 (by decide +kernel) rfl
theorem ml_L_104 : Cond.methodLink RL 104 yX8_play ∈ wsL_law := zmem 600 (by decide +kernel) rfl
theorem ml_X8_226 : Cond.methodLink RX8 226 yX2_solve ∈ wsL_law := zmem 604 (by decide +kernel) rfl
theorem ml_X2_18 : Cond.methodLink RX2 18 yX2_settle ∈ wsL_law := zmem 608 (by decide +kernel) rfl
theorem ml_X2_22 : Cond.methodLink RX2 22 yX2_leastSettled ∈ wsL_law := zmem 612 (by decide +kernel) rfl
theorem ml_X2_26 : Cond.methodLink RX2 26 yX2_areAllWon ∈ wsL_law := zmem 617 (by decide +kernel) rfl
theorem ml_X8_236 : Cond.methodLink RX8 236 yX2_firstMove ∈ wsL_law := zmem 621 (by decide +kernel) rfl
theorem ml_L_108 : Cond.methodLink RL 108 yX8_themselves ∈ wsL_law := zmem 625 (by decide +kernel) rfl
theorem ml_X8_242 : Cond.methodLink RX8 242 yX8_choose ∈ wsL_law := zmem 630 (by decide +kernel) rfl
theorem ml_X8_246 : Cond.methodLink RX8 246 yX8_power ∈ wsL_law := zmem 633 (by decide +kernel) rfl
theorem ml_L_113 : Cond.methodLink RL 113 yX8_year ∈ wsL_law := zmem 639 (by decide +kernel) rfl
theorem ml_X8_256 : Cond.methodLink RX8 256 yX1_runYear ∈ wsL_law := zmem 643 (by decide +kernel) rfl
theorem ml_X1_75 : Cond.methodLink RX1 75 yX1_draw ∈ wsL_law := zmem 648 (by decide +kernel) rfl
theorem ml_X1_79 : Cond.methodLink RX1 79 yX0_become ∈ wsL_law := zmem 652 (by decide +kernel) rfl
theorem ml_L_117 : Cond.methodLink RL 117 yX8_image ∈ wsL_law := zmem 653 (by decide +kernel) rfl
theorem ml_L_121 : Cond.methodLink RL 121 yX8_restore ∈ wsL_law := zmem 657 (by decide +kernel) rfl
theorem ml_L_125 : Cond.methodLink RL 125 yX8_told ∈ wsL_law := zmem 661 (by decide +kernel) rfl
theorem ml_X8_260 : Cond.methodLink RX8 260 yX8_toldOfGrief ∈ wsL_law := zmem 665 (by decide +kernel) rfl
theorem ml_L_12 : Cond.methodLink RL 12 yX9_init ∈ wsL_law := zmem 671 (by decide +kernel) rfl
theorem ml_X9_1 : Cond.methodLink RX9 1 objectInit ∈ wsL_law := zmem 674 (by decide +kernel) rfl
theorem ml_L_17 : Cond.methodLink RL 17 yX9_grief ∈ wsL_law := zmem 749 (by decide +kernel) rfl
theorem ml_X9_63 : Cond.methodLink RX9 63 yX9_in ∈ wsL_law := zmem 753 (by decide +kernel) rfl
theorem ml_X9_71 : Cond.methodLink RX9 71 yX9_bits ∈ wsL_law := zmem 756 (by decide +kernel) rfl
theorem ml_L_22 : Cond.methodLink RL 22 yX9_hold ∈ wsL_law := zmem 759 (by decide +kernel) rfl
theorem ml_L_27 : Cond.methodLink RL 27 yX9_breath ∈ wsL_law := zmem 763 (by decide +kernel) rfl
theorem ml_L_31 : Cond.methodLink RL 31 yX9_coat ∈ wsL_law := zmem 767 (by decide +kernel) rfl
theorem ml_L_36 : Cond.methodLink RL 36 yX9_move ∈ wsL_law := zmem 771 (by decide +kernel) rfl
theorem ml_L_40 : Cond.methodLink RL 40 yX9_say ∈ wsL_law := zmem 775 (by decide +kernel) rfl
theorem ml_L_45 : Cond.methodLink RL 45 yX9_wipe ∈ wsL_law := zmem 779 (by decide +kernel) rfl
theorem ml_L_49 : Cond.methodLink RL 49 yX9_fault ∈ wsL_law := zmem 783 (by decide +kernel) rfl
theorem ml_X9_79 : Cond.methodLink RX9 79 yX9_faultOf ∈ wsL_law := zmem 787 (by decide +kernel) rfl
theorem ml_L_53 : Cond.methodLink RL 53 yX9_judge ∈ wsL_law := zmem 791 (by decide +kernel) rfl
theorem ml_X9_125 : Cond.methodLink RX9 125 yX9_goDays ∈ wsL_law := zmem 795 (by decide +kernel) rfl
theorem ml_X9_106 : Cond.methodLink RX9 106 yX9_asNow ∈ wsL_law := zmem 799 (by decide +kernel) rfl
theorem ml_X9_112 : Cond.methodLink RX9 112 yX9_griefAct ∈ wsL_law := zmem 803 (by decide +kernel) rfl
theorem ml_X9_96 : Cond.methodLink RX9 96 yX9_join ∈ wsL_law := zmem 807 (by decide +kernel) rfl
theorem ml_X9_92 : Cond.methodLink RX9 92 yX9_stands ∈ wsL_law := zmem 811 (by decide +kernel) rfl
theorem ml_X9_67 : Cond.methodLink RX9 67 yX9_has ∈ wsL_law := zmem 815 (by decide +kernel) rfl
theorem ml_X9_100 : Cond.methodLink RX9 100 yX9_sitBy ∈ wsL_law := zmem 818 (by decide +kernel) rfl
theorem ml_X9_103 : Cond.methodLink RX9 103 yX9_grip ∈ wsL_law := zmem 822 (by decide +kernel) rfl
theorem ml_X9_119 : Cond.methodLink RX9 119 yX9_rest ∈ wsL_law := zmem 826 (by decide +kernel) rfl
theorem ml_X9_122 : Cond.methodLink RX9 122 yX9_endHour ∈ wsL_law := zmem 830 (by decide +kernel) rfl
theorem ml_L_57 : Cond.methodLink RL 57 yX9_done ∈ wsL_law := zmem 834 (by decide +kernel) rfl
theorem ml_X9_128 : Cond.methodLink RX9 128 yX9_barOfDays ∈ wsL_law := zmem 838 (by decide +kernel) rfl
theorem ml_L_62 : Cond.methodLink RL 62 yX9_behind ∈ wsL_law := zmem 842 (by decide +kernel) rfl
theorem ml_X9_131 : Cond.methodLink RX9 131 yX9_isThere ∈ wsL_law := zmem 846 (by decide +kernel) rfl
theorem ml_L_66 : Cond.methodLink RL 66 yX9_then ∈ wsL_law := zmem 850 (by decide +kernel) rfl
theorem ml_L_70 : Cond.methodLink RL 70 yX9_fitting ∈ wsL_law := zmem 854 (by decide +kernel) rfl
theorem ml_X9_134 : Cond.methodLink RX9 134 yX9_fitsOf ∈ wsL_law := zmem 858 (by decide +kernel) rfl
theorem ml_L_74 : Cond.methodLink RL 74 yX9_least ∈ wsL_law := zmem 862 (by decide +kernel) rfl
theorem ml_X9_138 : Cond.methodLink RX9 138 yX9_leastOf ∈ wsL_law := zmem 866 (by decide +kernel) rfl
theorem ml_L_78 : Cond.methodLink RL 78 yX9_order ∈ wsL_law := zmem 871 (by decide +kernel) rfl
theorem ml_L_82 : Cond.methodLink RL 82 yX9_make ∈ wsL_law := zmem 875 (by decide +kernel) rfl
theorem ml_L_86 : Cond.methodLink RL 86 yX9_ring ∈ wsL_law := zmem 879 (by decide +kernel) rfl
theorem ml_L_91 : Cond.methodLink RL 91 yX9_seen ∈ wsL_law := zmem 883 (by decide +kernel) rfl
theorem ml_L_95 : Cond.methodLink RL 95 yX9_forget ∈ wsL_law := zmem 887 (by decide +kernel) rfl
theorem ml_L_99 : Cond.methodLink RL 99 yX9_shape ∈ wsL_law := zmem 891 (by decide +kernel) rfl
theorem ml_X9_144 : Cond.methodLink RX9 144 yX9_isFit ∈ wsL_law := zmem 895 (by decide +kernel) rfl
theorem ml_L_103 : Cond.methodLink RL 103 yX9_ask ∈ wsL_law := zmem 899 (by decide +kernel) rfl
theorem ml_L_107 : Cond.methodLink RL 107 yX9_play ∈ wsL_law := zmem 903 (by decide +kernel) rfl
theorem ml_X9_147 : Cond.methodLink RX9 147 yX9_layMud ∈ wsL_law := zmem 907 (by decide +kernel) rfl
theorem ml_L_112 : Cond.methodLink RL 112 yX9_themselves ∈ wsL_law := zmem 911 (by decide +kernel) rfl
theorem ml_L_116 : Cond.methodLink RL 116 yX9_year ∈ wsL_law := zmem 917 (by decide +kernel) rfl
theorem ml_L_120 : Cond.methodLink RL 120 yX9_image ∈ wsL_law := zmem 922 (by decide +kernel) rfl
theorem ml_L_124 : Cond.methodLink RL 124 yX9_restore ∈ wsL_law := zmem 926 (by decide +kernel) rfl
theorem ml_L_128 : Cond.methodLink RL 128 yX9_told ∈ wsL_law := zmem 930 (by decide +kernel) rfl
theorem nn_X8_18 : (RX8, 18, yX5_init, RX8) ∈ zNW := List.mem_of_getElem? (i := 0) rfl
theorem nn_X8_25 : (RX8, 25, yX1_init, RX8) ∈ zNW := List.mem_of_getElem? (i := 1) rfl
theorem nn_X1_20 : (RX1, 20, yX0_init, RX8) ∈ zNW := List.mem_of_getElem? (i := 2) rfl
theorem nn_X8_32 : (RX8, 32, yX6_init, RX8) ∈ zNW := List.mem_of_getElem? (i := 3) rfl
theorem nn_X8_39 : (RX8, 39, yX4_init, RX8) ∈ zNW := List.mem_of_getElem? (i := 4) rfl
theorem nn_X4_11 : (RX4, 11, yX6_init, RX8) ∈ zNW := List.mem_of_getElem? (i := 5) rfl
theorem nn_X8_46 : (RX8, 46, yX7_init, RX8) ∈ zNW := List.mem_of_getElem? (i := 6) rfl
theorem nn_X8_53 : (RX8, 53, yX2_init, RX8) ∈ zNW := List.mem_of_getElem? (i := 7) rfl
theorem nn_X5_31 : (RX5, 31, yX8_isFrom, RX8) ∈ zNW := List.mem_of_getElem? (i := 8) rfl
theorem nn_X3_53 : (RX3, 53, yX8_copyRow, RX8) ∈ zNW := List.mem_of_getElem? (i := 9) rfl
theorem nn_X3_57 : (RX3, 57, yX8_isFrom, RX8) ∈ zNW := List.mem_of_getElem? (i := 10) rfl
theorem nn_X3_103 : (RX3, 103, yX8_isHold, RX8) ∈ zNW := List.mem_of_getElem? (i := 11) rfl
theorem nn_X3_67 : (RX3, 67, yX8_isWithin, RX8) ∈ zNW := List.mem_of_getElem? (i := 12) rfl
theorem nn_X6_24 : (RX6, 24, yX8_isFrom, RX8) ∈ zNW := List.mem_of_getElem? (i := 13) rfl
theorem nn_X6_33 : (RX6, 33, yX8_isIn, RX8) ∈ zNW := List.mem_of_getElem? (i := 14) rfl
theorem nn_X4_39 : (RX4, 39, yX8_isWithin, RX8) ∈ zNW := List.mem_of_getElem? (i := 15) rfl
theorem nn_X4_47 : (RX4, 47, yX8_isIn, RX8) ∈ zNW := List.mem_of_getElem? (i := 16) rfl
theorem nn_X3_114 : (RX3, 114, yX8_isIn, RX8) ∈ zNW := List.mem_of_getElem? (i := 17) rfl
theorem nn_X3_126 : (RX3, 126, yX8_hoursFrom, RX8) ∈ zNW := List.mem_of_getElem? (i := 18) rfl
theorem nn_X7_25 : (RX7, 25, yX8_isFrom, RX8) ∈ zNW := List.mem_of_getElem? (i := 19) rfl
theorem nn_X7_36 : (RX7, 36, yX8_isWithin, RX8) ∈ zNW := List.mem_of_getElem? (i := 20) rfl
theorem nn_X2_30 : (RX2, 30, yX8_isIn, RX8) ∈ zNW := List.mem_of_getElem? (i := 21) rfl
theorem o_im : Cond.instanceMethod objectInit ∈ wsL_law := zmem 53 (by decide +kernel) rfl
theorem o_cd : Cond.code objectInit ⟨#[0xb1]⟩ 1 none ∈ wsL_law := zmem 54 (by decide +kernel) rfl
theorem j_max_st : Cond.static Lib.Math.max.name ∈ wsL_law := zmem 416 (by decide +kernel) rfl
theorem j_max_cd : Cond.code Lib.Math.max.name Lib.Math.max.code 2 (some .int) ∈ wsL_law := zmem 417 (by decide +kernel) rfl
theorem j_min_st : Cond.static Lib.Math.min.name ∈ wsL_law := zmem 385 (by decide +kernel) rfl
theorem j_min_cd : Cond.code Lib.Math.min.name Lib.Math.min.code 2 (some .int) ∈ wsL_law := zmem 386 (by decide +kernel) rfl
theorem j_math : Cond.initialized "java/lang/Math" ∈ wsL_law := zmem 45 (by decide +kernel) rfl
theorem j_cp_na : Cond.native arraycopyName ∈ wsL_law := zmem 389 (by decide +kernel) rfl
theorem j_cp_st : Cond.static arraycopyName ∈ wsL_law := zmem 388 (by decide +kernel) rfl
theorem j_cp_in : Cond.initialized "java/lang/System" ∈ wsL_law := zmem 46 (by decide +kernel) rfl
theorem ar_int : Cond.arrayClass .int ∈ wsL_law := zmem 116 (by decide +kernel) rfl
theorem ar_bool : Cond.arrayClass .boolean ∈ wsL_law := zmem 117 (by decide +kernel) rfl
theorem ar_long : Cond.arrayClass .long ∈ wsL_law := zmem 748 (by decide +kernel) rfl
end
section
/-! what the walks use: truth values as ints, the places of Mires, the references of the finished world -/
def zb : Bool → Int32
  | true => 1
  | false => 0
theorem zb0 {p : Bool} (h : zb p = 0) : p = false := by
  cases p
  · rfl
  · exact absurd h (by decide)
theorem zb1 {p : Bool} (h : ¬ zb p = 0) : p = true := by
  cases p
  · exact absurd rfl h
  · rfl
theorem zb_nar (p : Bool) : narrow .boolean (.int (zb p)) = .int (zb p) := by cases p <;> rfl
def zin (n lo hi : Int32) : Bool := decide (lo ≤ n) && decide (n ≤ hi)
theorem zin_t {n lo hi : Int32} (h : zin n lo hi = true) : lo ≤ n ∧ n ≤ hi := by simpa [zin] using h
theorem zin_nI {a b n : Nat} (ha : a < 2 ^ 31) (hb : b < 2 ^ 31) (hn : n < 2 ^ 31) : zin (nI n) (nI a) (nI b) = (decide (a ≤ n) && decide (n ≤ b)) := by
  simp [zin, nI_leI ha hn, nI_leI hn hb]
/-- an int from 0 to b is a number below b + 1 -/
theorem zin_ex {x : Int32} {b : Nat} (hb : b < 2 ^ 30) (h : zin x 0 (nI b) = true) : ∃ i : Nat, i < b + 1 ∧ x = nI i := by
  obtain ⟨h1, h2⟩ := zin_t h
  have hx : ¬ x < 0 := Int32.not_lt.mpr h1
  obtain ⟨j, hj, rfl⟩ := nI_of hx
  refine ⟨j, ?_, rfl⟩
  have := (nI_leI hj (by omega)).mp h2
  omega
def zMi (m : Nat) : Prop := m = 1 ∨ m = 15 ∨ m = 58 ∨ m = 69
theorem zM_t0 {m : Nat} (h : zMi m) : (zt m).1 = 3 + 4 := by rcases h with rfl | rfl | rfl | rfl <;> rfl
theorem zM_t1 {m : Nat} (h : zMi m) : zt (m + 1) = (0, 6) := by rcases h with rfl | rfl | rfl | rfl <;> rfl
theorem zM_t2 {m : Nat} (h : zMi m) : zt (m + 2) = (0, 6) := by rcases h with rfl | rfl | rfl | rfl <;> rfl
theorem zM_t3 {m : Nat} (h : zMi m) : zt (m + 3) = (0, 6) := by rcases h with rfl | rfl | rfl | rfl <;> rfl
theorem zM_t4 {m : Nat} (h : zMi m) : zt (m + 4) = (0, 6) := by rcases h with rfl | rfl | rfl | rfl <;> rfl
theorem zM_t5 {m : Nat} (h : zMi m) : zt (m + 5) = (0, 6) := by rcases h with rfl | rfl | rfl | rfl <;> rfl
theorem zM_t6 {m : Nat} (h : zMi m) : zt (m + 6) = (0, 8) := by rcases h with rfl | rfl | rfl | rfl <;> rfl
theorem zM_t7 {m : Nat} (h : zMi m) : zt (m + 7) = (0, 8) := by rcases h with rfl | rfl | rfl | rfl <;> rfl
theorem zM_t8 {m : Nat} (h : zMi m) : zt (m + 8) = (0, 10) := by rcases h with rfl | rfl | rfl | rfl <;> rfl
theorem zM_t9 {m : Nat} (h : zMi m) : zt (m + 9) = (0, 8) := by rcases h with rfl | rfl | rfl | rfl <;> rfl
theorem zM_t10 {m : Nat} (h : zMi m) : zt (m + 10) = (2, 8) := by rcases h with rfl | rfl | rfl | rfl <;> rfl
def zrl (q0 q1 : Option Nat) : List (List (Option Nat)) := [[some 1, some 12, some 14, some 27, some 29, some 34, some 36, some 39], [some 2, some 3, some 4, some 5, some 6, some 7, some 8, some 9, some 10, some 11], [], [], [], [], [], [], [], [], [], [], [some 13], [], [some 15, some 26], [some 16, some 17, some 18, some 19, some 20, some 21, some 22, some 23, some 24, some 25], [], [], [], [], [], [], [], [], [], [], [], [some 28], [], [some 30, some 32, some 33], [some 31], [], [], [], [some 35], [], [some 37, some 38], [], [], [q0, q1], [some 41, some 42, some 43, some 44, some 45, some 46, some 47, none, some 48, none, some 49, none, none, none, none, none, some 50, some 51, some 52, some 53, some 54, some 55, some 56, some 57], [], [], [], [], [], [], [], [], [], [], [], [], [], [], [], [], [], [some 59, some 60, some 61, some 62, some 63, some 64, some 65, some 66, some 67, some 68], [], [], [], [], [], [], [], [], [], [], [some 70, some 71, some 72, some 73, some 74, some 75, some 76, some 77, some 78, some 79], [], [], [], [], [], [], [], [], [], []]
def zRw (q0 q1 : Option Nat) : zR := fun k j => ((zrl q0 q1).getD k []).getD j none
theorem zM_R0 {m : Nat} {q0 q1 : Option Nat} (h : zMi m) : zRw q0 q1 m 0 = some (m + 1) := by rcases h with rfl | rfl | rfl | rfl <;> rfl
theorem zM_R1 {m : Nat} {q0 q1 : Option Nat} (h : zMi m) : zRw q0 q1 m 1 = some (m + 2) := by rcases h with rfl | rfl | rfl | rfl <;> rfl
theorem zM_R2 {m : Nat} {q0 q1 : Option Nat} (h : zMi m) : zRw q0 q1 m 2 = some (m + 3) := by rcases h with rfl | rfl | rfl | rfl <;> rfl
theorem zM_R3 {m : Nat} {q0 q1 : Option Nat} (h : zMi m) : zRw q0 q1 m 3 = some (m + 4) := by rcases h with rfl | rfl | rfl | rfl <;> rfl
theorem zM_R4 {m : Nat} {q0 q1 : Option Nat} (h : zMi m) : zRw q0 q1 m 4 = some (m + 5) := by rcases h with rfl | rfl | rfl | rfl <;> rfl
theorem zM_R5 {m : Nat} {q0 q1 : Option Nat} (h : zMi m) : zRw q0 q1 m 5 = some (m + 6) := by rcases h with rfl | rfl | rfl | rfl <;> rfl
theorem zM_R6 {m : Nat} {q0 q1 : Option Nat} (h : zMi m) : zRw q0 q1 m 6 = some (m + 7) := by rcases h with rfl | rfl | rfl | rfl <;> rfl
theorem zM_R7 {m : Nat} {q0 q1 : Option Nat} (h : zMi m) : zRw q0 q1 m 7 = some (m + 8) := by rcases h with rfl | rfl | rfl | rfl <;> rfl
theorem zM_R8 {m : Nat} {q0 q1 : Option Nat} (h : zMi m) : zRw q0 q1 m 8 = some (m + 9) := by rcases h with rfl | rfl | rfl | rfl <;> rfl
theorem zM_R9 {m : Nat} {q0 q1 : Option Nat} (h : zMi m) : zRw q0 q1 m 9 = some (m + 10) := by rcases h with rfl | rfl | rfl | rfl <;> rfl
section ZB
variable {g : zG} {M : zM} {E : zE} {Q : State → Prop} {kc ks pc pc2 : Nat} {lo : List (Option Value)} {rest st : List Value} {N : Nat} {I : zI} {L : zL} {R : zR} {P : zPost}
theorem x_pc (e : pc = pc2) (k : X g M E Q kc ks pc2 lo st N I L R) : X g M E Q kc ks pc lo st N I L R := by
  subst e
  exact k
theorem x_iinc1 {i : Nat} {x : Int32} {lo2 : List (Option Value)} (hd : decode M.1 pc = .ok (.iinc i 1, 3)) (hv : lo[i]? = some (some (.int x))) (hf : zfree lo i = true) (hl2 : lo.set i (some (.int (x + 1))) = lo2) (k : X g M E Q kc ks (pc + 3) lo2 rest N I L R) : X g M E Q kc ks pc lo rest N I L R := x_iinc hd hv (by rw [show Int32.ofInt 1 = 1 from by decide]) hf hl2 k
theorem x_iincN {i n : Nat} {lo2 : List (Option Value)} (hd : decode M.1 pc = .ok (.iinc i 1, 3)) (hv : lo[i]? = some (some (.int (nI n)))) (hf : zfree lo i = true) (hl2 : lo.set i (some (.int (nI (n + 1)))) = lo2) (k : X g M E Q kc ks (pc + 3) lo2 rest N I L R) : X g M E Q kc ks pc lo rest N I L R := x_iinc hd hv (by rw [show Int32.ofInt 1 = 1 from by decide, nI_succ]) hf hl2 k
theorem x_iincm {i : Nat} {x : Int32} {lo2 : List (Option Value)} (hd : decode M.1 pc = .ok (.iinc i (-1), 3)) (hv : lo[i]? = some (some (.int x))) (hf : zfree lo i = true) (hl2 : lo.set i (some (.int (x + (-1)))) = lo2) (k : X g M E Q kc ks (pc + 3) lo2 rest N I L R) : X g M E Q kc ks pc lo rest N I L R := x_iinc hd hv (by rw [show Int32.ofInt (-1) = -1 from by decide]) hf hl2 k
theorem x_zretb {p : Bool} (hd : decode M.1 pc = .ok (.ireturn, 1)) (hr : M.2.2.2.1 = some .boolean) (hc : kc ≤ M.2.2.2.2.1.cells) (hs : ks ≤ M.2.2.2.2.1.slots) (h : P (some (.int (zb p))) N I L R) : X g M E (zMQ g M E P) kc ks pc lo [.int (zb p)] N I L R := x_zret hd hr (zb_nar p) hc hs h
theorem zN_0 {i n : Nat} (h : i < n) (hn : n < 2 ^ 31) : ¬ nI n ≤ nI i := nI_ge h hn
theorem zN_1 {n : Nat} (hn : n < 2 ^ 31) : nI n ≤ nI n := nI_le (Nat.le_refl n) hn
end ZB
end
section
/-- rows -/
def zrow (I : zI) (k : Nat) (f : Nat → Int32) : zI := fun a => if a = k then f else I a
theorem zrow_k (I : zI) (k : Nat) (f : Nat → Int32) : zrow I k f k = f := by simp [zrow]
theorem zrow_ne (I : zI) {k a : Nat} (f : Nat → Int32) (h : a ≠ k) : zrow I k f a = I a := by simp [zrow, h]
theorem zrow_same (I : zI) (k : Nat) : zrow I k (I k) = I := by
  funext a
  by_cases h : a = k
  · subst h; simp [zrow]
  · simp [zrow, h]
theorem zu_zrow (I : zI) (k i : Nat) (f : Nat → Int32) (v : Int32) : zu (zrow I k f) k i v = zrow I k (upd f i v) := by
  funext a j
  by_cases h : a = k
  · subst h; simp [zu, zrow, upd]
  · simp [zu, zrow, h]
theorem zu_is (I : zI) (k i : Nat) (v : Int32) : zu I k i v = zrow I k (upd (I k) i v) := by
  funext a j
  by_cases h : a = k
  · subst h; simp [zu, zrow, upd]
  · simp [zu, zrow, h]
theorem zrn (I : zI) {k j a : Nat} (v : Int32) (h : a ≠ k) : zu I k j v a = I a := by funext i; simp [zu, h]
def zpre (i : Nat) (f h : Nat → Int32) : Nat → Int32 := fun j => if j < i then f j else h j
theorem zpre_0 (f h : Nat → Int32) : zpre 0 f h = h := by funext j; simp [zpre]
theorem zpre_at (i : Nat) (f h : Nat → Int32) : zpre i f h i = h i := by simp [zpre]
theorem zpre_s (i : Nat) (f h : Nat → Int32) : upd (zpre i f h) i (f i) = zpre (i + 1) f h := by
  funext j
  by_cases e : j = i
  · subst e; simp [upd, zpre]
  · by_cases q : j < i
    · simp [upd, zpre, e, q, show j < i + 1 by omega]
    · simp [upd, zpre, e, q, show ¬ j < i + 1 by omega]
theorem zpre_skip {i : Nat} {f h : Nat → Int32} (e : f i = h i) : zpre i f h = zpre (i + 1) f h := by
  rw [← zpre_s, e, ← zpre_at i f h]
  funext j
  by_cases q : j = i
  · subst q; simp [upd]
  · simp [upd, q]
/-! worlds that show the same -/
def zvis (k j : Nat) : Prop := match (zt k).1 with
  | 0 => j < (zt k).2
  | 2 => j < (zt k).2
  | 1 => False
  | 3 => False
  | c + 4 => j < zcn c ∧ zrf c j = false
theorem arrV_congr {c : ClassId} {n : Nat} {f h : Nat → Value} (e : ∀ j, j < n → f j = h j) : arrV c n f = arrV c n h := by
  unfold arrV
  congr 2
  funext j
  exact e j.val j.isLt
theorem zat_vis {dG : va_G} {b : Nat} {D : Nat → ClassId} {I I' : zI} {L : zL} {R : zR} {k : Nat} {H : Heap} (h : ∀ j, zvis k j → I' k j = I k j) (ha : va_at dG zcl (b + k, zc b D I L R k) H) : va_at dG zcl (b + k, zc b D I' L R k) H := by
  obtain ⟨t, n, hz⟩ : ∃ t n, zt k = (t, n) := ⟨_, _, rfl⟩
  unfold zvis at h
  rw [hz] at h
  match t, hz, h with
  | 0, hz, h =>
    rw [zc_int hz] at ha ⊢
    have ha : H[b + k]? = some (arrV (D 0) n (fun j => .int (I k j))) := ha
    show H[b + k]? = some (arrV (D 0) n (fun j => .int (I' k j)))
    rw [ha, arrV_congr (f := fun j => .int (I' k j)) (h := fun j => .int (I k j)) (fun j hj => congrArg Value.int (h j hj))]
  | 1, hz, h =>
    rw [zc_long hz] at ha ⊢
    exact ha
  | 2, hz, h =>
    rw [zc_bool hz] at ha ⊢
    have ha : H[b + k]? = some (arrV (D 2) n (fun j => .int (I k j))) := ha
    show H[b + k]? = some (arrV (D 2) n (fun j => .int (I' k j)))
    rw [ha, arrV_congr (f := fun j => .int (I' k j)) (h := fun j => .int (I k j)) (fun j hj => congrArg Value.int (h j hj))]
  | 3, hz, h =>
    rw [zc_ref hz] at ha ⊢
    exact ha
  | c + 4, hz, h =>
    rw [zc_obj hz] at ha ⊢
    have e : (List.range (zcn c)).map (fun j => if zrf c j = true then va_rf (zvr b (R k j)) else .int (I' k j)) = (List.range (zcn c)).map (fun j => if zrf c j = true then va_rf (zvr b (R k j)) else .int (I k j)) := by
      apply List.map_congr_left
      intro j hj
      by_cases q : zrf c j = true
      · simp [q]
      · have q2 : zrf c j = false := by simpa using q
        simp [q2, h j ⟨List.mem_range.mp hj, q2⟩]
    rw [e]
    exact ha
section ZB2
variable {g : zG} {M M2 : zM} {E : zE} {Q : State → Prop} {kc ks pc pc2 : Nat} {lo : List (Option Value)} {rest st : List Value} {N : Nat} {I : zI} {L : zL} {R : zR} {P : zPost} {idx : Nat}
theorem zP_vis {I' : zI} {H : Heap} (h : ∀ k, k < N → ∀ j, zvis k j → I' k j = I k j) (hP : zP g N I L R H) : zP g N I' L R H := by
  refine ⟨hP.1, fun k q hq => ?_⟩
  obtain ⟨hk, rfl⟩ := zw_some hq
  exact zat_vis (h k hk) (hP.2 k _ (zw_at hk))
theorem x_sameV {I' : zI} (h : ∀ k, k < N → ∀ j, zvis k j → I' k j = I k j) (kk : X g M E Q kc ks pc lo st N I' L R) : X g M E Q kc ks pc lo st N I L R := by
  obtain ⟨p, e, s, m, args, below, meth, c⟩ := E
  intro hx ls H locs hl hP hS
  exact kk hx ls H locs hl (zP_vis h hP) hS
theorem x_copyR {k0 k1 n0 : Nat} {u : Int32} (hd : decode M.1 pc = .ok (.invokestatic idx, 3)) (hl : Cond.methodLink M.2.1 idx arraycopyName ∈ wsL_law) (h1 : Cond.native arraycopyName ∈ wsL_law) (h2 : Cond.static arraycopyName ∈ wsL_law) (h3 : Cond.initialized "java/lang/System" ∈ wsL_law) (hk0 : k0 < N) (hk1 : k1 < N) (ht0 : zt k0 = (0, n0)) (ht1 : zt k1 = (0, n0)) (hu : u = nI n0) (hw : (rest.map fun v => v.category).sum ≤ 8) (hf : 1 ≤ M.2.2.2.2.1.frames ∧ 8 + (nativeFrameWords "java/lang/System" "arraycopy" 5 + 11) ≤ M.2.2.2.2.1.locals) (kk : X g M E Q kc ks (pc + 3) lo rest N (zrow I k1 (I k0)) L R) : X g M E Q kc ks pc lo (.int u :: .int 0 :: .ref (g.2.1 + k1) :: .int 0 :: .ref (g.2.1 + k0) :: rest) N I L R := by
  refine x_copy hd hl h1 h2 h3 hk0 hk1 ht0 ht1 hu hw hf (x_sameV (I' := zrow I k1 (I k0)) (fun k _ j hv => ?_) kk)
  by_cases e : k = k1
  · subst e
    simp only [zvis, ht1] at hv
    simp [zrow, hv]
  · simp [zrow, e]
end ZB2
end
section
/-! what the class's small methods answer -/
theorem zin_1 {a lo hi : Int32} (h : a < lo) : zin a lo hi = false := by simp [zin, Int32.not_le.mpr h]
theorem zin_2 {a lo hi : Int32} (h : hi < a) : zin a lo hi = false := by simp [zin, Int32.not_le.mpr h]
theorem zin_3 {a lo hi : Int32} (h : ¬ a < lo) (h2 : ¬ hi < a) : zin a lo hi = true := by simp [zin, Int32.not_lt.mp h, Int32.not_lt.mp h2]
def zis (s k : Int32) : Bool := decide ((s >>> (k &&& 31)) &&& 1 = 1)
def zwi (p w : Int32) : Bool := decide (p &&& (w ^^^ (-1)) = 0)
theorem zwi_t {p w : Int32} (h : p &&& (w ^^^ (-1)) = 0) : zwi p w = true := decide_eq_true h
theorem zwi_f {p w : Int32} (h : ¬ p &&& (w ^^^ (-1)) = 0) : zwi p w = false := decide_eq_false h
def hfr (a b : Int32) : Int32 := (1 <<< ((b + 1) &&& 31)) - (1 <<< (a &&& 31))
def zth (s : Nat → Int32) (j : Int32) : Bool := zin j 0 5 && decide (0 < s j.toNatClampNeg)
theorem zth_nI {s : Nat → Int32} {i : Nat} (h : i < 6) : zth s (nI i) = decide (0 < s i) := by
  have h1 : zin (nI i) 0 5 = true := by
    have := zin_nI (a := 0) (b := 5) (n := i) (by omega) (by omega) (by omega)
    rw [show (0 : Int32) = nI 0 from rfl, show (5 : Int32) = nI 5 from rfl, this]
    simp; omega
  simp [zth, h1, nI_clamp (show i < 2 ^ 31 by omega)]
theorem zth_le {s : Nat → Int32} {i : Nat} (h : i < 6) : zth s (nI i) = !decide (s i ≤ 0) := by
  rw [zth_nI h]
  by_cases q : s i ≤ 0
  · simp [q, Int32.not_lt.mpr q]
  · simp [q, Int32.not_le.mp q]
def gt_ (s : Nat → Int32) : Nat → Int32
  | 0 => 0
  | i + 1 => if s i ≤ 0 then gt_ s i else gt_ s i ||| (1 <<< (nI i &&& 31))
def bc (x : Int32) : Int32 :=
  let a := x - ((x.toUInt32 >>> ((1 : Int32).toUInt32 &&& Int32.toUInt32 31)).toInt32 &&& 1431655765)
  let b := (a &&& 858993459) + ((a.toUInt32 >>> ((2 : Int32).toUInt32 &&& Int32.toUInt32 31)).toInt32 &&& 858993459)
  let c := (b + (b.toUInt32 >>> ((4 : Int32).toUInt32 &&& Int32.toUInt32 31)).toInt32) &&& 252645135
  let d := c + (c.toUInt32 >>> ((8 : Int32).toUInt32 &&& Int32.toUInt32 31)).toInt32
  let e := d + (d.toUInt32 >>> ((16 : Int32).toUInt32 &&& Int32.toUInt32 31)).toInt32
  e &&& 63
def cm_ (f : Nat → Int32) : Nat → Int32
  | 0 => 0
  | i + 1 => cm_ f i + bc (f i)
def hf_ (gr : Nat → Int32) (mk : Int32) : Nat → Int32
  | 0 => 0
  | i + 1 => if zwi (gr i) mk = true then hf_ gr mk i ||| (1 <<< (nI i &&& 31)) else hf_ gr mk i
def so_ (s : Nat → Int32) (set : Int32) : Nat → Int32
  | 0 => 0
  | i + 1 => if zis set (nI i) = true then so_ s set i + s i else so_ s set i
def mo_ (s : Nat → Int32) (set : Int32) : Nat → Int32
  | 0 => 0
  | i + 1 => if zis set (nI i) = true then mo_ s set i ||| s i else mo_ s set i
def ls_ (s mk : Nat → Int32) (wanted : Int32) : Nat → Int32
  | 0 => -6
  | i + 1 => if zwi (nI i) (gt_ s 6) = true ∧ mo_ mk (nI i) 6 = wanted ∧ (ls_ s mk wanted i = -6 ∨ so_ s (nI i) 6 < so_ s (ls_ s mk wanted i) 6) then nI i else ls_ s mk wanted i
def ho_ (a b : Nat → Int32) (set : Int32) : Nat → Int32
  | 0 => 0
  | i + 1 => if zis set (nI i) = true then ho_ a b set i ||| hfr (a i) (b i) else ho_ a b set i
def fc_ (a b : Nat → Int32) (hours : Int32) : Nat → Int32
  | 0 => -6
  | i + 1 => if (fc_ a b hours i = -6 ∨ bc (nI i) < bc (fc_ a b hours i)) ∧ zwi hours (ho_ a b (nI i) 8) = true then nI i else fc_ a b hours i
def has_ (gr sh sf : Nat → Int32) (shape : Int32) : Nat → Bool
  | 0 => true
  | i + 1 => has_ gr sh sf shape i && decide (zb (zwi (gr (sh i).toNatClampNeg) shape) = sf i)
theorem has_no {gr sh sf : Nat → Int32} {shape : Int32} {i n : Nat} (h : has_ gr sh sf shape (i + 1) = false) (hn : i < n) : has_ gr sh sf shape n = false := by
  induction n with
  | zero => omega
  | succ n ih =>
    by_cases e : i = n
    · rw [← e]; exact h
    · simp [has_, ih (by omega)]
def zmax (u v : Int32) : Int32 := if u < v then v else u
def zmin (u v : Int32) : Int32 := if v < u then v else u
/-- ACTS on the copy (the Mire at 15): why not, and the world behind -/
def tkR (I : zI) (a h : Nat) : Int32 := if I 16 a ≤ 0 then 1 else if zwi (I 18 h) (I 17 a) = false then 2 else if I 20 h ≤ I 15 11 then 0 else 3
def tkI (I : zI) (a h : Nat) : zI := if tkR I a h = 0 then zu (zu I 15 11 (I 15 11 - I 20 h)) 16 a (zmax (I 16 a - I 19 h) 0) else I
def jnR (I : zI) (a b : Nat) : Int32 := if I 16 a ≤ 0 then 1 else if I 16 b ≤ 0 then 1 else if a = b then 4 else 0
def jnI (I : zI) (a b : Nat) : zI := if jnR I a b = 0 then zu (zu (zu I 16 a (zmin (I 16 a + I 16 b) 99)) 17 a (I 17 a ||| I 17 b)) 16 b 0 else I
def siR (I : zI) (a : Nat) : Int32 := if I 16 a ≤ 0 then 1 else if 10 ≤ I 15 11 then 0 else 3
def siI (I : zI) (a : Nat) : zI := if siR I a = 0 then zu (zu I 15 11 (I 15 11 - 10)) 16 a (zmax (I 16 a / 2) 1) else I
def reR (I : zI) : Int32 := if I 15 11 = 99 then 5 else 0
def reI (I : zI) : zI := if reR I = 0 then zu I 15 11 (zmin (I 15 11 + 20) 99) else I
def ph3 (x : Int32) : Int32 := if x ≤ 0 then x else zmin (x + 3) 99
def phR (I : zI) : Int32 := if I 15 12 = 99 then 6 else 0
def phI (I : zI) : zI := if phR I = 0 then zrow (zu (zu I 15 12 (I 15 12 + 1)) 15 11 (zmin (I 15 11 + 5) 99)) 16 (zpre 6 (fun j => ph3 (I 16 j)) (I 16)) else I
def atR (I : zI) (k a b : Nat) : Int32 := if k = 0 then tkR I a b else if k = 1 then jnR I a b else if k = 2 then siR I a else if k = 3 then reR I else phR I
def atI (I : zI) (k a b : Nat) : zI := if k = 0 then tkI I a b else if k = 1 then jnI I a b else if k = 2 then siI I a else if k = 3 then reI I else phI I

theorem ct_X8_isFrom {g : zG} {N : Nat} {I : zI} {L : zL} {R : zR} {a lo hi : Int32} : Ct g yX8_isFrom mX8_isFrom [.int a, .int lo, .int hi] N I L R (zD (some (.int (zb (zin a lo hi)))) N I L R) := by
  refine Ct_of (lo0 := [some (.int a), some (.int lo), some (.int hi)]) rfl rfl rfl rfl (Nat.le_of_ble_eq_true rfl) (fun E => ?_)
  refine x_iload_n dX8_isFrom_0 rfl ?_
  refine x_iload_n dX8_isFrom_1 rfl ?_
  refine x_icmp_lt (tgt := 14) dX8_isFrom_2 (by decide) (fun h2 => ?_) (fun h2 => ?_)
  · skip
    refine x_iconst (v := 0) dX8_isFrom_14 (by decide) ?_
    exact x_zret dX8_isFrom_15 rfl rfl (Nat.le_of_ble_eq_true rfl) (Nat.le_of_ble_eq_true rfl) ⟨congrArg (fun z => some (Value.int z)) (by first | (rw [zin_1 h2]; rfl) | (rw [zin_2 h7]; rfl) | (rw [zin_3 h2 h7]; rfl)), rfl, by rfl, by rfl, rfl⟩
  · skip
    refine x_iload_n dX8_isFrom_5 rfl ?_
    refine x_iload_n dX8_isFrom_6 rfl ?_
    refine x_icmp_gt (tgt := 14) dX8_isFrom_7 (by decide) (fun h7 => ?_) (fun h7 => ?_)
    · skip
      refine x_iconst (v := 0) dX8_isFrom_14 (by decide) ?_
      exact x_zret dX8_isFrom_15 rfl rfl (Nat.le_of_ble_eq_true rfl) (Nat.le_of_ble_eq_true rfl) ⟨congrArg (fun z => some (Value.int z)) (by first | (rw [zin_1 h2]; rfl) | (rw [zin_2 h7]; rfl) | (rw [zin_3 h2 h7]; rfl)), rfl, by rfl, by rfl, rfl⟩
    · skip
      refine x_iconst (v := 1) dX8_isFrom_10 (by decide) ?_
      refine x_goto (tgt := 15) dX8_isFrom_11 (by decide) ?_
      exact x_zret dX8_isFrom_15 rfl rfl (Nat.le_of_ble_eq_true rfl) (Nat.le_of_ble_eq_true rfl) ⟨congrArg (fun z => some (Value.int z)) (by first | (rw [zin_1 h2]; rfl) | (rw [zin_2 h7]; rfl) | (rw [zin_3 h2 h7]; rfl)), rfl, by rfl, by rfl, rfl⟩
theorem ct_X8_isHold {g : zG} {N : Nat} {I : zI} {L : zL} {R : zR} {a : Int32} : Ct g yX8_isHold mX8_isHold [.int a] N I L R (zD (some (.int (zb (zin a 0 5)))) N I L R) := by
  refine Ct_of (lo0 := [some (.int a)]) rfl rfl rfl rfl (Nat.le_of_ble_eq_true rfl) (fun E => ?_)
  refine x_iload_n dX8_isHold_0 rfl ?_
  refine x_iconst (v := 0) dX8_isHold_1 (by decide) ?_
  refine x_iconst (v := 5) dX8_isHold_2 (by decide) ?_
  refine x_callSi dX8_isHold_3 ml_X8_62 mt_X8_isFrom st_X8_isFrom (ct_X8_isFrom) rfl rfl (Nat.le_of_ble_eq_true rfl) ⟨(Nat.le_of_ble_eq_true rfl), (Nat.le_of_ble_eq_true rfl)⟩ ⟨rfl, rfl⟩ ⟨(Nat.le_of_ble_eq_true rfl), (Nat.le_of_ble_eq_true rfl)⟩ ?_
  exact x_zretb dX8_isHold_6 rfl (Nat.le_of_ble_eq_true rfl) (Nat.le_of_ble_eq_true rfl) ⟨congrArg (fun z => some (Value.int z)) (by rfl), rfl, by rfl, by rfl, rfl⟩
theorem ct_X8_isState {g : zG} {N : Nat} {I : zI} {L : zL} {R : zR} {a : Int32} : Ct g yX8_isState mX8_isState [.int a] N I L R (zD (some (.int (zb (zin a 0 9)))) N I L R) := by
  refine Ct_of (lo0 := [some (.int a)]) rfl rfl rfl rfl (Nat.le_of_ble_eq_true rfl) (fun E => ?_)
  refine x_iload_n dX8_isState_0 rfl ?_
  refine x_iconst (v := 0) dX8_isState_1 (by decide) ?_
  refine x_bipush (v := 9) dX8_isState_2 (by decide) ?_
  refine x_callSi dX8_isState_4 ml_X8_62 mt_X8_isFrom st_X8_isFrom (ct_X8_isFrom) rfl rfl (Nat.le_of_ble_eq_true rfl) ⟨(Nat.le_of_ble_eq_true rfl), (Nat.le_of_ble_eq_true rfl)⟩ ⟨rfl, rfl⟩ ⟨(Nat.le_of_ble_eq_true rfl), (Nat.le_of_ble_eq_true rfl)⟩ ?_
  exact x_zretb dX8_isState_7 rfl (Nat.le_of_ble_eq_true rfl) (Nat.le_of_ble_eq_true rfl) ⟨congrArg (fun z => some (Value.int z)) (by rfl), rfl, by rfl, by rfl, rfl⟩
theorem ct_X8_isSetOfMarks {g : zG} {N : Nat} {I : zI} {L : zL} {R : zR} {a : Int32} : Ct g yX8_isSetOfMarks mX8_isSetOfMarks [.int a] N I L R (zD (some (.int (zb (zin a 0 255)))) N I L R) := by
  refine Ct_of (lo0 := [some (.int a)]) rfl rfl rfl rfl (Nat.le_of_ble_eq_true rfl) (fun E => ?_)
  refine x_iload_n dX8_isSetOfMarks_0 rfl ?_
  refine x_iconst (v := 0) dX8_isSetOfMarks_1 (by decide) ?_
  refine x_sipush (v := 255) dX8_isSetOfMarks_2 (by decide) ?_
  refine x_callSi dX8_isSetOfMarks_5 ml_X8_62 mt_X8_isFrom st_X8_isFrom (ct_X8_isFrom) rfl rfl (Nat.le_of_ble_eq_true rfl) ⟨(Nat.le_of_ble_eq_true rfl), (Nat.le_of_ble_eq_true rfl)⟩ ⟨rfl, rfl⟩ ⟨(Nat.le_of_ble_eq_true rfl), (Nat.le_of_ble_eq_true rfl)⟩ ?_
  exact x_zretb dX8_isSetOfMarks_8 rfl (Nat.le_of_ble_eq_true rfl) (Nat.le_of_ble_eq_true rfl) ⟨congrArg (fun z => some (Value.int z)) (by rfl), rfl, by rfl, by rfl, rfl⟩
theorem ct_X8_areHours {g : zG} {N : Nat} {I : zI} {L : zL} {R : zR} {a b : Int32} : Ct g yX8_areHours mX8_areHours [.int a, .int b] N I L R (zD (some (.int (zb (zin a 0 23 && zin b a 23)))) N I L R) := by
  refine Ct_of (lo0 := [some (.int a), some (.int b)]) rfl rfl rfl rfl (Nat.le_of_ble_eq_true rfl) (fun E => ?_)
  refine x_iload_n dX8_areHours_0 rfl ?_
  refine x_iconst (v := 0) dX8_areHours_1 (by decide) ?_
  refine x_bipush (v := 23) dX8_areHours_2 (by decide) ?_
  refine x_callSi dX8_areHours_4 ml_X8_62 mt_X8_isFrom st_X8_isFrom (ct_X8_isFrom) rfl rfl (Nat.le_of_ble_eq_true rfl) ⟨(Nat.le_of_ble_eq_true rfl), (Nat.le_of_ble_eq_true rfl)⟩ ⟨rfl, rfl⟩ ⟨(Nat.le_of_ble_eq_true rfl), (Nat.le_of_ble_eq_true rfl)⟩ ?_
  refine x_if_eq (tgt := 24) dX8_areHours_7 (by decide) (fun h7 => ?_) (fun h7 => ?_)
  · skip
    replace h7 := zb0 h7
    refine x_iconst (v := 0) dX8_areHours_24 (by decide) ?_
    exact x_zret dX8_areHours_25 rfl rfl (Nat.le_of_ble_eq_true rfl) (Nat.le_of_ble_eq_true rfl) ⟨congrArg (fun z => some (Value.int z)) (by first | (rw [h7, h17]; rfl) | (rw [h7]; rfl)), rfl, by rfl, by rfl, rfl⟩
  · skip
    replace h7 := zb1 h7
    refine x_iload_n dX8_areHours_10 rfl ?_
    refine x_iload_n dX8_areHours_11 rfl ?_
    refine x_bipush (v := 23) dX8_areHours_12 (by decide) ?_
    refine x_callSi dX8_areHours_14 ml_X8_62 mt_X8_isFrom st_X8_isFrom (ct_X8_isFrom) rfl rfl (Nat.le_of_ble_eq_true rfl) ⟨(Nat.le_of_ble_eq_true rfl), (Nat.le_of_ble_eq_true rfl)⟩ ⟨rfl, rfl⟩ ⟨(Nat.le_of_ble_eq_true rfl), (Nat.le_of_ble_eq_true rfl)⟩ ?_
    refine x_if_eq (tgt := 24) dX8_areHours_17 (by decide) (fun h17 => ?_) (fun h17 => ?_)
    · skip
      replace h17 := zb0 h17
      refine x_iconst (v := 0) dX8_areHours_24 (by decide) ?_
      exact x_zret dX8_areHours_25 rfl rfl (Nat.le_of_ble_eq_true rfl) (Nat.le_of_ble_eq_true rfl) ⟨congrArg (fun z => some (Value.int z)) (by first | (rw [h7, h17]; rfl) | (rw [h7]; rfl)), rfl, by rfl, by rfl, rfl⟩
    · skip
      replace h17 := zb1 h17
      refine x_iconst (v := 1) dX8_areHours_20 (by decide) ?_
      refine x_goto (tgt := 25) dX8_areHours_21 (by decide) ?_
      exact x_zret dX8_areHours_25 rfl rfl (Nat.le_of_ble_eq_true rfl) (Nat.le_of_ble_eq_true rfl) ⟨congrArg (fun z => some (Value.int z)) (by first | (rw [h7, h17]; rfl) | (rw [h7]; rfl)), rfl, by rfl, by rfl, rfl⟩
theorem ct_X8_isIn {g : zG} {N : Nat} {I : zI} {L : zL} {R : zR} {a b : Int32} : Ct g yX8_isIn mX8_isIn [.int a, .int b] N I L R (zD (some (.int (zb (zis a b)))) N I L R) := by
  refine Ct_of (lo0 := [some (.int a), some (.int b)]) rfl rfl rfl rfl (Nat.le_of_ble_eq_true rfl) (fun E => ?_)
  refine x_iload_n dX8_isIn_0 rfl ?_
  refine x_iload_n dX8_isIn_1 rfl ?_
  refine x_ishr dX8_isIn_2 ?_
  refine x_iconst (v := 1) dX8_isIn_3 (by decide) ?_
  refine x_iand dX8_isIn_4 ?_
  refine x_pc (pc2 := 5) rfl ?_
  refine x_iconst (v := 1) dX8_isIn_5 (by decide) ?_
  refine x_icmp_ne (tgt := 13) dX8_isIn_6 (by decide) (fun h6 => ?_) (fun h6 => ?_)
  · skip
    refine x_iconst (v := 0) dX8_isIn_13 (by decide) ?_
    exact x_zret dX8_isIn_14 rfl rfl (Nat.le_of_ble_eq_true rfl) (Nat.le_of_ble_eq_true rfl) ⟨congrArg (fun z => some (Value.int z)) (by simp [zis, zb, h6]), rfl, by rfl, by rfl, rfl⟩
  · skip
    refine x_iconst (v := 1) dX8_isIn_9 (by decide) ?_
    refine x_goto (tgt := 14) dX8_isIn_10 (by decide) ?_
    exact x_zret dX8_isIn_14 rfl rfl (Nat.le_of_ble_eq_true rfl) (Nat.le_of_ble_eq_true rfl) ⟨congrArg (fun z => some (Value.int z)) (by simp [zis, zb, h6]), rfl, by rfl, by rfl, rfl⟩
theorem ct_X8_isWithin {g : zG} {N : Nat} {I : zI} {L : zL} {R : zR} {a b : Int32} : Ct g yX8_isWithin mX8_isWithin [.int a, .int b] N I L R (zD (some (.int (zb (zwi a b)))) N I L R) := by
  refine Ct_of (lo0 := [some (.int a), some (.int b)]) rfl rfl rfl rfl (Nat.le_of_ble_eq_true rfl) (fun E => ?_)
  refine x_iload_n dX8_isWithin_0 rfl ?_
  refine x_iload_n dX8_isWithin_1 rfl ?_
  refine x_iconst (v := (-1)) dX8_isWithin_2 (by decide) ?_
  refine x_ixor dX8_isWithin_3 ?_
  refine x_iand dX8_isWithin_4 ?_
  refine x_pc (pc2 := 5) rfl ?_
  refine x_if_ne (tgt := 12) dX8_isWithin_5 (by decide) (fun h5 => ?_) (fun h5 => ?_)
  · skip
    refine x_iconst (v := 0) dX8_isWithin_12 (by decide) ?_
    exact x_zret dX8_isWithin_13 rfl rfl (Nat.le_of_ble_eq_true rfl) (Nat.le_of_ble_eq_true rfl) ⟨congrArg (fun z => some (Value.int z)) (by first | (rw [zwi_t h5]; rfl) | (rw [zwi_f h5]; rfl)), rfl, by rfl, by rfl, rfl⟩
  · skip
    refine x_iconst (v := 1) dX8_isWithin_8 (by decide) ?_
    refine x_goto (tgt := 13) dX8_isWithin_9 (by decide) ?_
    exact x_zret dX8_isWithin_13 rfl rfl (Nat.le_of_ble_eq_true rfl) (Nat.le_of_ble_eq_true rfl) ⟨congrArg (fun z => some (Value.int z)) (by first | (rw [zwi_t h5]; rfl) | (rw [zwi_f h5]; rfl)), rfl, by rfl, by rfl, rfl⟩
theorem ct_X8_hoursFrom {g : zG} {N : Nat} {I : zI} {L : zL} {R : zR} {a b : Int32} : Ct g yX8_hoursFrom mX8_hoursFrom [.int a, .int b] N I L R (zD (some (.int (hfr a b))) N I L R) := by
  refine Ct_of (lo0 := [some (.int a), some (.int b)]) rfl rfl rfl rfl (Nat.le_of_ble_eq_true rfl) (fun E => ?_)
  refine x_iconst (v := 1) dX8_hoursFrom_0 (by decide) ?_
  refine x_iload_n dX8_hoursFrom_1 rfl ?_
  refine x_iconst (v := 1) dX8_hoursFrom_2 (by decide) ?_
  refine x_iadd dX8_hoursFrom_3 ?_
  refine x_ishl dX8_hoursFrom_4 ?_
  refine x_pc (pc2 := 5) rfl ?_
  refine x_iconst (v := 1) dX8_hoursFrom_5 (by decide) ?_
  refine x_iload_n dX8_hoursFrom_6 rfl ?_
  refine x_ishl dX8_hoursFrom_7 ?_
  refine x_isub dX8_hoursFrom_8 ?_
  exact x_iret dX8_hoursFrom_9 rfl (Nat.le_of_ble_eq_true rfl) (Nat.le_of_ble_eq_true rfl) ⟨congrArg (fun z => some (Value.int z)) (by rfl), rfl, by rfl, by rfl, rfl⟩
theorem ct_J6_bitCount_0f7a4 {g : zG} {N : Nat} {I : zI} {L : zL} {R : zR} {a : Int32} : Ct g yJ6_bitCount_0f7a4 mJ6_bitCount_0f7a4 [.int a] N I L R (zD (some (.int (bc a))) N I L R) := by
  refine Ct_of (lo0 := [some (.int a)]) rfl rfl rfl rfl (Nat.le_of_ble_eq_true rfl) (fun E => ?_)
  refine x_iload_n dJ6_bitCount_0f7a4_0 rfl ?_
  refine x_iload_n dJ6_bitCount_0f7a4_1 rfl ?_
  refine x_iconst (v := 1) dJ6_bitCount_0f7a4_2 (by decide) ?_
  refine x_iushr dJ6_bitCount_0f7a4_3 ?_
  refine x_ldcw dJ6_bitCount_0f7a4_4 cn_J6_265 ?_
  refine x_pc (pc2 := 7) rfl ?_
  refine x_iand dJ6_bitCount_0f7a4_7 ?_
  refine x_isub dJ6_bitCount_0f7a4_8 ?_
  refine x_istore_n (lo2 := [_]) dJ6_bitCount_0f7a4_9 (by decide) rfl rfl ?_
  refine x_iload_n dJ6_bitCount_0f7a4_10 rfl ?_
  refine x_ldcw dJ6_bitCount_0f7a4_11 cn_J6_266 ?_
  refine x_iand dJ6_bitCount_0f7a4_14 ?_
  refine x_pc (pc2 := 15) rfl ?_
  refine x_iload_n dJ6_bitCount_0f7a4_15 rfl ?_
  refine x_iconst (v := 2) dJ6_bitCount_0f7a4_16 (by decide) ?_
  refine x_iushr dJ6_bitCount_0f7a4_17 ?_
  refine x_ldcw dJ6_bitCount_0f7a4_18 cn_J6_266 ?_
  refine x_iand dJ6_bitCount_0f7a4_21 ?_
  refine x_iadd dJ6_bitCount_0f7a4_22 ?_
  refine x_pc (pc2 := 23) rfl ?_
  refine x_istore_n (lo2 := [_]) dJ6_bitCount_0f7a4_23 (by decide) rfl rfl ?_
  refine x_iload_n dJ6_bitCount_0f7a4_24 rfl ?_
  refine x_iload_n dJ6_bitCount_0f7a4_25 rfl ?_
  refine x_iconst (v := 4) dJ6_bitCount_0f7a4_26 (by decide) ?_
  refine x_iushr dJ6_bitCount_0f7a4_27 ?_
  refine x_iadd dJ6_bitCount_0f7a4_28 ?_
  refine x_pc (pc2 := 29) rfl ?_
  refine x_ldcw dJ6_bitCount_0f7a4_29 cn_J6_267 ?_
  refine x_iand dJ6_bitCount_0f7a4_32 ?_
  refine x_istore_n (lo2 := [_]) dJ6_bitCount_0f7a4_33 (by decide) rfl rfl ?_
  refine x_iload_n dJ6_bitCount_0f7a4_34 rfl ?_
  refine x_iload_n dJ6_bitCount_0f7a4_35 rfl ?_
  refine x_bipush (v := 8) dJ6_bitCount_0f7a4_36 (by decide) ?_
  refine x_pc (pc2 := 38) rfl ?_
  refine x_iushr dJ6_bitCount_0f7a4_38 ?_
  refine x_iadd dJ6_bitCount_0f7a4_39 ?_
  refine x_istore_n (lo2 := [_]) dJ6_bitCount_0f7a4_40 (by decide) rfl rfl ?_
  refine x_iload_n dJ6_bitCount_0f7a4_41 rfl ?_
  refine x_iload_n dJ6_bitCount_0f7a4_42 rfl ?_
  refine x_bipush (v := 16) dJ6_bitCount_0f7a4_43 (by decide) ?_
  refine x_pc (pc2 := 45) rfl ?_
  refine x_iushr dJ6_bitCount_0f7a4_45 ?_
  refine x_iadd dJ6_bitCount_0f7a4_46 ?_
  refine x_istore_n (lo2 := [_]) dJ6_bitCount_0f7a4_47 (by decide) rfl rfl ?_
  refine x_iload_n dJ6_bitCount_0f7a4_48 rfl ?_
  refine x_bipush (v := 63) dJ6_bitCount_0f7a4_49 (by decide) ?_
  refine x_iand dJ6_bitCount_0f7a4_51 ?_
  refine x_pc (pc2 := 52) rfl ?_
  exact x_iret dJ6_bitCount_0f7a4_52 rfl (Nat.le_of_ble_eq_true rfl) (Nat.le_of_ble_eq_true rfl) ⟨congrArg (fun z => some (Value.int z)) (by rfl), rfl, by rfl, by rfl, rfl⟩
theorem ct_X3_isThere {g : zG} {N : Nat} {I : zI} {L : zL} {q0 q1 : Option Nat} {m : Nat} {j : Int32} (hm : zMi m) (hN : m + 11 ≤ N) : Ct g yX3_isThere mX3_isThere [.ref (g.2.1 + m), .int j] N I L (zRw q0 q1) (zD (some (.int (zb (zth (I (m + 1)) j)))) N I L (zRw q0 q1)) := by
  refine Ct_of (lo0 := [some (.ref (g.2.1 + m)), some (.int j)]) rfl rfl rfl rfl (Nat.le_of_ble_eq_true rfl) (fun E => ?_)
  refine x_iload_n dX3_isThere_0 rfl ?_
  refine x_iconst (v := 0) dX3_isThere_1 (by decide) ?_
  refine x_iconst (v := 5) dX3_isThere_2 (by decide) ?_
  refine x_callNi dX3_isThere_3 nn_X3_57 mt_X8_isFrom st_X8_isFrom (ct_X8_isFrom) rfl rfl (Nat.le_of_ble_eq_true rfl) ⟨(Nat.le_of_ble_eq_true rfl), (Nat.le_of_ble_eq_true rfl)⟩ ⟨rfl, rfl⟩ ⟨(Nat.le_of_ble_eq_true rfl), (Nat.le_of_ble_eq_true rfl)⟩ ?_
  refine x_if_eq (tgt := 22) dX3_isThere_6 (by decide) (fun h6 => ?_) (fun h6 => ?_)
  · skip
    replace h6 := zb0 h6
    refine x_iconst (v := 0) dX3_isThere_22 (by decide) ?_
    exact x_zret dX3_isThere_23 rfl rfl (Nat.le_of_ble_eq_true rfl) (Nat.le_of_ble_eq_true rfl) ⟨congrArg (fun z => some (Value.int z)) (by first | (simp [zth, zb, h6]; done) | (rw [zth_le hi]; simp [zb, h15])), rfl, by rfl, by rfl, rfl⟩
  · skip
    replace h6 := zb1 h6
    obtain ⟨i, hi, rfl⟩ := zin_ex (b := 5) (by decide) h6
    refine x_aload_n dX3_isThere_9 rfl ?_
    refine x_getR dX3_isThere_10 fl_X3_9 (by omega) (zM_t0 hm) rfl (zM_R0 hm) ?_
    refine x_iload_n dX3_isThere_13 rfl ?_
    refine x_ialdN dX3_isThere_14 (by omega) (zM_t1 hm) rfl (by omega) ?_
    refine x_if_le (tgt := 22) dX3_isThere_15 (by decide) (fun h15 => ?_) (fun h15 => ?_)
    · skip
      refine x_iconst (v := 0) dX3_isThere_22 (by decide) ?_
      exact x_zret dX3_isThere_23 rfl rfl (Nat.le_of_ble_eq_true rfl) (Nat.le_of_ble_eq_true rfl) ⟨congrArg (fun z => some (Value.int z)) (by first | (simp [zth, zb, h6]; done) | (rw [zth_le hi]; simp [zb, h15])), rfl, by rfl, by rfl, rfl⟩
    · skip
      refine x_iconst (v := 1) dX3_isThere_18 (by decide) ?_
      refine x_goto (tgt := 23) dX3_isThere_19 (by decide) ?_
      exact x_zret dX3_isThere_23 rfl rfl (Nat.le_of_ble_eq_true rfl) (Nat.le_of_ble_eq_true rfl) ⟨congrArg (fun z => some (Value.int z)) (by first | (simp [zth, zb, h6]; done) | (rw [zth_le hi]; simp [zb, h15])), rfl, by rfl, by rfl, rfl⟩
theorem ct_X3_griefsThere {g : zG} {N : Nat} {I : zI} {L : zL} {q0 q1 : Option Nat} {m : Nat} (hm : zMi m) (hN : m + 11 ≤ N) : Ct g yX3_griefsThere mX3_griefsThere [.ref (g.2.1 + m)] N I L (zRw q0 q1) (zD (some (.int (gt_ (I (m + 1)) 6))) N I L (zRw q0 q1)) := by
  refine Ct_of (lo0 := [some (.ref (g.2.1 + m)), none, none]) rfl rfl rfl rfl (Nat.le_of_ble_eq_true rfl) (fun E => ?_)
  refine x_iconst (v := 0) dX3_griefsThere_0 (by decide) ?_
  refine x_istore_n (lo2 := [_, _, _]) dX3_griefsThere_1 (by decide) rfl rfl ?_
  refine x_iconst (v := 0) dX3_griefsThere_2 (by decide) ?_
  refine x_istore_n (lo2 := [_, _, _]) dX3_griefsThere_3 (by decide) rfl rfl ?_
  refine x_loop (inv := fun i => True) (fun i => [some (.ref (g.2.1 + m)), some (.int (gt_ (I (m + 1)) i)), some (.int (nI i))]) (fun i => I) (fun i => L) 0 6 (by omega) (by trivial) (by rfl) (by rfl) (by rfl) (fun i hloi hhii hinvi Ki => ?_) (fun hinvi => ?_)
  · skip
    refine x_iload_n dX3_griefsThere_4 rfl ?_
    refine x_bipush (v := 6) dX3_griefsThere_5 (by decide) ?_
    refine x_icmp_ge (tgt := 31) dX3_griefsThere_7 (by decide) (fun h7 => ?_) (fun h7 => ?_)
    · skip
      exact absurd h7 (nI_ge (b := 6) hhii (by decide))
    · skip
      refine x_aload_n dX3_griefsThere_10 rfl ?_
      refine x_getR dX3_griefsThere_11 fl_X3_9 (by omega) (zM_t0 hm) rfl (zM_R0 hm) ?_
      refine x_iload_n dX3_griefsThere_14 rfl ?_
      refine x_ialdN dX3_griefsThere_15 (by omega) (zM_t1 hm) rfl (by omega) ?_
      refine x_if_le (tgt := 25) dX3_griefsThere_16 (by decide) (fun h16 => ?_) (fun h16 => ?_)
      · skip
        refine x_iincN (lo2 := [_, _, _]) dX3_griefsThere_25 rfl rfl rfl ?_
        refine x_goto (tgt := 4) dX3_griefsThere_28 (by decide) ?_
        exact x_eq (by simp [gt_, h7, h16]) (by rfl) (by rfl) (Ki (by trivial))
      · skip
        refine x_iload_n dX3_griefsThere_19 rfl ?_
        refine x_iconst (v := 1) dX3_griefsThere_20 (by decide) ?_
        refine x_iload_n dX3_griefsThere_21 rfl ?_
        refine x_ishl dX3_griefsThere_22 ?_
        refine x_ior dX3_griefsThere_23 ?_
        refine x_pc (pc2 := 24) rfl ?_
        refine x_istore_n (lo2 := [_, _, _]) dX3_griefsThere_24 (by decide) rfl rfl ?_
        refine x_iincN (lo2 := [_, _, _]) dX3_griefsThere_25 rfl rfl rfl ?_
        refine x_goto (tgt := 4) dX3_griefsThere_28 (by decide) ?_
        exact x_eq (by simp [gt_, h7, h16]) (by rfl) (by rfl) (Ki (by trivial))
  · skip
    refine x_iload_n dX3_griefsThere_4 rfl ?_
    refine x_bipush (v := 6) dX3_griefsThere_5 (by decide) ?_
    refine x_icmp_ge (tgt := 31) dX3_griefsThere_7 (by decide) (fun h7 => ?_) (fun h7 => ?_)
    · skip
      refine x_iload_n dX3_griefsThere_31 rfl ?_
      exact x_iret dX3_griefsThere_32 rfl (Nat.le_of_ble_eq_true rfl) (Nat.le_of_ble_eq_true rfl) ⟨congrArg (fun z => some (Value.int z)) (by rfl), rfl, by rfl, by rfl, rfl⟩
    · skip
      exact absurd (nI_le (b := 6) (Nat.le_refl 6) (by decide)) h7
theorem ct_X3_griefPart {g : zG} {N : Nat} {I : zI} {L : zL} {q0 q1 : Option Nat} {m : Nat} {j p : Int32} {i : Nat} (hm : zMi m) (hN : m + 11 ≤ N) (hj : j = nI i) (hi : i < 6) : Ct g yX3_griefPart mX3_griefPart [.ref (g.2.1 + m), .int j, .int p] N I L (zRw q0 q1) (zD (some (.int (if p = 0 then I (m + 1) i else I (m + 2) i))) N I L (zRw q0 q1)) := by
  refine Ct_of (lo0 := [some (.ref (g.2.1 + m)), some (.int j), some (.int p)]) rfl rfl rfl rfl (Nat.le_of_ble_eq_true rfl) (fun E => ?_)
  refine x_iload_n dX3_griefPart_0 rfl ?_
  refine x_if_ne (tgt := 13) dX3_griefPart_1 (by decide) (fun h1 => ?_) (fun h1 => ?_)
  · skip
    refine x_aload_n dX3_griefPart_13 rfl ?_
    refine x_getR dX3_griefPart_14 fl_X3_15 (by omega) (zM_t0 hm) rfl (zM_R1 hm) ?_
    refine x_iload_n dX3_griefPart_17 rfl ?_
    refine x_ialdN dX3_griefPart_18 (by omega) (zM_t2 hm) hj hi ?_
    exact x_iret dX3_griefPart_19 rfl (Nat.le_of_ble_eq_true rfl) (Nat.le_of_ble_eq_true rfl) ⟨congrArg (fun z => some (Value.int z)) (by simp [h1]), rfl, by rfl, by rfl, rfl⟩
  · skip
    refine x_aload_n dX3_griefPart_4 rfl ?_
    refine x_getR dX3_griefPart_5 fl_X3_9 (by omega) (zM_t0 hm) rfl (zM_R0 hm) ?_
    refine x_iload_n dX3_griefPart_8 rfl ?_
    refine x_ialdN dX3_griefPart_9 (by omega) (zM_t1 hm) hj hi ?_
    refine x_goto (tgt := 19) dX3_griefPart_10 (by decide) ?_
    exact x_iret dX3_griefPart_19 rfl (Nat.le_of_ble_eq_true rfl) (Nat.le_of_ble_eq_true rfl) ⟨congrArg (fun z => some (Value.int z)) (by simp [h1]), rfl, by rfl, by rfl, rfl⟩
theorem ct_X3_holdAsNumber {g : zG} {N : Nat} {I : zI} {L : zL} {q0 q1 : Option Nat} {m : Nat} {j : Int32} {i : Nat} (hm : zMi m) (hN : m + 11 ≤ N) (hj : j = nI i) (hi : i < 6) : Ct g yX3_holdAsNumber mX3_holdAsNumber [.ref (g.2.1 + m), .int j] N I L (zRw q0 q1) (zD (some (.int (1000 * I (m + 3) i + 10 * I (m + 4) i + I (m + 5) i))) N I L (zRw q0 q1)) := by
  refine Ct_of (lo0 := [some (.ref (g.2.1 + m)), some (.int j)]) rfl rfl rfl rfl (Nat.le_of_ble_eq_true rfl) (fun E => ?_)
  refine x_sipush (v := 1000) dX3_holdAsNumber_0 (by decide) ?_
  refine x_aload_n dX3_holdAsNumber_3 rfl ?_
  refine x_getR dX3_holdAsNumber_4 fl_X3_18 (by omega) (zM_t0 hm) rfl (zM_R2 hm) ?_
  refine x_iload_n dX3_holdAsNumber_7 rfl ?_
  refine x_ialdN dX3_holdAsNumber_8 (by omega) (zM_t3 hm) hj hi ?_
  refine x_pc (pc2 := 9) rfl ?_
  refine x_imul dX3_holdAsNumber_9 ?_
  refine x_bipush (v := 10) dX3_holdAsNumber_10 (by decide) ?_
  refine x_aload_n dX3_holdAsNumber_12 rfl ?_
  refine x_getR dX3_holdAsNumber_13 fl_X3_21 (by omega) (zM_t0 hm) rfl (zM_R3 hm) ?_
  refine x_iload_n dX3_holdAsNumber_16 rfl ?_
  refine x_ialdN dX3_holdAsNumber_17 (by omega) (zM_t4 hm) hj hi ?_
  refine x_pc (pc2 := 18) rfl ?_
  refine x_imul dX3_holdAsNumber_18 ?_
  refine x_iadd dX3_holdAsNumber_19 ?_
  refine x_aload_n dX3_holdAsNumber_20 rfl ?_
  refine x_getR dX3_holdAsNumber_21 fl_X3_24 (by omega) (zM_t0 hm) rfl (zM_R4 hm) ?_
  refine x_iload_n dX3_holdAsNumber_24 rfl ?_
  refine x_ialdN dX3_holdAsNumber_25 (by omega) (zM_t5 hm) hj hi ?_
  refine x_pc (pc2 := 26) rfl ?_
  refine x_iadd dX3_holdAsNumber_26 ?_
  exact x_iret dX3_holdAsNumber_27 rfl (Nat.le_of_ble_eq_true rfl) (Nat.le_of_ble_eq_true rfl) ⟨congrArg (fun z => some (Value.int z)) (by rfl), rfl, by rfl, by rfl, rfl⟩
theorem ct_X3_coatAsNumber {g : zG} {N : Nat} {I : zI} {L : zL} {q0 q1 : Option Nat} {m : Nat} {j : Int32} {i : Nat} (hm : zMi m) (hN : m + 11 ≤ N) (hj : j = nI i) (hi : i < 8) : Ct g yX3_coatAsNumber mX3_coatAsNumber [.ref (g.2.1 + m), .int j] N I L (zRw q0 q1) (zD (some (.int (100 * I (m + 6) i + I (m + 7) i))) N I L (zRw q0 q1)) := by
  refine Ct_of (lo0 := [some (.ref (g.2.1 + m)), some (.int j)]) rfl rfl rfl rfl (Nat.le_of_ble_eq_true rfl) (fun E => ?_)
  refine x_bipush (v := 100) dX3_coatAsNumber_0 (by decide) ?_
  refine x_aload_n dX3_coatAsNumber_2 rfl ?_
  refine x_getR dX3_coatAsNumber_3 fl_X3_27 (by omega) (zM_t0 hm) rfl (zM_R5 hm) ?_
  refine x_iload_n dX3_coatAsNumber_6 rfl ?_
  refine x_ialdN dX3_coatAsNumber_7 (by omega) (zM_t6 hm) hj hi ?_
  refine x_pc (pc2 := 8) rfl ?_
  refine x_imul dX3_coatAsNumber_8 ?_
  refine x_aload_n dX3_coatAsNumber_9 rfl ?_
  refine x_getR dX3_coatAsNumber_10 fl_X3_30 (by omega) (zM_t0 hm) rfl (zM_R6 hm) ?_
  refine x_iload_n dX3_coatAsNumber_13 rfl ?_
  refine x_ialdN dX3_coatAsNumber_14 (by omega) (zM_t7 hm) hj hi ?_
  refine x_iadd dX3_coatAsNumber_15 ?_
  refine x_pc (pc2 := 16) rfl ?_
  exact x_iret dX3_coatAsNumber_16 rfl (Nat.le_of_ble_eq_true rfl) (Nat.le_of_ble_eq_true rfl) ⟨congrArg (fun z => some (Value.int z)) (by rfl), rfl, by rfl, by rfl, rfl⟩
theorem ct_X3_countMoves {g : zG} {N : Nat} {I : zI} {L : zL} {q0 q1 : Option Nat} {m : Nat} (hm : zMi m) (hN : m + 11 ≤ N) : Ct g yX3_countMoves mX3_countMoves [.ref (g.2.1 + m)] N I L (zRw q0 q1) (zD (some (.int (cm_ (I (m + 8)) 10))) N I L (zRw q0 q1)) := by
  refine Ct_of (lo0 := [some (.ref (g.2.1 + m)), none, none]) rfl rfl rfl rfl (Nat.le_of_ble_eq_true rfl) (fun E => ?_)
  refine x_iconst (v := 0) dX3_countMoves_0 (by decide) ?_
  refine x_istore_n (lo2 := [_, _, _]) dX3_countMoves_1 (by decide) rfl rfl ?_
  refine x_iconst (v := 0) dX3_countMoves_2 (by decide) ?_
  refine x_istore_n (lo2 := [_, _, _]) dX3_countMoves_3 (by decide) rfl rfl ?_
  refine x_loop (inv := fun i => True) (fun i => [some (.ref (g.2.1 + m)), some (.int (cm_ (I (m + 8)) i)), some (.int (nI i))]) (fun i => I) (fun i => L) 0 10 (by omega) (by trivial) (by rfl) (by rfl) (by rfl) (fun i hloi hhii hinvi Ki => ?_) (fun hinvi => ?_)
  · skip
    refine x_iload_n dX3_countMoves_4 rfl ?_
    refine x_bipush (v := 10) dX3_countMoves_5 (by decide) ?_
    refine x_icmp_ge (tgt := 28) dX3_countMoves_7 (by decide) (fun h7 => ?_) (fun h7 => ?_)
    · skip
      exact absurd h7 (nI_ge (b := 10) hhii (by decide))
    · skip
      refine x_iload_n dX3_countMoves_10 rfl ?_
      refine x_aload_n dX3_countMoves_11 rfl ?_
      refine x_getR dX3_countMoves_12 fl_X3_33 (by omega) (zM_t0 hm) rfl (zM_R7 hm) ?_
      refine x_iload_n dX3_countMoves_15 rfl ?_
      refine x_ialdN dX3_countMoves_16 (by omega) (zM_t8 hm) rfl (by omega) ?_
      refine x_pc (pc2 := 17) rfl ?_
      refine x_callSi dX3_countMoves_17 ml_X3_61 mt_J6_bitCount_0f7a4 st_J6_bitCount_0f7a4 (ct_J6_bitCount_0f7a4) rfl rfl (Nat.le_of_ble_eq_true rfl) ⟨(Nat.le_of_ble_eq_true rfl), (Nat.le_of_ble_eq_true rfl)⟩ ⟨rfl, rfl⟩ ⟨(Nat.le_of_ble_eq_true rfl), (Nat.le_of_ble_eq_true rfl)⟩ ?_
      refine x_iadd dX3_countMoves_20 ?_
      refine x_istore_n (lo2 := [_, _, _]) dX3_countMoves_21 (by decide) rfl rfl ?_
      refine x_iincN (lo2 := [_, _, _]) dX3_countMoves_22 rfl rfl rfl ?_
      refine x_goto (tgt := 4) dX3_countMoves_25 (by decide) ?_
      exact x_eq (by rfl) (by rfl) (by rfl) (Ki (by trivial))
  · skip
    refine x_iload_n dX3_countMoves_4 rfl ?_
    refine x_bipush (v := 10) dX3_countMoves_5 (by decide) ?_
    refine x_icmp_ge (tgt := 28) dX3_countMoves_7 (by decide) (fun h7 => ?_) (fun h7 => ?_)
    · skip
      refine x_iload_n dX3_countMoves_28 rfl ?_
      exact x_iret dX3_countMoves_29 rfl (Nat.le_of_ble_eq_true rfl) (Nat.le_of_ble_eq_true rfl) ⟨congrArg (fun z => some (Value.int z)) (by rfl), rfl, by rfl, by rfl, rfl⟩
    · skip
      exact absurd (nI_le (b := 10) (Nat.le_refl 10) (by decide)) h7
theorem ct_X3_holdsThatFit {g : zG} {N : Nat} {I : zI} {L : zL} {q0 q1 : Option Nat} {m : Nat} {j : Int32} {k : Nat} (hm : zMi m) (hN : m + 11 ≤ N) (hj : j = nI k) (hk : k < 6) : Ct g yX3_holdsThatFit mX3_holdsThatFit [.ref (g.2.1 + m), .int j] N I L (zRw q0 q1) (zD (some (.int (hf_ (I (m + 3)) (I (m + 2) k) 6))) N I L (zRw q0 q1)) := by
  refine Ct_of (lo0 := [some (.ref (g.2.1 + m)), some (.int j), none, none]) rfl rfl rfl rfl (Nat.le_of_ble_eq_true rfl) (fun E => ?_)
  refine x_iconst (v := 0) dX3_holdsThatFit_0 (by decide) ?_
  refine x_istore_n (lo2 := [_, _, _, _]) dX3_holdsThatFit_1 (by decide) rfl rfl ?_
  refine x_iconst (v := 0) dX3_holdsThatFit_2 (by decide) ?_
  refine x_istore_n (lo2 := [_, _, _, _]) dX3_holdsThatFit_3 (by decide) rfl rfl ?_
  refine x_loop (inv := fun i => True) (fun i => [some (.ref (g.2.1 + m)), some (.int j), some (.int (hf_ (I (m + 3)) (I (m + 2) k) i)), some (.int (nI i))]) (fun i => I) (fun i => L) 0 6 (by omega) (by trivial) (by rfl) (by rfl) (by rfl) (fun i hloi hhii hinvi Ki => ?_) (fun hinvi => ?_)
  · skip
    refine x_iload_n dX3_holdsThatFit_4 rfl ?_
    refine x_bipush (v := 6) dX3_holdsThatFit_5 (by decide) ?_
    refine x_icmp_ge (tgt := 40) dX3_holdsThatFit_7 (by decide) (fun h7 => ?_) (fun h7 => ?_)
    · skip
      exact absurd h7 (nI_ge (b := 6) hhii (by decide))
    · skip
      refine x_aload_n dX3_holdsThatFit_10 rfl ?_
      refine x_getR dX3_holdsThatFit_11 fl_X3_18 (by omega) (zM_t0 hm) rfl (zM_R2 hm) ?_
      refine x_iload_n dX3_holdsThatFit_14 rfl ?_
      refine x_ialdN dX3_holdsThatFit_15 (by omega) (zM_t3 hm) rfl (by omega) ?_
      refine x_aload_n dX3_holdsThatFit_16 rfl ?_
      refine x_pc (pc2 := 17) rfl ?_
      refine x_getR dX3_holdsThatFit_17 fl_X3_15 (by omega) (zM_t0 hm) rfl (zM_R1 hm) ?_
      refine x_iload_n dX3_holdsThatFit_20 rfl ?_
      refine x_ialdN dX3_holdsThatFit_21 (by omega) (zM_t2 hm) hj hk ?_
      refine x_callNi dX3_holdsThatFit_22 nn_X3_67 mt_X8_isWithin st_X8_isWithin (ct_X8_isWithin) rfl rfl (Nat.le_of_ble_eq_true rfl) ⟨(Nat.le_of_ble_eq_true rfl), (Nat.le_of_ble_eq_true rfl)⟩ ⟨rfl, rfl⟩ ⟨(Nat.le_of_ble_eq_true rfl), (Nat.le_of_ble_eq_true rfl)⟩ ?_
      refine x_if_eq (tgt := 34) dX3_holdsThatFit_25 (by decide) (fun h25 => ?_) (fun h25 => ?_)
      · skip
        replace h25 := zb0 h25
        refine x_iincN (lo2 := [_, _, _, _]) dX3_holdsThatFit_34 rfl rfl rfl ?_
        refine x_goto (tgt := 4) dX3_holdsThatFit_37 (by decide) ?_
        exact x_eq (by simp [hf_, h7, h25]) (by rfl) (by rfl) (Ki (by trivial))
      · skip
        replace h25 := zb1 h25
        refine x_iload_n dX3_holdsThatFit_28 rfl ?_
        refine x_iconst (v := 1) dX3_holdsThatFit_29 (by decide) ?_
        refine x_iload_n dX3_holdsThatFit_30 rfl ?_
        refine x_ishl dX3_holdsThatFit_31 ?_
        refine x_ior dX3_holdsThatFit_32 ?_
        refine x_pc (pc2 := 33) rfl ?_
        refine x_istore_n (lo2 := [_, _, _, _]) dX3_holdsThatFit_33 (by decide) rfl rfl ?_
        refine x_iincN (lo2 := [_, _, _, _]) dX3_holdsThatFit_34 rfl rfl rfl ?_
        refine x_goto (tgt := 4) dX3_holdsThatFit_37 (by decide) ?_
        exact x_eq (by simp [hf_, h7, h25]) (by rfl) (by rfl) (Ki (by trivial))
  · skip
    refine x_iload_n dX3_holdsThatFit_4 rfl ?_
    refine x_bipush (v := 6) dX3_holdsThatFit_5 (by decide) ?_
    refine x_icmp_ge (tgt := 40) dX3_holdsThatFit_7 (by decide) (fun h7 => ?_) (fun h7 => ?_)
    · skip
      refine x_iload_n dX3_holdsThatFit_40 rfl ?_
      exact x_iret dX3_holdsThatFit_41 rfl (Nat.le_of_ble_eq_true rfl) (Nat.le_of_ble_eq_true rfl) ⟨congrArg (fun z => some (Value.int z)) (by rfl), rfl, by rfl, by rfl, rfl⟩
    · skip
      exact absurd (nI_le (b := 6) (Nat.le_refl 6) (by decide)) h7
theorem ct_X3_strengthOf {g : zG} {N : Nat} {I : zI} {L : zL} {q0 q1 : Option Nat} {m : Nat} {a : Int32} (hm : zMi m) (hN : m + 11 ≤ N) : Ct g yX3_strengthOf mX3_strengthOf [.ref (g.2.1 + m), .int a] N I L (zRw q0 q1) (zD (some (.int (so_ (I (m + 1)) a 6))) N I L (zRw q0 q1)) := by
  refine Ct_of (lo0 := [some (.ref (g.2.1 + m)), some (.int a), none, none]) rfl rfl rfl rfl (Nat.le_of_ble_eq_true rfl) (fun E => ?_)
  refine x_iconst (v := 0) dX3_strengthOf_0 (by decide) ?_
  refine x_istore_n (lo2 := [_, _, _, _]) dX3_strengthOf_1 (by decide) rfl rfl ?_
  refine x_iconst (v := 0) dX3_strengthOf_2 (by decide) ?_
  refine x_istore_n (lo2 := [_, _, _, _]) dX3_strengthOf_3 (by decide) rfl rfl ?_
  refine x_loop (inv := fun i => True) (fun i => [some (.ref (g.2.1 + m)), some (.int a), some (.int (so_ (I (m + 1)) a i)), some (.int (nI i))]) (fun i => I) (fun i => L) 0 6 (by omega) (by trivial) (by rfl) (by rfl) (by rfl) (fun i hloi hhii hinvi Ki => ?_) (fun hinvi => ?_)
  · skip
    refine x_iload_n dX3_strengthOf_4 rfl ?_
    refine x_bipush (v := 6) dX3_strengthOf_5 (by decide) ?_
    refine x_icmp_ge (tgt := 33) dX3_strengthOf_7 (by decide) (fun h7 => ?_) (fun h7 => ?_)
    · skip
      exact absurd h7 (nI_ge (b := 6) hhii (by decide))
    · skip
      refine x_iload_n dX3_strengthOf_10 rfl ?_
      refine x_iload_n dX3_strengthOf_11 rfl ?_
      refine x_callNi dX3_strengthOf_12 nn_X3_114 mt_X8_isIn st_X8_isIn (ct_X8_isIn) rfl rfl (Nat.le_of_ble_eq_true rfl) ⟨(Nat.le_of_ble_eq_true rfl), (Nat.le_of_ble_eq_true rfl)⟩ ⟨rfl, rfl⟩ ⟨(Nat.le_of_ble_eq_true rfl), (Nat.le_of_ble_eq_true rfl)⟩ ?_
      refine x_if_eq (tgt := 27) dX3_strengthOf_15 (by decide) (fun h15 => ?_) (fun h15 => ?_)
      · skip
        replace h15 := zb0 h15
        refine x_iincN (lo2 := [_, _, _, _]) dX3_strengthOf_27 rfl rfl rfl ?_
        refine x_goto (tgt := 4) dX3_strengthOf_30 (by decide) ?_
        exact x_eq (by simp [so_, h7, h15]) (by rfl) (by rfl) (Ki (by trivial))
      · skip
        replace h15 := zb1 h15
        refine x_iload_n dX3_strengthOf_18 rfl ?_
        refine x_aload_n dX3_strengthOf_19 rfl ?_
        refine x_getR dX3_strengthOf_20 fl_X3_9 (by omega) (zM_t0 hm) rfl (zM_R0 hm) ?_
        refine x_iload_n dX3_strengthOf_23 rfl ?_
        refine x_ialdN dX3_strengthOf_24 (by omega) (zM_t1 hm) rfl (by omega) ?_
        refine x_pc (pc2 := 25) rfl ?_
        refine x_iadd dX3_strengthOf_25 ?_
        refine x_istore_n (lo2 := [_, _, _, _]) dX3_strengthOf_26 (by decide) rfl rfl ?_
        refine x_iincN (lo2 := [_, _, _, _]) dX3_strengthOf_27 rfl rfl rfl ?_
        refine x_goto (tgt := 4) dX3_strengthOf_30 (by decide) ?_
        exact x_eq (by simp [so_, h7, h15]) (by rfl) (by rfl) (Ki (by trivial))
  · skip
    refine x_iload_n dX3_strengthOf_4 rfl ?_
    refine x_bipush (v := 6) dX3_strengthOf_5 (by decide) ?_
    refine x_icmp_ge (tgt := 33) dX3_strengthOf_7 (by decide) (fun h7 => ?_) (fun h7 => ?_)
    · skip
      refine x_iload_n dX3_strengthOf_33 rfl ?_
      exact x_iret dX3_strengthOf_34 rfl (Nat.le_of_ble_eq_true rfl) (Nat.le_of_ble_eq_true rfl) ⟨congrArg (fun z => some (Value.int z)) (by rfl), rfl, by rfl, by rfl, rfl⟩
    · skip
      exact absurd (nI_le (b := 6) (Nat.le_refl 6) (by decide)) h7
theorem ct_X3_marksOf {g : zG} {N : Nat} {I : zI} {L : zL} {q0 q1 : Option Nat} {m : Nat} {a : Int32} (hm : zMi m) (hN : m + 11 ≤ N) : Ct g yX3_marksOf mX3_marksOf [.ref (g.2.1 + m), .int a] N I L (zRw q0 q1) (zD (some (.int (mo_ (I (m + 2)) a 6))) N I L (zRw q0 q1)) := by
  refine Ct_of (lo0 := [some (.ref (g.2.1 + m)), some (.int a), none, none]) rfl rfl rfl rfl (Nat.le_of_ble_eq_true rfl) (fun E => ?_)
  refine x_iconst (v := 0) dX3_marksOf_0 (by decide) ?_
  refine x_istore_n (lo2 := [_, _, _, _]) dX3_marksOf_1 (by decide) rfl rfl ?_
  refine x_iconst (v := 0) dX3_marksOf_2 (by decide) ?_
  refine x_istore_n (lo2 := [_, _, _, _]) dX3_marksOf_3 (by decide) rfl rfl ?_
  refine x_loop (inv := fun i => True) (fun i => [some (.ref (g.2.1 + m)), some (.int a), some (.int (mo_ (I (m + 2)) a i)), some (.int (nI i))]) (fun i => I) (fun i => L) 0 6 (by omega) (by trivial) (by rfl) (by rfl) (by rfl) (fun i hloi hhii hinvi Ki => ?_) (fun hinvi => ?_)
  · skip
    refine x_iload_n dX3_marksOf_4 rfl ?_
    refine x_bipush (v := 6) dX3_marksOf_5 (by decide) ?_
    refine x_icmp_ge (tgt := 33) dX3_marksOf_7 (by decide) (fun h7 => ?_) (fun h7 => ?_)
    · skip
      exact absurd h7 (nI_ge (b := 6) hhii (by decide))
    · skip
      refine x_iload_n dX3_marksOf_10 rfl ?_
      refine x_iload_n dX3_marksOf_11 rfl ?_
      refine x_callNi dX3_marksOf_12 nn_X3_114 mt_X8_isIn st_X8_isIn (ct_X8_isIn) rfl rfl (Nat.le_of_ble_eq_true rfl) ⟨(Nat.le_of_ble_eq_true rfl), (Nat.le_of_ble_eq_true rfl)⟩ ⟨rfl, rfl⟩ ⟨(Nat.le_of_ble_eq_true rfl), (Nat.le_of_ble_eq_true rfl)⟩ ?_
      refine x_if_eq (tgt := 27) dX3_marksOf_15 (by decide) (fun h15 => ?_) (fun h15 => ?_)
      · skip
        replace h15 := zb0 h15
        refine x_iincN (lo2 := [_, _, _, _]) dX3_marksOf_27 rfl rfl rfl ?_
        refine x_goto (tgt := 4) dX3_marksOf_30 (by decide) ?_
        exact x_eq (by simp [mo_, h7, h15]) (by rfl) (by rfl) (Ki (by trivial))
      · skip
        replace h15 := zb1 h15
        refine x_iload_n dX3_marksOf_18 rfl ?_
        refine x_aload_n dX3_marksOf_19 rfl ?_
        refine x_getR dX3_marksOf_20 fl_X3_15 (by omega) (zM_t0 hm) rfl (zM_R1 hm) ?_
        refine x_iload_n dX3_marksOf_23 rfl ?_
        refine x_ialdN dX3_marksOf_24 (by omega) (zM_t2 hm) rfl (by omega) ?_
        refine x_pc (pc2 := 25) rfl ?_
        refine x_ior dX3_marksOf_25 ?_
        refine x_istore_n (lo2 := [_, _, _, _]) dX3_marksOf_26 (by decide) rfl rfl ?_
        refine x_iincN (lo2 := [_, _, _, _]) dX3_marksOf_27 rfl rfl rfl ?_
        refine x_goto (tgt := 4) dX3_marksOf_30 (by decide) ?_
        exact x_eq (by simp [mo_, h7, h15]) (by rfl) (by rfl) (Ki (by trivial))
  · skip
    refine x_iload_n dX3_marksOf_4 rfl ?_
    refine x_bipush (v := 6) dX3_marksOf_5 (by decide) ?_
    refine x_icmp_ge (tgt := 33) dX3_marksOf_7 (by decide) (fun h7 => ?_) (fun h7 => ?_)
    · skip
      refine x_iload_n dX3_marksOf_33 rfl ?_
      exact x_iret dX3_marksOf_34 rfl (Nat.le_of_ble_eq_true rfl) (Nat.le_of_ble_eq_true rfl) ⟨congrArg (fun z => some (Value.int z)) (by rfl), rfl, by rfl, by rfl, rfl⟩
    · skip
      exact absurd (nI_le (b := 6) (Nat.le_refl 6) (by decide)) h7
theorem ct_X3_leastSetWith {g : zG} {N : Nat} {I : zI} {L : zL} {q0 q1 : Option Nat} {m : Nat} {a : Int32} (hm : zMi m) (hN : m + 11 ≤ N) : Ct g yX3_leastSetWith mX3_leastSetWith [.ref (g.2.1 + m), .int a] N I L (zRw q0 q1) (zD (some (.int (ls_ (I (m + 1)) (I (m + 2)) a 64))) N I L (zRw q0 q1)) := by
  refine Ct_of (lo0 := [some (.ref (g.2.1 + m)), some (.int a), none, none, none]) rfl rfl rfl rfl (Nat.le_of_ble_eq_true rfl) (fun E => ?_)
  refine x_aload_n dX3_leastSetWith_0 rfl ?_
  refine x_callVi dX3_leastSetWith_1 ml_X3_117 mt_X3_griefsThere mv_X3_griefsThere (ct_X3_griefsThere hm hN) (by omega) (zM_t0 hm) rfl rfl rfl (Nat.le_of_ble_eq_true rfl) ⟨(Nat.le_of_ble_eq_true rfl), (Nat.le_of_ble_eq_true rfl)⟩ ⟨rfl, rfl⟩ ⟨(Nat.le_of_ble_eq_true rfl), (Nat.le_of_ble_eq_true rfl)⟩ ?_
  refine x_istore_n (lo2 := [_, _, _, _, _]) dX3_leastSetWith_4 (by decide) rfl rfl ?_
  refine x_bipush (v := (-6)) dX3_leastSetWith_5 (by decide) ?_
  refine x_istore_n (lo2 := [_, _, _, _, _]) dX3_leastSetWith_7 (by decide) rfl rfl ?_
  refine x_pc (pc2 := 8) rfl ?_
  refine x_iconst (v := 0) dX3_leastSetWith_8 (by decide) ?_
  refine x_istore (lo2 := [_, _, _, _, _]) dX3_leastSetWith_9 (by decide) rfl rfl ?_
  refine x_loop (inv := fun i => True) (fun i => [some (.ref (g.2.1 + m)), some (.int a), some (.int (gt_ (I (m + 1)) 6)), some (.int (ls_ (I (m + 1)) (I (m + 2)) a i)), some (.int (nI i))]) (fun i => I) (fun i => L) 0 64 (by omega) (by trivial) (by rfl) (by rfl) (by rfl) (fun i hloi hhii hinvi Ki => ?_) (fun hinvi => ?_)
  · skip
    refine x_iload dX3_leastSetWith_11 rfl ?_
    refine x_bipush (v := 64) dX3_leastSetWith_13 (by decide) ?_
    refine x_icmp_ge (tgt := 66) dX3_leastSetWith_15 (by decide) (fun h15 => ?_) (fun h15 => ?_)
    · skip
      exact absurd h15 (nI_ge (b := 64) hhii (by decide))
    · skip
      refine x_iload dX3_leastSetWith_18 rfl ?_
      refine x_iload_n dX3_leastSetWith_20 rfl ?_
      refine x_callNi dX3_leastSetWith_21 nn_X3_67 mt_X8_isWithin st_X8_isWithin (ct_X8_isWithin) rfl rfl (Nat.le_of_ble_eq_true rfl) ⟨(Nat.le_of_ble_eq_true rfl), (Nat.le_of_ble_eq_true rfl)⟩ ⟨rfl, rfl⟩ ⟨(Nat.le_of_ble_eq_true rfl), (Nat.le_of_ble_eq_true rfl)⟩ ?_
      refine x_if_eq (tgt := 60) dX3_leastSetWith_24 (by decide) (fun h24 => ?_) (fun h24 => ?_)
      · skip
        replace h24 := zb0 h24
        refine x_iincN (lo2 := [_, _, _, _, _]) dX3_leastSetWith_60 rfl rfl rfl ?_
        refine x_goto (tgt := 11) dX3_leastSetWith_63 (by decide) ?_
        exact x_eq (by first | (simp [ls_, h15, h24]; done) | (simp [ls_, h15, h24, Int32.not_lt.mpr h54])) (by rfl) (by rfl) (Ki (by trivial))
      · skip
        replace h24 := zb1 h24
        refine x_aload_n dX3_leastSetWith_27 rfl ?_
        refine x_iload dX3_leastSetWith_28 rfl ?_
        refine x_callVi dX3_leastSetWith_30 ml_X3_120 mt_X3_marksOf mv_X3_marksOf (ct_X3_marksOf hm hN) (by omega) (zM_t0 hm) rfl rfl rfl (Nat.le_of_ble_eq_true rfl) ⟨(Nat.le_of_ble_eq_true rfl), (Nat.le_of_ble_eq_true rfl)⟩ ⟨rfl, rfl⟩ ⟨(Nat.le_of_ble_eq_true rfl), (Nat.le_of_ble_eq_true rfl)⟩ ?_
        refine x_iload_n dX3_leastSetWith_33 rfl ?_
        refine x_icmp_ne (tgt := 60) dX3_leastSetWith_34 (by decide) (fun h34 => ?_) (fun h34 => ?_)
        · skip
          refine x_iincN (lo2 := [_, _, _, _, _]) dX3_leastSetWith_60 rfl rfl rfl ?_
          refine x_goto (tgt := 11) dX3_leastSetWith_63 (by decide) ?_
          exact x_eq (by first | (simp [ls_, h15, h24, h34]; done) | (simp [ls_, h15, h24, h34, Int32.not_lt.mpr h54])) (by rfl) (by rfl) (Ki (by trivial))
        · skip
          refine x_iload_n dX3_leastSetWith_37 rfl ?_
          refine x_bipush (v := (-6)) dX3_leastSetWith_38 (by decide) ?_
          refine x_icmp_eq (tgt := 57) dX3_leastSetWith_40 (by decide) (fun h40 => ?_) (fun h40 => ?_)
          · skip
            refine x_iload dX3_leastSetWith_57 rfl ?_
            refine x_istore_n (lo2 := [_, _, _, _, _]) dX3_leastSetWith_59 (by decide) rfl rfl ?_
            refine x_iincN (lo2 := [_, _, _, _, _]) dX3_leastSetWith_60 rfl rfl rfl ?_
            refine x_goto (tgt := 11) dX3_leastSetWith_63 (by decide) ?_
            exact x_eq (by first | (simp [ls_, h15, h24, h34, h40]; done) | (simp [ls_, h15, h24, h34, h40, Int32.not_lt.mpr h54])) (by rfl) (by rfl) (Ki (by trivial))
          · skip
            refine x_aload_n dX3_leastSetWith_43 rfl ?_
            refine x_iload dX3_leastSetWith_44 rfl ?_
            refine x_callVi dX3_leastSetWith_46 ml_X3_123 mt_X3_strengthOf mv_X3_strengthOf (ct_X3_strengthOf hm hN) (by omega) (zM_t0 hm) rfl rfl rfl (Nat.le_of_ble_eq_true rfl) ⟨(Nat.le_of_ble_eq_true rfl), (Nat.le_of_ble_eq_true rfl)⟩ ⟨rfl, rfl⟩ ⟨(Nat.le_of_ble_eq_true rfl), (Nat.le_of_ble_eq_true rfl)⟩ ?_
            refine x_aload_n dX3_leastSetWith_49 rfl ?_
            refine x_iload_n dX3_leastSetWith_50 rfl ?_
            refine x_pc (pc2 := 51) rfl ?_
            refine x_callVi dX3_leastSetWith_51 ml_X3_123 mt_X3_strengthOf mv_X3_strengthOf (ct_X3_strengthOf hm hN) (by omega) (zM_t0 hm) rfl rfl rfl (Nat.le_of_ble_eq_true rfl) ⟨(Nat.le_of_ble_eq_true rfl), (Nat.le_of_ble_eq_true rfl)⟩ ⟨rfl, rfl⟩ ⟨(Nat.le_of_ble_eq_true rfl), (Nat.le_of_ble_eq_true rfl)⟩ ?_
            refine x_icmp_ge (tgt := 60) dX3_leastSetWith_54 (by decide) (fun h54 => ?_) (fun h54 => ?_)
            · skip
              refine x_iincN (lo2 := [_, _, _, _, _]) dX3_leastSetWith_60 rfl rfl rfl ?_
              refine x_goto (tgt := 11) dX3_leastSetWith_63 (by decide) ?_
              exact x_eq (by first | (simp [ls_, h15, h24, h34, h40, h54]; done) | (simp [ls_, h15, h24, h34, h40, h54, Int32.not_lt.mpr h54])) (by rfl) (by rfl) (Ki (by trivial))
            · skip
              refine x_iload dX3_leastSetWith_57 rfl ?_
              refine x_istore_n (lo2 := [_, _, _, _, _]) dX3_leastSetWith_59 (by decide) rfl rfl ?_
              refine x_iincN (lo2 := [_, _, _, _, _]) dX3_leastSetWith_60 rfl rfl rfl ?_
              refine x_goto (tgt := 11) dX3_leastSetWith_63 (by decide) ?_
              exact x_eq (by first | (simp [ls_, h15, h24, h34, h40, h54]; done) | (simp [ls_, h15, h24, h34, h40, h54, Int32.not_lt.mpr h54])) (by rfl) (by rfl) (Ki (by trivial))
  · skip
    refine x_iload dX3_leastSetWith_11 rfl ?_
    refine x_bipush (v := 64) dX3_leastSetWith_13 (by decide) ?_
    refine x_icmp_ge (tgt := 66) dX3_leastSetWith_15 (by decide) (fun h15 => ?_) (fun h15 => ?_)
    · skip
      refine x_iload_n dX3_leastSetWith_66 rfl ?_
      exact x_iret dX3_leastSetWith_67 rfl (Nat.le_of_ble_eq_true rfl) (Nat.le_of_ble_eq_true rfl) ⟨congrArg (fun z => some (Value.int z)) (by rfl), rfl, by rfl, by rfl, rfl⟩
    · skip
      exact absurd (nI_le (b := 64) (Nat.le_refl 64) (by decide)) h15
theorem ct_X3_hoursOf {g : zG} {N : Nat} {I : zI} {L : zL} {q0 q1 : Option Nat} {m : Nat} {a : Int32} (hm : zMi m) (hN : m + 11 ≤ N) : Ct g yX3_hoursOf mX3_hoursOf [.ref (g.2.1 + m), .int a] N I L (zRw q0 q1) (zD (some (.int (ho_ (I (m + 6)) (I (m + 7)) a 8))) N I L (zRw q0 q1)) := by
  refine Ct_of (lo0 := [some (.ref (g.2.1 + m)), some (.int a), none, none]) rfl rfl rfl rfl (Nat.le_of_ble_eq_true rfl) (fun E => ?_)
  refine x_iconst (v := 0) dX3_hoursOf_0 (by decide) ?_
  refine x_istore_n (lo2 := [_, _, _, _]) dX3_hoursOf_1 (by decide) rfl rfl ?_
  refine x_iconst (v := 0) dX3_hoursOf_2 (by decide) ?_
  refine x_istore_n (lo2 := [_, _, _, _]) dX3_hoursOf_3 (by decide) rfl rfl ?_
  refine x_loop (inv := fun i => True) (fun i => [some (.ref (g.2.1 + m)), some (.int a), some (.int (ho_ (I (m + 6)) (I (m + 7)) a i)), some (.int (nI i))]) (fun i => I) (fun i => L) 0 8 (by omega) (by trivial) (by rfl) (by rfl) (by rfl) (fun i hloi hhii hinvi Ki => ?_) (fun hinvi => ?_)
  · skip
    refine x_iload_n dX3_hoursOf_4 rfl ?_
    refine x_bipush (v := 8) dX3_hoursOf_5 (by decide) ?_
    refine x_icmp_ge (tgt := 42) dX3_hoursOf_7 (by decide) (fun h7 => ?_) (fun h7 => ?_)
    · skip
      exact absurd h7 (nI_ge (b := 8) hhii (by decide))
    · skip
      refine x_iload_n dX3_hoursOf_10 rfl ?_
      refine x_iload_n dX3_hoursOf_11 rfl ?_
      refine x_callNi dX3_hoursOf_12 nn_X3_114 mt_X8_isIn st_X8_isIn (ct_X8_isIn) rfl rfl (Nat.le_of_ble_eq_true rfl) ⟨(Nat.le_of_ble_eq_true rfl), (Nat.le_of_ble_eq_true rfl)⟩ ⟨rfl, rfl⟩ ⟨(Nat.le_of_ble_eq_true rfl), (Nat.le_of_ble_eq_true rfl)⟩ ?_
      refine x_if_eq (tgt := 36) dX3_hoursOf_15 (by decide) (fun h15 => ?_) (fun h15 => ?_)
      · skip
        replace h15 := zb0 h15
        refine x_iincN (lo2 := [_, _, _, _]) dX3_hoursOf_36 rfl rfl rfl ?_
        refine x_goto (tgt := 4) dX3_hoursOf_39 (by decide) ?_
        exact x_eq (by simp [ho_, h7, h15]) (by rfl) (by rfl) (Ki (by trivial))
      · skip
        replace h15 := zb1 h15
        refine x_iload_n dX3_hoursOf_18 rfl ?_
        refine x_aload_n dX3_hoursOf_19 rfl ?_
        refine x_getR dX3_hoursOf_20 fl_X3_27 (by omega) (zM_t0 hm) rfl (zM_R5 hm) ?_
        refine x_iload_n dX3_hoursOf_23 rfl ?_
        refine x_ialdN dX3_hoursOf_24 (by omega) (zM_t6 hm) rfl (by omega) ?_
        refine x_pc (pc2 := 25) rfl ?_
        refine x_aload_n dX3_hoursOf_25 rfl ?_
        refine x_getR dX3_hoursOf_26 fl_X3_30 (by omega) (zM_t0 hm) rfl (zM_R6 hm) ?_
        refine x_iload_n dX3_hoursOf_29 rfl ?_
        refine x_ialdN dX3_hoursOf_30 (by omega) (zM_t7 hm) rfl (by omega) ?_
        refine x_callNi dX3_hoursOf_31 nn_X3_126 mt_X8_hoursFrom st_X8_hoursFrom (ct_X8_hoursFrom) rfl rfl (Nat.le_of_ble_eq_true rfl) ⟨(Nat.le_of_ble_eq_true rfl), (Nat.le_of_ble_eq_true rfl)⟩ ⟨rfl, rfl⟩ ⟨(Nat.le_of_ble_eq_true rfl), (Nat.le_of_ble_eq_true rfl)⟩ ?_
        refine x_ior dX3_hoursOf_34 ?_
        refine x_pc (pc2 := 35) rfl ?_
        refine x_istore_n (lo2 := [_, _, _, _]) dX3_hoursOf_35 (by decide) rfl rfl ?_
        refine x_iincN (lo2 := [_, _, _, _]) dX3_hoursOf_36 rfl rfl rfl ?_
        refine x_goto (tgt := 4) dX3_hoursOf_39 (by decide) ?_
        exact x_eq (by simp [ho_, h7, h15]) (by rfl) (by rfl) (Ki (by trivial))
  · skip
    refine x_iload_n dX3_hoursOf_4 rfl ?_
    refine x_bipush (v := 8) dX3_hoursOf_5 (by decide) ?_
    refine x_icmp_ge (tgt := 42) dX3_hoursOf_7 (by decide) (fun h7 => ?_) (fun h7 => ?_)
    · skip
      refine x_iload_n dX3_hoursOf_42 rfl ?_
      exact x_iret dX3_hoursOf_43 rfl (Nat.le_of_ble_eq_true rfl) (Nat.le_of_ble_eq_true rfl) ⟨congrArg (fun z => some (Value.int z)) (by rfl), rfl, by rfl, by rfl, rfl⟩
    · skip
      exact absurd (nI_le (b := 8) (Nat.le_refl 8) (by decide)) h7
theorem ct_X3_fewestCoatsFor {g : zG} {N : Nat} {I : zI} {L : zL} {q0 q1 : Option Nat} {m : Nat} {a : Int32} (hm : zMi m) (hN : m + 11 ≤ N) : Ct g yX3_fewestCoatsFor mX3_fewestCoatsFor [.ref (g.2.1 + m), .int a] N I L (zRw q0 q1) (zD (some (.int (fc_ (I (m + 6)) (I (m + 7)) a 256))) N I L (zRw q0 q1)) := by
  refine Ct_of (lo0 := [some (.ref (g.2.1 + m)), some (.int a), none, none]) rfl rfl rfl rfl (Nat.le_of_ble_eq_true rfl) (fun E => ?_)
  refine x_bipush (v := (-6)) dX3_fewestCoatsFor_0 (by decide) ?_
  refine x_istore_n (lo2 := [_, _, _, _]) dX3_fewestCoatsFor_2 (by decide) rfl rfl ?_
  refine x_iconst (v := 0) dX3_fewestCoatsFor_3 (by decide) ?_
  refine x_istore_n (lo2 := [_, _, _, _]) dX3_fewestCoatsFor_4 (by decide) rfl rfl ?_
  refine x_loop (inv := fun i => True) (fun i => [some (.ref (g.2.1 + m)), some (.int a), some (.int (fc_ (I (m + 6)) (I (m + 7)) a i)), some (.int (nI i))]) (fun i => I) (fun i => L) 0 256 (by omega) (by trivial) (by rfl) (by rfl) (by rfl) (fun i hloi hhii hinvi Ki => ?_) (fun hinvi => ?_)
  · skip
    refine x_iload_n dX3_fewestCoatsFor_5 rfl ?_
    refine x_sipush (v := 256) dX3_fewestCoatsFor_6 (by decide) ?_
    refine x_icmp_ge (tgt := 49) dX3_fewestCoatsFor_9 (by decide) (fun h9 => ?_) (fun h9 => ?_)
    · skip
      exact absurd h9 (nI_ge (b := 256) hhii (by decide))
    · skip
      refine x_iload_n dX3_fewestCoatsFor_12 rfl ?_
      refine x_bipush (v := (-6)) dX3_fewestCoatsFor_13 (by decide) ?_
      refine x_icmp_eq (tgt := 29) dX3_fewestCoatsFor_15 (by decide) (fun h15 => ?_) (fun h15 => ?_)
      · skip
        refine x_iload_n dX3_fewestCoatsFor_29 rfl ?_
        refine x_aload_n dX3_fewestCoatsFor_30 rfl ?_
        refine x_iload_n dX3_fewestCoatsFor_31 rfl ?_
        refine x_callVi dX3_fewestCoatsFor_32 ml_X3_129 mt_X3_hoursOf mv_X3_hoursOf (ct_X3_hoursOf hm hN) (by omega) (zM_t0 hm) rfl rfl rfl (Nat.le_of_ble_eq_true rfl) ⟨(Nat.le_of_ble_eq_true rfl), (Nat.le_of_ble_eq_true rfl)⟩ ⟨rfl, rfl⟩ ⟨(Nat.le_of_ble_eq_true rfl), (Nat.le_of_ble_eq_true rfl)⟩ ?_
        refine x_callNi dX3_fewestCoatsFor_35 nn_X3_67 mt_X8_isWithin st_X8_isWithin (ct_X8_isWithin) rfl rfl (Nat.le_of_ble_eq_true rfl) ⟨(Nat.le_of_ble_eq_true rfl), (Nat.le_of_ble_eq_true rfl)⟩ ⟨rfl, rfl⟩ ⟨(Nat.le_of_ble_eq_true rfl), (Nat.le_of_ble_eq_true rfl)⟩ ?_
        refine x_pc (pc2 := 38) rfl ?_
        refine x_if_eq (tgt := 43) dX3_fewestCoatsFor_38 (by decide) (fun h38 => ?_) (fun h38 => ?_)
        · skip
          replace h38 := zb0 h38
          refine x_iincN (lo2 := [_, _, _, _]) dX3_fewestCoatsFor_43 rfl rfl rfl ?_
          refine x_goto (tgt := 5) dX3_fewestCoatsFor_46 (by decide) ?_
          exact x_eq (by first | (simp [fc_, h9, h15, h38]; done) | (simp [fc_, h9, h15, h38, Int32.not_lt.mpr h26])) (by rfl) (by rfl) (Ki (by trivial))
        · skip
          replace h38 := zb1 h38
          refine x_iload_n dX3_fewestCoatsFor_41 rfl ?_
          refine x_istore_n (lo2 := [_, _, _, _]) dX3_fewestCoatsFor_42 (by decide) rfl rfl ?_
          refine x_iincN (lo2 := [_, _, _, _]) dX3_fewestCoatsFor_43 rfl rfl rfl ?_
          refine x_goto (tgt := 5) dX3_fewestCoatsFor_46 (by decide) ?_
          exact x_eq (by first | (simp [fc_, h9, h15, h38]; done) | (simp [fc_, h9, h15, h38, Int32.not_lt.mpr h26])) (by rfl) (by rfl) (Ki (by trivial))
      · skip
        refine x_iload_n dX3_fewestCoatsFor_18 rfl ?_
        refine x_callSi dX3_fewestCoatsFor_19 ml_X3_61 mt_J6_bitCount_0f7a4 st_J6_bitCount_0f7a4 (ct_J6_bitCount_0f7a4) rfl rfl (Nat.le_of_ble_eq_true rfl) ⟨(Nat.le_of_ble_eq_true rfl), (Nat.le_of_ble_eq_true rfl)⟩ ⟨rfl, rfl⟩ ⟨(Nat.le_of_ble_eq_true rfl), (Nat.le_of_ble_eq_true rfl)⟩ ?_
        refine x_iload_n dX3_fewestCoatsFor_22 rfl ?_
        refine x_callSi dX3_fewestCoatsFor_23 ml_X3_61 mt_J6_bitCount_0f7a4 st_J6_bitCount_0f7a4 (ct_J6_bitCount_0f7a4) rfl rfl (Nat.le_of_ble_eq_true rfl) ⟨(Nat.le_of_ble_eq_true rfl), (Nat.le_of_ble_eq_true rfl)⟩ ⟨rfl, rfl⟩ ⟨(Nat.le_of_ble_eq_true rfl), (Nat.le_of_ble_eq_true rfl)⟩ ?_
        refine x_icmp_ge (tgt := 43) dX3_fewestCoatsFor_26 (by decide) (fun h26 => ?_) (fun h26 => ?_)
        · skip
          refine x_iincN (lo2 := [_, _, _, _]) dX3_fewestCoatsFor_43 rfl rfl rfl ?_
          refine x_goto (tgt := 5) dX3_fewestCoatsFor_46 (by decide) ?_
          exact x_eq (by first | (simp [fc_, h9, h15, h26]; done) | (simp [fc_, h9, h15, h26, Int32.not_lt.mpr h26])) (by rfl) (by rfl) (Ki (by trivial))
        · skip
          refine x_iload_n dX3_fewestCoatsFor_29 rfl ?_
          refine x_aload_n dX3_fewestCoatsFor_30 rfl ?_
          refine x_iload_n dX3_fewestCoatsFor_31 rfl ?_
          refine x_callVi dX3_fewestCoatsFor_32 ml_X3_129 mt_X3_hoursOf mv_X3_hoursOf (ct_X3_hoursOf hm hN) (by omega) (zM_t0 hm) rfl rfl rfl (Nat.le_of_ble_eq_true rfl) ⟨(Nat.le_of_ble_eq_true rfl), (Nat.le_of_ble_eq_true rfl)⟩ ⟨rfl, rfl⟩ ⟨(Nat.le_of_ble_eq_true rfl), (Nat.le_of_ble_eq_true rfl)⟩ ?_
          refine x_callNi dX3_fewestCoatsFor_35 nn_X3_67 mt_X8_isWithin st_X8_isWithin (ct_X8_isWithin) rfl rfl (Nat.le_of_ble_eq_true rfl) ⟨(Nat.le_of_ble_eq_true rfl), (Nat.le_of_ble_eq_true rfl)⟩ ⟨rfl, rfl⟩ ⟨(Nat.le_of_ble_eq_true rfl), (Nat.le_of_ble_eq_true rfl)⟩ ?_
          refine x_pc (pc2 := 38) rfl ?_
          refine x_if_eq (tgt := 43) dX3_fewestCoatsFor_38 (by decide) (fun h38 => ?_) (fun h38 => ?_)
          · skip
            replace h38 := zb0 h38
            refine x_iincN (lo2 := [_, _, _, _]) dX3_fewestCoatsFor_43 rfl rfl rfl ?_
            refine x_goto (tgt := 5) dX3_fewestCoatsFor_46 (by decide) ?_
            exact x_eq (by first | (simp [fc_, h9, h15, h26, h38]; done) | (simp [fc_, h9, h15, h26, h38, Int32.not_lt.mpr h26])) (by rfl) (by rfl) (Ki (by trivial))
          · skip
            replace h38 := zb1 h38
            refine x_iload_n dX3_fewestCoatsFor_41 rfl ?_
            refine x_istore_n (lo2 := [_, _, _, _]) dX3_fewestCoatsFor_42 (by decide) rfl rfl ?_
            refine x_iincN (lo2 := [_, _, _, _]) dX3_fewestCoatsFor_43 rfl rfl rfl ?_
            refine x_goto (tgt := 5) dX3_fewestCoatsFor_46 (by decide) ?_
            exact x_eq (by first | (simp [fc_, h9, h15, h26, h38]; done) | (simp [fc_, h9, h15, h26, h38, Int32.not_lt.mpr h26])) (by rfl) (by rfl) (Ki (by trivial))
  · skip
    refine x_iload_n dX3_fewestCoatsFor_5 rfl ?_
    refine x_sipush (v := 256) dX3_fewestCoatsFor_6 (by decide) ?_
    refine x_icmp_ge (tgt := 49) dX3_fewestCoatsFor_9 (by decide) (fun h9 => ?_) (fun h9 => ?_)
    · skip
      refine x_iload_n dX3_fewestCoatsFor_49 rfl ?_
      exact x_iret dX3_fewestCoatsFor_50 rfl (Nat.le_of_ble_eq_true rfl) (Nat.le_of_ble_eq_true rfl) ⟨congrArg (fun z => some (Value.int z)) (by rfl), rfl, by rfl, by rfl, rfl⟩
    · skip
      exact absurd (nI_le (b := 256) (Nat.le_refl 256) (by decide)) h9
theorem ct_X3_addSight {g : zG} {N : Nat} {I : zI} {L : zL} {q0 q1 : Option Nat} {j : Int32} {b : Bool} {n : Nat} (hN : 58 ≤ N) (hn : n ≤ 8) (hs : I 1 10 = nI n) : Ct g yX3_addSight mX3_addSight [.ref (g.2.1 + 1), .int j, .int (zb b)] N I L (zRw q0 q1) (zD (some (.int (zb (decide (n < 8))))) N (if n < 8 then zu (zu (zu I 10 n j) 11 n (zb b)) 1 10 (nI (n + 1)) else I) L (zRw q0 q1)) := by
  refine Ct_of (lo0 := [some (.ref (g.2.1 + 1)), some (.int j), some (.int (zb b))]) rfl rfl rfl rfl (Nat.le_of_ble_eq_true rfl) (fun E => ?_)
  refine x_aload_n dX3_addSight_0 rfl ?_
  refine x_getI dX3_addSight_1 fl_X3_43 (by omega) rfl rfl ?_
  refine x_bipush (v := 8) dX3_addSight_4 (by decide) ?_
  refine x_icmp_lt (tgt := 11) dX3_addSight_6 (by decide) (fun h6 => ?_) (fun h6 => ?_)
  · skip
    have hn8 : n < 8 := by rw [hs] at h6; exact (nI_ltI (b := 8) (by omega) (by decide)).mp h6
    refine x_aload_n dX3_addSight_11 rfl ?_
    refine x_getR dX3_addSight_12 fl_X3_36 (by omega) rfl rfl rfl ?_
    refine x_aload_n dX3_addSight_15 rfl ?_
    refine x_getI dX3_addSight_16 fl_X3_43 (by omega) rfl rfl ?_
    refine x_iload_n dX3_addSight_19 rfl ?_
    refine x_pc (pc2 := 20) rfl ?_
    refine x_iast dX3_addSight_20 (by omega) rfl hs hn8 ?_
    refine x_aload_n dX3_addSight_21 rfl ?_
    refine x_getR dX3_addSight_22 fl_X3_39 (by omega) rfl rfl rfl ?_
    refine x_aload_n dX3_addSight_25 rfl ?_
    refine x_getI dX3_addSight_26 fl_X3_43 (by omega) rfl rfl ?_
    refine x_iload_n dX3_addSight_29 rfl ?_
    refine x_pc (pc2 := 30) rfl ?_
    refine x_zast dX3_addSight_30 (by omega) rfl hs hn8 (zb_nar _) ?_
    refine x_aload_n dX3_addSight_31 rfl ?_
    refine x_dup dX3_addSight_32 rfl ?_
    refine x_getI dX3_addSight_33 fl_X3_43 (by omega) rfl rfl ?_
    refine x_iconst (v := 1) dX3_addSight_36 (by decide) ?_
    refine x_iadd dX3_addSight_37 ?_
    refine x_pc (pc2 := 38) rfl ?_
    refine x_putI dX3_addSight_38 fp_X3_43 (by omega) rfl ?_
    refine x_iconst (v := 1) dX3_addSight_41 (by decide) ?_
    exact x_zret dX3_addSight_42 rfl rfl (Nat.le_of_ble_eq_true rfl) (Nat.le_of_ble_eq_true rfl) ⟨congrArg (fun z => some (Value.int z)) (by first | (simp [hn8, zb]; done) | (rw [hs] at h6; have h6 := mt (nI_ltI (b := 8) (show n < 2 ^ 31 by omega) (by decide)).mpr h6; simp [h6, zb])), rfl, by first | (simp [hn8, zu, hs, nI_succ]; done) | (rw [hs] at h6; have h6 := mt (nI_ltI (b := 8) (show n < 2 ^ 31 by omega) (by decide)).mpr h6; simp [h6]), by rfl, rfl⟩
  · skip
    refine x_iconst (v := 0) dX3_addSight_9 (by decide) ?_
    exact x_zret dX3_addSight_10 rfl rfl (Nat.le_of_ble_eq_true rfl) (Nat.le_of_ble_eq_true rfl) ⟨congrArg (fun z => some (Value.int z)) (by first | (simp [hn8, zb]; done) | (rw [hs] at h6; have h6 := mt (nI_ltI (b := 8) (show n < 2 ^ 31 by omega) (by decide)).mpr h6; simp [h6, zb])), rfl, by first | (simp [hn8, zu, hs, nI_succ]; done) | (rw [hs] at h6; have h6 := mt (nI_ltI (b := 8) (show n < 2 ^ 31 by omega) (by decide)).mpr h6; simp [h6]), by rfl, rfl⟩
theorem ct_X3_isAsSeen {g : zG} {N : Nat} {I : zI} {L : zL} {q0 q1 : Option Nat} {a : Int32} {n : Nat} (hN : 58 ≤ N) (hn : n ≤ 8) (hs : I 1 10 = nI n) (hh : ∀ i, i < 8 → ∃ k, k < 6 ∧ I 10 i = nI k) : Ct g yX3_isAsSeen mX3_isAsSeen [.ref (g.2.1 + 1), .int a] N I L (zRw q0 q1) (zD (some (.int (zb (has_ (I 4) (I 10) (I 11) a n)))) N I L (zRw q0 q1)) := by
  refine Ct_of (lo0 := [some (.ref (g.2.1 + 1)), some (.int a), none]) rfl rfl rfl rfl (Nat.le_of_ble_eq_true rfl) (fun E => ?_)
  refine x_iconst (v := 0) dX3_isAsSeen_0 (by decide) ?_
  refine x_istore_n (lo2 := [_, _, _]) dX3_isAsSeen_1 (by decide) rfl rfl ?_
  refine x_loop (inv := fun i => has_ (I 4) (I 10) (I 11) a i = true) (fun i => [some (.ref (g.2.1 + 1)), some (.int a), some (.int (nI i))]) (fun i => I) (fun i => L) 0 n (by omega) (by rfl) (by rfl) (by rfl) (by rfl) (fun i hloi hhii hinvi Ki => ?_) (fun hinvi => ?_)
  · skip
    refine x_iload_n dX3_isAsSeen_2 rfl ?_
    refine x_aload_n dX3_isAsSeen_3 rfl ?_
    refine x_getI dX3_isAsSeen_4 fl_X3_43 (by omega) rfl rfl ?_
    refine x_icmp_ge (tgt := 48) dX3_isAsSeen_7 (by decide) (fun h7 => ?_) (fun h7 => ?_)
    · skip
      exact absurd (hs ▸ h7) (nI_ge hhii (by omega))
    · skip
      refine x_iload_n dX3_isAsSeen_10 rfl ?_
      refine x_bipush (v := 8) dX3_isAsSeen_11 (by decide) ?_
      refine x_icmp_ge (tgt := 48) dX3_isAsSeen_13 (by decide) (fun h13 => ?_) (fun h13 => ?_)
      · skip
        exact absurd h13 (nI_ge (b := 8) (show i < 8 by omega) (by decide))
      · skip
        obtain ⟨k, hk, hk2⟩ := hh i (by omega)
        refine x_aload_n dX3_isAsSeen_16 rfl ?_
        refine x_getR dX3_isAsSeen_17 fl_X3_18 (by omega) rfl rfl rfl ?_
        refine x_aload_n dX3_isAsSeen_20 rfl ?_
        refine x_getR dX3_isAsSeen_21 fl_X3_36 (by omega) rfl rfl rfl ?_
        refine x_iload_n dX3_isAsSeen_24 rfl ?_
        refine x_pc (pc2 := 25) rfl ?_
        refine x_ialdN dX3_isAsSeen_25 (by omega) rfl rfl (by omega) ?_
        refine x_ialdN dX3_isAsSeen_26 (by omega) rfl hk2 hk ?_
        refine x_iload_n dX3_isAsSeen_27 rfl ?_
        refine x_callNi dX3_isAsSeen_28 nn_X3_67 mt_X8_isWithin st_X8_isWithin (ct_X8_isWithin) rfl rfl (Nat.le_of_ble_eq_true rfl) ⟨(Nat.le_of_ble_eq_true rfl), (Nat.le_of_ble_eq_true rfl)⟩ ⟨rfl, rfl⟩ ⟨(Nat.le_of_ble_eq_true rfl), (Nat.le_of_ble_eq_true rfl)⟩ ?_
        refine x_aload_n dX3_isAsSeen_31 rfl ?_
        refine x_getR dX3_isAsSeen_32 fl_X3_39 (by omega) rfl rfl rfl ?_
        refine x_pc (pc2 := 35) rfl ?_
        refine x_iload_n dX3_isAsSeen_35 rfl ?_
        refine x_zald dX3_isAsSeen_36 (by omega) rfl rfl (by omega) ?_
        refine x_icmp_eq (tgt := 42) dX3_isAsSeen_37 (by decide) (fun h37 => ?_) (fun h37 => ?_)
        · skip
          refine x_iincN (lo2 := [_, _, _]) dX3_isAsSeen_42 rfl rfl rfl ?_
          refine x_goto (tgt := 2) dX3_isAsSeen_45 (by decide) ?_
          exact x_eq (by rfl) (by rfl) (by rfl) (Ki (by simp [has_, hinvi, h37, nI_clamp (show k < 2 ^ 31 by omega), hk2]))
        · skip
          refine x_iconst (v := 0) dX3_isAsSeen_40 (by decide) ?_
          exact x_zret dX3_isAsSeen_41 rfl rfl (Nat.le_of_ble_eq_true rfl) (Nat.le_of_ble_eq_true rfl) ⟨congrArg (fun z => some (Value.int z)) (by rw [has_no (i := i) (by simp [has_, h37, nI_clamp (show k < 2 ^ 31 by omega), hk2]) hhii]; rfl), rfl, by rfl, by rfl, rfl⟩
  · skip
    refine x_iload_n dX3_isAsSeen_2 rfl ?_
    refine x_aload_n dX3_isAsSeen_3 rfl ?_
    refine x_getI dX3_isAsSeen_4 fl_X3_43 (by omega) rfl rfl ?_
    refine x_icmp_ge (tgt := 48) dX3_isAsSeen_7 (by decide) (fun h7 => ?_) (fun h7 => ?_)
    · skip
      refine x_iconst (v := 1) dX3_isAsSeen_48 (by decide) ?_
      exact x_zret dX3_isAsSeen_49 rfl rfl (Nat.le_of_ble_eq_true rfl) (Nat.le_of_ble_eq_true rfl) ⟨congrArg (fun z => some (Value.int z)) (by rw [hinvi]; rfl), rfl, by rfl, by rfl, rfl⟩
    · skip
      exact absurd (hs ▸ nI_le (Nat.le_refl n) (by omega)) h7
end
section
/-! ACTS, the PAD, DAYS: what the class's methods do -/
theorem zth_T {s : Nat → Int32} {i : Nat} (hi : i < 6) (h : zth s (nI i) = true) : ¬ s i ≤ 0 := by rw [zth_le hi] at h; simpa using h
theorem zth_F {s : Nat → Int32} {i : Nat} (hi : i < 6) (h : zth s (nI i) = false) : s i ≤ 0 := by rw [zth_le hi] at h; simpa using h
/-- a whole Mire becomes another -/
def zbec (I : zI) (m o : Nat) : zI := fun a => if m ≤ a ∧ a ≤ m + 10 then I (a - m + o) else I a
def b3I (I : zI) (k a b : Int32) : zI := zu (zu (zu I 26 0 k) 26 1 a) 26 2 b
def sg_ (f : Nat → Int32) (n p : Nat) : Int32 := if p < n then f p else 0
def lt_ (s : Int32) : Bool := zin s 65 70
def awN (w : Nat) (s : Int32) : Nat :=
  if w = 0 then (if lt_ s = true then 1 else if s = 126 then 0 else if s = 46 then 0 else 3)
  else if w = 1 then (if s = 43 then 2 else if s = 95 then 0 else if zin s 48 53 = true then 0 else 3)
  else if w = 2 then (if lt_ s = true then 0 else 3) else 3
def zaw (w : Nat) : Int32 := if w = 3 then -1 else nI w
def ds_ (f : Nat → Int32) : Nat → Nat
  | 0 => 0
  | i + 1 => awN (ds_ f i) (f i)
def fp_ (f : Nat → Int32) : Nat → Option Nat
  | 0 => none
  | i + 1 => match fp_ f i with
    | some p => some p
    | none => if ds_ f (i + 1) = 3 then some i else none
def ff_ (f : Nat → Int32) (n : Nat) : Int32 := match fp_ f n with
  | some p => nI p
  | none => if ds_ f n = 0 then -6 else nI n
theorem awN_lt (w : Nat) (s : Int32) : awN w s < 4 := by
  unfold awN
  repeat' split
  all_goals omega
theorem ds_lt (f : Nat → Int32) : ∀ i, ds_ f i < 4
  | 0 => by simp [ds_]
  | i + 1 => awN_lt _ _
theorem fp_some {f : Nat → Int32} {i n p : Nat} (h : fp_ f i = some p) (hn : i ≤ n) : fp_ f n = some p := by
  induction n with
  | zero => rw [show i = 0 by omega] at h; exact h
  | succ n ih =>
    by_cases e : i = n + 1
    · rw [← e]; exact h
    · simp [fp_, ih (by omega)]
theorem fp_first {f : Nat → Int32} {i : Nat} (h0 : fp_ f i = none) (h : ds_ f (i + 1) = 3) : fp_ f (i + 1) = some i := by simp [fp_, h0, h]
/-- reading the ACT that begins at p: its length, kind, GRIEF, other -/
def rdL (f : Nat → Int32) (n p : Nat) : Nat := if lt_ (sg_ f n p) = true then (if sg_ f n (p + 1) = 43 then 3 else 2) else 1
def rdK (f : Nat → Int32) (n p : Nat) : Nat := if lt_ (sg_ f n p) = true then (if sg_ f n (p + 1) = 43 then 1 else if sg_ f n (p + 1) = 95 then 2 else 0) else if sg_ f n p = 126 then 3 else 4
def rdA (f : Nat → Int32) (n p : Nat) : Int32 := if lt_ (sg_ f n p) = true then sg_ f n p - 65 else 0
def rdB (f : Nat → Int32) (n p : Nat) : Int32 := if lt_ (sg_ f n p) = true then (if sg_ f n (p + 1) = 43 then sg_ f n (p + 2) - 65 else sg_ f n (p + 1) - 48) else 0
def rdI (I : zI) (f : Nat → Int32) (n p : Nat) : zI := b3I I (nI (rdK f n p)) (rdA f n p) (rdB f n p)
def bgI (I : zI) : zI := zu (zu (zu (zu (zu (zbec I 15 1) 14 2 0) 14 3 0) 14 4 0) 14 5 (-6)) 14 6 (-6)
def ndI (I : zI) : zI := if I 26 0 = 0 then (if zth (I 16) (I 26 1) = true then I else if I 14 4 = 0 then zu (zu (zu I 14 5 (I 14 2)) 14 6 (I 26 1)) 14 4 (I 14 4 + 1) else zu I 14 4 (I 14 4 + 1)) else I
/-- the Nat of a small int -/
def zx (x : Int32) : Nat := x.toNatClampNeg
theorem zx_nI {i : Nat} (h : i < 2 ^ 31) : zx (nI i) = i := nI_clamp h
def acR (I : zI) : Int32 := atR I (zx (I 26 0)) (zx (I 26 1)) (zx (I 26 2))
def acI (I : zI) : zI := atI I (zx (I 26 0)) (zx (I 26 1)) (zx (I 26 2))
def rn_ (f : Nat → Int32) (n : Nat) : Nat → Nat → zI → zI
  | 0, _, I => I
  | d + 1, p, I => if n ≤ p then I else if acR (rdI I f n p) = 0 then rn_ f n d (p + rdL f n p) (zu (ndI (zu (acI (rdI I f n p)) 14 3 (acR (rdI I f n p)))) 14 2 (ndI (zu (acI (rdI I f n p)) 14 3 (acR (rdI I f n p))) 14 2 + 1)) else zu (acI (rdI I f n p)) 14 3 (acR (rdI I f n p))
/-- a YEAR -/
def yx_ (s : Nat) : Nat → Nat
  | 0 => s
  | i + 1 => (75 * yx_ s i + 74) % 65537
def dwI (I : zI) (lot y : Nat) : zI := if lot < 4 then b3I I 0 (nI (y / 6 % 6)) (nI (y % 6)) else if lot = 4 then b3I I 2 (nI (y % 6)) 0 else if lot = 5 then b3I I 3 0 0 else b3I I 4 0 0
def yI_ (s : Nat) (I : zI) : Nat → zI
  | 0 => I
  | i + 1 => acI (dwI (yI_ s I i) (yx_ s (i + 1) % 8) (yx_ s (i + 1) / 8))
theorem yx_lt {s : Nat} (h : s < 65537) : ∀ i, yx_ s i < 65537
  | 0 => h
  | i + 1 => Nat.mod_lt _ (by omega)

theorem ct_X3_takeHold {g : zG} {N : Nat} {I : zI} {L : zL} {q0 q1 : Option Nat} {a h : Nat} (hN : 58 ≤ N) (ha : a < 6) (hh : h < 6) : Ct g yX3_takeHold mX3_takeHold [.ref (g.2.1 + 15), .int (nI a), .int (nI h)] N I L (zRw q0 q1) (zD (some (.int (tkR I a h))) N (tkI I a h) L (zRw q0 q1)) := by
  refine Ct_of (lo0 := [some (.ref (g.2.1 + 15)), some (.int (nI a)), some (.int (nI h))]) rfl rfl rfl rfl (Nat.le_of_ble_eq_true rfl) (fun E => ?_)
  refine x_aload_n dX3_takeHold_0 rfl ?_
  refine x_iload_n dX3_takeHold_1 rfl ?_
  refine x_callVi dX3_takeHold_2 ml_X3_99 mt_X3_isThere mv_X3_isThere (ct_X3_isThere (Or.inr (Or.inl rfl)) (by omega)) (by omega) rfl rfl rfl rfl (Nat.le_of_ble_eq_true rfl) ⟨(Nat.le_of_ble_eq_true rfl), (Nat.le_of_ble_eq_true rfl)⟩ ⟨rfl, rfl⟩ ⟨(Nat.le_of_ble_eq_true rfl), (Nat.le_of_ble_eq_true rfl)⟩ ?_
  refine x_if_ne (tgt := 10) dX3_takeHold_5 (by decide) (fun h5 => ?_) (fun h5 => ?_)
  · skip
    replace h5 := zb1 h5
    replace h5 := zth_T ha h5
    refine x_iload_n dX3_takeHold_10 rfl ?_
    refine x_callNi dX3_takeHold_11 nn_X3_103 mt_X8_isHold st_X8_isHold (ct_X8_isHold) rfl rfl (Nat.le_of_ble_eq_true rfl) ⟨(Nat.le_of_ble_eq_true rfl), (Nat.le_of_ble_eq_true rfl)⟩ ⟨rfl, rfl⟩ ⟨(Nat.le_of_ble_eq_true rfl), (Nat.le_of_ble_eq_true rfl)⟩ ?_
    refine x_if_eq (tgt := 35) dX3_takeHold_14 (by decide) (fun h14 => ?_) (fun h14 => ?_)
    · skip
      replace h14 := zb0 h14
      exact absurd h14 (by rw [show zin (nI h) 0 5 = true from by rw [show (0 : Int32) = nI 0 from rfl, show (5 : Int32) = nI 5 from rfl, zin_nI (by omega) (by omega) (by omega)]; simp; omega]; decide)
    · skip
      replace h14 := zb1 h14
      refine x_aload_n dX3_takeHold_17 rfl ?_
      refine x_getR dX3_takeHold_18 fl_X3_18 (by omega) rfl rfl rfl ?_
      refine x_iload_n dX3_takeHold_21 rfl ?_
      refine x_ialdN dX3_takeHold_22 (by omega) rfl rfl hh ?_
      refine x_aload_n dX3_takeHold_23 rfl ?_
      refine x_pc (pc2 := 24) rfl ?_
      refine x_getR dX3_takeHold_24 fl_X3_15 (by omega) rfl rfl rfl ?_
      refine x_iload_n dX3_takeHold_27 rfl ?_
      refine x_ialdN dX3_takeHold_28 (by omega) rfl rfl ha ?_
      refine x_callNi dX3_takeHold_29 nn_X3_67 mt_X8_isWithin st_X8_isWithin (ct_X8_isWithin) rfl rfl (Nat.le_of_ble_eq_true rfl) ⟨(Nat.le_of_ble_eq_true rfl), (Nat.le_of_ble_eq_true rfl)⟩ ⟨rfl, rfl⟩ ⟨(Nat.le_of_ble_eq_true rfl), (Nat.le_of_ble_eq_true rfl)⟩ ?_
      refine x_if_ne (tgt := 37) dX3_takeHold_32 (by decide) (fun h32 => ?_) (fun h32 => ?_)
      · skip
        replace h32 := zb1 h32
        refine x_aload_n dX3_takeHold_37 rfl ?_
        refine x_getI dX3_takeHold_38 fl_X3_47 (by omega) rfl rfl ?_
        refine x_aload_n dX3_takeHold_41 rfl ?_
        refine x_getR dX3_takeHold_42 fl_X3_24 (by omega) rfl rfl rfl ?_
        refine x_iload_n dX3_takeHold_45 rfl ?_
        refine x_pc (pc2 := 46) rfl ?_
        refine x_ialdN dX3_takeHold_46 (by omega) rfl rfl hh ?_
        refine x_icmp_ge (tgt := 52) dX3_takeHold_47 (by decide) (fun h47 => ?_) (fun h47 => ?_)
        · skip
          refine x_aload_n dX3_takeHold_52 rfl ?_
          refine x_dup dX3_takeHold_53 rfl ?_
          refine x_getI dX3_takeHold_54 fl_X3_47 (by omega) rfl rfl ?_
          refine x_aload_n dX3_takeHold_57 rfl ?_
          refine x_getR dX3_takeHold_58 fl_X3_24 (by omega) rfl rfl rfl ?_
          refine x_pc (pc2 := 61) rfl ?_
          refine x_iload_n dX3_takeHold_61 rfl ?_
          refine x_ialdN dX3_takeHold_62 (by omega) rfl rfl hh ?_
          refine x_isub dX3_takeHold_63 ?_
          refine x_putI dX3_takeHold_64 fp_X3_47 (by omega) rfl ?_
          refine x_aload_n dX3_takeHold_67 rfl ?_
          refine x_getR dX3_takeHold_68 fl_X3_9 (by omega) rfl rfl rfl ?_
          refine x_pc (pc2 := 71) rfl ?_
          refine x_iload_n dX3_takeHold_71 rfl ?_
          refine x_aload_n dX3_takeHold_72 rfl ?_
          refine x_getR dX3_takeHold_73 fl_X3_9 (by omega) rfl rfl rfl ?_
          refine x_iload_n dX3_takeHold_76 rfl ?_
          refine x_ialdN dX3_takeHold_77 (by omega) rfl rfl ha ?_
          refine x_aload_n dX3_takeHold_78 rfl ?_
          refine x_pc (pc2 := 79) rfl ?_
          refine x_getR dX3_takeHold_79 fl_X3_21 (by omega) rfl rfl rfl ?_
          refine x_iload_n dX3_takeHold_82 rfl ?_
          refine x_ialdN dX3_takeHold_83 (by omega) rfl rfl hh ?_
          refine x_isub dX3_takeHold_84 ?_
          refine x_iconst (v := 0) dX3_takeHold_85 (by decide) ?_
          refine x_mmax dX3_takeHold_86 ml_X3_106 j_max_st j_math j_max_cd (Nat.le_of_ble_eq_true rfl) ⟨(Nat.le_of_ble_eq_true rfl), (Nat.le_of_ble_eq_true rfl)⟩ ⟨(Nat.le_of_ble_eq_true rfl), (Nat.le_of_ble_eq_true rfl)⟩ ?_
          refine x_pc (pc2 := 89) rfl ?_
          refine x_iast dX3_takeHold_89 (by omega) rfl rfl ha ?_
          refine x_iconst (v := 0) dX3_takeHold_90 (by decide) ?_
          exact x_iret dX3_takeHold_91 rfl (Nat.le_of_ble_eq_true rfl) (Nat.le_of_ble_eq_true rfl) ⟨congrArg (fun z => some (Value.int z)) (by simp [tkR, h5, h14, h32, h47]), rfl, by simp [tkI, tkR, zrn, zmax, h5, h14, h32, h47], by rfl, rfl⟩
        · skip
          refine x_iconst (v := 3) dX3_takeHold_50 (by decide) ?_
          exact x_iret dX3_takeHold_51 rfl (Nat.le_of_ble_eq_true rfl) (Nat.le_of_ble_eq_true rfl) ⟨congrArg (fun z => some (Value.int z)) (by simp [tkR, h5, h14, h32, h47]), rfl, by simp [tkI, tkR, zrn, zmax, h5, h14, h32, h47], by rfl, rfl⟩
      · skip
        replace h32 := zb0 h32
        refine x_iconst (v := 2) dX3_takeHold_35 (by decide) ?_
        exact x_iret dX3_takeHold_36 rfl (Nat.le_of_ble_eq_true rfl) (Nat.le_of_ble_eq_true rfl) ⟨congrArg (fun z => some (Value.int z)) (by simp [tkR, h5, h14, h32]), rfl, by simp [tkI, tkR, zrn, zmax, h5, h14, h32], by rfl, rfl⟩
  · skip
    replace h5 := zb0 h5
    replace h5 := zth_F ha h5
    refine x_iconst (v := 1) dX3_takeHold_8 (by decide) ?_
    exact x_iret dX3_takeHold_9 rfl (Nat.le_of_ble_eq_true rfl) (Nat.le_of_ble_eq_true rfl) ⟨congrArg (fun z => some (Value.int z)) (by simp [tkR, h5]), rfl, by simp [tkI, tkR, zrn, zmax, h5], by rfl, rfl⟩
theorem ct_X3_join {g : zG} {N : Nat} {I : zI} {L : zL} {q0 q1 : Option Nat} {a b : Nat} (hN : 58 ≤ N) (ha : a < 6) (hb : b < 6) : Ct g yX3_join mX3_join [.ref (g.2.1 + 15), .int (nI a), .int (nI b)] N I L (zRw q0 q1) (zD (some (.int (jnR I a b))) N (jnI I a b) L (zRw q0 q1)) := by
  refine Ct_of (lo0 := [some (.ref (g.2.1 + 15)), some (.int (nI a)), some (.int (nI b))]) rfl rfl rfl rfl (Nat.le_of_ble_eq_true rfl) (fun E => ?_)
  refine x_aload_n dX3_join_0 rfl ?_
  refine x_iload_n dX3_join_1 rfl ?_
  refine x_callVi dX3_join_2 ml_X3_99 mt_X3_isThere mv_X3_isThere (ct_X3_isThere (Or.inr (Or.inl rfl)) (by omega)) (by omega) rfl rfl rfl rfl (Nat.le_of_ble_eq_true rfl) ⟨(Nat.le_of_ble_eq_true rfl), (Nat.le_of_ble_eq_true rfl)⟩ ⟨rfl, rfl⟩ ⟨(Nat.le_of_ble_eq_true rfl), (Nat.le_of_ble_eq_true rfl)⟩ ?_
  refine x_if_eq (tgt := 16) dX3_join_5 (by decide) (fun h5 => ?_) (fun h5 => ?_)
  · skip
    replace h5 := zb0 h5
    replace h5 := zth_F ha h5
    refine x_iconst (v := 1) dX3_join_16 (by decide) ?_
    exact x_iret dX3_join_17 rfl (Nat.le_of_ble_eq_true rfl) (Nat.le_of_ble_eq_true rfl) ⟨congrArg (fun z => some (Value.int z)) (by simp [jnR, h5]), rfl, by simp [jnI, jnR, zrn, zmin, h5], by rfl, rfl⟩
  · skip
    replace h5 := zb1 h5
    replace h5 := zth_T ha h5
    refine x_aload_n dX3_join_8 rfl ?_
    refine x_iload_n dX3_join_9 rfl ?_
    refine x_callVi dX3_join_10 ml_X3_99 mt_X3_isThere mv_X3_isThere (ct_X3_isThere (Or.inr (Or.inl rfl)) (by omega)) (by omega) rfl rfl rfl rfl (Nat.le_of_ble_eq_true rfl) ⟨(Nat.le_of_ble_eq_true rfl), (Nat.le_of_ble_eq_true rfl)⟩ ⟨rfl, rfl⟩ ⟨(Nat.le_of_ble_eq_true rfl), (Nat.le_of_ble_eq_true rfl)⟩ ?_
    refine x_if_ne (tgt := 18) dX3_join_13 (by decide) (fun h13 => ?_) (fun h13 => ?_)
    · skip
      replace h13 := zb1 h13
      replace h13 := zth_T hb h13
      refine x_iload_n dX3_join_18 rfl ?_
      refine x_iload_n dX3_join_19 rfl ?_
      refine x_icmp_ne (tgt := 25) dX3_join_20 (by decide) (fun h20 => ?_) (fun h20 => ?_)
      · skip
        rw [nI_eq (by omega) (by omega)] at h20
        refine x_aload_n dX3_join_25 rfl ?_
        refine x_getR dX3_join_26 fl_X3_9 (by omega) rfl rfl rfl ?_
        refine x_iload_n dX3_join_29 rfl ?_
        refine x_aload_n dX3_join_30 rfl ?_
        refine x_getR dX3_join_31 fl_X3_9 (by omega) rfl rfl rfl ?_
        refine x_pc (pc2 := 34) rfl ?_
        refine x_iload_n dX3_join_34 rfl ?_
        refine x_ialdN dX3_join_35 (by omega) rfl rfl ha ?_
        refine x_aload_n dX3_join_36 rfl ?_
        refine x_getR dX3_join_37 fl_X3_9 (by omega) rfl rfl rfl ?_
        refine x_iload_n dX3_join_40 rfl ?_
        refine x_ialdN dX3_join_41 (by omega) rfl rfl hb ?_
        refine x_pc (pc2 := 42) rfl ?_
        refine x_iadd dX3_join_42 ?_
        refine x_bipush (v := 99) dX3_join_43 (by decide) ?_
        refine x_mmin dX3_join_45 ml_X3_111 j_min_st j_math j_min_cd (Nat.le_of_ble_eq_true rfl) ⟨(Nat.le_of_ble_eq_true rfl), (Nat.le_of_ble_eq_true rfl)⟩ ⟨(Nat.le_of_ble_eq_true rfl), (Nat.le_of_ble_eq_true rfl)⟩ ?_
        refine x_iast dX3_join_48 (by omega) rfl rfl ha ?_
        refine x_aload_n dX3_join_49 rfl ?_
        refine x_getR dX3_join_50 fl_X3_15 (by omega) rfl rfl rfl ?_
        refine x_pc (pc2 := 53) rfl ?_
        refine x_iload_n dX3_join_53 rfl ?_
        refine x_dup2 dX3_join_54 rfl rfl ?_
        refine x_ialdN dX3_join_55 (by omega) rfl rfl ha ?_
        refine x_aload_n dX3_join_56 rfl ?_
        refine x_getR dX3_join_57 fl_X3_15 (by omega) rfl rfl rfl ?_
        refine x_iload_n dX3_join_60 rfl ?_
        refine x_pc (pc2 := 61) rfl ?_
        refine x_ialdN dX3_join_61 (by omega) rfl rfl hb ?_
        refine x_ior dX3_join_62 ?_
        refine x_iast dX3_join_63 (by omega) rfl rfl ha ?_
        refine x_aload_n dX3_join_64 rfl ?_
        refine x_getR dX3_join_65 fl_X3_9 (by omega) rfl rfl rfl ?_
        refine x_iload_n dX3_join_68 rfl ?_
        refine x_pc (pc2 := 69) rfl ?_
        refine x_iconst (v := 0) dX3_join_69 (by decide) ?_
        refine x_iast dX3_join_70 (by omega) rfl rfl hb ?_
        refine x_iconst (v := 0) dX3_join_71 (by decide) ?_
        exact x_iret dX3_join_72 rfl (Nat.le_of_ble_eq_true rfl) (Nat.le_of_ble_eq_true rfl) ⟨congrArg (fun z => some (Value.int z)) (by simp [jnR, h5, h13, h20]), rfl, by simp [jnI, jnR, zrn, zmin, h5, h13, h20], by rfl, rfl⟩
      · skip
        rw [nI_eq (by omega) (by omega)] at h20
        refine x_iconst (v := 4) dX3_join_23 (by decide) ?_
        exact x_iret dX3_join_24 rfl (Nat.le_of_ble_eq_true rfl) (Nat.le_of_ble_eq_true rfl) ⟨congrArg (fun z => some (Value.int z)) (by simp [jnR, h5, h13, h20]), rfl, by simp [jnI, jnR, zrn, zmin, h5, h13, h20], by rfl, rfl⟩
    · skip
      replace h13 := zb0 h13
      replace h13 := zth_F hb h13
      refine x_iconst (v := 1) dX3_join_16 (by decide) ?_
      exact x_iret dX3_join_17 rfl (Nat.le_of_ble_eq_true rfl) (Nat.le_of_ble_eq_true rfl) ⟨congrArg (fun z => some (Value.int z)) (by simp [jnR, h5, h13]), rfl, by simp [jnI, jnR, zrn, zmin, h5, h13], by rfl, rfl⟩
theorem ct_X3_sitBy {g : zG} {N : Nat} {I : zI} {L : zL} {q0 q1 : Option Nat} {a : Nat} (hN : 58 ≤ N) (ha : a < 6) : Ct g yX3_sitBy mX3_sitBy [.ref (g.2.1 + 15), .int (nI a)] N I L (zRw q0 q1) (zD (some (.int (siR I a))) N (siI I a) L (zRw q0 q1)) := by
  refine Ct_of (lo0 := [some (.ref (g.2.1 + 15)), some (.int (nI a))]) rfl rfl rfl rfl (Nat.le_of_ble_eq_true rfl) (fun E => ?_)
  refine x_aload_n dX3_sitBy_0 rfl ?_
  refine x_iload_n dX3_sitBy_1 rfl ?_
  refine x_callVi dX3_sitBy_2 ml_X3_99 mt_X3_isThere mv_X3_isThere (ct_X3_isThere (Or.inr (Or.inl rfl)) (by omega)) (by omega) rfl rfl rfl rfl (Nat.le_of_ble_eq_true rfl) ⟨(Nat.le_of_ble_eq_true rfl), (Nat.le_of_ble_eq_true rfl)⟩ ⟨rfl, rfl⟩ ⟨(Nat.le_of_ble_eq_true rfl), (Nat.le_of_ble_eq_true rfl)⟩ ?_
  refine x_if_ne (tgt := 10) dX3_sitBy_5 (by decide) (fun h5 => ?_) (fun h5 => ?_)
  · skip
    replace h5 := zb1 h5
    replace h5 := zth_T ha h5
    refine x_aload_n dX3_sitBy_10 rfl ?_
    refine x_getI dX3_sitBy_11 fl_X3_47 (by omega) rfl rfl ?_
    refine x_bipush (v := 10) dX3_sitBy_14 (by decide) ?_
    refine x_icmp_ge (tgt := 21) dX3_sitBy_16 (by decide) (fun h16 => ?_) (fun h16 => ?_)
    · skip
      refine x_aload_n dX3_sitBy_21 rfl ?_
      refine x_dup dX3_sitBy_22 rfl ?_
      refine x_getI dX3_sitBy_23 fl_X3_47 (by omega) rfl rfl ?_
      refine x_bipush (v := 10) dX3_sitBy_26 (by decide) ?_
      refine x_isub dX3_sitBy_28 ?_
      refine x_pc (pc2 := 29) rfl ?_
      refine x_putI dX3_sitBy_29 fp_X3_47 (by omega) rfl ?_
      refine x_aload_n dX3_sitBy_32 rfl ?_
      refine x_getR dX3_sitBy_33 fl_X3_9 (by omega) rfl rfl rfl ?_
      refine x_iload_n dX3_sitBy_36 rfl ?_
      refine x_aload_n dX3_sitBy_37 rfl ?_
      refine x_getR dX3_sitBy_38 fl_X3_9 (by omega) rfl rfl rfl ?_
      refine x_pc (pc2 := 41) rfl ?_
      refine x_iload_n dX3_sitBy_41 rfl ?_
      refine x_ialdN dX3_sitBy_42 (by omega) rfl rfl ha ?_
      refine x_iconst (v := 2) dX3_sitBy_43 (by decide) ?_
      refine x_idiv dX3_sitBy_44 (by decide) ?_
      refine x_iconst (v := 1) dX3_sitBy_45 (by decide) ?_
      refine x_mmax dX3_sitBy_46 ml_X3_106 j_max_st j_math j_max_cd (Nat.le_of_ble_eq_true rfl) ⟨(Nat.le_of_ble_eq_true rfl), (Nat.le_of_ble_eq_true rfl)⟩ ⟨(Nat.le_of_ble_eq_true rfl), (Nat.le_of_ble_eq_true rfl)⟩ ?_
      refine x_pc (pc2 := 49) rfl ?_
      refine x_iast dX3_sitBy_49 (by omega) rfl rfl ha ?_
      refine x_iconst (v := 0) dX3_sitBy_50 (by decide) ?_
      exact x_iret dX3_sitBy_51 rfl (Nat.le_of_ble_eq_true rfl) (Nat.le_of_ble_eq_true rfl) ⟨congrArg (fun z => some (Value.int z)) (by simp [siR, h5, h16]), rfl, by simp [siI, siR, zrn, zmax, h5, h16], by rfl, rfl⟩
    · skip
      refine x_iconst (v := 3) dX3_sitBy_19 (by decide) ?_
      exact x_iret dX3_sitBy_20 rfl (Nat.le_of_ble_eq_true rfl) (Nat.le_of_ble_eq_true rfl) ⟨congrArg (fun z => some (Value.int z)) (by simp [siR, h5, h16]), rfl, by simp [siI, siR, zrn, zmax, h5, h16], by rfl, rfl⟩
  · skip
    replace h5 := zb0 h5
    replace h5 := zth_F ha h5
    refine x_iconst (v := 1) dX3_sitBy_8 (by decide) ?_
    exact x_iret dX3_sitBy_9 rfl (Nat.le_of_ble_eq_true rfl) (Nat.le_of_ble_eq_true rfl) ⟨congrArg (fun z => some (Value.int z)) (by simp [siR, h5]), rfl, by simp [siI, siR, zrn, zmax, h5], by rfl, rfl⟩
theorem ct_X3_rest {g : zG} {N : Nat} {I : zI} {L : zL} {q0 q1 : Option Nat} (hN : 58 ≤ N) : Ct g yX3_rest mX3_rest [.ref (g.2.1 + 15)] N I L (zRw q0 q1) (zD (some (.int (reR I))) N (reI I) L (zRw q0 q1)) := by
  refine Ct_of (lo0 := [some (.ref (g.2.1 + 15))]) rfl rfl rfl rfl (Nat.le_of_ble_eq_true rfl) (fun E => ?_)
  refine x_aload_n dX3_rest_0 rfl ?_
  refine x_getI dX3_rest_1 fl_X3_47 (by omega) rfl rfl ?_
  refine x_bipush (v := 99) dX3_rest_4 (by decide) ?_
  refine x_icmp_ne (tgt := 11) dX3_rest_6 (by decide) (fun h6 => ?_) (fun h6 => ?_)
  · skip
    refine x_aload_n dX3_rest_11 rfl ?_
    refine x_aload_n dX3_rest_12 rfl ?_
    refine x_getI dX3_rest_13 fl_X3_47 (by omega) rfl rfl ?_
    refine x_bipush (v := 20) dX3_rest_16 (by decide) ?_
    refine x_iadd dX3_rest_18 ?_
    refine x_pc (pc2 := 19) rfl ?_
    refine x_bipush (v := 99) dX3_rest_19 (by decide) ?_
    refine x_mmin dX3_rest_21 ml_X3_111 j_min_st j_math j_min_cd (Nat.le_of_ble_eq_true rfl) ⟨(Nat.le_of_ble_eq_true rfl), (Nat.le_of_ble_eq_true rfl)⟩ ⟨(Nat.le_of_ble_eq_true rfl), (Nat.le_of_ble_eq_true rfl)⟩ ?_
    refine x_putI dX3_rest_24 fp_X3_47 (by omega) rfl ?_
    refine x_iconst (v := 0) dX3_rest_27 (by decide) ?_
    exact x_iret dX3_rest_28 rfl (Nat.le_of_ble_eq_true rfl) (Nat.le_of_ble_eq_true rfl) ⟨congrArg (fun z => some (Value.int z)) (by simp [reR, h6]), rfl, by simp [reI, reR, zmin, h6], by rfl, rfl⟩
  · skip
    refine x_iconst (v := 5) dX3_rest_9 (by decide) ?_
    exact x_iret dX3_rest_10 rfl (Nat.le_of_ble_eq_true rfl) (Nat.le_of_ble_eq_true rfl) ⟨congrArg (fun z => some (Value.int z)) (by simp [reR, h6]), rfl, by simp [reI, reR, zmin, h6], by rfl, rfl⟩
theorem ct_X3_passHour {g : zG} {N : Nat} {I : zI} {L : zL} {q0 q1 : Option Nat} (hN : 58 ≤ N) : Ct g yX3_passHour mX3_passHour [.ref (g.2.1 + 15)] N I L (zRw q0 q1) (zD (some (.int (phR I))) N (phI I) L (zRw q0 q1)) := by
  refine Ct_of (lo0 := [some (.ref (g.2.1 + 15)), none]) rfl rfl rfl rfl (Nat.le_of_ble_eq_true rfl) (fun E => ?_)
  refine x_aload_n dX3_passHour_0 rfl ?_
  refine x_getI dX3_passHour_1 fl_X3_50 (by omega) rfl rfl ?_
  refine x_bipush (v := 99) dX3_passHour_4 (by decide) ?_
  refine x_icmp_ne (tgt := 12) dX3_passHour_6 (by decide) (fun h6 => ?_) (fun h6 => ?_)
  · skip
    refine x_aload_n dX3_passHour_12 rfl ?_
    refine x_dup dX3_passHour_13 rfl ?_
    refine x_getI dX3_passHour_14 fl_X3_50 (by omega) rfl rfl ?_
    refine x_iconst (v := 1) dX3_passHour_17 (by decide) ?_
    refine x_iadd dX3_passHour_18 ?_
    refine x_pc (pc2 := 19) rfl ?_
    refine x_putI dX3_passHour_19 fp_X3_50 (by omega) rfl ?_
    refine x_aload_n dX3_passHour_22 rfl ?_
    refine x_aload_n dX3_passHour_23 rfl ?_
    refine x_getI dX3_passHour_24 fl_X3_47 (by omega) rfl rfl ?_
    refine x_iconst (v := 5) dX3_passHour_27 (by decide) ?_
    refine x_iadd dX3_passHour_28 ?_
    refine x_pc (pc2 := 29) rfl ?_
    refine x_bipush (v := 99) dX3_passHour_29 (by decide) ?_
    refine x_mmin dX3_passHour_31 ml_X3_111 j_min_st j_math j_min_cd (Nat.le_of_ble_eq_true rfl) ⟨(Nat.le_of_ble_eq_true rfl), (Nat.le_of_ble_eq_true rfl)⟩ ⟨(Nat.le_of_ble_eq_true rfl), (Nat.le_of_ble_eq_true rfl)⟩ ?_
    refine x_putI dX3_passHour_34 fp_X3_47 (by omega) rfl ?_
    refine x_iconst (v := 0) dX3_passHour_37 (by decide) ?_
    refine x_istore_n (lo2 := [_, _]) dX3_passHour_38 (by decide) rfl rfl ?_
    refine x_loop (inv := fun i => True) (fun i => [some (.ref (g.2.1 + 15)), some (.int (nI i))]) (fun i => zrow (zu (zu I 15 12 (I 15 12 + 1)) 15 11 (zmin (I 15 11 + 5) 99)) 16 (zpre i (fun j => ph3 (I 16 j)) (I 16))) (fun i => L) 0 6 (by omega) (by trivial) (by rfl) (by rw [zpre_0, show I 16 = (zu (zu I 15 12 (I 15 12 + 1)) 15 11 (zmin (I 15 11 + 5) 99)) 16 from by rw [zrn _ _ (by decide), zrn _ _ (by decide)], zrow_same]; simp [zmin, zu]) (by rfl) (fun i hloi hhii hinvi Ki => ?_) (fun hinvi => ?_)
    · skip
      refine x_iload_n dX3_passHour_39 rfl ?_
      refine x_bipush (v := 6) dX3_passHour_40 (by decide) ?_
      refine x_icmp_ge (tgt := 79) dX3_passHour_42 (by decide) (fun h42 => ?_) (fun h42 => ?_)
      · skip
        exact absurd h42 (nI_ge (b := 6) hhii (by decide))
      · skip
        refine x_aload_n dX3_passHour_45 rfl ?_
        refine x_getR dX3_passHour_46 fl_X3_9 (by omega) rfl rfl rfl ?_
        refine x_iload_n dX3_passHour_49 rfl ?_
        refine x_ialdN dX3_passHour_50 (by omega) rfl rfl (by omega) ?_
        refine x_if_le (tgt := 73) dX3_passHour_51 (by decide) (fun h51 => ?_) (fun h51 => ?_)
        · skip
          refine x_iincN (lo2 := [_, _]) dX3_passHour_73 rfl rfl rfl ?_
          refine x_goto (tgt := 39) dX3_passHour_76 (by decide) ?_
          exact x_eq (by rfl) (by first | (rw [zrow_k, zpre_at] at h51; rw [zpre_skip]; simp [ph3, h51]; done) | (rw [zrow_k, zpre_at] at h51; rw [zu_zrow, zrow_k, zpre_at, ← zpre_s]; congr 2; simp [ph3, h51, zmin])) (by rfl) (Ki (by trivial))
        · skip
          refine x_aload_n dX3_passHour_54 rfl ?_
          refine x_getR dX3_passHour_55 fl_X3_9 (by omega) rfl rfl rfl ?_
          refine x_iload_n dX3_passHour_58 rfl ?_
          refine x_aload_n dX3_passHour_59 rfl ?_
          refine x_getR dX3_passHour_60 fl_X3_9 (by omega) rfl rfl rfl ?_
          refine x_pc (pc2 := 63) rfl ?_
          refine x_iload_n dX3_passHour_63 rfl ?_
          refine x_ialdN dX3_passHour_64 (by omega) rfl rfl (by omega) ?_
          refine x_iconst (v := 3) dX3_passHour_65 (by decide) ?_
          refine x_iadd dX3_passHour_66 ?_
          refine x_bipush (v := 99) dX3_passHour_67 (by decide) ?_
          refine x_mmin dX3_passHour_69 ml_X3_111 j_min_st j_math j_min_cd (Nat.le_of_ble_eq_true rfl) ⟨(Nat.le_of_ble_eq_true rfl), (Nat.le_of_ble_eq_true rfl)⟩ ⟨(Nat.le_of_ble_eq_true rfl), (Nat.le_of_ble_eq_true rfl)⟩ ?_
          refine x_pc (pc2 := 72) rfl ?_
          refine x_iast dX3_passHour_72 (by omega) rfl rfl hhii ?_
          refine x_iincN (lo2 := [_, _]) dX3_passHour_73 rfl rfl rfl ?_
          refine x_goto (tgt := 39) dX3_passHour_76 (by decide) ?_
          exact x_eq (by rfl) (by first | (rw [zrow_k, zpre_at] at h51; rw [zpre_skip]; simp [ph3, h51]; done) | (rw [zrow_k, zpre_at] at h51; rw [zu_zrow, zrow_k, zpre_at, ← zpre_s]; congr 2; simp [ph3, h51, zmin])) (by rfl) (Ki (by trivial))
    · skip
      refine x_iload_n dX3_passHour_39 rfl ?_
      refine x_bipush (v := 6) dX3_passHour_40 (by decide) ?_
      refine x_icmp_ge (tgt := 79) dX3_passHour_42 (by decide) (fun h42 => ?_) (fun h42 => ?_)
      · skip
        refine x_iconst (v := 0) dX3_passHour_79 (by decide) ?_
        exact x_iret dX3_passHour_80 rfl (Nat.le_of_ble_eq_true rfl) (Nat.le_of_ble_eq_true rfl) ⟨congrArg (fun z => some (Value.int z)) (by simp [phR, h6]), rfl, by simp [phI, phR, h6], by rfl, rfl⟩
      · skip
        exact absurd (nI_le (b := 6) (Nat.le_refl 6) (by decide)) h42
  · skip
    refine x_bipush (v := 6) dX3_passHour_9 (by decide) ?_
    exact x_iret dX3_passHour_11 rfl (Nat.le_of_ble_eq_true rfl) (Nat.le_of_ble_eq_true rfl) ⟨congrArg (fun z => some (Value.int z)) (by simp [phR, h6]), rfl, by simp [phI, phR, h6], by rfl, rfl⟩
theorem ct_X3_attempt_0 {g : zG} {N : Nat} {I : zI} {L : zL} {q0 q1 : Option Nat} {a b : Nat} (hN : 58 ≤ N) (h0 : I 26 0 = nI 0) (h1 : I 26 1 = nI a) (h2 : I 26 2 = nI b) (ha : a < 6) (hb : b < 6) : Ct g yX3_attempt mX3_attempt [.ref (g.2.1 + 15), .ref (g.2.1 + 26)] N I L (zRw q0 q1) (zD (some (.int (tkR I a b))) N (tkI I a b) L (zRw q0 q1)) := by
  refine Ct_of (lo0 := [some (.ref (g.2.1 + 15)), some (.ref (g.2.1 + 26))]) rfl rfl rfl rfl (Nat.le_of_ble_eq_true rfl) (fun E => ?_)
  refine x_aload_n dX3_attempt_0 rfl ?_
  refine x_getI dX3_attempt_1 fl_X3_71 (by omega) rfl rfl ?_
  rw [h0]
  refine x_tableIn (off := 32) (tgt := 36) dX3_attempt_4 (by decide) (by decide) rfl (by decide) ?_
  refine x_aload_n dX3_attempt_36 rfl ?_
  refine x_aload_n dX3_attempt_37 rfl ?_
  refine x_pc (pc2 := 38) rfl ?_
  refine x_getI dX3_attempt_38 fl_X3_76 (by omega) rfl rfl ?_
  refine x_aload_n dX3_attempt_41 rfl ?_
  refine x_getI dX3_attempt_42 fl_X3_79 (by omega) rfl rfl ?_
  rw [h1, h2]
  refine x_callVi dX3_attempt_45 ml_X3_82 mt_X3_takeHold mv_X3_takeHold (ct_X3_takeHold hN ha hb) (by omega) rfl rfl rfl rfl (Nat.le_of_ble_eq_true rfl) ⟨(Nat.le_of_ble_eq_true rfl), (Nat.le_of_ble_eq_true rfl)⟩ ⟨rfl, rfl⟩ ⟨(Nat.le_of_ble_eq_true rfl), (Nat.le_of_ble_eq_true rfl)⟩ ?_
  exact x_iret dX3_attempt_48 rfl (Nat.le_of_ble_eq_true rfl) (Nat.le_of_ble_eq_true rfl) ⟨congrArg (fun z => some (Value.int z)) (by rfl), rfl, by rfl, by rfl, rfl⟩
theorem ct_X3_attempt_1 {g : zG} {N : Nat} {I : zI} {L : zL} {q0 q1 : Option Nat} {a b : Nat} (hN : 58 ≤ N) (h0 : I 26 0 = nI 1) (h1 : I 26 1 = nI a) (h2 : I 26 2 = nI b) (ha : a < 6) (hb : b < 6) : Ct g yX3_attempt mX3_attempt [.ref (g.2.1 + 15), .ref (g.2.1 + 26)] N I L (zRw q0 q1) (zD (some (.int (jnR I a b))) N (jnI I a b) L (zRw q0 q1)) := by
  refine Ct_of (lo0 := [some (.ref (g.2.1 + 15)), some (.ref (g.2.1 + 26))]) rfl rfl rfl rfl (Nat.le_of_ble_eq_true rfl) (fun E => ?_)
  refine x_aload_n dX3_attempt_0 rfl ?_
  refine x_getI dX3_attempt_1 fl_X3_71 (by omega) rfl rfl ?_
  rw [h0]
  refine x_tableIn (off := 45) (tgt := 49) dX3_attempt_4 (by decide) (by decide) rfl (by decide) ?_
  refine x_aload_n dX3_attempt_49 rfl ?_
  refine x_aload_n dX3_attempt_50 rfl ?_
  refine x_pc (pc2 := 51) rfl ?_
  refine x_getI dX3_attempt_51 fl_X3_76 (by omega) rfl rfl ?_
  refine x_aload_n dX3_attempt_54 rfl ?_
  refine x_getI dX3_attempt_55 fl_X3_79 (by omega) rfl rfl ?_
  rw [h1, h2]
  refine x_callVi dX3_attempt_58 ml_X3_86 mt_X3_join mv_X3_join (ct_X3_join hN ha hb) (by omega) rfl rfl rfl rfl (Nat.le_of_ble_eq_true rfl) ⟨(Nat.le_of_ble_eq_true rfl), (Nat.le_of_ble_eq_true rfl)⟩ ⟨rfl, rfl⟩ ⟨(Nat.le_of_ble_eq_true rfl), (Nat.le_of_ble_eq_true rfl)⟩ ?_
  exact x_iret dX3_attempt_61 rfl (Nat.le_of_ble_eq_true rfl) (Nat.le_of_ble_eq_true rfl) ⟨congrArg (fun z => some (Value.int z)) (by rfl), rfl, by rfl, by rfl, rfl⟩
theorem ct_X3_attempt_2 {g : zG} {N : Nat} {I : zI} {L : zL} {q0 q1 : Option Nat} {a : Nat} (hN : 58 ≤ N) (h0 : I 26 0 = nI 2) (h1 : I 26 1 = nI a) (ha : a < 6) : Ct g yX3_attempt mX3_attempt [.ref (g.2.1 + 15), .ref (g.2.1 + 26)] N I L (zRw q0 q1) (zD (some (.int (siR I a))) N (siI I a) L (zRw q0 q1)) := by
  refine Ct_of (lo0 := [some (.ref (g.2.1 + 15)), some (.ref (g.2.1 + 26))]) rfl rfl rfl rfl (Nat.le_of_ble_eq_true rfl) (fun E => ?_)
  refine x_aload_n dX3_attempt_0 rfl ?_
  refine x_getI dX3_attempt_1 fl_X3_71 (by omega) rfl rfl ?_
  rw [h0]
  refine x_tableIn (off := 58) (tgt := 62) dX3_attempt_4 (by decide) (by decide) rfl (by decide) ?_
  refine x_aload_n dX3_attempt_62 rfl ?_
  refine x_aload_n dX3_attempt_63 rfl ?_
  refine x_pc (pc2 := 64) rfl ?_
  refine x_getI dX3_attempt_64 fl_X3_76 (by omega) rfl rfl ?_
  rw [h1]
  refine x_callVi dX3_attempt_67 ml_X3_89 mt_X3_sitBy mv_X3_sitBy (ct_X3_sitBy hN ha) (by omega) rfl rfl rfl rfl (Nat.le_of_ble_eq_true rfl) ⟨(Nat.le_of_ble_eq_true rfl), (Nat.le_of_ble_eq_true rfl)⟩ ⟨rfl, rfl⟩ ⟨(Nat.le_of_ble_eq_true rfl), (Nat.le_of_ble_eq_true rfl)⟩ ?_
  exact x_iret dX3_attempt_70 rfl (Nat.le_of_ble_eq_true rfl) (Nat.le_of_ble_eq_true rfl) ⟨congrArg (fun z => some (Value.int z)) (by rfl), rfl, by rfl, by rfl, rfl⟩
theorem ct_X3_attempt_3 {g : zG} {N : Nat} {I : zI} {L : zL} {q0 q1 : Option Nat} (hN : 58 ≤ N) (h0 : I 26 0 = nI 3) : Ct g yX3_attempt mX3_attempt [.ref (g.2.1 + 15), .ref (g.2.1 + 26)] N I L (zRw q0 q1) (zD (some (.int (reR I))) N (reI I) L (zRw q0 q1)) := by
  refine Ct_of (lo0 := [some (.ref (g.2.1 + 15)), some (.ref (g.2.1 + 26))]) rfl rfl rfl rfl (Nat.le_of_ble_eq_true rfl) (fun E => ?_)
  refine x_aload_n dX3_attempt_0 rfl ?_
  refine x_getI dX3_attempt_1 fl_X3_71 (by omega) rfl rfl ?_
  rw [h0]
  refine x_tableIn (off := 67) (tgt := 71) dX3_attempt_4 (by decide) (by decide) rfl (by decide) ?_
  refine x_aload_n dX3_attempt_71 rfl ?_
  refine x_callVi dX3_attempt_72 ml_X3_92 mt_X3_rest mv_X3_rest (ct_X3_rest hN) (by omega) rfl rfl rfl rfl (Nat.le_of_ble_eq_true rfl) ⟨(Nat.le_of_ble_eq_true rfl), (Nat.le_of_ble_eq_true rfl)⟩ ⟨rfl, rfl⟩ ⟨(Nat.le_of_ble_eq_true rfl), (Nat.le_of_ble_eq_true rfl)⟩ ?_
  refine x_pc (pc2 := 75) rfl ?_
  exact x_iret dX3_attempt_75 rfl (Nat.le_of_ble_eq_true rfl) (Nat.le_of_ble_eq_true rfl) ⟨congrArg (fun z => some (Value.int z)) (by rfl), rfl, by rfl, by rfl, rfl⟩
theorem ct_X3_attempt_4 {g : zG} {N : Nat} {I : zI} {L : zL} {q0 q1 : Option Nat} (hN : 58 ≤ N) (h0 : I 26 0 = nI 4) : Ct g yX3_attempt mX3_attempt [.ref (g.2.1 + 15), .ref (g.2.1 + 26)] N I L (zRw q0 q1) (zD (some (.int (phR I))) N (phI I) L (zRw q0 q1)) := by
  refine Ct_of (lo0 := [some (.ref (g.2.1 + 15)), some (.ref (g.2.1 + 26))]) rfl rfl rfl rfl (Nat.le_of_ble_eq_true rfl) (fun E => ?_)
  refine x_aload_n dX3_attempt_0 rfl ?_
  refine x_getI dX3_attempt_1 fl_X3_71 (by omega) rfl rfl ?_
  rw [h0]
  refine x_tableOut (tgt := 76) dX3_attempt_4 (by decide) (by decide) ?_
  refine x_aload_n dX3_attempt_76 rfl ?_
  refine x_callVi dX3_attempt_77 ml_X3_96 mt_X3_passHour mv_X3_passHour (ct_X3_passHour hN) (by omega) rfl rfl rfl rfl (Nat.le_of_ble_eq_true rfl) ⟨(Nat.le_of_ble_eq_true rfl), (Nat.le_of_ble_eq_true rfl)⟩ ⟨rfl, rfl⟩ ⟨(Nat.le_of_ble_eq_true rfl), (Nat.le_of_ble_eq_true rfl)⟩ ?_
  refine x_pc (pc2 := 80) rfl ?_
  exact x_iret dX3_attempt_80 rfl (Nat.le_of_ble_eq_true rfl) (Nat.le_of_ble_eq_true rfl) ⟨congrArg (fun z => some (Value.int z)) (by rfl), rfl, by rfl, by rfl, rfl⟩
theorem ct_X3_attempt {g : zG} {N : Nat} {I : zI} {L : zL} {q0 q1 : Option Nat} {k a b : Nat} (hN : 58 ≤ N) (hk : k < 5) (h0 : I 26 0 = nI k) (h1 : I 26 1 = nI a) (h2 : k ≤ 1 → I 26 2 = nI b) (ha : a < 6) (hb : k ≤ 1 → b < 6) : Ct g yX3_attempt mX3_attempt [.ref (g.2.1 + 15), .ref (g.2.1 + 26)] N I L (zRw q0 q1) (zD (some (.int (atR I k a b))) N (atI I k a b) L (zRw q0 q1)) := by
  rcases (show k = 0 ∨ k = 1 ∨ k = 2 ∨ k = 3 ∨ k = 4 by omega) with rfl | rfl | rfl | rfl | rfl
  · rw [show atR I 0 a b = tkR I a b by simp [atR], show atI I 0 a b = tkI I a b by simp [atI]]
    exact ct_X3_attempt_0 hN h0 h1 (h2 (by omega)) ha (hb (by omega))
  · rw [show atR I 1 a b = jnR I a b by simp [atR], show atI I 1 a b = jnI I a b by simp [atI]]
    exact ct_X3_attempt_1 hN h0 h1 (h2 (by omega)) ha (hb (by omega))
  · rw [show atR I 2 a b = siR I a by simp [atR], show atI I 2 a b = siI I a by simp [atI]]
    exact ct_X3_attempt_2 hN h0 h1 ha
  · rw [show atR I 3 a b = reR I by simp [atR], show atI I 3 a b = reI I by simp [atI]]
    exact ct_X3_attempt_3 hN h0
  · rw [show atR I 4 a b = phR I by simp [atR], show atI I 4 a b = phI I by simp [atI]]
    exact ct_X3_attempt_4 hN h0
theorem ct_X8_copyRow {g : zG} {N : Nat} {I : zI} {L : zL} {R : zR} {k0 k1 n0 : Nat} (h0 : k0 < N) (h1 : k1 < N) (t0 : zt k0 = (0, n0)) (t1 : zt k1 = (0, n0)) : Ct g yX8_copyRow mX8_copyRow [.ref (g.2.1 + k0), .ref (g.2.1 + k1)] N I L R (zD none N (zrow I k1 (I k0)) L R) := by
  refine Ct_of (lo0 := [some (.ref (g.2.1 + k0)), some (.ref (g.2.1 + k1))]) rfl rfl rfl rfl (Nat.le_of_ble_eq_true rfl) (fun E => ?_)
  refine x_aload_n dX8_copyRow_0 rfl ?_
  refine x_iconst (v := 0) dX8_copyRow_1 (by decide) ?_
  refine x_aload_n dX8_copyRow_2 rfl ?_
  refine x_iconst (v := 0) dX8_copyRow_3 (by decide) ?_
  refine x_aload_n dX8_copyRow_4 rfl ?_
  refine x_pc (pc2 := 5) rfl ?_
  refine x_alen (v := nI n0) dX8_copyRow_5 h0 t0 rfl ?_
  refine x_aload_n dX8_copyRow_6 rfl ?_
  refine x_alen (v := nI n0) dX8_copyRow_7 h1 t1 rfl ?_
  refine x_mmin dX8_copyRow_8 ml_X8_263 j_min_st j_math j_min_cd (Nat.le_of_ble_eq_true rfl) ⟨(Nat.le_of_ble_eq_true rfl), (Nat.le_of_ble_eq_true rfl)⟩ ⟨(Nat.le_of_ble_eq_true rfl), (Nat.le_of_ble_eq_true rfl)⟩ ?_
  refine x_copyR dX8_copyRow_11 ml_X8_268 j_cp_na j_cp_st j_cp_in h0 h1 t0 t1 (by simp) (Nat.le_of_ble_eq_true rfl) ⟨(Nat.le_of_ble_eq_true rfl), (Nat.le_of_ble_eq_true rfl)⟩ ?_
  exact x_vret dX8_copyRow_14 rfl (Nat.le_of_ble_eq_true rfl) (Nat.le_of_ble_eq_true rfl) ⟨rfl, rfl, by rfl, by rfl, rfl⟩
theorem ct_X3_become_15_1 {g : zG} {N : Nat} {I : zI} {L : zL} {q0 q1 : Option Nat} (hN : 58 ≤ N) (hz : ∀ i, i < 8 → narrow .boolean (.int (I 11 i)) = .int (I 11 i)) : Ct g yX3_become mX3_become [.ref (g.2.1 + 15), .ref (g.2.1 + 1)] N I L (zRw q0 q1) (zD none N (zbec I 15 1) L (zRw q0 q1)) := by
  refine Ct_of (lo0 := [some (.ref (g.2.1 + 15)), some (.ref (g.2.1 + 1)), none]) rfl rfl rfl rfl (Nat.le_of_ble_eq_true rfl) (fun E => ?_)
  refine x_aload_n dX3_become_0 rfl ?_
  refine x_getR dX3_become_1 fl_X3_9 (by omega) rfl rfl rfl ?_
  refine x_aload_n dX3_become_4 rfl ?_
  refine x_getR dX3_become_5 fl_X3_9 (by omega) rfl rfl rfl ?_
  refine x_callNv dX3_become_8 nn_X3_53 mt_X8_copyRow st_X8_copyRow (ct_X8_copyRow (by omega) (by omega) rfl rfl) rfl rfl (Nat.le_of_ble_eq_true rfl) ⟨(Nat.le_of_ble_eq_true rfl), (Nat.le_of_ble_eq_true rfl)⟩ ⟨rfl, rfl⟩ ⟨(Nat.le_of_ble_eq_true rfl), (Nat.le_of_ble_eq_true rfl)⟩ ?_
  refine x_pc (pc2 := 11) rfl ?_
  refine x_aload_n dX3_become_11 rfl ?_
  refine x_getR dX3_become_12 fl_X3_15 (by omega) rfl rfl rfl ?_
  refine x_aload_n dX3_become_15 rfl ?_
  refine x_getR dX3_become_16 fl_X3_15 (by omega) rfl rfl rfl ?_
  refine x_callNv dX3_become_19 nn_X3_53 mt_X8_copyRow st_X8_copyRow (ct_X8_copyRow (by omega) (by omega) rfl rfl) rfl rfl (Nat.le_of_ble_eq_true rfl) ⟨(Nat.le_of_ble_eq_true rfl), (Nat.le_of_ble_eq_true rfl)⟩ ⟨rfl, rfl⟩ ⟨(Nat.le_of_ble_eq_true rfl), (Nat.le_of_ble_eq_true rfl)⟩ ?_
  refine x_aload_n dX3_become_22 rfl ?_
  refine x_pc (pc2 := 23) rfl ?_
  refine x_getR dX3_become_23 fl_X3_18 (by omega) rfl rfl rfl ?_
  refine x_aload_n dX3_become_26 rfl ?_
  refine x_getR dX3_become_27 fl_X3_18 (by omega) rfl rfl rfl ?_
  refine x_callNv dX3_become_30 nn_X3_53 mt_X8_copyRow st_X8_copyRow (ct_X8_copyRow (by omega) (by omega) rfl rfl) rfl rfl (Nat.le_of_ble_eq_true rfl) ⟨(Nat.le_of_ble_eq_true rfl), (Nat.le_of_ble_eq_true rfl)⟩ ⟨rfl, rfl⟩ ⟨(Nat.le_of_ble_eq_true rfl), (Nat.le_of_ble_eq_true rfl)⟩ ?_
  refine x_aload_n dX3_become_33 rfl ?_
  refine x_getR dX3_become_34 fl_X3_21 (by omega) rfl rfl rfl ?_
  refine x_pc (pc2 := 37) rfl ?_
  refine x_aload_n dX3_become_37 rfl ?_
  refine x_getR dX3_become_38 fl_X3_21 (by omega) rfl rfl rfl ?_
  refine x_callNv dX3_become_41 nn_X3_53 mt_X8_copyRow st_X8_copyRow (ct_X8_copyRow (by omega) (by omega) rfl rfl) rfl rfl (Nat.le_of_ble_eq_true rfl) ⟨(Nat.le_of_ble_eq_true rfl), (Nat.le_of_ble_eq_true rfl)⟩ ⟨rfl, rfl⟩ ⟨(Nat.le_of_ble_eq_true rfl), (Nat.le_of_ble_eq_true rfl)⟩ ?_
  refine x_aload_n dX3_become_44 rfl ?_
  refine x_getR dX3_become_45 fl_X3_24 (by omega) rfl rfl rfl ?_
  refine x_aload_n dX3_become_48 rfl ?_
  refine x_pc (pc2 := 49) rfl ?_
  refine x_getR dX3_become_49 fl_X3_24 (by omega) rfl rfl rfl ?_
  refine x_callNv dX3_become_52 nn_X3_53 mt_X8_copyRow st_X8_copyRow (ct_X8_copyRow (by omega) (by omega) rfl rfl) rfl rfl (Nat.le_of_ble_eq_true rfl) ⟨(Nat.le_of_ble_eq_true rfl), (Nat.le_of_ble_eq_true rfl)⟩ ⟨rfl, rfl⟩ ⟨(Nat.le_of_ble_eq_true rfl), (Nat.le_of_ble_eq_true rfl)⟩ ?_
  refine x_aload_n dX3_become_55 rfl ?_
  refine x_getR dX3_become_56 fl_X3_27 (by omega) rfl rfl rfl ?_
  refine x_aload_n dX3_become_59 rfl ?_
  refine x_getR dX3_become_60 fl_X3_27 (by omega) rfl rfl rfl ?_
  refine x_pc (pc2 := 63) rfl ?_
  refine x_callNv dX3_become_63 nn_X3_53 mt_X8_copyRow st_X8_copyRow (ct_X8_copyRow (by omega) (by omega) rfl rfl) rfl rfl (Nat.le_of_ble_eq_true rfl) ⟨(Nat.le_of_ble_eq_true rfl), (Nat.le_of_ble_eq_true rfl)⟩ ⟨rfl, rfl⟩ ⟨(Nat.le_of_ble_eq_true rfl), (Nat.le_of_ble_eq_true rfl)⟩ ?_
  refine x_aload_n dX3_become_66 rfl ?_
  refine x_getR dX3_become_67 fl_X3_30 (by omega) rfl rfl rfl ?_
  refine x_aload_n dX3_become_70 rfl ?_
  refine x_getR dX3_become_71 fl_X3_30 (by omega) rfl rfl rfl ?_
  refine x_callNv dX3_become_74 nn_X3_53 mt_X8_copyRow st_X8_copyRow (ct_X8_copyRow (by omega) (by omega) rfl rfl) rfl rfl (Nat.le_of_ble_eq_true rfl) ⟨(Nat.le_of_ble_eq_true rfl), (Nat.le_of_ble_eq_true rfl)⟩ ⟨rfl, rfl⟩ ⟨(Nat.le_of_ble_eq_true rfl), (Nat.le_of_ble_eq_true rfl)⟩ ?_
  refine x_pc (pc2 := 77) rfl ?_
  refine x_aload_n dX3_become_77 rfl ?_
  refine x_getR dX3_become_78 fl_X3_33 (by omega) rfl rfl rfl ?_
  refine x_aload_n dX3_become_81 rfl ?_
  refine x_getR dX3_become_82 fl_X3_33 (by omega) rfl rfl rfl ?_
  refine x_callNv dX3_become_85 nn_X3_53 mt_X8_copyRow st_X8_copyRow (ct_X8_copyRow (by omega) (by omega) rfl rfl) rfl rfl (Nat.le_of_ble_eq_true rfl) ⟨(Nat.le_of_ble_eq_true rfl), (Nat.le_of_ble_eq_true rfl)⟩ ⟨rfl, rfl⟩ ⟨(Nat.le_of_ble_eq_true rfl), (Nat.le_of_ble_eq_true rfl)⟩ ?_
  refine x_aload_n dX3_become_88 rfl ?_
  refine x_pc (pc2 := 89) rfl ?_
  refine x_getR dX3_become_89 fl_X3_36 (by omega) rfl rfl rfl ?_
  refine x_aload_n dX3_become_92 rfl ?_
  refine x_getR dX3_become_93 fl_X3_36 (by omega) rfl rfl rfl ?_
  refine x_callNv dX3_become_96 nn_X3_53 mt_X8_copyRow st_X8_copyRow (ct_X8_copyRow (by omega) (by omega) rfl rfl) rfl rfl (Nat.le_of_ble_eq_true rfl) ⟨(Nat.le_of_ble_eq_true rfl), (Nat.le_of_ble_eq_true rfl)⟩ ⟨rfl, rfl⟩ ⟨(Nat.le_of_ble_eq_true rfl), (Nat.le_of_ble_eq_true rfl)⟩ ?_
  refine x_iconst (v := 0) dX3_become_99 (by decide) ?_
  refine x_istore_n (lo2 := [_, _, _]) dX3_become_100 (by decide) rfl rfl ?_
  refine x_loop (inv := fun i => True) (fun i => [some (.ref (g.2.1 + 15)), some (.ref (g.2.1 + 1)), some (.int (nI i))]) (fun i => zrow (zrow (zrow (zrow (zrow (zrow (zrow (zrow (zrow (zrow I 16 (I 2)) 17 (I 3)) 18 (I 4)) 19 (I 5)) 20 (I 6)) 21 (I 7)) 22 (I 8)) 23 (I 9)) 24 (I 10)) 25 (zpre i (I 11) (I 25))) (fun i => L) 0 8 (by omega) (by trivial) (by rfl) (by rw [zpre_0]; funext a; by_cases e : a = 25 <;> simp [zrow, e]) (by rfl) (fun i hloi hhii hinvi Ki => ?_) (fun hinvi => ?_)
  · skip
    refine x_iload_n dX3_become_101 rfl ?_
    refine x_bipush (v := 8) dX3_become_102 (by decide) ?_
    refine x_icmp_ge (tgt := 125) dX3_become_104 (by decide) (fun h104 => ?_) (fun h104 => ?_)
    · skip
      exact absurd h104 (nI_ge (b := 8) hhii (by decide))
    · skip
      refine x_aload_n dX3_become_107 rfl ?_
      refine x_getR dX3_become_108 fl_X3_39 (by omega) rfl rfl rfl ?_
      refine x_iload_n dX3_become_111 rfl ?_
      refine x_aload_n dX3_become_112 rfl ?_
      refine x_getR dX3_become_113 fl_X3_39 (by omega) rfl rfl rfl ?_
      refine x_pc (pc2 := 116) rfl ?_
      refine x_iload_n dX3_become_116 rfl ?_
      refine x_zald dX3_become_117 (by omega) rfl rfl (by omega) ?_
      rw [show zrow (zrow (zrow (zrow (zrow (zrow (zrow (zrow (zrow (zrow I 16 (I 2)) 17 (I 3)) 18 (I 4)) 19 (I 5)) 20 (I 6)) 21 (I 7)) 22 (I 8)) 23 (I 9)) 24 (I 10)) 25 (zpre i (I 11) (I 25)) 11 i = I 11 i from by simp [zrow]]
      refine x_zast dX3_become_118 (by omega) rfl rfl (by omega) (hz _ hhii) ?_
      refine x_iincN (lo2 := [_, _, _]) dX3_become_119 rfl rfl rfl ?_
      refine x_goto (tgt := 101) dX3_become_122 (by decide) ?_
      exact x_eq (by rfl) (by rw [zu_zrow, ← zpre_s]) (by rfl) (Ki (by trivial))
  · skip
    refine x_iload_n dX3_become_101 rfl ?_
    refine x_bipush (v := 8) dX3_become_102 (by decide) ?_
    refine x_icmp_ge (tgt := 125) dX3_become_104 (by decide) (fun h104 => ?_) (fun h104 => ?_)
    · skip
      refine x_aload_n dX3_become_125 rfl ?_
      refine x_aload_n dX3_become_126 rfl ?_
      refine x_getI dX3_become_127 fl_X3_43 (by omega) rfl rfl ?_
      refine x_putI dX3_become_130 fp_X3_43 (by omega) rfl ?_
      refine x_aload_n dX3_become_133 rfl ?_
      refine x_pc (pc2 := 134) rfl ?_
      refine x_aload_n dX3_become_134 rfl ?_
      refine x_getI dX3_become_135 fl_X3_47 (by omega) rfl rfl ?_
      refine x_putI dX3_become_138 fp_X3_47 (by omega) rfl ?_
      refine x_aload_n dX3_become_141 rfl ?_
      refine x_aload_n dX3_become_142 rfl ?_
      refine x_getI dX3_become_143 fl_X3_50 (by omega) rfl rfl ?_
      refine x_pc (pc2 := 146) rfl ?_
      refine x_putI dX3_become_146 fp_X3_50 (by omega) rfl ?_
      refine x_sameV (I' := zbec I 15 1) (fun k _ j hv => ?_) ?_
      · by_cases h : 15 ≤ k ∧ k ≤ 25
        · obtain ⟨d, hd, rfl⟩ : ∃ d, d < 11 ∧ k = 15 + d := ⟨k - 15, by omega, by omega⟩
          rcases (show d = 0 ∨ d = 1 ∨ d = 2 ∨ d = 3 ∨ d = 4 ∨ d = 5 ∨ d = 6 ∨ d = 7 ∨ d = 8 ∨ d = 9 ∨ d = 10 by omega) with rfl | rfl | rfl | rfl | rfl | rfl | rfl | rfl | rfl | rfl | rfl
          · have hv : j < 13 ∧ zrf 3 j = false := hv
            have hj : j = 10 ∨ j = 11 ∨ j = 12 := by
              obtain ⟨h1, h2⟩ := hv
              rcases (show j = 0 ∨ j = 1 ∨ j = 2 ∨ j = 3 ∨ j = 4 ∨ j = 5 ∨ j = 6 ∨ j = 7 ∨ j = 8 ∨ j = 9 ∨ 10 ≤ j by omega) with rfl | rfl | rfl | rfl | rfl | rfl | rfl | rfl | rfl | rfl | h3
              all_goals first | (exact absurd h2 (by decide)) | omega
            rcases hj with rfl | rfl | rfl <;> simp [zbec, zu, zrow]
          all_goals first | (simp [zbec, zu, zrow]; done) | (have hv : j < 8 := hv; simp [zbec, zu, zrow, zpre, hv])
        · have e0 : k ≠ 15 := by omega
          have e1 : k ≠ 16 := by omega
          have e2 : k ≠ 17 := by omega
          have e3 : k ≠ 18 := by omega
          have e4 : k ≠ 19 := by omega
          have e5 : k ≠ 20 := by omega
          have e6 : k ≠ 21 := by omega
          have e7 : k ≠ 22 := by omega
          have e8 : k ≠ 23 := by omega
          have e9 : k ≠ 24 := by omega
          have e10 : k ≠ 25 := by omega
          simp [zbec, zu, zrow, h, e0, e1, e2, e3, e4, e5, e6, e7, e8, e9, e10]
      exact x_vret dX3_become_149 rfl (Nat.le_of_ble_eq_true rfl) (Nat.le_of_ble_eq_true rfl) ⟨rfl, rfl, by rfl, by rfl, rfl⟩
    · skip
      exact absurd (nI_le (b := 8) (Nat.le_refl 8) (by decide)) h104
theorem ct_X3_become_1_15 {g : zG} {N : Nat} {I : zI} {L : zL} {q0 q1 : Option Nat} (hN : 58 ≤ N) (hz : ∀ i, i < 8 → narrow .boolean (.int (I 25 i)) = .int (I 25 i)) : Ct g yX3_become mX3_become [.ref (g.2.1 + 1), .ref (g.2.1 + 15)] N I L (zRw q0 q1) (zD none N (zbec I 1 15) L (zRw q0 q1)) := by
  refine Ct_of (lo0 := [some (.ref (g.2.1 + 1)), some (.ref (g.2.1 + 15)), none]) rfl rfl rfl rfl (Nat.le_of_ble_eq_true rfl) (fun E => ?_)
  refine x_aload_n dX3_become_0 rfl ?_
  refine x_getR dX3_become_1 fl_X3_9 (by omega) rfl rfl rfl ?_
  refine x_aload_n dX3_become_4 rfl ?_
  refine x_getR dX3_become_5 fl_X3_9 (by omega) rfl rfl rfl ?_
  refine x_callNv dX3_become_8 nn_X3_53 mt_X8_copyRow st_X8_copyRow (ct_X8_copyRow (by omega) (by omega) rfl rfl) rfl rfl (Nat.le_of_ble_eq_true rfl) ⟨(Nat.le_of_ble_eq_true rfl), (Nat.le_of_ble_eq_true rfl)⟩ ⟨rfl, rfl⟩ ⟨(Nat.le_of_ble_eq_true rfl), (Nat.le_of_ble_eq_true rfl)⟩ ?_
  refine x_pc (pc2 := 11) rfl ?_
  refine x_aload_n dX3_become_11 rfl ?_
  refine x_getR dX3_become_12 fl_X3_15 (by omega) rfl rfl rfl ?_
  refine x_aload_n dX3_become_15 rfl ?_
  refine x_getR dX3_become_16 fl_X3_15 (by omega) rfl rfl rfl ?_
  refine x_callNv dX3_become_19 nn_X3_53 mt_X8_copyRow st_X8_copyRow (ct_X8_copyRow (by omega) (by omega) rfl rfl) rfl rfl (Nat.le_of_ble_eq_true rfl) ⟨(Nat.le_of_ble_eq_true rfl), (Nat.le_of_ble_eq_true rfl)⟩ ⟨rfl, rfl⟩ ⟨(Nat.le_of_ble_eq_true rfl), (Nat.le_of_ble_eq_true rfl)⟩ ?_
  refine x_aload_n dX3_become_22 rfl ?_
  refine x_pc (pc2 := 23) rfl ?_
  refine x_getR dX3_become_23 fl_X3_18 (by omega) rfl rfl rfl ?_
  refine x_aload_n dX3_become_26 rfl ?_
  refine x_getR dX3_become_27 fl_X3_18 (by omega) rfl rfl rfl ?_
  refine x_callNv dX3_become_30 nn_X3_53 mt_X8_copyRow st_X8_copyRow (ct_X8_copyRow (by omega) (by omega) rfl rfl) rfl rfl (Nat.le_of_ble_eq_true rfl) ⟨(Nat.le_of_ble_eq_true rfl), (Nat.le_of_ble_eq_true rfl)⟩ ⟨rfl, rfl⟩ ⟨(Nat.le_of_ble_eq_true rfl), (Nat.le_of_ble_eq_true rfl)⟩ ?_
  refine x_aload_n dX3_become_33 rfl ?_
  refine x_getR dX3_become_34 fl_X3_21 (by omega) rfl rfl rfl ?_
  refine x_pc (pc2 := 37) rfl ?_
  refine x_aload_n dX3_become_37 rfl ?_
  refine x_getR dX3_become_38 fl_X3_21 (by omega) rfl rfl rfl ?_
  refine x_callNv dX3_become_41 nn_X3_53 mt_X8_copyRow st_X8_copyRow (ct_X8_copyRow (by omega) (by omega) rfl rfl) rfl rfl (Nat.le_of_ble_eq_true rfl) ⟨(Nat.le_of_ble_eq_true rfl), (Nat.le_of_ble_eq_true rfl)⟩ ⟨rfl, rfl⟩ ⟨(Nat.le_of_ble_eq_true rfl), (Nat.le_of_ble_eq_true rfl)⟩ ?_
  refine x_aload_n dX3_become_44 rfl ?_
  refine x_getR dX3_become_45 fl_X3_24 (by omega) rfl rfl rfl ?_
  refine x_aload_n dX3_become_48 rfl ?_
  refine x_pc (pc2 := 49) rfl ?_
  refine x_getR dX3_become_49 fl_X3_24 (by omega) rfl rfl rfl ?_
  refine x_callNv dX3_become_52 nn_X3_53 mt_X8_copyRow st_X8_copyRow (ct_X8_copyRow (by omega) (by omega) rfl rfl) rfl rfl (Nat.le_of_ble_eq_true rfl) ⟨(Nat.le_of_ble_eq_true rfl), (Nat.le_of_ble_eq_true rfl)⟩ ⟨rfl, rfl⟩ ⟨(Nat.le_of_ble_eq_true rfl), (Nat.le_of_ble_eq_true rfl)⟩ ?_
  refine x_aload_n dX3_become_55 rfl ?_
  refine x_getR dX3_become_56 fl_X3_27 (by omega) rfl rfl rfl ?_
  refine x_aload_n dX3_become_59 rfl ?_
  refine x_getR dX3_become_60 fl_X3_27 (by omega) rfl rfl rfl ?_
  refine x_pc (pc2 := 63) rfl ?_
  refine x_callNv dX3_become_63 nn_X3_53 mt_X8_copyRow st_X8_copyRow (ct_X8_copyRow (by omega) (by omega) rfl rfl) rfl rfl (Nat.le_of_ble_eq_true rfl) ⟨(Nat.le_of_ble_eq_true rfl), (Nat.le_of_ble_eq_true rfl)⟩ ⟨rfl, rfl⟩ ⟨(Nat.le_of_ble_eq_true rfl), (Nat.le_of_ble_eq_true rfl)⟩ ?_
  refine x_aload_n dX3_become_66 rfl ?_
  refine x_getR dX3_become_67 fl_X3_30 (by omega) rfl rfl rfl ?_
  refine x_aload_n dX3_become_70 rfl ?_
  refine x_getR dX3_become_71 fl_X3_30 (by omega) rfl rfl rfl ?_
  refine x_callNv dX3_become_74 nn_X3_53 mt_X8_copyRow st_X8_copyRow (ct_X8_copyRow (by omega) (by omega) rfl rfl) rfl rfl (Nat.le_of_ble_eq_true rfl) ⟨(Nat.le_of_ble_eq_true rfl), (Nat.le_of_ble_eq_true rfl)⟩ ⟨rfl, rfl⟩ ⟨(Nat.le_of_ble_eq_true rfl), (Nat.le_of_ble_eq_true rfl)⟩ ?_
  refine x_pc (pc2 := 77) rfl ?_
  refine x_aload_n dX3_become_77 rfl ?_
  refine x_getR dX3_become_78 fl_X3_33 (by omega) rfl rfl rfl ?_
  refine x_aload_n dX3_become_81 rfl ?_
  refine x_getR dX3_become_82 fl_X3_33 (by omega) rfl rfl rfl ?_
  refine x_callNv dX3_become_85 nn_X3_53 mt_X8_copyRow st_X8_copyRow (ct_X8_copyRow (by omega) (by omega) rfl rfl) rfl rfl (Nat.le_of_ble_eq_true rfl) ⟨(Nat.le_of_ble_eq_true rfl), (Nat.le_of_ble_eq_true rfl)⟩ ⟨rfl, rfl⟩ ⟨(Nat.le_of_ble_eq_true rfl), (Nat.le_of_ble_eq_true rfl)⟩ ?_
  refine x_aload_n dX3_become_88 rfl ?_
  refine x_pc (pc2 := 89) rfl ?_
  refine x_getR dX3_become_89 fl_X3_36 (by omega) rfl rfl rfl ?_
  refine x_aload_n dX3_become_92 rfl ?_
  refine x_getR dX3_become_93 fl_X3_36 (by omega) rfl rfl rfl ?_
  refine x_callNv dX3_become_96 nn_X3_53 mt_X8_copyRow st_X8_copyRow (ct_X8_copyRow (by omega) (by omega) rfl rfl) rfl rfl (Nat.le_of_ble_eq_true rfl) ⟨(Nat.le_of_ble_eq_true rfl), (Nat.le_of_ble_eq_true rfl)⟩ ⟨rfl, rfl⟩ ⟨(Nat.le_of_ble_eq_true rfl), (Nat.le_of_ble_eq_true rfl)⟩ ?_
  refine x_iconst (v := 0) dX3_become_99 (by decide) ?_
  refine x_istore_n (lo2 := [_, _, _]) dX3_become_100 (by decide) rfl rfl ?_
  refine x_loop (inv := fun i => True) (fun i => [some (.ref (g.2.1 + 1)), some (.ref (g.2.1 + 15)), some (.int (nI i))]) (fun i => zrow (zrow (zrow (zrow (zrow (zrow (zrow (zrow (zrow (zrow I 2 (I 16)) 3 (I 17)) 4 (I 18)) 5 (I 19)) 6 (I 20)) 7 (I 21)) 8 (I 22)) 9 (I 23)) 10 (I 24)) 11 (zpre i (I 25) (I 11))) (fun i => L) 0 8 (by omega) (by trivial) (by rfl) (by rw [zpre_0]; funext a; by_cases e : a = 11 <;> simp [zrow, e]) (by rfl) (fun i hloi hhii hinvi Ki => ?_) (fun hinvi => ?_)
  · skip
    refine x_iload_n dX3_become_101 rfl ?_
    refine x_bipush (v := 8) dX3_become_102 (by decide) ?_
    refine x_icmp_ge (tgt := 125) dX3_become_104 (by decide) (fun h104 => ?_) (fun h104 => ?_)
    · skip
      exact absurd h104 (nI_ge (b := 8) hhii (by decide))
    · skip
      refine x_aload_n dX3_become_107 rfl ?_
      refine x_getR dX3_become_108 fl_X3_39 (by omega) rfl rfl rfl ?_
      refine x_iload_n dX3_become_111 rfl ?_
      refine x_aload_n dX3_become_112 rfl ?_
      refine x_getR dX3_become_113 fl_X3_39 (by omega) rfl rfl rfl ?_
      refine x_pc (pc2 := 116) rfl ?_
      refine x_iload_n dX3_become_116 rfl ?_
      refine x_zald dX3_become_117 (by omega) rfl rfl (by omega) ?_
      rw [show zrow (zrow (zrow (zrow (zrow (zrow (zrow (zrow (zrow (zrow I 2 (I 16)) 3 (I 17)) 4 (I 18)) 5 (I 19)) 6 (I 20)) 7 (I 21)) 8 (I 22)) 9 (I 23)) 10 (I 24)) 11 (zpre i (I 25) (I 11)) 25 i = I 25 i from by simp [zrow]]
      refine x_zast dX3_become_118 (by omega) rfl rfl (by omega) (hz _ hhii) ?_
      refine x_iincN (lo2 := [_, _, _]) dX3_become_119 rfl rfl rfl ?_
      refine x_goto (tgt := 101) dX3_become_122 (by decide) ?_
      exact x_eq (by rfl) (by rw [zu_zrow, ← zpre_s]) (by rfl) (Ki (by trivial))
  · skip
    refine x_iload_n dX3_become_101 rfl ?_
    refine x_bipush (v := 8) dX3_become_102 (by decide) ?_
    refine x_icmp_ge (tgt := 125) dX3_become_104 (by decide) (fun h104 => ?_) (fun h104 => ?_)
    · skip
      refine x_aload_n dX3_become_125 rfl ?_
      refine x_aload_n dX3_become_126 rfl ?_
      refine x_getI dX3_become_127 fl_X3_43 (by omega) rfl rfl ?_
      refine x_putI dX3_become_130 fp_X3_43 (by omega) rfl ?_
      refine x_aload_n dX3_become_133 rfl ?_
      refine x_pc (pc2 := 134) rfl ?_
      refine x_aload_n dX3_become_134 rfl ?_
      refine x_getI dX3_become_135 fl_X3_47 (by omega) rfl rfl ?_
      refine x_putI dX3_become_138 fp_X3_47 (by omega) rfl ?_
      refine x_aload_n dX3_become_141 rfl ?_
      refine x_aload_n dX3_become_142 rfl ?_
      refine x_getI dX3_become_143 fl_X3_50 (by omega) rfl rfl ?_
      refine x_pc (pc2 := 146) rfl ?_
      refine x_putI dX3_become_146 fp_X3_50 (by omega) rfl ?_
      refine x_sameV (I' := zbec I 1 15) (fun k _ j hv => ?_) ?_
      · by_cases h : 1 ≤ k ∧ k ≤ 11
        · obtain ⟨d, hd, rfl⟩ : ∃ d, d < 11 ∧ k = 1 + d := ⟨k - 1, by omega, by omega⟩
          rcases (show d = 0 ∨ d = 1 ∨ d = 2 ∨ d = 3 ∨ d = 4 ∨ d = 5 ∨ d = 6 ∨ d = 7 ∨ d = 8 ∨ d = 9 ∨ d = 10 by omega) with rfl | rfl | rfl | rfl | rfl | rfl | rfl | rfl | rfl | rfl | rfl
          · have hv : j < 13 ∧ zrf 3 j = false := hv
            have hj : j = 10 ∨ j = 11 ∨ j = 12 := by
              obtain ⟨h1, h2⟩ := hv
              rcases (show j = 0 ∨ j = 1 ∨ j = 2 ∨ j = 3 ∨ j = 4 ∨ j = 5 ∨ j = 6 ∨ j = 7 ∨ j = 8 ∨ j = 9 ∨ 10 ≤ j by omega) with rfl | rfl | rfl | rfl | rfl | rfl | rfl | rfl | rfl | rfl | h3
              all_goals first | (exact absurd h2 (by decide)) | omega
            rcases hj with rfl | rfl | rfl <;> simp [zbec, zu, zrow]
          all_goals first | (simp [zbec, zu, zrow]; done) | (have hv : j < 8 := hv; simp [zbec, zu, zrow, zpre, hv])
        · have e0 : k ≠ 1 := by omega
          have e1 : k ≠ 2 := by omega
          have e2 : k ≠ 3 := by omega
          have e3 : k ≠ 4 := by omega
          have e4 : k ≠ 5 := by omega
          have e5 : k ≠ 6 := by omega
          have e6 : k ≠ 7 := by omega
          have e7 : k ≠ 8 := by omega
          have e8 : k ≠ 9 := by omega
          have e9 : k ≠ 10 := by omega
          have e10 : k ≠ 11 := by omega
          simp [zbec, zu, zrow, h, e0, e1, e2, e3, e4, e5, e6, e7, e8, e9, e10]
      exact x_vret dX3_become_149 rfl (Nat.le_of_ble_eq_true rfl) (Nat.le_of_ble_eq_true rfl) ⟨rfl, rfl, by rfl, by rfl, rfl⟩
    · skip
      exact absurd (nI_le (b := 8) (Nat.le_refl 8) (by decide)) h104
theorem ct_X3_become_58_1 {g : zG} {N : Nat} {I : zI} {L : zL} {q0 q1 : Option Nat} (hN : 69 ≤ N) (hz : ∀ i, i < 8 → narrow .boolean (.int (I 11 i)) = .int (I 11 i)) : Ct g yX3_become mX3_become [.ref (g.2.1 + 58), .ref (g.2.1 + 1)] N I L (zRw q0 q1) (zD none N (zbec I 58 1) L (zRw q0 q1)) := by
  refine Ct_of (lo0 := [some (.ref (g.2.1 + 58)), some (.ref (g.2.1 + 1)), none]) rfl rfl rfl rfl (Nat.le_of_ble_eq_true rfl) (fun E => ?_)
  refine x_aload_n dX3_become_0 rfl ?_
  refine x_getR dX3_become_1 fl_X3_9 (by omega) rfl rfl rfl ?_
  refine x_aload_n dX3_become_4 rfl ?_
  refine x_getR dX3_become_5 fl_X3_9 (by omega) rfl rfl rfl ?_
  refine x_callNv dX3_become_8 nn_X3_53 mt_X8_copyRow st_X8_copyRow (ct_X8_copyRow (by omega) (by omega) rfl rfl) rfl rfl (Nat.le_of_ble_eq_true rfl) ⟨(Nat.le_of_ble_eq_true rfl), (Nat.le_of_ble_eq_true rfl)⟩ ⟨rfl, rfl⟩ ⟨(Nat.le_of_ble_eq_true rfl), (Nat.le_of_ble_eq_true rfl)⟩ ?_
  refine x_pc (pc2 := 11) rfl ?_
  refine x_aload_n dX3_become_11 rfl ?_
  refine x_getR dX3_become_12 fl_X3_15 (by omega) rfl rfl rfl ?_
  refine x_aload_n dX3_become_15 rfl ?_
  refine x_getR dX3_become_16 fl_X3_15 (by omega) rfl rfl rfl ?_
  refine x_callNv dX3_become_19 nn_X3_53 mt_X8_copyRow st_X8_copyRow (ct_X8_copyRow (by omega) (by omega) rfl rfl) rfl rfl (Nat.le_of_ble_eq_true rfl) ⟨(Nat.le_of_ble_eq_true rfl), (Nat.le_of_ble_eq_true rfl)⟩ ⟨rfl, rfl⟩ ⟨(Nat.le_of_ble_eq_true rfl), (Nat.le_of_ble_eq_true rfl)⟩ ?_
  refine x_aload_n dX3_become_22 rfl ?_
  refine x_pc (pc2 := 23) rfl ?_
  refine x_getR dX3_become_23 fl_X3_18 (by omega) rfl rfl rfl ?_
  refine x_aload_n dX3_become_26 rfl ?_
  refine x_getR dX3_become_27 fl_X3_18 (by omega) rfl rfl rfl ?_
  refine x_callNv dX3_become_30 nn_X3_53 mt_X8_copyRow st_X8_copyRow (ct_X8_copyRow (by omega) (by omega) rfl rfl) rfl rfl (Nat.le_of_ble_eq_true rfl) ⟨(Nat.le_of_ble_eq_true rfl), (Nat.le_of_ble_eq_true rfl)⟩ ⟨rfl, rfl⟩ ⟨(Nat.le_of_ble_eq_true rfl), (Nat.le_of_ble_eq_true rfl)⟩ ?_
  refine x_aload_n dX3_become_33 rfl ?_
  refine x_getR dX3_become_34 fl_X3_21 (by omega) rfl rfl rfl ?_
  refine x_pc (pc2 := 37) rfl ?_
  refine x_aload_n dX3_become_37 rfl ?_
  refine x_getR dX3_become_38 fl_X3_21 (by omega) rfl rfl rfl ?_
  refine x_callNv dX3_become_41 nn_X3_53 mt_X8_copyRow st_X8_copyRow (ct_X8_copyRow (by omega) (by omega) rfl rfl) rfl rfl (Nat.le_of_ble_eq_true rfl) ⟨(Nat.le_of_ble_eq_true rfl), (Nat.le_of_ble_eq_true rfl)⟩ ⟨rfl, rfl⟩ ⟨(Nat.le_of_ble_eq_true rfl), (Nat.le_of_ble_eq_true rfl)⟩ ?_
  refine x_aload_n dX3_become_44 rfl ?_
  refine x_getR dX3_become_45 fl_X3_24 (by omega) rfl rfl rfl ?_
  refine x_aload_n dX3_become_48 rfl ?_
  refine x_pc (pc2 := 49) rfl ?_
  refine x_getR dX3_become_49 fl_X3_24 (by omega) rfl rfl rfl ?_
  refine x_callNv dX3_become_52 nn_X3_53 mt_X8_copyRow st_X8_copyRow (ct_X8_copyRow (by omega) (by omega) rfl rfl) rfl rfl (Nat.le_of_ble_eq_true rfl) ⟨(Nat.le_of_ble_eq_true rfl), (Nat.le_of_ble_eq_true rfl)⟩ ⟨rfl, rfl⟩ ⟨(Nat.le_of_ble_eq_true rfl), (Nat.le_of_ble_eq_true rfl)⟩ ?_
  refine x_aload_n dX3_become_55 rfl ?_
  refine x_getR dX3_become_56 fl_X3_27 (by omega) rfl rfl rfl ?_
  refine x_aload_n dX3_become_59 rfl ?_
  refine x_getR dX3_become_60 fl_X3_27 (by omega) rfl rfl rfl ?_
  refine x_pc (pc2 := 63) rfl ?_
  refine x_callNv dX3_become_63 nn_X3_53 mt_X8_copyRow st_X8_copyRow (ct_X8_copyRow (by omega) (by omega) rfl rfl) rfl rfl (Nat.le_of_ble_eq_true rfl) ⟨(Nat.le_of_ble_eq_true rfl), (Nat.le_of_ble_eq_true rfl)⟩ ⟨rfl, rfl⟩ ⟨(Nat.le_of_ble_eq_true rfl), (Nat.le_of_ble_eq_true rfl)⟩ ?_
  refine x_aload_n dX3_become_66 rfl ?_
  refine x_getR dX3_become_67 fl_X3_30 (by omega) rfl rfl rfl ?_
  refine x_aload_n dX3_become_70 rfl ?_
  refine x_getR dX3_become_71 fl_X3_30 (by omega) rfl rfl rfl ?_
  refine x_callNv dX3_become_74 nn_X3_53 mt_X8_copyRow st_X8_copyRow (ct_X8_copyRow (by omega) (by omega) rfl rfl) rfl rfl (Nat.le_of_ble_eq_true rfl) ⟨(Nat.le_of_ble_eq_true rfl), (Nat.le_of_ble_eq_true rfl)⟩ ⟨rfl, rfl⟩ ⟨(Nat.le_of_ble_eq_true rfl), (Nat.le_of_ble_eq_true rfl)⟩ ?_
  refine x_pc (pc2 := 77) rfl ?_
  refine x_aload_n dX3_become_77 rfl ?_
  refine x_getR dX3_become_78 fl_X3_33 (by omega) rfl rfl rfl ?_
  refine x_aload_n dX3_become_81 rfl ?_
  refine x_getR dX3_become_82 fl_X3_33 (by omega) rfl rfl rfl ?_
  refine x_callNv dX3_become_85 nn_X3_53 mt_X8_copyRow st_X8_copyRow (ct_X8_copyRow (by omega) (by omega) rfl rfl) rfl rfl (Nat.le_of_ble_eq_true rfl) ⟨(Nat.le_of_ble_eq_true rfl), (Nat.le_of_ble_eq_true rfl)⟩ ⟨rfl, rfl⟩ ⟨(Nat.le_of_ble_eq_true rfl), (Nat.le_of_ble_eq_true rfl)⟩ ?_
  refine x_aload_n dX3_become_88 rfl ?_
  refine x_pc (pc2 := 89) rfl ?_
  refine x_getR dX3_become_89 fl_X3_36 (by omega) rfl rfl rfl ?_
  refine x_aload_n dX3_become_92 rfl ?_
  refine x_getR dX3_become_93 fl_X3_36 (by omega) rfl rfl rfl ?_
  refine x_callNv dX3_become_96 nn_X3_53 mt_X8_copyRow st_X8_copyRow (ct_X8_copyRow (by omega) (by omega) rfl rfl) rfl rfl (Nat.le_of_ble_eq_true rfl) ⟨(Nat.le_of_ble_eq_true rfl), (Nat.le_of_ble_eq_true rfl)⟩ ⟨rfl, rfl⟩ ⟨(Nat.le_of_ble_eq_true rfl), (Nat.le_of_ble_eq_true rfl)⟩ ?_
  refine x_iconst (v := 0) dX3_become_99 (by decide) ?_
  refine x_istore_n (lo2 := [_, _, _]) dX3_become_100 (by decide) rfl rfl ?_
  refine x_loop (inv := fun i => True) (fun i => [some (.ref (g.2.1 + 58)), some (.ref (g.2.1 + 1)), some (.int (nI i))]) (fun i => zrow (zrow (zrow (zrow (zrow (zrow (zrow (zrow (zrow (zrow I 59 (I 2)) 60 (I 3)) 61 (I 4)) 62 (I 5)) 63 (I 6)) 64 (I 7)) 65 (I 8)) 66 (I 9)) 67 (I 10)) 68 (zpre i (I 11) (I 68))) (fun i => L) 0 8 (by omega) (by trivial) (by rfl) (by rw [zpre_0]; funext a; by_cases e : a = 68 <;> simp [zrow, e]) (by rfl) (fun i hloi hhii hinvi Ki => ?_) (fun hinvi => ?_)
  · skip
    refine x_iload_n dX3_become_101 rfl ?_
    refine x_bipush (v := 8) dX3_become_102 (by decide) ?_
    refine x_icmp_ge (tgt := 125) dX3_become_104 (by decide) (fun h104 => ?_) (fun h104 => ?_)
    · skip
      exact absurd h104 (nI_ge (b := 8) hhii (by decide))
    · skip
      refine x_aload_n dX3_become_107 rfl ?_
      refine x_getR dX3_become_108 fl_X3_39 (by omega) rfl rfl rfl ?_
      refine x_iload_n dX3_become_111 rfl ?_
      refine x_aload_n dX3_become_112 rfl ?_
      refine x_getR dX3_become_113 fl_X3_39 (by omega) rfl rfl rfl ?_
      refine x_pc (pc2 := 116) rfl ?_
      refine x_iload_n dX3_become_116 rfl ?_
      refine x_zald dX3_become_117 (by omega) rfl rfl (by omega) ?_
      rw [show zrow (zrow (zrow (zrow (zrow (zrow (zrow (zrow (zrow (zrow I 59 (I 2)) 60 (I 3)) 61 (I 4)) 62 (I 5)) 63 (I 6)) 64 (I 7)) 65 (I 8)) 66 (I 9)) 67 (I 10)) 68 (zpre i (I 11) (I 68)) 11 i = I 11 i from by simp [zrow]]
      refine x_zast dX3_become_118 (by omega) rfl rfl (by omega) (hz _ hhii) ?_
      refine x_iincN (lo2 := [_, _, _]) dX3_become_119 rfl rfl rfl ?_
      refine x_goto (tgt := 101) dX3_become_122 (by decide) ?_
      exact x_eq (by rfl) (by rw [zu_zrow, ← zpre_s]) (by rfl) (Ki (by trivial))
  · skip
    refine x_iload_n dX3_become_101 rfl ?_
    refine x_bipush (v := 8) dX3_become_102 (by decide) ?_
    refine x_icmp_ge (tgt := 125) dX3_become_104 (by decide) (fun h104 => ?_) (fun h104 => ?_)
    · skip
      refine x_aload_n dX3_become_125 rfl ?_
      refine x_aload_n dX3_become_126 rfl ?_
      refine x_getI dX3_become_127 fl_X3_43 (by omega) rfl rfl ?_
      refine x_putI dX3_become_130 fp_X3_43 (by omega) rfl ?_
      refine x_aload_n dX3_become_133 rfl ?_
      refine x_pc (pc2 := 134) rfl ?_
      refine x_aload_n dX3_become_134 rfl ?_
      refine x_getI dX3_become_135 fl_X3_47 (by omega) rfl rfl ?_
      refine x_putI dX3_become_138 fp_X3_47 (by omega) rfl ?_
      refine x_aload_n dX3_become_141 rfl ?_
      refine x_aload_n dX3_become_142 rfl ?_
      refine x_getI dX3_become_143 fl_X3_50 (by omega) rfl rfl ?_
      refine x_pc (pc2 := 146) rfl ?_
      refine x_putI dX3_become_146 fp_X3_50 (by omega) rfl ?_
      refine x_sameV (I' := zbec I 58 1) (fun k _ j hv => ?_) ?_
      · by_cases h : 58 ≤ k ∧ k ≤ 68
        · obtain ⟨d, hd, rfl⟩ : ∃ d, d < 11 ∧ k = 58 + d := ⟨k - 58, by omega, by omega⟩
          rcases (show d = 0 ∨ d = 1 ∨ d = 2 ∨ d = 3 ∨ d = 4 ∨ d = 5 ∨ d = 6 ∨ d = 7 ∨ d = 8 ∨ d = 9 ∨ d = 10 by omega) with rfl | rfl | rfl | rfl | rfl | rfl | rfl | rfl | rfl | rfl | rfl
          · have hv : j < 13 ∧ zrf 3 j = false := hv
            have hj : j = 10 ∨ j = 11 ∨ j = 12 := by
              obtain ⟨h1, h2⟩ := hv
              rcases (show j = 0 ∨ j = 1 ∨ j = 2 ∨ j = 3 ∨ j = 4 ∨ j = 5 ∨ j = 6 ∨ j = 7 ∨ j = 8 ∨ j = 9 ∨ 10 ≤ j by omega) with rfl | rfl | rfl | rfl | rfl | rfl | rfl | rfl | rfl | rfl | h3
              all_goals first | (exact absurd h2 (by decide)) | omega
            rcases hj with rfl | rfl | rfl <;> simp [zbec, zu, zrow]
          all_goals first | (simp [zbec, zu, zrow]; done) | (have hv : j < 8 := hv; simp [zbec, zu, zrow, zpre, hv])
        · have e0 : k ≠ 58 := by omega
          have e1 : k ≠ 59 := by omega
          have e2 : k ≠ 60 := by omega
          have e3 : k ≠ 61 := by omega
          have e4 : k ≠ 62 := by omega
          have e5 : k ≠ 63 := by omega
          have e6 : k ≠ 64 := by omega
          have e7 : k ≠ 65 := by omega
          have e8 : k ≠ 66 := by omega
          have e9 : k ≠ 67 := by omega
          have e10 : k ≠ 68 := by omega
          simp [zbec, zu, zrow, h, e0, e1, e2, e3, e4, e5, e6, e7, e8, e9, e10]
      exact x_vret dX3_become_149 rfl (Nat.le_of_ble_eq_true rfl) (Nat.le_of_ble_eq_true rfl) ⟨rfl, rfl, by rfl, by rfl, rfl⟩
    · skip
      exact absurd (nI_le (b := 8) (Nat.le_refl 8) (by decide)) h104
theorem ct_X3_become_69_1 {g : zG} {N : Nat} {I : zI} {L : zL} {q0 q1 : Option Nat} (hN : 80 ≤ N) (hz : ∀ i, i < 8 → narrow .boolean (.int (I 11 i)) = .int (I 11 i)) : Ct g yX3_become mX3_become [.ref (g.2.1 + 69), .ref (g.2.1 + 1)] N I L (zRw q0 q1) (zD none N (zbec I 69 1) L (zRw q0 q1)) := by
  refine Ct_of (lo0 := [some (.ref (g.2.1 + 69)), some (.ref (g.2.1 + 1)), none]) rfl rfl rfl rfl (Nat.le_of_ble_eq_true rfl) (fun E => ?_)
  refine x_aload_n dX3_become_0 rfl ?_
  refine x_getR dX3_become_1 fl_X3_9 (by omega) rfl rfl rfl ?_
  refine x_aload_n dX3_become_4 rfl ?_
  refine x_getR dX3_become_5 fl_X3_9 (by omega) rfl rfl rfl ?_
  refine x_callNv dX3_become_8 nn_X3_53 mt_X8_copyRow st_X8_copyRow (ct_X8_copyRow (by omega) (by omega) rfl rfl) rfl rfl (Nat.le_of_ble_eq_true rfl) ⟨(Nat.le_of_ble_eq_true rfl), (Nat.le_of_ble_eq_true rfl)⟩ ⟨rfl, rfl⟩ ⟨(Nat.le_of_ble_eq_true rfl), (Nat.le_of_ble_eq_true rfl)⟩ ?_
  refine x_pc (pc2 := 11) rfl ?_
  refine x_aload_n dX3_become_11 rfl ?_
  refine x_getR dX3_become_12 fl_X3_15 (by omega) rfl rfl rfl ?_
  refine x_aload_n dX3_become_15 rfl ?_
  refine x_getR dX3_become_16 fl_X3_15 (by omega) rfl rfl rfl ?_
  refine x_callNv dX3_become_19 nn_X3_53 mt_X8_copyRow st_X8_copyRow (ct_X8_copyRow (by omega) (by omega) rfl rfl) rfl rfl (Nat.le_of_ble_eq_true rfl) ⟨(Nat.le_of_ble_eq_true rfl), (Nat.le_of_ble_eq_true rfl)⟩ ⟨rfl, rfl⟩ ⟨(Nat.le_of_ble_eq_true rfl), (Nat.le_of_ble_eq_true rfl)⟩ ?_
  refine x_aload_n dX3_become_22 rfl ?_
  refine x_pc (pc2 := 23) rfl ?_
  refine x_getR dX3_become_23 fl_X3_18 (by omega) rfl rfl rfl ?_
  refine x_aload_n dX3_become_26 rfl ?_
  refine x_getR dX3_become_27 fl_X3_18 (by omega) rfl rfl rfl ?_
  refine x_callNv dX3_become_30 nn_X3_53 mt_X8_copyRow st_X8_copyRow (ct_X8_copyRow (by omega) (by omega) rfl rfl) rfl rfl (Nat.le_of_ble_eq_true rfl) ⟨(Nat.le_of_ble_eq_true rfl), (Nat.le_of_ble_eq_true rfl)⟩ ⟨rfl, rfl⟩ ⟨(Nat.le_of_ble_eq_true rfl), (Nat.le_of_ble_eq_true rfl)⟩ ?_
  refine x_aload_n dX3_become_33 rfl ?_
  refine x_getR dX3_become_34 fl_X3_21 (by omega) rfl rfl rfl ?_
  refine x_pc (pc2 := 37) rfl ?_
  refine x_aload_n dX3_become_37 rfl ?_
  refine x_getR dX3_become_38 fl_X3_21 (by omega) rfl rfl rfl ?_
  refine x_callNv dX3_become_41 nn_X3_53 mt_X8_copyRow st_X8_copyRow (ct_X8_copyRow (by omega) (by omega) rfl rfl) rfl rfl (Nat.le_of_ble_eq_true rfl) ⟨(Nat.le_of_ble_eq_true rfl), (Nat.le_of_ble_eq_true rfl)⟩ ⟨rfl, rfl⟩ ⟨(Nat.le_of_ble_eq_true rfl), (Nat.le_of_ble_eq_true rfl)⟩ ?_
  refine x_aload_n dX3_become_44 rfl ?_
  refine x_getR dX3_become_45 fl_X3_24 (by omega) rfl rfl rfl ?_
  refine x_aload_n dX3_become_48 rfl ?_
  refine x_pc (pc2 := 49) rfl ?_
  refine x_getR dX3_become_49 fl_X3_24 (by omega) rfl rfl rfl ?_
  refine x_callNv dX3_become_52 nn_X3_53 mt_X8_copyRow st_X8_copyRow (ct_X8_copyRow (by omega) (by omega) rfl rfl) rfl rfl (Nat.le_of_ble_eq_true rfl) ⟨(Nat.le_of_ble_eq_true rfl), (Nat.le_of_ble_eq_true rfl)⟩ ⟨rfl, rfl⟩ ⟨(Nat.le_of_ble_eq_true rfl), (Nat.le_of_ble_eq_true rfl)⟩ ?_
  refine x_aload_n dX3_become_55 rfl ?_
  refine x_getR dX3_become_56 fl_X3_27 (by omega) rfl rfl rfl ?_
  refine x_aload_n dX3_become_59 rfl ?_
  refine x_getR dX3_become_60 fl_X3_27 (by omega) rfl rfl rfl ?_
  refine x_pc (pc2 := 63) rfl ?_
  refine x_callNv dX3_become_63 nn_X3_53 mt_X8_copyRow st_X8_copyRow (ct_X8_copyRow (by omega) (by omega) rfl rfl) rfl rfl (Nat.le_of_ble_eq_true rfl) ⟨(Nat.le_of_ble_eq_true rfl), (Nat.le_of_ble_eq_true rfl)⟩ ⟨rfl, rfl⟩ ⟨(Nat.le_of_ble_eq_true rfl), (Nat.le_of_ble_eq_true rfl)⟩ ?_
  refine x_aload_n dX3_become_66 rfl ?_
  refine x_getR dX3_become_67 fl_X3_30 (by omega) rfl rfl rfl ?_
  refine x_aload_n dX3_become_70 rfl ?_
  refine x_getR dX3_become_71 fl_X3_30 (by omega) rfl rfl rfl ?_
  refine x_callNv dX3_become_74 nn_X3_53 mt_X8_copyRow st_X8_copyRow (ct_X8_copyRow (by omega) (by omega) rfl rfl) rfl rfl (Nat.le_of_ble_eq_true rfl) ⟨(Nat.le_of_ble_eq_true rfl), (Nat.le_of_ble_eq_true rfl)⟩ ⟨rfl, rfl⟩ ⟨(Nat.le_of_ble_eq_true rfl), (Nat.le_of_ble_eq_true rfl)⟩ ?_
  refine x_pc (pc2 := 77) rfl ?_
  refine x_aload_n dX3_become_77 rfl ?_
  refine x_getR dX3_become_78 fl_X3_33 (by omega) rfl rfl rfl ?_
  refine x_aload_n dX3_become_81 rfl ?_
  refine x_getR dX3_become_82 fl_X3_33 (by omega) rfl rfl rfl ?_
  refine x_callNv dX3_become_85 nn_X3_53 mt_X8_copyRow st_X8_copyRow (ct_X8_copyRow (by omega) (by omega) rfl rfl) rfl rfl (Nat.le_of_ble_eq_true rfl) ⟨(Nat.le_of_ble_eq_true rfl), (Nat.le_of_ble_eq_true rfl)⟩ ⟨rfl, rfl⟩ ⟨(Nat.le_of_ble_eq_true rfl), (Nat.le_of_ble_eq_true rfl)⟩ ?_
  refine x_aload_n dX3_become_88 rfl ?_
  refine x_pc (pc2 := 89) rfl ?_
  refine x_getR dX3_become_89 fl_X3_36 (by omega) rfl rfl rfl ?_
  refine x_aload_n dX3_become_92 rfl ?_
  refine x_getR dX3_become_93 fl_X3_36 (by omega) rfl rfl rfl ?_
  refine x_callNv dX3_become_96 nn_X3_53 mt_X8_copyRow st_X8_copyRow (ct_X8_copyRow (by omega) (by omega) rfl rfl) rfl rfl (Nat.le_of_ble_eq_true rfl) ⟨(Nat.le_of_ble_eq_true rfl), (Nat.le_of_ble_eq_true rfl)⟩ ⟨rfl, rfl⟩ ⟨(Nat.le_of_ble_eq_true rfl), (Nat.le_of_ble_eq_true rfl)⟩ ?_
  refine x_iconst (v := 0) dX3_become_99 (by decide) ?_
  refine x_istore_n (lo2 := [_, _, _]) dX3_become_100 (by decide) rfl rfl ?_
  refine x_loop (inv := fun i => True) (fun i => [some (.ref (g.2.1 + 69)), some (.ref (g.2.1 + 1)), some (.int (nI i))]) (fun i => zrow (zrow (zrow (zrow (zrow (zrow (zrow (zrow (zrow (zrow I 70 (I 2)) 71 (I 3)) 72 (I 4)) 73 (I 5)) 74 (I 6)) 75 (I 7)) 76 (I 8)) 77 (I 9)) 78 (I 10)) 79 (zpre i (I 11) (I 79))) (fun i => L) 0 8 (by omega) (by trivial) (by rfl) (by rw [zpre_0]; funext a; by_cases e : a = 79 <;> simp [zrow, e]) (by rfl) (fun i hloi hhii hinvi Ki => ?_) (fun hinvi => ?_)
  · skip
    refine x_iload_n dX3_become_101 rfl ?_
    refine x_bipush (v := 8) dX3_become_102 (by decide) ?_
    refine x_icmp_ge (tgt := 125) dX3_become_104 (by decide) (fun h104 => ?_) (fun h104 => ?_)
    · skip
      exact absurd h104 (nI_ge (b := 8) hhii (by decide))
    · skip
      refine x_aload_n dX3_become_107 rfl ?_
      refine x_getR dX3_become_108 fl_X3_39 (by omega) rfl rfl rfl ?_
      refine x_iload_n dX3_become_111 rfl ?_
      refine x_aload_n dX3_become_112 rfl ?_
      refine x_getR dX3_become_113 fl_X3_39 (by omega) rfl rfl rfl ?_
      refine x_pc (pc2 := 116) rfl ?_
      refine x_iload_n dX3_become_116 rfl ?_
      refine x_zald dX3_become_117 (by omega) rfl rfl (by omega) ?_
      rw [show zrow (zrow (zrow (zrow (zrow (zrow (zrow (zrow (zrow (zrow I 70 (I 2)) 71 (I 3)) 72 (I 4)) 73 (I 5)) 74 (I 6)) 75 (I 7)) 76 (I 8)) 77 (I 9)) 78 (I 10)) 79 (zpre i (I 11) (I 79)) 11 i = I 11 i from by simp [zrow]]
      refine x_zast dX3_become_118 (by omega) rfl rfl (by omega) (hz _ hhii) ?_
      refine x_iincN (lo2 := [_, _, _]) dX3_become_119 rfl rfl rfl ?_
      refine x_goto (tgt := 101) dX3_become_122 (by decide) ?_
      exact x_eq (by rfl) (by rw [zu_zrow, ← zpre_s]) (by rfl) (Ki (by trivial))
  · skip
    refine x_iload_n dX3_become_101 rfl ?_
    refine x_bipush (v := 8) dX3_become_102 (by decide) ?_
    refine x_icmp_ge (tgt := 125) dX3_become_104 (by decide) (fun h104 => ?_) (fun h104 => ?_)
    · skip
      refine x_aload_n dX3_become_125 rfl ?_
      refine x_aload_n dX3_become_126 rfl ?_
      refine x_getI dX3_become_127 fl_X3_43 (by omega) rfl rfl ?_
      refine x_putI dX3_become_130 fp_X3_43 (by omega) rfl ?_
      refine x_aload_n dX3_become_133 rfl ?_
      refine x_pc (pc2 := 134) rfl ?_
      refine x_aload_n dX3_become_134 rfl ?_
      refine x_getI dX3_become_135 fl_X3_47 (by omega) rfl rfl ?_
      refine x_putI dX3_become_138 fp_X3_47 (by omega) rfl ?_
      refine x_aload_n dX3_become_141 rfl ?_
      refine x_aload_n dX3_become_142 rfl ?_
      refine x_getI dX3_become_143 fl_X3_50 (by omega) rfl rfl ?_
      refine x_pc (pc2 := 146) rfl ?_
      refine x_putI dX3_become_146 fp_X3_50 (by omega) rfl ?_
      refine x_sameV (I' := zbec I 69 1) (fun k _ j hv => ?_) ?_
      · by_cases h : 69 ≤ k ∧ k ≤ 79
        · obtain ⟨d, hd, rfl⟩ : ∃ d, d < 11 ∧ k = 69 + d := ⟨k - 69, by omega, by omega⟩
          rcases (show d = 0 ∨ d = 1 ∨ d = 2 ∨ d = 3 ∨ d = 4 ∨ d = 5 ∨ d = 6 ∨ d = 7 ∨ d = 8 ∨ d = 9 ∨ d = 10 by omega) with rfl | rfl | rfl | rfl | rfl | rfl | rfl | rfl | rfl | rfl | rfl
          · have hv : j < 13 ∧ zrf 3 j = false := hv
            have hj : j = 10 ∨ j = 11 ∨ j = 12 := by
              obtain ⟨h1, h2⟩ := hv
              rcases (show j = 0 ∨ j = 1 ∨ j = 2 ∨ j = 3 ∨ j = 4 ∨ j = 5 ∨ j = 6 ∨ j = 7 ∨ j = 8 ∨ j = 9 ∨ 10 ≤ j by omega) with rfl | rfl | rfl | rfl | rfl | rfl | rfl | rfl | rfl | rfl | h3
              all_goals first | (exact absurd h2 (by decide)) | omega
            rcases hj with rfl | rfl | rfl <;> simp [zbec, zu, zrow]
          all_goals first | (simp [zbec, zu, zrow]; done) | (have hv : j < 8 := hv; simp [zbec, zu, zrow, zpre, hv])
        · have e0 : k ≠ 69 := by omega
          have e1 : k ≠ 70 := by omega
          have e2 : k ≠ 71 := by omega
          have e3 : k ≠ 72 := by omega
          have e4 : k ≠ 73 := by omega
          have e5 : k ≠ 74 := by omega
          have e6 : k ≠ 75 := by omega
          have e7 : k ≠ 76 := by omega
          have e8 : k ≠ 77 := by omega
          have e9 : k ≠ 78 := by omega
          have e10 : k ≠ 79 := by omega
          simp [zbec, zu, zrow, h, e0, e1, e2, e3, e4, e5, e6, e7, e8, e9, e10]
      exact x_vret dX3_become_149 rfl (Nat.le_of_ble_eq_true rfl) (Nat.le_of_ble_eq_true rfl) ⟨rfl, rfl, by rfl, by rfl, rfl⟩
    · skip
      exact absurd (nI_le (b := 8) (Nat.le_refl 8) (by decide)) h104
theorem ct_X3_become_1_58 {g : zG} {N : Nat} {I : zI} {L : zL} {q0 q1 : Option Nat} (hN : 69 ≤ N) (hz : ∀ i, i < 8 → narrow .boolean (.int (I 68 i)) = .int (I 68 i)) : Ct g yX3_become mX3_become [.ref (g.2.1 + 1), .ref (g.2.1 + 58)] N I L (zRw q0 q1) (zD none N (zbec I 1 58) L (zRw q0 q1)) := by
  refine Ct_of (lo0 := [some (.ref (g.2.1 + 1)), some (.ref (g.2.1 + 58)), none]) rfl rfl rfl rfl (Nat.le_of_ble_eq_true rfl) (fun E => ?_)
  refine x_aload_n dX3_become_0 rfl ?_
  refine x_getR dX3_become_1 fl_X3_9 (by omega) rfl rfl rfl ?_
  refine x_aload_n dX3_become_4 rfl ?_
  refine x_getR dX3_become_5 fl_X3_9 (by omega) rfl rfl rfl ?_
  refine x_callNv dX3_become_8 nn_X3_53 mt_X8_copyRow st_X8_copyRow (ct_X8_copyRow (by omega) (by omega) rfl rfl) rfl rfl (Nat.le_of_ble_eq_true rfl) ⟨(Nat.le_of_ble_eq_true rfl), (Nat.le_of_ble_eq_true rfl)⟩ ⟨rfl, rfl⟩ ⟨(Nat.le_of_ble_eq_true rfl), (Nat.le_of_ble_eq_true rfl)⟩ ?_
  refine x_pc (pc2 := 11) rfl ?_
  refine x_aload_n dX3_become_11 rfl ?_
  refine x_getR dX3_become_12 fl_X3_15 (by omega) rfl rfl rfl ?_
  refine x_aload_n dX3_become_15 rfl ?_
  refine x_getR dX3_become_16 fl_X3_15 (by omega) rfl rfl rfl ?_
  refine x_callNv dX3_become_19 nn_X3_53 mt_X8_copyRow st_X8_copyRow (ct_X8_copyRow (by omega) (by omega) rfl rfl) rfl rfl (Nat.le_of_ble_eq_true rfl) ⟨(Nat.le_of_ble_eq_true rfl), (Nat.le_of_ble_eq_true rfl)⟩ ⟨rfl, rfl⟩ ⟨(Nat.le_of_ble_eq_true rfl), (Nat.le_of_ble_eq_true rfl)⟩ ?_
  refine x_aload_n dX3_become_22 rfl ?_
  refine x_pc (pc2 := 23) rfl ?_
  refine x_getR dX3_become_23 fl_X3_18 (by omega) rfl rfl rfl ?_
  refine x_aload_n dX3_become_26 rfl ?_
  refine x_getR dX3_become_27 fl_X3_18 (by omega) rfl rfl rfl ?_
  refine x_callNv dX3_become_30 nn_X3_53 mt_X8_copyRow st_X8_copyRow (ct_X8_copyRow (by omega) (by omega) rfl rfl) rfl rfl (Nat.le_of_ble_eq_true rfl) ⟨(Nat.le_of_ble_eq_true rfl), (Nat.le_of_ble_eq_true rfl)⟩ ⟨rfl, rfl⟩ ⟨(Nat.le_of_ble_eq_true rfl), (Nat.le_of_ble_eq_true rfl)⟩ ?_
  refine x_aload_n dX3_become_33 rfl ?_
  refine x_getR dX3_become_34 fl_X3_21 (by omega) rfl rfl rfl ?_
  refine x_pc (pc2 := 37) rfl ?_
  refine x_aload_n dX3_become_37 rfl ?_
  refine x_getR dX3_become_38 fl_X3_21 (by omega) rfl rfl rfl ?_
  refine x_callNv dX3_become_41 nn_X3_53 mt_X8_copyRow st_X8_copyRow (ct_X8_copyRow (by omega) (by omega) rfl rfl) rfl rfl (Nat.le_of_ble_eq_true rfl) ⟨(Nat.le_of_ble_eq_true rfl), (Nat.le_of_ble_eq_true rfl)⟩ ⟨rfl, rfl⟩ ⟨(Nat.le_of_ble_eq_true rfl), (Nat.le_of_ble_eq_true rfl)⟩ ?_
  refine x_aload_n dX3_become_44 rfl ?_
  refine x_getR dX3_become_45 fl_X3_24 (by omega) rfl rfl rfl ?_
  refine x_aload_n dX3_become_48 rfl ?_
  refine x_pc (pc2 := 49) rfl ?_
  refine x_getR dX3_become_49 fl_X3_24 (by omega) rfl rfl rfl ?_
  refine x_callNv dX3_become_52 nn_X3_53 mt_X8_copyRow st_X8_copyRow (ct_X8_copyRow (by omega) (by omega) rfl rfl) rfl rfl (Nat.le_of_ble_eq_true rfl) ⟨(Nat.le_of_ble_eq_true rfl), (Nat.le_of_ble_eq_true rfl)⟩ ⟨rfl, rfl⟩ ⟨(Nat.le_of_ble_eq_true rfl), (Nat.le_of_ble_eq_true rfl)⟩ ?_
  refine x_aload_n dX3_become_55 rfl ?_
  refine x_getR dX3_become_56 fl_X3_27 (by omega) rfl rfl rfl ?_
  refine x_aload_n dX3_become_59 rfl ?_
  refine x_getR dX3_become_60 fl_X3_27 (by omega) rfl rfl rfl ?_
  refine x_pc (pc2 := 63) rfl ?_
  refine x_callNv dX3_become_63 nn_X3_53 mt_X8_copyRow st_X8_copyRow (ct_X8_copyRow (by omega) (by omega) rfl rfl) rfl rfl (Nat.le_of_ble_eq_true rfl) ⟨(Nat.le_of_ble_eq_true rfl), (Nat.le_of_ble_eq_true rfl)⟩ ⟨rfl, rfl⟩ ⟨(Nat.le_of_ble_eq_true rfl), (Nat.le_of_ble_eq_true rfl)⟩ ?_
  refine x_aload_n dX3_become_66 rfl ?_
  refine x_getR dX3_become_67 fl_X3_30 (by omega) rfl rfl rfl ?_
  refine x_aload_n dX3_become_70 rfl ?_
  refine x_getR dX3_become_71 fl_X3_30 (by omega) rfl rfl rfl ?_
  refine x_callNv dX3_become_74 nn_X3_53 mt_X8_copyRow st_X8_copyRow (ct_X8_copyRow (by omega) (by omega) rfl rfl) rfl rfl (Nat.le_of_ble_eq_true rfl) ⟨(Nat.le_of_ble_eq_true rfl), (Nat.le_of_ble_eq_true rfl)⟩ ⟨rfl, rfl⟩ ⟨(Nat.le_of_ble_eq_true rfl), (Nat.le_of_ble_eq_true rfl)⟩ ?_
  refine x_pc (pc2 := 77) rfl ?_
  refine x_aload_n dX3_become_77 rfl ?_
  refine x_getR dX3_become_78 fl_X3_33 (by omega) rfl rfl rfl ?_
  refine x_aload_n dX3_become_81 rfl ?_
  refine x_getR dX3_become_82 fl_X3_33 (by omega) rfl rfl rfl ?_
  refine x_callNv dX3_become_85 nn_X3_53 mt_X8_copyRow st_X8_copyRow (ct_X8_copyRow (by omega) (by omega) rfl rfl) rfl rfl (Nat.le_of_ble_eq_true rfl) ⟨(Nat.le_of_ble_eq_true rfl), (Nat.le_of_ble_eq_true rfl)⟩ ⟨rfl, rfl⟩ ⟨(Nat.le_of_ble_eq_true rfl), (Nat.le_of_ble_eq_true rfl)⟩ ?_
  refine x_aload_n dX3_become_88 rfl ?_
  refine x_pc (pc2 := 89) rfl ?_
  refine x_getR dX3_become_89 fl_X3_36 (by omega) rfl rfl rfl ?_
  refine x_aload_n dX3_become_92 rfl ?_
  refine x_getR dX3_become_93 fl_X3_36 (by omega) rfl rfl rfl ?_
  refine x_callNv dX3_become_96 nn_X3_53 mt_X8_copyRow st_X8_copyRow (ct_X8_copyRow (by omega) (by omega) rfl rfl) rfl rfl (Nat.le_of_ble_eq_true rfl) ⟨(Nat.le_of_ble_eq_true rfl), (Nat.le_of_ble_eq_true rfl)⟩ ⟨rfl, rfl⟩ ⟨(Nat.le_of_ble_eq_true rfl), (Nat.le_of_ble_eq_true rfl)⟩ ?_
  refine x_iconst (v := 0) dX3_become_99 (by decide) ?_
  refine x_istore_n (lo2 := [_, _, _]) dX3_become_100 (by decide) rfl rfl ?_
  refine x_loop (inv := fun i => True) (fun i => [some (.ref (g.2.1 + 1)), some (.ref (g.2.1 + 58)), some (.int (nI i))]) (fun i => zrow (zrow (zrow (zrow (zrow (zrow (zrow (zrow (zrow (zrow I 2 (I 59)) 3 (I 60)) 4 (I 61)) 5 (I 62)) 6 (I 63)) 7 (I 64)) 8 (I 65)) 9 (I 66)) 10 (I 67)) 11 (zpre i (I 68) (I 11))) (fun i => L) 0 8 (by omega) (by trivial) (by rfl) (by rw [zpre_0]; funext a; by_cases e : a = 11 <;> simp [zrow, e]) (by rfl) (fun i hloi hhii hinvi Ki => ?_) (fun hinvi => ?_)
  · skip
    refine x_iload_n dX3_become_101 rfl ?_
    refine x_bipush (v := 8) dX3_become_102 (by decide) ?_
    refine x_icmp_ge (tgt := 125) dX3_become_104 (by decide) (fun h104 => ?_) (fun h104 => ?_)
    · skip
      exact absurd h104 (nI_ge (b := 8) hhii (by decide))
    · skip
      refine x_aload_n dX3_become_107 rfl ?_
      refine x_getR dX3_become_108 fl_X3_39 (by omega) rfl rfl rfl ?_
      refine x_iload_n dX3_become_111 rfl ?_
      refine x_aload_n dX3_become_112 rfl ?_
      refine x_getR dX3_become_113 fl_X3_39 (by omega) rfl rfl rfl ?_
      refine x_pc (pc2 := 116) rfl ?_
      refine x_iload_n dX3_become_116 rfl ?_
      refine x_zald dX3_become_117 (by omega) rfl rfl (by omega) ?_
      rw [show zrow (zrow (zrow (zrow (zrow (zrow (zrow (zrow (zrow (zrow I 2 (I 59)) 3 (I 60)) 4 (I 61)) 5 (I 62)) 6 (I 63)) 7 (I 64)) 8 (I 65)) 9 (I 66)) 10 (I 67)) 11 (zpre i (I 68) (I 11)) 68 i = I 68 i from by simp [zrow]]
      refine x_zast dX3_become_118 (by omega) rfl rfl (by omega) (hz _ hhii) ?_
      refine x_iincN (lo2 := [_, _, _]) dX3_become_119 rfl rfl rfl ?_
      refine x_goto (tgt := 101) dX3_become_122 (by decide) ?_
      exact x_eq (by rfl) (by rw [zu_zrow, ← zpre_s]) (by rfl) (Ki (by trivial))
  · skip
    refine x_iload_n dX3_become_101 rfl ?_
    refine x_bipush (v := 8) dX3_become_102 (by decide) ?_
    refine x_icmp_ge (tgt := 125) dX3_become_104 (by decide) (fun h104 => ?_) (fun h104 => ?_)
    · skip
      refine x_aload_n dX3_become_125 rfl ?_
      refine x_aload_n dX3_become_126 rfl ?_
      refine x_getI dX3_become_127 fl_X3_43 (by omega) rfl rfl ?_
      refine x_putI dX3_become_130 fp_X3_43 (by omega) rfl ?_
      refine x_aload_n dX3_become_133 rfl ?_
      refine x_pc (pc2 := 134) rfl ?_
      refine x_aload_n dX3_become_134 rfl ?_
      refine x_getI dX3_become_135 fl_X3_47 (by omega) rfl rfl ?_
      refine x_putI dX3_become_138 fp_X3_47 (by omega) rfl ?_
      refine x_aload_n dX3_become_141 rfl ?_
      refine x_aload_n dX3_become_142 rfl ?_
      refine x_getI dX3_become_143 fl_X3_50 (by omega) rfl rfl ?_
      refine x_pc (pc2 := 146) rfl ?_
      refine x_putI dX3_become_146 fp_X3_50 (by omega) rfl ?_
      refine x_sameV (I' := zbec I 1 58) (fun k _ j hv => ?_) ?_
      · by_cases h : 1 ≤ k ∧ k ≤ 11
        · obtain ⟨d, hd, rfl⟩ : ∃ d, d < 11 ∧ k = 1 + d := ⟨k - 1, by omega, by omega⟩
          rcases (show d = 0 ∨ d = 1 ∨ d = 2 ∨ d = 3 ∨ d = 4 ∨ d = 5 ∨ d = 6 ∨ d = 7 ∨ d = 8 ∨ d = 9 ∨ d = 10 by omega) with rfl | rfl | rfl | rfl | rfl | rfl | rfl | rfl | rfl | rfl | rfl
          · have hv : j < 13 ∧ zrf 3 j = false := hv
            have hj : j = 10 ∨ j = 11 ∨ j = 12 := by
              obtain ⟨h1, h2⟩ := hv
              rcases (show j = 0 ∨ j = 1 ∨ j = 2 ∨ j = 3 ∨ j = 4 ∨ j = 5 ∨ j = 6 ∨ j = 7 ∨ j = 8 ∨ j = 9 ∨ 10 ≤ j by omega) with rfl | rfl | rfl | rfl | rfl | rfl | rfl | rfl | rfl | rfl | h3
              all_goals first | (exact absurd h2 (by decide)) | omega
            rcases hj with rfl | rfl | rfl <;> simp [zbec, zu, zrow]
          all_goals first | (simp [zbec, zu, zrow]; done) | (have hv : j < 8 := hv; simp [zbec, zu, zrow, zpre, hv])
        · have e0 : k ≠ 1 := by omega
          have e1 : k ≠ 2 := by omega
          have e2 : k ≠ 3 := by omega
          have e3 : k ≠ 4 := by omega
          have e4 : k ≠ 5 := by omega
          have e5 : k ≠ 6 := by omega
          have e6 : k ≠ 7 := by omega
          have e7 : k ≠ 8 := by omega
          have e8 : k ≠ 9 := by omega
          have e9 : k ≠ 10 := by omega
          have e10 : k ≠ 11 := by omega
          simp [zbec, zu, zrow, h, e0, e1, e2, e3, e4, e5, e6, e7, e8, e9, e10]
      exact x_vret dX3_become_149 rfl (Nat.le_of_ble_eq_true rfl) (Nat.le_of_ble_eq_true rfl) ⟨rfl, rfl, by rfl, by rfl, rfl⟩
    · skip
      exact absurd (nI_le (b := 8) (Nat.le_refl 8) (by decide)) h104
theorem ct_X3_become_1_69 {g : zG} {N : Nat} {I : zI} {L : zL} {q0 q1 : Option Nat} (hN : 80 ≤ N) (hz : ∀ i, i < 8 → narrow .boolean (.int (I 79 i)) = .int (I 79 i)) : Ct g yX3_become mX3_become [.ref (g.2.1 + 1), .ref (g.2.1 + 69)] N I L (zRw q0 q1) (zD none N (zbec I 1 69) L (zRw q0 q1)) := by
  refine Ct_of (lo0 := [some (.ref (g.2.1 + 1)), some (.ref (g.2.1 + 69)), none]) rfl rfl rfl rfl (Nat.le_of_ble_eq_true rfl) (fun E => ?_)
  refine x_aload_n dX3_become_0 rfl ?_
  refine x_getR dX3_become_1 fl_X3_9 (by omega) rfl rfl rfl ?_
  refine x_aload_n dX3_become_4 rfl ?_
  refine x_getR dX3_become_5 fl_X3_9 (by omega) rfl rfl rfl ?_
  refine x_callNv dX3_become_8 nn_X3_53 mt_X8_copyRow st_X8_copyRow (ct_X8_copyRow (by omega) (by omega) rfl rfl) rfl rfl (Nat.le_of_ble_eq_true rfl) ⟨(Nat.le_of_ble_eq_true rfl), (Nat.le_of_ble_eq_true rfl)⟩ ⟨rfl, rfl⟩ ⟨(Nat.le_of_ble_eq_true rfl), (Nat.le_of_ble_eq_true rfl)⟩ ?_
  refine x_pc (pc2 := 11) rfl ?_
  refine x_aload_n dX3_become_11 rfl ?_
  refine x_getR dX3_become_12 fl_X3_15 (by omega) rfl rfl rfl ?_
  refine x_aload_n dX3_become_15 rfl ?_
  refine x_getR dX3_become_16 fl_X3_15 (by omega) rfl rfl rfl ?_
  refine x_callNv dX3_become_19 nn_X3_53 mt_X8_copyRow st_X8_copyRow (ct_X8_copyRow (by omega) (by omega) rfl rfl) rfl rfl (Nat.le_of_ble_eq_true rfl) ⟨(Nat.le_of_ble_eq_true rfl), (Nat.le_of_ble_eq_true rfl)⟩ ⟨rfl, rfl⟩ ⟨(Nat.le_of_ble_eq_true rfl), (Nat.le_of_ble_eq_true rfl)⟩ ?_
  refine x_aload_n dX3_become_22 rfl ?_
  refine x_pc (pc2 := 23) rfl ?_
  refine x_getR dX3_become_23 fl_X3_18 (by omega) rfl rfl rfl ?_
  refine x_aload_n dX3_become_26 rfl ?_
  refine x_getR dX3_become_27 fl_X3_18 (by omega) rfl rfl rfl ?_
  refine x_callNv dX3_become_30 nn_X3_53 mt_X8_copyRow st_X8_copyRow (ct_X8_copyRow (by omega) (by omega) rfl rfl) rfl rfl (Nat.le_of_ble_eq_true rfl) ⟨(Nat.le_of_ble_eq_true rfl), (Nat.le_of_ble_eq_true rfl)⟩ ⟨rfl, rfl⟩ ⟨(Nat.le_of_ble_eq_true rfl), (Nat.le_of_ble_eq_true rfl)⟩ ?_
  refine x_aload_n dX3_become_33 rfl ?_
  refine x_getR dX3_become_34 fl_X3_21 (by omega) rfl rfl rfl ?_
  refine x_pc (pc2 := 37) rfl ?_
  refine x_aload_n dX3_become_37 rfl ?_
  refine x_getR dX3_become_38 fl_X3_21 (by omega) rfl rfl rfl ?_
  refine x_callNv dX3_become_41 nn_X3_53 mt_X8_copyRow st_X8_copyRow (ct_X8_copyRow (by omega) (by omega) rfl rfl) rfl rfl (Nat.le_of_ble_eq_true rfl) ⟨(Nat.le_of_ble_eq_true rfl), (Nat.le_of_ble_eq_true rfl)⟩ ⟨rfl, rfl⟩ ⟨(Nat.le_of_ble_eq_true rfl), (Nat.le_of_ble_eq_true rfl)⟩ ?_
  refine x_aload_n dX3_become_44 rfl ?_
  refine x_getR dX3_become_45 fl_X3_24 (by omega) rfl rfl rfl ?_
  refine x_aload_n dX3_become_48 rfl ?_
  refine x_pc (pc2 := 49) rfl ?_
  refine x_getR dX3_become_49 fl_X3_24 (by omega) rfl rfl rfl ?_
  refine x_callNv dX3_become_52 nn_X3_53 mt_X8_copyRow st_X8_copyRow (ct_X8_copyRow (by omega) (by omega) rfl rfl) rfl rfl (Nat.le_of_ble_eq_true rfl) ⟨(Nat.le_of_ble_eq_true rfl), (Nat.le_of_ble_eq_true rfl)⟩ ⟨rfl, rfl⟩ ⟨(Nat.le_of_ble_eq_true rfl), (Nat.le_of_ble_eq_true rfl)⟩ ?_
  refine x_aload_n dX3_become_55 rfl ?_
  refine x_getR dX3_become_56 fl_X3_27 (by omega) rfl rfl rfl ?_
  refine x_aload_n dX3_become_59 rfl ?_
  refine x_getR dX3_become_60 fl_X3_27 (by omega) rfl rfl rfl ?_
  refine x_pc (pc2 := 63) rfl ?_
  refine x_callNv dX3_become_63 nn_X3_53 mt_X8_copyRow st_X8_copyRow (ct_X8_copyRow (by omega) (by omega) rfl rfl) rfl rfl (Nat.le_of_ble_eq_true rfl) ⟨(Nat.le_of_ble_eq_true rfl), (Nat.le_of_ble_eq_true rfl)⟩ ⟨rfl, rfl⟩ ⟨(Nat.le_of_ble_eq_true rfl), (Nat.le_of_ble_eq_true rfl)⟩ ?_
  refine x_aload_n dX3_become_66 rfl ?_
  refine x_getR dX3_become_67 fl_X3_30 (by omega) rfl rfl rfl ?_
  refine x_aload_n dX3_become_70 rfl ?_
  refine x_getR dX3_become_71 fl_X3_30 (by omega) rfl rfl rfl ?_
  refine x_callNv dX3_become_74 nn_X3_53 mt_X8_copyRow st_X8_copyRow (ct_X8_copyRow (by omega) (by omega) rfl rfl) rfl rfl (Nat.le_of_ble_eq_true rfl) ⟨(Nat.le_of_ble_eq_true rfl), (Nat.le_of_ble_eq_true rfl)⟩ ⟨rfl, rfl⟩ ⟨(Nat.le_of_ble_eq_true rfl), (Nat.le_of_ble_eq_true rfl)⟩ ?_
  refine x_pc (pc2 := 77) rfl ?_
  refine x_aload_n dX3_become_77 rfl ?_
  refine x_getR dX3_become_78 fl_X3_33 (by omega) rfl rfl rfl ?_
  refine x_aload_n dX3_become_81 rfl ?_
  refine x_getR dX3_become_82 fl_X3_33 (by omega) rfl rfl rfl ?_
  refine x_callNv dX3_become_85 nn_X3_53 mt_X8_copyRow st_X8_copyRow (ct_X8_copyRow (by omega) (by omega) rfl rfl) rfl rfl (Nat.le_of_ble_eq_true rfl) ⟨(Nat.le_of_ble_eq_true rfl), (Nat.le_of_ble_eq_true rfl)⟩ ⟨rfl, rfl⟩ ⟨(Nat.le_of_ble_eq_true rfl), (Nat.le_of_ble_eq_true rfl)⟩ ?_
  refine x_aload_n dX3_become_88 rfl ?_
  refine x_pc (pc2 := 89) rfl ?_
  refine x_getR dX3_become_89 fl_X3_36 (by omega) rfl rfl rfl ?_
  refine x_aload_n dX3_become_92 rfl ?_
  refine x_getR dX3_become_93 fl_X3_36 (by omega) rfl rfl rfl ?_
  refine x_callNv dX3_become_96 nn_X3_53 mt_X8_copyRow st_X8_copyRow (ct_X8_copyRow (by omega) (by omega) rfl rfl) rfl rfl (Nat.le_of_ble_eq_true rfl) ⟨(Nat.le_of_ble_eq_true rfl), (Nat.le_of_ble_eq_true rfl)⟩ ⟨rfl, rfl⟩ ⟨(Nat.le_of_ble_eq_true rfl), (Nat.le_of_ble_eq_true rfl)⟩ ?_
  refine x_iconst (v := 0) dX3_become_99 (by decide) ?_
  refine x_istore_n (lo2 := [_, _, _]) dX3_become_100 (by decide) rfl rfl ?_
  refine x_loop (inv := fun i => True) (fun i => [some (.ref (g.2.1 + 1)), some (.ref (g.2.1 + 69)), some (.int (nI i))]) (fun i => zrow (zrow (zrow (zrow (zrow (zrow (zrow (zrow (zrow (zrow I 2 (I 70)) 3 (I 71)) 4 (I 72)) 5 (I 73)) 6 (I 74)) 7 (I 75)) 8 (I 76)) 9 (I 77)) 10 (I 78)) 11 (zpre i (I 79) (I 11))) (fun i => L) 0 8 (by omega) (by trivial) (by rfl) (by rw [zpre_0]; funext a; by_cases e : a = 11 <;> simp [zrow, e]) (by rfl) (fun i hloi hhii hinvi Ki => ?_) (fun hinvi => ?_)
  · skip
    refine x_iload_n dX3_become_101 rfl ?_
    refine x_bipush (v := 8) dX3_become_102 (by decide) ?_
    refine x_icmp_ge (tgt := 125) dX3_become_104 (by decide) (fun h104 => ?_) (fun h104 => ?_)
    · skip
      exact absurd h104 (nI_ge (b := 8) hhii (by decide))
    · skip
      refine x_aload_n dX3_become_107 rfl ?_
      refine x_getR dX3_become_108 fl_X3_39 (by omega) rfl rfl rfl ?_
      refine x_iload_n dX3_become_111 rfl ?_
      refine x_aload_n dX3_become_112 rfl ?_
      refine x_getR dX3_become_113 fl_X3_39 (by omega) rfl rfl rfl ?_
      refine x_pc (pc2 := 116) rfl ?_
      refine x_iload_n dX3_become_116 rfl ?_
      refine x_zald dX3_become_117 (by omega) rfl rfl (by omega) ?_
      rw [show zrow (zrow (zrow (zrow (zrow (zrow (zrow (zrow (zrow (zrow I 2 (I 70)) 3 (I 71)) 4 (I 72)) 5 (I 73)) 6 (I 74)) 7 (I 75)) 8 (I 76)) 9 (I 77)) 10 (I 78)) 11 (zpre i (I 79) (I 11)) 79 i = I 79 i from by simp [zrow]]
      refine x_zast dX3_become_118 (by omega) rfl rfl (by omega) (hz _ hhii) ?_
      refine x_iincN (lo2 := [_, _, _]) dX3_become_119 rfl rfl rfl ?_
      refine x_goto (tgt := 101) dX3_become_122 (by decide) ?_
      exact x_eq (by rfl) (by rw [zu_zrow, ← zpre_s]) (by rfl) (Ki (by trivial))
  · skip
    refine x_iload_n dX3_become_101 rfl ?_
    refine x_bipush (v := 8) dX3_become_102 (by decide) ?_
    refine x_icmp_ge (tgt := 125) dX3_become_104 (by decide) (fun h104 => ?_) (fun h104 => ?_)
    · skip
      refine x_aload_n dX3_become_125 rfl ?_
      refine x_aload_n dX3_become_126 rfl ?_
      refine x_getI dX3_become_127 fl_X3_43 (by omega) rfl rfl ?_
      refine x_putI dX3_become_130 fp_X3_43 (by omega) rfl ?_
      refine x_aload_n dX3_become_133 rfl ?_
      refine x_pc (pc2 := 134) rfl ?_
      refine x_aload_n dX3_become_134 rfl ?_
      refine x_getI dX3_become_135 fl_X3_47 (by omega) rfl rfl ?_
      refine x_putI dX3_become_138 fp_X3_47 (by omega) rfl ?_
      refine x_aload_n dX3_become_141 rfl ?_
      refine x_aload_n dX3_become_142 rfl ?_
      refine x_getI dX3_become_143 fl_X3_50 (by omega) rfl rfl ?_
      refine x_pc (pc2 := 146) rfl ?_
      refine x_putI dX3_become_146 fp_X3_50 (by omega) rfl ?_
      refine x_sameV (I' := zbec I 1 69) (fun k _ j hv => ?_) ?_
      · by_cases h : 1 ≤ k ∧ k ≤ 11
        · obtain ⟨d, hd, rfl⟩ : ∃ d, d < 11 ∧ k = 1 + d := ⟨k - 1, by omega, by omega⟩
          rcases (show d = 0 ∨ d = 1 ∨ d = 2 ∨ d = 3 ∨ d = 4 ∨ d = 5 ∨ d = 6 ∨ d = 7 ∨ d = 8 ∨ d = 9 ∨ d = 10 by omega) with rfl | rfl | rfl | rfl | rfl | rfl | rfl | rfl | rfl | rfl | rfl
          · have hv : j < 13 ∧ zrf 3 j = false := hv
            have hj : j = 10 ∨ j = 11 ∨ j = 12 := by
              obtain ⟨h1, h2⟩ := hv
              rcases (show j = 0 ∨ j = 1 ∨ j = 2 ∨ j = 3 ∨ j = 4 ∨ j = 5 ∨ j = 6 ∨ j = 7 ∨ j = 8 ∨ j = 9 ∨ 10 ≤ j by omega) with rfl | rfl | rfl | rfl | rfl | rfl | rfl | rfl | rfl | rfl | h3
              all_goals first | (exact absurd h2 (by decide)) | omega
            rcases hj with rfl | rfl | rfl <;> simp [zbec, zu, zrow]
          all_goals first | (simp [zbec, zu, zrow]; done) | (have hv : j < 8 := hv; simp [zbec, zu, zrow, zpre, hv])
        · have e0 : k ≠ 1 := by omega
          have e1 : k ≠ 2 := by omega
          have e2 : k ≠ 3 := by omega
          have e3 : k ≠ 4 := by omega
          have e4 : k ≠ 5 := by omega
          have e5 : k ≠ 6 := by omega
          have e6 : k ≠ 7 := by omega
          have e7 : k ≠ 8 := by omega
          have e8 : k ≠ 9 := by omega
          have e9 : k ≠ 10 := by omega
          have e10 : k ≠ 11 := by omega
          simp [zbec, zu, zrow, h, e0, e1, e2, e3, e4, e5, e6, e7, e8, e9, e10]
      exact x_vret dX3_become_149 rfl (Nat.le_of_ble_eq_true rfl) (Nat.le_of_ble_eq_true rfl) ⟨rfl, rfl, by rfl, by rfl, rfl⟩
    · skip
      exact absurd (nI_le (b := 8) (Nat.le_refl 8) (by decide)) h104
end
