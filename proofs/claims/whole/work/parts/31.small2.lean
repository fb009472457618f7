/-! the small calls on both sides -/
theorem RelB.wHold {C C' : Nat → Nat → Int32} {F F' : Nat → Int32} (h : RelB C F) (hc : ∀ d, 1 ≤ d → d ≠ 3 → d ≠ 4 → d ≠ 5 → C' d = C d) (h0 : C' 0 10 = C 0 10) (h1 : C' 0 11 = C 0 11) (h2 : C' 0 12 = C 0 12) (hF : ∀ j, j < 15 ∨ 33 ≤ j → F' j = F j) (ngr : ∀ h, h < 6 → C' 3 h = nI (zx (C' 3 h)) ∧ zx (C' 3 h) < 256) (nfo : ∀ h, h < 6 → C' 4 h = nI (zx (C' 4 h)) ∧ 1 ≤ zx (C' 4 h) ∧ zx (C' 4 h) ≤ 20) (ntk : ∀ h, h < 6 → C' 5 h = nI (zx (C' 5 h)) ∧ 1 ≤ zx (C' 5 h) ∧ zx (C' 5 h) ≤ 9) (neG : ∀ h, h < 6 → F' (15 + h) = C' 3 h) (neF : ∀ h, h < 6 → F' (21 + h) = C' 4 h) (neK : ∀ h, h < 6 → F' (27 + h) = C' 5 h) : RelB C' F' := by
  refine ⟨?_, ?_, ngr, nfo, ntk, ?_, ?_, ?_, ?_, ?_, ?_, ?_, ?_, ?_, ?_, ?_, ?_, ?_, neG, neF, neK, ?_, ?_, ?_, ?_, ?_⟩
  · rw [hc 1 (by decide) (by decide) (by decide) (by decide)]; exact h.st
  · rw [hc 2 (by decide) (by decide) (by decide) (by decide)]; exact h.mk
  · rw [hc 6 (by decide) (by decide) (by decide) (by decide)]; exact h.cf
  · rw [hc 7 (by decide) (by decide) (by decide) (by decide), hc 6 (by decide) (by decide) (by decide) (by decide)]; exact h.cl
  · rw [hc 8 (by decide) (by decide) (by decide) (by decide)]; exact h.ld
  · rw [hc 9 (by decide) (by decide) (by decide) (by decide)]; exact h.sh
  · rw [hc 10 (by decide) (by decide) (by decide) (by decide)]; exact h.sf
  · rw [h0]; exact h.sn
  · rw [h1]; exact h.br
  · rw [h2]; exact h.ho
  · intro k hk q; rw [hc 1 (by decide) (by decide) (by decide) (by decide)] at q; rw [hc 1 (by decide) (by decide) (by decide) (by decide), hF _ (by omega)]; exact h.eS k hk q
  · intro k hk; rw [hc 2 (by decide) (by decide) (by decide) (by decide), hF _ (by omega)]; exact h.eM k hk
  · rw [hc 1 (by decide) (by decide) (by decide) (by decide), hF _ (by decide)]; exact h.eT
  · rw [h1, hF _ (by decide)]; exact h.eB
  · rw [h2, hF _ (by decide)]; exact h.eH
  · intro k hk; rw [hc 6 (by decide) (by decide) (by decide) (by decide), hc 7 (by decide) (by decide) (by decide) (by decide), hF _ (by omega)]; exact h.eC k hk
  · intro k hk; rw [hc 8 (by decide) (by decide) (by decide) (by decide), hF _ (by omega)]; exact h.eL k hk
  · intro k hk; rw [hc 9 (by decide) (by decide) (by decide) (by decide), hF _ (by omega)]; exact h.eX k hk
  · intro k hk; rw [hc 10 (by decide) (by decide) (by decide) (by decide), hF _ (by omega)]; exact h.eY k hk
  · rw [h0, hF _ (by decide)]; exact h.eN
theorem RelB.wCoat {C C' : Nat → Nat → Int32} {F F' : Nat → Int32} (h : RelB C F) (hc : ∀ d, 1 ≤ d → d ≠ 6 → d ≠ 7 → C' d = C d) (h0 : C' 0 10 = C 0 10) (h1 : C' 0 11 = C 0 11) (h2 : C' 0 12 = C 0 12) (hF : ∀ j, j < 33 ∨ 41 ≤ j → F' j = F j) (ncf : ∀ c, c < 8 → C' 6 c = nI (zx (C' 6 c)) ∧ zx (C' 6 c) ≤ 23) (ncl : ∀ c, c < 8 → C' 7 c = nI (zx (C' 7 c)) ∧ zx (C' 7 c) ≤ 23 ∧ zx (C' 6 c) ≤ zx (C' 7 c)) (neC : ∀ c, c < 8 → F' (33 + c) = 100 * C' 6 c + C' 7 c) : RelB C' F' := by
  refine ⟨?_, ?_, ?_, ?_, ?_, ncf, ncl, ?_, ?_, ?_, ?_, ?_, ?_, ?_, ?_, ?_, ?_, ?_, ?_, ?_, ?_, neC, ?_, ?_, ?_, ?_⟩
  · rw [hc 1 (by decide) (by decide) (by decide)]; exact h.st
  · rw [hc 2 (by decide) (by decide) (by decide)]; exact h.mk
  · rw [hc 3 (by decide) (by decide) (by decide)]; exact h.gr
  · rw [hc 4 (by decide) (by decide) (by decide)]; exact h.fo
  · rw [hc 5 (by decide) (by decide) (by decide)]; exact h.tk
  · rw [hc 8 (by decide) (by decide) (by decide)]; exact h.ld
  · rw [hc 9 (by decide) (by decide) (by decide)]; exact h.sh
  · rw [hc 10 (by decide) (by decide) (by decide)]; exact h.sf
  · rw [h0]; exact h.sn
  · rw [h1]; exact h.br
  · rw [h2]; exact h.ho
  · intro k hk q; rw [hc 1 (by decide) (by decide) (by decide)] at q; rw [hc 1 (by decide) (by decide) (by decide), hF _ (by omega)]; exact h.eS k hk q
  · intro k hk; rw [hc 2 (by decide) (by decide) (by decide), hF _ (by omega)]; exact h.eM k hk
  · rw [hc 1 (by decide) (by decide) (by decide), hF _ (by decide)]; exact h.eT
  · rw [h1, hF _ (by decide)]; exact h.eB
  · rw [h2, hF _ (by decide)]; exact h.eH
  · intro k hk; rw [hc 3 (by decide) (by decide) (by decide), hF _ (by omega)]; exact h.eG k hk
  · intro k hk; rw [hc 4 (by decide) (by decide) (by decide), hF _ (by omega)]; exact h.eF k hk
  · intro k hk; rw [hc 5 (by decide) (by decide) (by decide), hF _ (by omega)]; exact h.eK k hk
  · intro k hk; rw [hc 8 (by decide) (by decide) (by decide), hF _ (by omega)]; exact h.eL k hk
  · intro k hk; rw [hc 9 (by decide) (by decide) (by decide), hF _ (by omega)]; exact h.eX k hk
  · intro k hk; rw [hc 10 (by decide) (by decide) (by decide), hF _ (by omega)]; exact h.eY k hk
  · rw [h0, hF _ (by decide)]; exact h.eN
theorem RelB.wMove {C C' : Nat → Nat → Int32} {F F' : Nat → Int32} (h : RelB C F) (hc : ∀ d, 1 ≤ d → d ≠ 8 → C' d = C d) (h0 : C' 0 10 = C 0 10) (h1 : C' 0 11 = C 0 11) (h2 : C' 0 12 = C 0 12) (hF : ∀ j, j < 41 ∨ 51 ≤ j → F' j = F j) (nld : ∀ a, a < 10 → C' 8 a = nI (zx (C' 8 a)) ∧ zx (C' 8 a) < 1024) (neL : ∀ a, a < 10 → F' (41 + a) = C' 8 a) : RelB C' F' := by
  refine ⟨?_, ?_, ?_, ?_, ?_, ?_, ?_, nld, ?_, ?_, ?_, ?_, ?_, ?_, ?_, ?_, ?_, ?_, ?_, ?_, ?_, ?_, neL, ?_, ?_, ?_⟩
  · rw [hc 1 (by decide) (by decide)]; exact h.st
  · rw [hc 2 (by decide) (by decide)]; exact h.mk
  · rw [hc 3 (by decide) (by decide)]; exact h.gr
  · rw [hc 4 (by decide) (by decide)]; exact h.fo
  · rw [hc 5 (by decide) (by decide)]; exact h.tk
  · rw [hc 6 (by decide) (by decide)]; exact h.cf
  · rw [hc 7 (by decide) (by decide), hc 6 (by decide) (by decide)]; exact h.cl
  · rw [hc 9 (by decide) (by decide)]; exact h.sh
  · rw [hc 10 (by decide) (by decide)]; exact h.sf
  · rw [h0]; exact h.sn
  · rw [h1]; exact h.br
  · rw [h2]; exact h.ho
  · intro k hk q; rw [hc 1 (by decide) (by decide)] at q; rw [hc 1 (by decide) (by decide), hF _ (by omega)]; exact h.eS k hk q
  · intro k hk; rw [hc 2 (by decide) (by decide), hF _ (by omega)]; exact h.eM k hk
  · rw [hc 1 (by decide) (by decide), hF _ (by decide)]; exact h.eT
  · rw [h1, hF _ (by decide)]; exact h.eB
  · rw [h2, hF _ (by decide)]; exact h.eH
  · intro k hk; rw [hc 3 (by decide) (by decide), hF _ (by omega)]; exact h.eG k hk
  · intro k hk; rw [hc 4 (by decide) (by decide), hF _ (by omega)]; exact h.eF k hk
  · intro k hk; rw [hc 5 (by decide) (by decide), hF _ (by omega)]; exact h.eK k hk
  · intro k hk; rw [hc 6 (by decide) (by decide), hc 7 (by decide) (by decide), hF _ (by omega)]; exact h.eC k hk
  · intro k hk; rw [hc 9 (by decide) (by decide), hF _ (by omega)]; exact h.eX k hk
  · intro k hk; rw [hc 10 (by decide) (by decide), hF _ (by omega)]; exact h.eY k hk
  · rw [h0, hF _ (by decide)]; exact h.eN
theorem RelB.wSeen {C C' : Nat → Nat → Int32} {F F' : Nat → Int32} (h : RelB C F) (hc : ∀ d, 1 ≤ d → d ≠ 9 → d ≠ 10 → C' d = C d) (h1 : C' 0 11 = C 0 11) (h2 : C' 0 12 = C 0 12) (hF : ∀ j, j < 51 → F' j = F j) (nsh : ∀ i, i < 8 → ∃ k, k < 6 ∧ C' 9 i = nI k) (nsf : ∀ i, i < 8 → C' 10 i = 0 ∨ C' 10 i = 1) (nsn : ∃ n, n ≤ 8 ∧ C' 0 10 = nI n) (neX : ∀ i, i < 8 → F' (51 + 2 * i) = C' 9 i) (neY : ∀ i, i < 8 → F' (51 + (2 * i + 1)) = C' 10 i) (neN : F' 70 = C' 0 10) : RelB C' F' := by
  refine ⟨?_, ?_, ?_, ?_, ?_, ?_, ?_, ?_, nsh, nsf, nsn, ?_, ?_, ?_, ?_, ?_, ?_, ?_, ?_, ?_, ?_, ?_, ?_, neX, neY, neN⟩
  · rw [hc 1 (by decide) (by decide) (by decide)]; exact h.st
  · rw [hc 2 (by decide) (by decide) (by decide)]; exact h.mk
  · rw [hc 3 (by decide) (by decide) (by decide)]; exact h.gr
  · rw [hc 4 (by decide) (by decide) (by decide)]; exact h.fo
  · rw [hc 5 (by decide) (by decide) (by decide)]; exact h.tk
  · rw [hc 6 (by decide) (by decide) (by decide)]; exact h.cf
  · rw [hc 7 (by decide) (by decide) (by decide), hc 6 (by decide) (by decide) (by decide)]; exact h.cl
  · rw [hc 8 (by decide) (by decide) (by decide)]; exact h.ld
  · rw [h1]; exact h.br
  · rw [h2]; exact h.ho
  · intro k hk q; rw [hc 1 (by decide) (by decide) (by decide)] at q; rw [hc 1 (by decide) (by decide) (by decide), hF _ (by omega)]; exact h.eS k hk q
  · intro k hk; rw [hc 2 (by decide) (by decide) (by decide), hF _ (by omega)]; exact h.eM k hk
  · rw [hc 1 (by decide) (by decide) (by decide), hF _ (by decide)]; exact h.eT
  · rw [h1, hF _ (by decide)]; exact h.eB
  · rw [h2, hF _ (by decide)]; exact h.eH
  · intro k hk; rw [hc 3 (by decide) (by decide) (by decide), hF _ (by omega)]; exact h.eG k hk
  · intro k hk; rw [hc 4 (by decide) (by decide) (by decide), hF _ (by omega)]; exact h.eF k hk
  · intro k hk; rw [hc 5 (by decide) (by decide) (by decide), hF _ (by omega)]; exact h.eK k hk
  · intro k hk; rw [hc 6 (by decide) (by decide) (by decide), hc 7 (by decide) (by decide) (by decide), hF _ (by omega)]; exact h.eC k hk
  · intro k hk; rw [hc 8 (by decide) (by decide) (by decide), hF _ (by omega)]; exact h.eL k hk
theorem mv_on : ∀ j, j < 10 → ∀ n, n < 1024 → off1 (nI n) (nI j) ||| (1 <<< (nI j &&& 31)) = nI (n ||| 2 ^ j) := by decide +kernel
theorem mv_off : ∀ j, j < 10 → ∀ n, n < 1024 → off1 (nI n) (nI j) = nI (n &&& (1023 ^^^ 2 ^ j)) := by decide +kernel
