/-! THE LAW: its cases -/
section CASES
variable {g : zG} {nm : String} {p : Program} {e : Env} {s : State} {m : MethodId} {below : List Frame} {meth : Method} {c : Code} {b L t : Nat} {xs : Nat → Int32} {q0 q1 : Option Nat} {N : Nat} {I : zI} {Lx : zL}
theorem lc_0 (C0 : lw_At p s m meth c b L xs) (hg : g.2.1 = s.heap.size) (hL : L ≤ 320) (ht : 5 * t + 5 ≤ L) (h : Inv q0 q1 N I) (k : LK g nm (p, e, s, m, #[Value.ref b], below, meth, c) (lw_Z below #[Value.ref b] s) b t) : X g (mL nm) (p, e, s, m, #[Value.ref b], below, meth, c) (lw_Z below #[Value.ref b] s) (58 + 11 * t) (1345 + 85 * t) 156 (llo b g.2.1 t) [] N I Lx (zRw q0 q1) := by
  obtain ⟨n, hn, hc⟩ := h.cnt
  obtain ⟨n8, hn8, hs8⟩ : ∃ n, n ≤ 8 ∧ I 1 10 = nI n := h.live.sn
  refine x_aload_n (x := g.2.1 + 0) dL_law_156 rfl ?_
  refine y_arg C0 hg hL (k := 1) dL_law_157 dL_law_158 dL_law_159 dL_law_160 dL_law_161 (by decide) (by omega) (pc2 := 162) rfl ?_
  refine y_arg C0 hg hL (k := 2) dL_law_162 dL_law_163 dL_law_164 dL_law_165 dL_law_166 (by decide) (by omega) (pc2 := 167) rfl ?_
  refine y_arg C0 hg hL (k := 3) dL_law_167 dL_law_168 dL_law_169 dL_law_170 dL_law_171 (by decide) (by omega) (pc2 := 172) rfl ?_
  refine y_call dL_law_172 ml_L_13 mt_X8_grief mv_X8_grief (ct_X8_grief h.hc h.b0) (k := 0) (Nat.lt_of_lt_of_le (by decide) h.hc) rfl rfl rfl rfl (Nat.le_of_ble_eq_true rfl) ⟨(Nat.le_of_ble_eq_true rfl), (Nat.le_of_ble_eq_true rfl)⟩ ⟨rfl, rfl⟩ ⟨by omega, by omega⟩ (pc2 := 175) rfl (fun r N1 I1 L1 R1 hp => ?_)
  obtain ⟨rfl, rfl, rfl, rfl, hs1, h33⟩ := hp
  have hJ : ∀ c, 39 ≤ c → (grI I (xs (5 * t + 1)) (xs (5 * t + 2)) (xs (5 * t + 3))) c = I c := by
    intro c hc
    unfold grI
    split
    · rw [zrn _ _ (by omega), zrn _ _ (by omega)]
    · rfl
  have t1 : Two I I1 := h.two1 hJ hs1
  refine x_aload_n (x := g.2.1 + 40) dL_law_175 rfl ?_
  refine y_arg C0 hg hL (k := 1) dL_law_176 dL_law_177 dL_law_178 dL_law_179 dL_law_180 (by decide) (by omega) (pc2 := 181) rfl ?_
  refine y_arg C0 hg hL (k := 2) dL_law_181 dL_law_182 dL_law_183 dL_law_184 dL_law_185 (by decide) (by omega) (pc2 := 186) rfl ?_
  refine y_arg C0 hg hL (k := 3) dL_law_186 dL_law_187 dL_law_188 dL_law_189 dL_law_190 (by decide) (by omega) (pc2 := 191) rfl ?_
  refine y_call dL_law_191 ml_L_17 mt_X9_grief mv_X9_grief (ct_X9_grief h.hc) (k := 40) (Nat.lt_of_lt_of_le (by decide) h.hc) rfl rfl rfl rfl (Nat.le_of_ble_eq_true rfl) ⟨(Nat.le_of_ble_eq_true rfl), (Nat.le_of_ble_eq_true rfl)⟩ ⟨rfl, rfl⟩ ⟨by omega, by omega⟩ (pc2 := 194) rfl (fun r N3 I3 L3 R3 hp => ?_)
  obtain ⟨rfl, rfl, rfl, hs2, h7, h9⟩ := hp
  have hK : ∀ c, c < 40 ∨ 56 ≤ c → (mgrI I1 (xs (5 * t + 1)) (xs (5 * t + 2)) (xs (5 * t + 3))) c = I1 c := by
    intro c hc
    unfold mgrI
    split
    · rw [zrn _ _ (by omega), zrn _ _ (by omega), zrn _ _ (by omega)]
    · rfl
  refine x_icmp_eq (tgt := 980) dL_law_194 (by decide) (fun _ => k.use (h.step hJ hs1 h33 hK hs2 h7 h9 (gr_two t1 _ _ _).2)) (fun z => absurd (Eq.symm (gr_two t1 _ _ _).1) z)
theorem lc_1 (C0 : lw_At p s m meth c b L xs) (hg : g.2.1 = s.heap.size) (hL : L ≤ 320) (ht : 5 * t + 5 ≤ L) (h : Inv q0 q1 N I) (k : LK g nm (p, e, s, m, #[Value.ref b], below, meth, c) (lw_Z below #[Value.ref b] s) b t) : X g (mL nm) (p, e, s, m, #[Value.ref b], below, meth, c) (lw_Z below #[Value.ref b] s) (58 + 11 * t) (1345 + 85 * t) 199 (llo b g.2.1 t) [] N I Lx (zRw q0 q1) := by
  obtain ⟨n, hn, hc⟩ := h.cnt
  obtain ⟨n8, hn8, hs8⟩ : ∃ n, n ≤ 8 ∧ I 1 10 = nI n := h.live.sn
  refine x_aload_n (x := g.2.1 + 0) dL_law_199 rfl ?_
  refine y_arg C0 hg hL (k := 1) dL_law_200 dL_law_201 dL_law_202 dL_law_203 dL_law_204 (by decide) (by omega) (pc2 := 205) rfl ?_
  refine y_arg C0 hg hL (k := 2) dL_law_205 dL_law_206 dL_law_207 dL_law_208 dL_law_209 (by decide) (by omega) (pc2 := 210) rfl ?_
  refine y_arg C0 hg hL (k := 3) dL_law_210 dL_law_211 dL_law_212 dL_law_213 dL_law_214 (by decide) (by omega) (pc2 := 215) rfl ?_
  refine y_arg C0 hg hL (k := 4) dL_law_215 dL_law_216 dL_law_217 dL_law_218 dL_law_219 (by decide) (by omega) (pc2 := 220) rfl ?_
  refine y_call dL_law_220 ml_L_18 mt_X8_hold mv_X8_hold (ct_X8_hold h.hc h.b0) (k := 0) (Nat.lt_of_lt_of_le (by decide) h.hc) rfl rfl rfl rfl (Nat.le_of_ble_eq_true rfl) ⟨(Nat.le_of_ble_eq_true rfl), (Nat.le_of_ble_eq_true rfl)⟩ ⟨rfl, rfl⟩ ⟨by omega, by omega⟩ (pc2 := 223) rfl (fun r N1 I1 L1 R1 hp => ?_)
  obtain ⟨rfl, rfl, rfl, rfl, hs1, h33⟩ := hp
  have hJ : ∀ c, 39 ≤ c → (hdI I (xs (5 * t + 1)) (xs (5 * t + 2)) (xs (5 * t + 3)) (xs (5 * t + 4))) c = I c := by
    intro c hc
    unfold hdI
    split
    · rw [zrn _ _ (by omega), zrn _ _ (by omega), zrn _ _ (by omega)]
    · rfl
  have t1 : Two I I1 := h.two1 hJ hs1
  refine x_aload_n (x := g.2.1 + 40) dL_law_223 rfl ?_
  refine y_arg C0 hg hL (k := 1) dL_law_224 dL_law_225 dL_law_226 dL_law_227 dL_law_228 (by decide) (by omega) (pc2 := 229) rfl ?_
  refine y_arg C0 hg hL (k := 2) dL_law_229 dL_law_230 dL_law_231 dL_law_232 dL_law_233 (by decide) (by omega) (pc2 := 234) rfl ?_
  refine y_arg C0 hg hL (k := 3) dL_law_234 dL_law_235 dL_law_236 dL_law_237 dL_law_238 (by decide) (by omega) (pc2 := 239) rfl ?_
  refine y_arg C0 hg hL (k := 4) dL_law_239 dL_law_240 dL_law_241 dL_law_242 dL_law_243 (by decide) (by omega) (pc2 := 244) rfl ?_
  refine y_call dL_law_244 ml_L_22 mt_X9_hold mv_X9_hold (ct_X9_hold h.hc) (k := 40) (Nat.lt_of_lt_of_le (by decide) h.hc) rfl rfl rfl rfl (Nat.le_of_ble_eq_true rfl) ⟨(Nat.le_of_ble_eq_true rfl), (Nat.le_of_ble_eq_true rfl)⟩ ⟨rfl, rfl⟩ ⟨by omega, by omega⟩ (pc2 := 247) rfl (fun r N3 I3 L3 R3 hp => ?_)
  obtain ⟨rfl, rfl, rfl, hs2, h7, h9⟩ := hp
  have hK : ∀ c, c < 40 ∨ 56 ≤ c → (mhdI I1 (xs (5 * t + 1)) (xs (5 * t + 2)) (xs (5 * t + 3)) (xs (5 * t + 4))) c = I1 c := by
    intro c hc
    unfold mhdI
    split
    · rw [zrn _ _ (by omega), zrn _ _ (by omega), zrn _ _ (by omega)]
    · rfl
  refine x_icmp_eq (tgt := 980) dL_law_247 (by decide) (fun _ => k.use (h.step hJ hs1 h33 hK hs2 h7 h9 (hd_two t1 _ _ _ _).2)) (fun z => absurd (Eq.symm (hd_two t1 _ _ _ _).1) z)
theorem lc_2 (C0 : lw_At p s m meth c b L xs) (hg : g.2.1 = s.heap.size) (hL : L ≤ 320) (ht : 5 * t + 5 ≤ L) (h : Inv q0 q1 N I) (k : LK g nm (p, e, s, m, #[Value.ref b], below, meth, c) (lw_Z below #[Value.ref b] s) b t) : X g (mL nm) (p, e, s, m, #[Value.ref b], below, meth, c) (lw_Z below #[Value.ref b] s) (58 + 11 * t) (1345 + 85 * t) 252 (llo b g.2.1 t) [] N I Lx (zRw q0 q1) := by
  obtain ⟨n, hn, hc⟩ := h.cnt
  obtain ⟨n8, hn8, hs8⟩ : ∃ n, n ≤ 8 ∧ I 1 10 = nI n := h.live.sn
  refine x_aload_n (x := g.2.1 + 0) dL_law_252 rfl ?_
  refine y_arg C0 hg hL (k := 1) dL_law_253 dL_law_254 dL_law_255 dL_law_256 dL_law_257 (by decide) (by omega) (pc2 := 258) rfl ?_
  refine y_call dL_law_258 ml_L_23 mt_X8_breath mv_X8_breath (ct_X8_breath h.hc h.b0) (k := 0) (Nat.lt_of_lt_of_le (by decide) h.hc) rfl rfl rfl rfl (Nat.le_of_ble_eq_true rfl) ⟨(Nat.le_of_ble_eq_true rfl), (Nat.le_of_ble_eq_true rfl)⟩ ⟨rfl, rfl⟩ ⟨by omega, by omega⟩ (pc2 := 261) rfl (fun r N1 I1 L1 R1 hp => ?_)
  obtain ⟨rfl, rfl, rfl, rfl, hs1, h33⟩ := hp
  have hJ : ∀ c, 39 ≤ c → (brI I (xs (5 * t + 1))) c = I c := by
    intro c hc
    unfold brI
    split
    · rw [zrn _ _ (by omega)]
    · rfl
  have t1 : Two I I1 := h.two1 hJ hs1
  refine x_aload_n (x := g.2.1 + 40) dL_law_261 rfl ?_
  refine y_arg C0 hg hL (k := 1) dL_law_262 dL_law_263 dL_law_264 dL_law_265 dL_law_266 (by decide) (by omega) (pc2 := 267) rfl ?_
  refine y_call dL_law_267 ml_L_27 mt_X9_breath mv_X9_breath (ct_X9_breath h.hc) (k := 40) (Nat.lt_of_lt_of_le (by decide) h.hc) rfl rfl rfl rfl (Nat.le_of_ble_eq_true rfl) ⟨(Nat.le_of_ble_eq_true rfl), (Nat.le_of_ble_eq_true rfl)⟩ ⟨rfl, rfl⟩ ⟨by omega, by omega⟩ (pc2 := 270) rfl (fun r N3 I3 L3 R3 hp => ?_)
  obtain ⟨rfl, rfl, rfl, hs2, h7, h9⟩ := hp
  have hK : ∀ c, c < 40 ∨ 56 ≤ c → (mbrI I1 (xs (5 * t + 1))) c = I1 c := by
    intro c hc
    unfold mbrI
    split
    · rw [zrn _ _ (by omega)]
    · rfl
  refine x_icmp_eq (tgt := 980) dL_law_270 (by decide) (fun _ => k.use (h.step hJ hs1 h33 hK hs2 h7 h9 (br_two t1 _).2)) (fun z => absurd (Eq.symm (br_two t1 _).1) z)
theorem lc_3 (C0 : lw_At p s m meth c b L xs) (hg : g.2.1 = s.heap.size) (hL : L ≤ 320) (ht : 5 * t + 5 ≤ L) (h : Inv q0 q1 N I) (k : LK g nm (p, e, s, m, #[Value.ref b], below, meth, c) (lw_Z below #[Value.ref b] s) b t) : X g (mL nm) (p, e, s, m, #[Value.ref b], below, meth, c) (lw_Z below #[Value.ref b] s) (58 + 11 * t) (1345 + 85 * t) 275 (llo b g.2.1 t) [] N I Lx (zRw q0 q1) := by
  obtain ⟨n, hn, hc⟩ := h.cnt
  obtain ⟨n8, hn8, hs8⟩ : ∃ n, n ≤ 8 ∧ I 1 10 = nI n := h.live.sn
  refine x_aload_n (x := g.2.1 + 0) dL_law_275 rfl ?_
  refine y_arg C0 hg hL (k := 1) dL_law_276 dL_law_277 dL_law_278 dL_law_279 dL_law_280 (by decide) (by omega) (pc2 := 281) rfl ?_
  refine y_arg C0 hg hL (k := 2) dL_law_281 dL_law_282 dL_law_283 dL_law_284 dL_law_285 (by decide) (by omega) (pc2 := 286) rfl ?_
  refine y_arg C0 hg hL (k := 3) dL_law_286 dL_law_287 dL_law_288 dL_law_289 dL_law_290 (by decide) (by omega) (pc2 := 291) rfl ?_
  refine y_call dL_law_291 ml_L_28 mt_X8_coat mv_X8_coat (ct_X8_coat h.hc h.b0) (k := 0) (Nat.lt_of_lt_of_le (by decide) h.hc) rfl rfl rfl rfl (Nat.le_of_ble_eq_true rfl) ⟨(Nat.le_of_ble_eq_true rfl), (Nat.le_of_ble_eq_true rfl)⟩ ⟨rfl, rfl⟩ ⟨by omega, by omega⟩ (pc2 := 294) rfl (fun r N1 I1 L1 R1 hp => ?_)
  obtain ⟨rfl, rfl, rfl, rfl, hs1, h33⟩ := hp
  have hJ : ∀ c, 39 ≤ c → (coI I (xs (5 * t + 1)) (xs (5 * t + 2)) (xs (5 * t + 3))) c = I c := by
    intro c hc
    unfold coI
    split
    · rw [zrn _ _ (by omega), zrn _ _ (by omega)]
    · rfl
  have t1 : Two I I1 := h.two1 hJ hs1
  refine x_aload_n (x := g.2.1 + 40) dL_law_294 rfl ?_
  refine y_arg C0 hg hL (k := 1) dL_law_295 dL_law_296 dL_law_297 dL_law_298 dL_law_299 (by decide) (by omega) (pc2 := 300) rfl ?_
  refine y_arg C0 hg hL (k := 2) dL_law_300 dL_law_301 dL_law_302 dL_law_303 dL_law_304 (by decide) (by omega) (pc2 := 305) rfl ?_
  refine y_arg C0 hg hL (k := 3) dL_law_305 dL_law_306 dL_law_307 dL_law_308 dL_law_309 (by decide) (by omega) (pc2 := 310) rfl ?_
  refine y_call dL_law_310 ml_L_31 mt_X9_coat mv_X9_coat (ct_X9_coat h.hc) (k := 40) (Nat.lt_of_lt_of_le (by decide) h.hc) rfl rfl rfl rfl (Nat.le_of_ble_eq_true rfl) ⟨(Nat.le_of_ble_eq_true rfl), (Nat.le_of_ble_eq_true rfl)⟩ ⟨rfl, rfl⟩ ⟨by omega, by omega⟩ (pc2 := 313) rfl (fun r N3 I3 L3 R3 hp => ?_)
  obtain ⟨rfl, rfl, rfl, hs2, h7, h9⟩ := hp
  have hK : ∀ c, c < 40 ∨ 56 ≤ c → (mcoI I1 (xs (5 * t + 1)) (xs (5 * t + 2)) (xs (5 * t + 3))) c = I1 c := by
    intro c hc
    unfold mcoI
    split
    · rw [zrn _ _ (by omega)]
    · rfl
  refine x_icmp_eq (tgt := 980) dL_law_313 (by decide) (fun _ => k.use (h.step hJ hs1 h33 hK hs2 h7 h9 (co_two t1 _ _ _).2)) (fun z => absurd (Eq.symm (co_two t1 _ _ _).1) z)
theorem lc_4 (C0 : lw_At p s m meth c b L xs) (hg : g.2.1 = s.heap.size) (hL : L ≤ 320) (ht : 5 * t + 5 ≤ L) (h : Inv q0 q1 N I) (k : LK g nm (p, e, s, m, #[Value.ref b], below, meth, c) (lw_Z below #[Value.ref b] s) b t) : X g (mL nm) (p, e, s, m, #[Value.ref b], below, meth, c) (lw_Z below #[Value.ref b] s) (58 + 11 * t) (1345 + 85 * t) 318 (llo b g.2.1 t) [] N I Lx (zRw q0 q1) := by
  obtain ⟨n, hn, hc⟩ := h.cnt
  obtain ⟨n8, hn8, hs8⟩ : ∃ n, n ≤ 8 ∧ I 1 10 = nI n := h.live.sn
  refine x_aload_n (x := g.2.1 + 0) dL_law_318 rfl ?_
  refine y_arg C0 hg hL (k := 1) dL_law_319 dL_law_320 dL_law_321 dL_law_322 dL_law_323 (by decide) (by omega) (pc2 := 324) rfl ?_
  refine y_arg C0 hg hL (k := 2) dL_law_324 dL_law_325 dL_law_326 dL_law_327 dL_law_328 (by decide) (by omega) (pc2 := 329) rfl ?_
  refine y_arg C0 hg hL (k := 3) dL_law_329 dL_law_330 dL_law_331 dL_law_332 dL_law_333 (by decide) (by omega) (pc2 := 334) rfl ?_
  refine y_bool (p1 := 337) (p2 := 338) (p3 := 341) (p4 := 342) dL_law_334 dL_law_337 dL_law_338 dL_law_341 rfl rfl rfl rfl rfl ?_
  refine y_call dL_law_342 ml_L_32 mt_X8_move mv_X8_move (ct_X8_move h.hc h.b0) (k := 0) (Nat.lt_of_lt_of_le (by decide) h.hc) rfl rfl rfl rfl (Nat.le_of_ble_eq_true rfl) ⟨(Nat.le_of_ble_eq_true rfl), (Nat.le_of_ble_eq_true rfl)⟩ ⟨rfl, rfl⟩ ⟨by omega, by omega⟩ (pc2 := 345) rfl (fun r N1 I1 L1 R1 hp => ?_)
  obtain ⟨rfl, rfl, rfl, rfl, hs1, h33⟩ := hp
  have hJ : ∀ c, 39 ≤ c → (mvI I (xs (5 * t + 1)) (xs (5 * t + 2)) (decide (¬ xs (5 * t + 3) = 0))) c = I c := by
    intro c hc
    unfold mvI
    split
    · rw [zrn _ _ (by omega)]
    · rfl
  have t1 : Two I I1 := h.two1 hJ hs1
  refine x_aload_n (x := g.2.1 + 40) dL_law_345 rfl ?_
  refine y_arg C0 hg hL (k := 1) dL_law_346 dL_law_347 dL_law_348 dL_law_349 dL_law_350 (by decide) (by omega) (pc2 := 351) rfl ?_
  refine y_arg C0 hg hL (k := 2) dL_law_351 dL_law_352 dL_law_353 dL_law_354 dL_law_355 (by decide) (by omega) (pc2 := 356) rfl ?_
  refine y_arg C0 hg hL (k := 3) dL_law_356 dL_law_357 dL_law_358 dL_law_359 dL_law_360 (by decide) (by omega) (pc2 := 361) rfl ?_
  refine y_bool (p1 := 364) (p2 := 365) (p3 := 368) (p4 := 369) dL_law_361 dL_law_364 dL_law_365 dL_law_368 rfl rfl rfl rfl rfl ?_
  refine y_call dL_law_369 ml_L_36 mt_X9_move mv_X9_move (ct_X9_move h.hc) (k := 40) (Nat.lt_of_lt_of_le (by decide) h.hc) rfl rfl rfl rfl (Nat.le_of_ble_eq_true rfl) ⟨(Nat.le_of_ble_eq_true rfl), (Nat.le_of_ble_eq_true rfl)⟩ ⟨rfl, rfl⟩ ⟨by omega, by omega⟩ (pc2 := 372) rfl (fun r N3 I3 L3 R3 hp => ?_)
  obtain ⟨rfl, rfl, rfl, hs2, h7, h9⟩ := hp
  have hK : ∀ c, c < 40 ∨ 56 ≤ c → (mmvI I1 (xs (5 * t + 1)) (xs (5 * t + 2)) (decide (¬ xs (5 * t + 3) = 0))) c = I1 c := by
    intro c hc
    unfold mmvI
    split
    · rw [zrn _ _ (by omega)]
    · rfl
  refine x_icmp_eq (tgt := 980) dL_law_372 (by decide) (fun _ => k.use (h.step hJ hs1 h33 hK hs2 h7 h9 (mv_two t1 _ _ _).2)) (fun z => absurd (Eq.symm (mv_two t1 _ _ _).1) z)
theorem lc_5 (C0 : lw_At p s m meth c b L xs) (hg : g.2.1 = s.heap.size) (hL : L ≤ 320) (ht : 5 * t + 5 ≤ L) (h : Inv q0 q1 N I) (k : LK g nm (p, e, s, m, #[Value.ref b], below, meth, c) (lw_Z below #[Value.ref b] s) b t) : X g (mL nm) (p, e, s, m, #[Value.ref b], below, meth, c) (lw_Z below #[Value.ref b] s) (58 + 11 * t) (1345 + 85 * t) 377 (llo b g.2.1 t) [] N I Lx (zRw q0 q1) := by
  obtain ⟨n, hn, hc⟩ := h.cnt
  obtain ⟨n8, hn8, hs8⟩ : ∃ n, n ≤ 8 ∧ I 1 10 = nI n := h.live.sn
  refine x_aload_n (x := g.2.1 + 0) dL_law_377 rfl ?_
  refine y_arg C0 hg hL (k := 1) dL_law_378 dL_law_379 dL_law_380 dL_law_381 dL_law_382 (by decide) (by omega) (pc2 := 383) rfl ?_
  refine y_call dL_law_383 ml_L_37 mt_X8_say mv_X8_say (ct_X8_say h.hc h.b0 hc hn) (k := 0) (Nat.lt_of_lt_of_le (by decide) h.hc) rfl rfl rfl rfl (Nat.le_of_ble_eq_true rfl) ⟨(Nat.le_of_ble_eq_true rfl), (Nat.le_of_ble_eq_true rfl)⟩ ⟨rfl, rfl⟩ ⟨by omega, by omega⟩ (pc2 := 386) rfl (fun r N1 I1 L1 R1 hp => ?_)
  obtain ⟨rfl, rfl, rfl, rfl, hs1, h33⟩ := hp
  have hJ : ∀ c, 39 ≤ c → (syI I n (xs (5 * t + 1))) c = I c := by
    intro c hc
    unfold syI
    split
    · rw [zrn _ _ (by omega), zrn _ _ (by omega)]
    · rfl
  have t1 : Two I I1 := h.two1 hJ hs1
  refine x_aload_n (x := g.2.1 + 40) dL_law_386 rfl ?_
  refine y_arg C0 hg hL (k := 1) dL_law_387 dL_law_388 dL_law_389 dL_law_390 dL_law_391 (by decide) (by omega) (pc2 := 392) rfl ?_
  refine y_call dL_law_392 ml_L_40 mt_X9_say mv_X9_say (ct_X9_say h.hc (t1.eC.trans hc) hn) (k := 40) (Nat.lt_of_lt_of_le (by decide) h.hc) rfl rfl rfl rfl (Nat.le_of_ble_eq_true rfl) ⟨(Nat.le_of_ble_eq_true rfl), (Nat.le_of_ble_eq_true rfl)⟩ ⟨rfl, rfl⟩ ⟨by omega, by omega⟩ (pc2 := 395) rfl (fun r N3 I3 L3 R3 hp => ?_)
  obtain ⟨rfl, rfl, rfl, hs2, h7, h9⟩ := hp
  have hK : ∀ c, c < 40 ∨ 56 ≤ c → (msyI I1 n (xs (5 * t + 1))) c = I1 c := by
    intro c hc
    unfold msyI
    split
    · rw [zrn _ _ (by omega), zrn _ _ (by omega)]
    · rfl
  refine x_icmp_eq (tgt := 980) dL_law_395 (by decide) (fun _ => k.use (h.step hJ hs1 h33 hK hs2 h7 h9 (sy_two t1 hn hc _))) (fun z => absurd (Eq.symm (Eq.refl _)) z)
theorem lc_6 (C0 : lw_At p s m meth c b L xs) (hg : g.2.1 = s.heap.size) (hL : L ≤ 320) (ht : 5 * t + 5 ≤ L) (h : Inv q0 q1 N I) (k : LK g nm (p, e, s, m, #[Value.ref b], below, meth, c) (lw_Z below #[Value.ref b] s) b t) : X g (mL nm) (p, e, s, m, #[Value.ref b], below, meth, c) (lw_Z below #[Value.ref b] s) (58 + 11 * t) (1345 + 85 * t) 400 (llo b g.2.1 t) [] N I Lx (zRw q0 q1) := by
  obtain ⟨n, hn, hc⟩ := h.cnt
  obtain ⟨n8, hn8, hs8⟩ : ∃ n, n ≤ 8 ∧ I 1 10 = nI n := h.live.sn
  refine x_aload_n (x := g.2.1 + 0) dL_law_400 rfl ?_
  refine y_call dL_law_401 ml_L_41 mt_X8_wipe mv_X8_wipe (ct_X8_wipe h.hc h.b0) (k := 0) (Nat.lt_of_lt_of_le (by decide) h.hc) rfl rfl rfl rfl (Nat.le_of_ble_eq_true rfl) ⟨(Nat.le_of_ble_eq_true rfl), (Nat.le_of_ble_eq_true rfl)⟩ ⟨rfl, rfl⟩ ⟨by omega, by omega⟩ (pc2 := 404) rfl (fun r N1 I1 L1 R1 hp => ?_)
  obtain ⟨rfl, rfl, rfl, rfl, hs1, h33⟩ := hp
  have hJ : ∀ c, 39 ≤ c → (zu I 12 1 0) c = I c := by
    intro c hc
    rw [zrn _ _ (by omega)]
  have t1 : Two I I1 := h.two1 hJ hs1
  refine x_aload_n (x := g.2.1 + 40) dL_law_404 rfl ?_
  refine y_call dL_law_405 ml_L_45 mt_X9_wipe mv_X9_wipe (ct_X9_wipe h.hc) (k := 40) (Nat.lt_of_lt_of_le (by decide) h.hc) rfl rfl rfl rfl (Nat.le_of_ble_eq_true rfl) ⟨(Nat.le_of_ble_eq_true rfl), (Nat.le_of_ble_eq_true rfl)⟩ ⟨rfl, rfl⟩ ⟨by omega, by omega⟩ (pc2 := 408) rfl (fun r N3 I3 L3 R3 hp => ?_)
  obtain ⟨rfl, rfl, rfl, hs2, h7, h9⟩ := hp
  have hK : ∀ c, c < 40 ∨ 56 ≤ c → (zu I1 40 9 0) c = I1 c := by
    intro c hc
    rw [zrn _ _ (by omega)]
  refine x_icmp_eq (tgt := 980) dL_law_408 (by decide) (fun _ => k.use (h.step hJ hs1 h33 hK hs2 h7 h9 (wi_two t1))) (fun z => absurd (Eq.symm t1.eC) z)
theorem lc_7 (C0 : lw_At p s m meth c b L xs) (hg : g.2.1 = s.heap.size) (hL : L ≤ 320) (ht : 5 * t + 5 ≤ L) (h : Inv q0 q1 N I) (k : LK g nm (p, e, s, m, #[Value.ref b], below, meth, c) (lw_Z below #[Value.ref b] s) b t) : X g (mL nm) (p, e, s, m, #[Value.ref b], below, meth, c) (lw_Z below #[Value.ref b] s) (58 + 11 * t) (1345 + 85 * t) 413 (llo b g.2.1 t) [] N I Lx (zRw q0 q1) := by
  obtain ⟨n, hn, hc⟩ := h.cnt
  obtain ⟨n8, hn8, hs8⟩ : ∃ n, n ≤ 8 ∧ I 1 10 = nI n := h.live.sn
  refine x_aload_n (x := g.2.1 + 0) dL_law_413 rfl ?_
  refine y_call dL_law_414 ml_L_46 mt_X8_fault mv_X8_fault (ct_X8_fault h.hc h.b0 hc hn) (k := 0) (Nat.lt_of_lt_of_le (by decide) h.hc) rfl rfl rfl rfl (Nat.le_of_ble_eq_true rfl) ⟨(Nat.le_of_ble_eq_true rfl), (Nat.le_of_ble_eq_true rfl)⟩ ⟨rfl, rfl⟩ ⟨by omega, by omega⟩ (pc2 := 417) rfl (fun r N1 I1 L1 R1 hp => ?_)
  obtain ⟨rfl, rfl, rfl, rfl, hs1, h33⟩ := hp
  have hJ : ∀ c, 39 ≤ c → (I) c = I c := by
    intro c hc
    rfl
  have t1 : Two I I1 := h.two1 hJ hs1
  refine x_aload_n (x := g.2.1 + 40) dL_law_417 rfl ?_
  refine y_call dL_law_418 ml_L_49 mt_X9_fault mv_X9_fault (ct_X9_fault h.hc (t1.eC.trans hc) hn) (k := 40) (Nat.lt_of_lt_of_le (by decide) h.hc) rfl rfl rfl rfl (Nat.le_of_ble_eq_true rfl) ⟨(Nat.le_of_ble_eq_true rfl), (Nat.le_of_ble_eq_true rfl)⟩ ⟨rfl, rfl⟩ ⟨by omega, by omega⟩ (pc2 := 421) rfl (fun r N3 I3 L3 R3 hp => ?_)
  obtain ⟨rfl, rfl, rfl, hs2, h7, h9⟩ := hp
  have hK : ∀ c, c < 40 ∨ 56 ≤ c → (I1) c = I1 c := by
    intro c hc
    rfl
  refine x_icmp_eq (tgt := 980) dL_law_421 (by decide) (fun _ => k.use (h.step hJ hs1 h33 hK hs2 h7 h9 t1)) (fun z => absurd (Eq.symm (ff_two t1 hn)) z)
theorem lc_8 (C0 : lw_At p s m meth c b L xs) (hg : g.2.1 = s.heap.size) (hL : L ≤ 320) (ht : 5 * t + 5 ≤ L) (h : Inv q0 q1 N I) (k : LK g nm (p, e, s, m, #[Value.ref b], below, meth, c) (lw_Z below #[Value.ref b] s) b t) : X g (mL nm) (p, e, s, m, #[Value.ref b], below, meth, c) (lw_Z below #[Value.ref b] s) (58 + 11 * t) (1345 + 85 * t) 426 (llo b g.2.1 t) [] N I Lx (zRw q0 q1) := by
  obtain ⟨n, hn, hc⟩ := h.cnt
  obtain ⟨n8, hn8, hs8⟩ : ∃ n, n ≤ 8 ∧ I 1 10 = nI n := h.live.sn
  refine x_aload_n (x := g.2.1 + 0) dL_law_426 rfl ?_
  refine y_arg C0 hg hL (k := 1) dL_law_427 dL_law_428 dL_law_429 dL_law_430 dL_law_431 (by decide) (by omega) (pc2 := 432) rfl ?_
  refine y_call dL_law_432 ml_L_50 mt_X8_judge mv_X8_judge (ct_X8_judge h.hc h.b0 hc hn h.live.sf) (k := 0) (Nat.lt_of_lt_of_le (by decide) h.hc) rfl rfl rfl rfl (Nat.le_of_ble_eq_true rfl) ⟨(Nat.le_of_ble_eq_true rfl), (Nat.le_of_ble_eq_true rfl)⟩ ⟨rfl, rfl⟩ ⟨by omega, by omega⟩ (pc2 := 435) rfl (fun r N1 I1 L1 R1 hp => ?_)
  obtain ⟨rfl, rfl, rfl, rfl, hs1, h33⟩ := hp
  have hJ : ∀ c, 39 ≤ c → (I) c = I c := by
    intro c hc
    rfl
  have t1 : Two I I1 := h.two1 hJ hs1
  refine x_aload_n (x := g.2.1 + 40) dL_law_435 rfl ?_
  refine y_arg C0 hg hL (k := 1) dL_law_436 dL_law_437 dL_law_438 dL_law_439 dL_law_440 (by decide) (by omega) (pc2 := 441) rfl ?_
  refine y_call dL_law_441 ml_L_53 mt_X9_judge mv_X9_judge (ct_X9_judge h.hc (t1.eC.trans hc) hn) (k := 40) (Nat.lt_of_lt_of_le (by decide) h.hc) rfl rfl rfl rfl (Nat.le_of_ble_eq_true rfl) ⟨(Nat.le_of_ble_eq_true rfl), (Nat.le_of_ble_eq_true rfl)⟩ ⟨rfl, rfl⟩ ⟨by omega, by omega⟩ (pc2 := 444) rfl (fun r N3 I3 L3 R3 hp => ?_)
  obtain ⟨rfl, rfl, rfl, hs2, h7, h9⟩ := hp
  have hK : ∀ c, c < 40 ∨ 56 ≤ c → (I1) c = I1 c := by
    intro c hc
    rfl
  refine x_icmp_eq (tgt := 980) dL_law_444 (by decide) (fun _ => k.use (h.step hJ hs1 h33 hK hs2 h7 h9 t1)) (fun z => absurd (Eq.symm (ju_eq t1 hn _)) z)
theorem lc_9 (C0 : lw_At p s m meth c b L xs) (hg : g.2.1 = s.heap.size) (hL : L ≤ 320) (ht : 5 * t + 5 ≤ L) (h : Inv q0 q1 N I) (k : LK g nm (p, e, s, m, #[Value.ref b], below, meth, c) (lw_Z below #[Value.ref b] s) b t) : X g (mL nm) (p, e, s, m, #[Value.ref b], below, meth, c) (lw_Z below #[Value.ref b] s) (58 + 11 * t) (1345 + 85 * t) 449 (llo b g.2.1 t) [] N I Lx (zRw q0 q1) := by
  obtain ⟨n, hn, hc⟩ := h.cnt
  obtain ⟨n8, hn8, hs8⟩ : ∃ n, n ≤ 8 ∧ I 1 10 = nI n := h.live.sn
  refine x_aload_n (x := g.2.1 + 0) dL_law_449 rfl ?_
  refine y_call dL_law_450 ml_L_54 mt_X8_done mv_X8_done (ct_X8_done h.hc h.b0 hc hn h.live.sf) (k := 0) (Nat.lt_of_lt_of_le (by decide) h.hc) rfl rfl rfl rfl (Nat.le_of_ble_eq_true rfl) ⟨(Nat.le_of_ble_eq_true rfl), (Nat.le_of_ble_eq_true rfl)⟩ ⟨rfl, rfl⟩ ⟨by omega, by omega⟩ (pc2 := 453) rfl (fun r N1 I1 L1 R1 hp => ?_)
  obtain ⟨rfl, rfl, rfl, rfl, hs1, h33⟩ := hp
  have hJ : ∀ c, 39 ≤ c → (doI I n) c = I c := by
    intro c hc
    unfold doI
    split
    · rw [zrn _ _ (by omega), zbec_out (by omega), dy_far (by omega)]
    · rfl
  have t1 : Two I I1 := h.two1 hJ hs1
  refine x_aload_n (x := g.2.1 + 40) dL_law_453 rfl ?_
  refine y_call dL_law_454 ml_L_57 mt_X9_done mv_X9_done (ct_X9_done h.hc (t1.eC.trans hc) hn) (k := 40) (Nat.lt_of_lt_of_le (by decide) h.hc) rfl rfl rfl rfl (Nat.le_of_ble_eq_true rfl) ⟨(Nat.le_of_ble_eq_true rfl), (Nat.le_of_ble_eq_true rfl)⟩ ⟨rfl, rfl⟩ ⟨by omega, by omega⟩ (pc2 := 457) rfl (fun r N3 I3 L3 R3 hp => ?_)
  obtain ⟨rfl, rfl, rfl, hs2, h7, h9⟩ := hp
  have hK : ∀ c, c < 40 ∨ 56 ≤ c → (kdoI I1 n) c = I1 c := by
    intro c hc
    unfold kdoI
    split
    · rw [zrn _ _ (by omega), zrow_ne _ _ (by omega), kdy_far (nscr (by omega))]
    · rfl
  refine x_icmp_eq (tgt := 980) dL_law_457 (by decide) (fun _ => k.use (h.step hJ hs1 h33 hK hs2 h7 h9 (do_two t1 hn))) (fun z => absurd (Eq.symm (do_eq t1 hn)) z)
theorem lc_10 (C0 : lw_At p s m meth c b L xs) (hg : g.2.1 = s.heap.size) (hL : L ≤ 320) (ht : 5 * t + 5 ≤ L) (h : Inv q0 q1 N I) (k : LK g nm (p, e, s, m, #[Value.ref b], below, meth, c) (lw_Z below #[Value.ref b] s) b t) : X g (mL nm) (p, e, s, m, #[Value.ref b], below, meth, c) (lw_Z below #[Value.ref b] s) (58 + 11 * t) (1345 + 85 * t) 462 (llo b g.2.1 t) [] N I Lx (zRw q0 q1) := by
  obtain ⟨n, hn, hc⟩ := h.cnt
  obtain ⟨n8, hn8, hs8⟩ : ∃ n, n ≤ 8 ∧ I 1 10 = nI n := h.live.sn
  refine x_aload_n (x := g.2.1 + 0) dL_law_462 rfl ?_
  refine y_arg C0 hg hL (k := 1) dL_law_463 dL_law_464 dL_law_465 dL_law_466 dL_law_467 (by decide) (by omega) (pc2 := 468) rfl ?_
  refine y_arg C0 hg hL (k := 2) dL_law_468 dL_law_469 dL_law_470 dL_law_471 dL_law_472 (by decide) (by omega) (pc2 := 473) rfl ?_
  refine y_call dL_law_473 ml_L_58 mt_X8_behind mv_X8_behind (ct_X8_behind h.hc h.b0 hc hn h.live.sf) (k := 0) (Nat.lt_of_lt_of_le (by decide) h.hc) rfl rfl rfl rfl (Nat.le_of_ble_eq_true rfl) ⟨(Nat.le_of_ble_eq_true rfl), (Nat.le_of_ble_eq_true rfl)⟩ ⟨rfl, rfl⟩ ⟨by omega, by omega⟩ (pc2 := 476) rfl (fun r N1 I1 L1 R1 hp => ?_)
  obtain ⟨rfl, rfl, rfl, rfl, hs1, h33⟩ := hp
  have hJ : ∀ c, 39 ≤ c → (I) c = I c := by
    intro c hc
    rfl
  have t1 : Two I I1 := h.two1 hJ hs1
  refine x_aload_n (x := g.2.1 + 40) dL_law_476 rfl ?_
  refine y_arg C0 hg hL (k := 1) dL_law_477 dL_law_478 dL_law_479 dL_law_480 dL_law_481 (by decide) (by omega) (pc2 := 482) rfl ?_
  refine y_arg C0 hg hL (k := 2) dL_law_482 dL_law_483 dL_law_484 dL_law_485 dL_law_486 (by decide) (by omega) (pc2 := 487) rfl ?_
  refine y_call dL_law_487 ml_L_62 mt_X9_behind mv_X9_behind (ct_X9_behind h.hc (t1.eC.trans hc) hn) (k := 40) (Nat.lt_of_lt_of_le (by decide) h.hc) rfl rfl rfl rfl (Nat.le_of_ble_eq_true rfl) ⟨(Nat.le_of_ble_eq_true rfl), (Nat.le_of_ble_eq_true rfl)⟩ ⟨rfl, rfl⟩ ⟨by omega, by omega⟩ (pc2 := 490) rfl (fun r N3 I3 L3 R3 hp => ?_)
  obtain ⟨rfl, rfl, rfl, hs2, h7, h9⟩ := hp
  have hK : ∀ c, c < 40 ∨ 56 ≤ c → (I1) c = I1 c := by
    intro c hc
    rfl
  refine x_icmp_eq (tgt := 980) dL_law_490 (by decide) (fun _ => k.use (h.step hJ hs1 h33 hK hs2 h7 h9 t1)) (fun z => absurd (Eq.symm (be_eq t1 hn _ _)) z)
theorem lc_11 (C0 : lw_At p s m meth c b L xs) (hg : g.2.1 = s.heap.size) (hL : L ≤ 320) (ht : 5 * t + 5 ≤ L) (h : Inv q0 q1 N I) (k : LK g nm (p, e, s, m, #[Value.ref b], below, meth, c) (lw_Z below #[Value.ref b] s) b t) : X g (mL nm) (p, e, s, m, #[Value.ref b], below, meth, c) (lw_Z below #[Value.ref b] s) (58 + 11 * t) (1345 + 85 * t) 495 (llo b g.2.1 t) [] N I Lx (zRw q0 q1) := by
  obtain ⟨n, hn, hc⟩ := h.cnt
  obtain ⟨n8, hn8, hs8⟩ : ∃ n, n ≤ 8 ∧ I 1 10 = nI n := h.live.sn
  refine x_aload_n (x := g.2.1 + 0) dL_law_495 rfl ?_
  refine y_arg C0 hg hL (k := 1) dL_law_496 dL_law_497 dL_law_498 dL_law_499 dL_law_500 (by decide) (by omega) (pc2 := 501) rfl ?_
  refine y_call dL_law_501 ml_L_63 mt_X8_then mv_X8_then (ct_X8_then h.hc h.b0 hc hn h.live.sf) (k := 0) (Nat.lt_of_lt_of_le (by decide) h.hc) rfl rfl rfl rfl (Nat.le_of_ble_eq_true rfl) ⟨(Nat.le_of_ble_eq_true rfl), (Nat.le_of_ble_eq_true rfl)⟩ ⟨rfl, rfl⟩ ⟨by omega, by omega⟩ (pc2 := 504) rfl (fun r N1 I1 L1 R1 hp => ?_)
  obtain ⟨rfl, rfl, rfl, rfl, hs1, h33⟩ := hp
  have hJ : ∀ c, 39 ≤ c → (I) c = I c := by
    intro c hc
    rfl
  have t1 : Two I I1 := h.two1 hJ hs1
  refine x_aload_n (x := g.2.1 + 40) dL_law_504 rfl ?_
  refine y_arg C0 hg hL (k := 1) dL_law_505 dL_law_506 dL_law_507 dL_law_508 dL_law_509 (by decide) (by omega) (pc2 := 510) rfl ?_
  refine y_call dL_law_510 ml_L_66 mt_X9_then mv_X9_then (ct_X9_then h.hc (t1.eC.trans hc) hn) (k := 40) (Nat.lt_of_lt_of_le (by decide) h.hc) rfl rfl rfl rfl (Nat.le_of_ble_eq_true rfl) ⟨(Nat.le_of_ble_eq_true rfl), (Nat.le_of_ble_eq_true rfl)⟩ ⟨rfl, rfl⟩ ⟨by omega, by omega⟩ (pc2 := 513) rfl (fun r N3 I3 L3 R3 hp => ?_)
  obtain ⟨rfl, rfl, rfl, hs2, h7, h9⟩ := hp
  have hK : ∀ c, c < 40 ∨ 56 ≤ c → (I1) c = I1 c := by
    intro c hc
    rfl
  refine x_icmp_eq (tgt := 980) dL_law_513 (by decide) (fun _ => k.use (h.step hJ hs1 h33 hK hs2 h7 h9 t1)) (fun z => absurd (Eq.symm (th_eq t1 hn _)) z)
theorem lc_12 (C0 : lw_At p s m meth c b L xs) (hg : g.2.1 = s.heap.size) (hL : L ≤ 320) (ht : 5 * t + 5 ≤ L) (h : Inv q0 q1 N I) (k : LK g nm (p, e, s, m, #[Value.ref b], below, meth, c) (lw_Z below #[Value.ref b] s) b t) : X g (mL nm) (p, e, s, m, #[Value.ref b], below, meth, c) (lw_Z below #[Value.ref b] s) (58 + 11 * t) (1345 + 85 * t) 518 (llo b g.2.1 t) [] N I Lx (zRw q0 q1) := by
  obtain ⟨n, hn, hc⟩ := h.cnt
  obtain ⟨n8, hn8, hs8⟩ : ∃ n, n ≤ 8 ∧ I 1 10 = nI n := h.live.sn
  refine x_aload_n (x := g.2.1 + 0) dL_law_518 rfl ?_
  refine y_arg C0 hg hL (k := 1) dL_law_519 dL_law_520 dL_law_521 dL_law_522 dL_law_523 (by decide) (by omega) (pc2 := 524) rfl ?_
  refine y_call dL_law_524 ml_L_67 mt_X8_fitting mv_X8_fitting (ct_X8_fitting h.hc h.b0) (k := 0) (Nat.lt_of_lt_of_le (by decide) h.hc) rfl rfl rfl rfl (Nat.le_of_ble_eq_true rfl) ⟨(Nat.le_of_ble_eq_true rfl), (Nat.le_of_ble_eq_true rfl)⟩ ⟨rfl, rfl⟩ ⟨by omega, by omega⟩ (pc2 := 527) rfl (fun r N1 I1 L1 R1 hp => ?_)
  obtain ⟨rfl, rfl, rfl, rfl, hs1, h33⟩ := hp
  have hJ : ∀ c, 39 ≤ c → (I) c = I c := by
    intro c hc
    rfl
  have t1 : Two I I1 := h.two1 hJ hs1
  refine x_aload_n (x := g.2.1 + 40) dL_law_527 rfl ?_
  refine y_arg C0 hg hL (k := 1) dL_law_528 dL_law_529 dL_law_530 dL_law_531 dL_law_532 (by decide) (by omega) (pc2 := 533) rfl ?_
  refine y_call dL_law_533 ml_L_70 mt_X9_fitting mv_X9_fitting (ct_X9_fitting h.hc) (k := 40) (Nat.lt_of_lt_of_le (by decide) h.hc) rfl rfl rfl rfl (Nat.le_of_ble_eq_true rfl) ⟨(Nat.le_of_ble_eq_true rfl), (Nat.le_of_ble_eq_true rfl)⟩ ⟨rfl, rfl⟩ ⟨by omega, by omega⟩ (pc2 := 536) rfl (fun r N3 I3 L3 R3 hp => ?_)
  obtain ⟨rfl, rfl, rfl, hs2, h7, h9⟩ := hp
  have hK : ∀ c, c < 40 ∨ 56 ≤ c → (I1) c = I1 c := by
    intro c hc
    rfl
  refine x_icmp_eq (tgt := 980) dL_law_536 (by decide) (fun _ => k.use (h.step hJ hs1 h33 hK hs2 h7 h9 t1)) (fun z => absurd (Eq.symm (fi_two t1.rl _)) z)
theorem lc_13 (C0 : lw_At p s m meth c b L xs) (hg : g.2.1 = s.heap.size) (hL : L ≤ 320) (ht : 5 * t + 5 ≤ L) (h : Inv q0 q1 N I) (k : LK g nm (p, e, s, m, #[Value.ref b], below, meth, c) (lw_Z below #[Value.ref b] s) b t) : X g (mL nm) (p, e, s, m, #[Value.ref b], below, meth, c) (lw_Z below #[Value.ref b] s) (58 + 11 * t) (1345 + 85 * t) 541 (llo b g.2.1 t) [] N I Lx (zRw q0 q1) := by
  obtain ⟨n, hn, hc⟩ := h.cnt
  obtain ⟨n8, hn8, hs8⟩ : ∃ n, n ≤ 8 ∧ I 1 10 = nI n := h.live.sn
  refine x_aload_n (x := g.2.1 + 0) dL_law_541 rfl ?_
  refine y_arg C0 hg hL (k := 1) dL_law_542 dL_law_543 dL_law_544 dL_law_545 dL_law_546 (by decide) (by omega) (pc2 := 547) rfl ?_
  refine y_arg C0 hg hL (k := 2) dL_law_547 dL_law_548 dL_law_549 dL_law_550 dL_law_551 (by decide) (by omega) (pc2 := 552) rfl ?_
  refine y_call dL_law_552 ml_L_71 mt_X8_least mv_X8_least (ct_X8_least h.hc h.b0 h.hw.1 h.hw.2.1 h.hw.2.2) (k := 0) (Nat.lt_of_lt_of_le (by decide) h.hc) rfl rfl rfl rfl (Nat.le_of_ble_eq_true rfl) ⟨(Nat.le_of_ble_eq_true rfl), (Nat.le_of_ble_eq_true rfl)⟩ ⟨rfl, rfl⟩ ⟨by omega, by omega⟩ (pc2 := 555) rfl (fun r N1 I1 L1 R1 hp => ?_)
  obtain ⟨rfl, rfl, rfl, rfl, hs1, h33⟩ := hp
  have hJ : ∀ c, 39 ≤ c → (I) c = I c := by
    intro c hc
    rfl
  have t1 : Two I I1 := h.two1 hJ hs1
  have i1 : Inv q0 q1 N1 I1 := h.seen hs1 h33
  refine x_aload_n (x := g.2.1 + 40) dL_law_555 rfl ?_
  refine y_arg C0 hg hL (k := 1) dL_law_556 dL_law_557 dL_law_558 dL_law_559 dL_law_560 (by decide) (by omega) (pc2 := 561) rfl ?_
  refine y_arg C0 hg hL (k := 2) dL_law_561 dL_law_562 dL_law_563 dL_law_564 dL_law_565 (by decide) (by omega) (pc2 := 566) rfl ?_
  refine y_call dL_law_566 ml_L_74 mt_X9_least mv_X9_least (ct_X9_least h.hc i1.hk.1 i1.hk.2.1 i1.hk.2.2) (k := 40) (Nat.lt_of_lt_of_le (by decide) h.hc) rfl rfl rfl rfl (Nat.le_of_ble_eq_true rfl) ⟨(Nat.le_of_ble_eq_true rfl), (Nat.le_of_ble_eq_true rfl)⟩ ⟨rfl, rfl⟩ ⟨by omega, by omega⟩ (pc2 := 569) rfl (fun r N3 I3 L3 R3 hp => ?_)
  obtain ⟨rfl, rfl, rfl, hs2, h7, h9⟩ := hp
  have hK : ∀ c, c < 40 ∨ 56 ≤ c → (I1) c = I1 c := by
    intro c hc
    rfl
  refine x_icmp_eq (tgt := 980) dL_law_569 (by decide) (fun _ => k.use (h.step hJ hs1 h33 hK hs2 h7 h9 t1)) (fun z => absurd (Eq.symm (le_two t1.rl _ _)) z)
theorem lc_14 (C0 : lw_At p s m meth c b L xs) (hg : g.2.1 = s.heap.size) (hL : L ≤ 320) (ht : 5 * t + 5 ≤ L) (h : Inv q0 q1 N I) (k : LK g nm (p, e, s, m, #[Value.ref b], below, meth, c) (lw_Z below #[Value.ref b] s) b t) : X g (mL nm) (p, e, s, m, #[Value.ref b], below, meth, c) (lw_Z below #[Value.ref b] s) (58 + 11 * t) (1345 + 85 * t) 574 (llo b g.2.1 t) [] N I Lx (zRw q0 q1) := by
  obtain ⟨n, hn, hc⟩ := h.cnt
  obtain ⟨n8, hn8, hs8⟩ : ∃ n, n ≤ 8 ∧ I 1 10 = nI n := h.live.sn
  refine x_aload_n (x := g.2.1 + 0) dL_law_574 rfl ?_
  refine y_arg C0 hg hL (k := 1) dL_law_575 dL_law_576 dL_law_577 dL_law_578 dL_law_579 (by decide) (by omega) (pc2 := 580) rfl ?_
  refine y_call dL_law_580 ml_L_75 mt_X8_order mv_X8_order (ct_X8_order h.hc h.b0 h.hw.1 h.hw.2.1 h.hw.2.2) (k := 0) (Nat.lt_of_lt_of_le (by decide) h.hc) rfl rfl rfl rfl (Nat.le_of_ble_eq_true rfl) ⟨(Nat.le_of_ble_eq_true rfl), (Nat.le_of_ble_eq_true rfl)⟩ ⟨rfl, rfl⟩ ⟨by omega, by omega⟩ (pc2 := 583) rfl (fun r N1 I1 L1 R1 hp => ?_)
  obtain ⟨rfl, rfl, rfl, rfl, hs1, h33⟩ := hp
  have hJ : ∀ c, 39 ≤ c → (I) c = I c := by
    intro c hc
    rfl
  have t1 : Two I I1 := h.two1 hJ hs1
  have i1 : Inv q0 q1 N1 I1 := h.seen hs1 h33
  refine x_aload_n (x := g.2.1 + 40) dL_law_583 rfl ?_
  refine y_arg C0 hg hL (k := 1) dL_law_584 dL_law_585 dL_law_586 dL_law_587 dL_law_588 (by decide) (by omega) (pc2 := 589) rfl ?_
  refine y_call dL_law_589 ml_L_78 mt_X9_order mv_X9_order (ct_X9_order h.hc i1.hk.1 i1.hk.2.1 i1.hk.2.2) (k := 40) (Nat.lt_of_lt_of_le (by decide) h.hc) rfl rfl rfl rfl (Nat.le_of_ble_eq_true rfl) ⟨(Nat.le_of_ble_eq_true rfl), (Nat.le_of_ble_eq_true rfl)⟩ ⟨rfl, rfl⟩ ⟨by omega, by omega⟩ (pc2 := 592) rfl (fun r N3 I3 L3 R3 hp => ?_)
  obtain ⟨rfl, rfl, rfl, hs2, h7, h9⟩ := hp
  have hK : ∀ c, c < 40 ∨ 56 ≤ c → (I1) c = I1 c := by
    intro c hc
    rfl
  refine x_icmp_eq (tgt := 980) dL_law_592 (by decide) (fun _ => k.use (h.step hJ hs1 h33 hK hs2 h7 h9 t1)) (fun z => absurd (Eq.symm (or_two t1.rl _)) z)
theorem lc_15 (C0 : lw_At p s m meth c b L xs) (hg : g.2.1 = s.heap.size) (hL : L ≤ 320) (ht : 5 * t + 5 ≤ L) (h : Inv q0 q1 N I) (k : LK g nm (p, e, s, m, #[Value.ref b], below, meth, c) (lw_Z below #[Value.ref b] s) b t) : X g (mL nm) (p, e, s, m, #[Value.ref b], below, meth, c) (lw_Z below #[Value.ref b] s) (58 + 11 * t) (1345 + 85 * t) 597 (llo b g.2.1 t) [] N I Lx (zRw q0 q1) := by
  obtain ⟨n, hn, hc⟩ := h.cnt
  obtain ⟨n8, hn8, hs8⟩ : ∃ n, n ≤ 8 ∧ I 1 10 = nI n := h.live.sn
  refine x_aload_n (x := g.2.1 + 0) dL_law_597 rfl ?_
  refine y_arg C0 hg hL (k := 1) dL_law_598 dL_law_599 dL_law_600 dL_law_601 dL_law_602 (by decide) (by omega) (pc2 := 603) rfl ?_
  refine y_arg C0 hg hL (k := 2) dL_law_603 dL_law_604 dL_law_605 dL_law_606 dL_law_607 (by decide) (by omega) (pc2 := 608) rfl ?_
  refine y_call dL_law_608 ml_L_79 mt_X8_make mv_X8_make (ct_X8_make h.hc h.b0) (k := 0) (Nat.lt_of_lt_of_le (by decide) h.hc) rfl rfl rfl rfl (Nat.le_of_ble_eq_true rfl) ⟨(Nat.le_of_ble_eq_true rfl), (Nat.le_of_ble_eq_true rfl)⟩ ⟨rfl, rfl⟩ ⟨by omega, by omega⟩ (pc2 := 611) rfl (fun r N1 I1 L1 R1 hp => ?_)
  obtain ⟨rfl, rfl, rfl, rfl, hs1, h33⟩ := hp
  have hJ : ∀ c, 39 ≤ c → (I) c = I c := by
    intro c hc
    rfl
  have t1 : Two I I1 := h.two1 hJ hs1
  refine x_aload_n (x := g.2.1 + 40) dL_law_611 rfl ?_
  refine y_arg C0 hg hL (k := 1) dL_law_612 dL_law_613 dL_law_614 dL_law_615 dL_law_616 (by decide) (by omega) (pc2 := 617) rfl ?_
  refine y_arg C0 hg hL (k := 2) dL_law_617 dL_law_618 dL_law_619 dL_law_620 dL_law_621 (by decide) (by omega) (pc2 := 622) rfl ?_
  refine y_call dL_law_622 ml_L_82 mt_X9_make mv_X9_make (ct_X9_make h.hc) (k := 40) (Nat.lt_of_lt_of_le (by decide) h.hc) rfl rfl rfl rfl (Nat.le_of_ble_eq_true rfl) ⟨(Nat.le_of_ble_eq_true rfl), (Nat.le_of_ble_eq_true rfl)⟩ ⟨rfl, rfl⟩ ⟨by omega, by omega⟩ (pc2 := 625) rfl (fun r N3 I3 L3 R3 hp => ?_)
  obtain ⟨rfl, rfl, rfl, hs2, h7, h9⟩ := hp
  have hK : ∀ c, c < 40 ∨ 56 ≤ c → (I1) c = I1 c := by
    intro c hc
    rfl
  refine x_icmp_eq (tgt := 980) dL_law_625 (by decide) (fun _ => k.use (h.step hJ hs1 h33 hK hs2 h7 h9 t1)) (fun z => absurd (Eq.symm (ma_two t1.rl _ _)) z)
theorem lc_16 (C0 : lw_At p s m meth c b L xs) (hg : g.2.1 = s.heap.size) (hL : L ≤ 320) (ht : 5 * t + 5 ≤ L) (h : Inv q0 q1 N I) (k : LK g nm (p, e, s, m, #[Value.ref b], below, meth, c) (lw_Z below #[Value.ref b] s) b t) : X g (mL nm) (p, e, s, m, #[Value.ref b], below, meth, c) (lw_Z below #[Value.ref b] s) (58 + 11 * t) (1345 + 85 * t) 630 (llo b g.2.1 t) [] N I Lx (zRw q0 q1) := by
  obtain ⟨n, hn, hc⟩ := h.cnt
  obtain ⟨n8, hn8, hs8⟩ : ∃ n, n ≤ 8 ∧ I 1 10 = nI n := h.live.sn
  refine x_aload_n (x := g.2.1 + 0) dL_law_630 rfl ?_
  refine y_arg C0 hg hL (k := 1) dL_law_631 dL_law_632 dL_law_633 dL_law_634 dL_law_635 (by decide) (by omega) (pc2 := 636) rfl ?_
  refine y_arg C0 hg hL (k := 2) dL_law_636 dL_law_637 dL_law_638 dL_law_639 dL_law_640 (by decide) (by omega) (pc2 := 641) rfl ?_
  refine y_arg C0 hg hL (k := 3) dL_law_641 dL_law_642 dL_law_643 dL_law_644 dL_law_645 (by decide) (by omega) (pc2 := 646) rfl ?_
  refine y_call dL_law_646 ml_L_83 mt_X8_ring mv_X8_ring (ct_X8_ring h.hc h.b0) (k := 0) (Nat.lt_of_lt_of_le (by decide) h.hc) rfl rfl rfl rfl (Nat.le_of_ble_eq_true rfl) ⟨(Nat.le_of_ble_eq_true rfl), (Nat.le_of_ble_eq_true rfl)⟩ ⟨rfl, rfl⟩ ⟨by omega, by omega⟩ (pc2 := 649) rfl (fun r N1 I1 L1 R1 hp => ?_)
  obtain ⟨rfl, rfl, rfl, rfl, hs1, h33⟩ := hp
  have hJ : ∀ c, 39 ≤ c → (I) c = I c := by
    intro c hc
    rfl
  have t1 : Two I I1 := h.two1 hJ hs1
  refine x_aload_n (x := g.2.1 + 40) dL_law_649 rfl ?_
  refine y_arg C0 hg hL (k := 1) dL_law_650 dL_law_651 dL_law_652 dL_law_653 dL_law_654 (by decide) (by omega) (pc2 := 655) rfl ?_
  refine y_arg C0 hg hL (k := 2) dL_law_655 dL_law_656 dL_law_657 dL_law_658 dL_law_659 (by decide) (by omega) (pc2 := 660) rfl ?_
  refine y_arg C0 hg hL (k := 3) dL_law_660 dL_law_661 dL_law_662 dL_law_663 dL_law_664 (by decide) (by omega) (pc2 := 665) rfl ?_
  refine y_call dL_law_665 ml_L_86 mt_X9_ring mv_X9_ring (ct_X9_ring h.hc) (k := 40) (Nat.lt_of_lt_of_le (by decide) h.hc) rfl rfl rfl rfl (Nat.le_of_ble_eq_true rfl) ⟨(Nat.le_of_ble_eq_true rfl), (Nat.le_of_ble_eq_true rfl)⟩ ⟨rfl, rfl⟩ ⟨by omega, by omega⟩ (pc2 := 668) rfl (fun r N3 I3 L3 R3 hp => ?_)
  obtain ⟨rfl, rfl, rfl, hs2, h7, h9⟩ := hp
  have hK : ∀ c, c < 40 ∨ 56 ≤ c → (I1) c = I1 c := by
    intro c hc
    rfl
  refine x_icmp_eq (tgt := 980) dL_law_668 (by decide) (fun _ => k.use (h.step hJ hs1 h33 hK hs2 h7 h9 t1)) (fun z => absurd (Eq.symm (ri_two t1.rl _ _ _)) z)
theorem lc_17 (C0 : lw_At p s m meth c b L xs) (hg : g.2.1 = s.heap.size) (hL : L ≤ 320) (ht : 5 * t + 5 ≤ L) (h : Inv q0 q1 N I) (k : LK g nm (p, e, s, m, #[Value.ref b], below, meth, c) (lw_Z below #[Value.ref b] s) b t) : X g (mL nm) (p, e, s, m, #[Value.ref b], below, meth, c) (lw_Z below #[Value.ref b] s) (58 + 11 * t) (1345 + 85 * t) 673 (llo b g.2.1 t) [] N I Lx (zRw q0 q1) := by
  obtain ⟨n, hn, hc⟩ := h.cnt
  obtain ⟨n8, hn8, hs8⟩ : ∃ n, n ≤ 8 ∧ I 1 10 = nI n := h.live.sn
  refine x_aload_n (x := g.2.1 + 0) dL_law_673 rfl ?_
  refine y_arg C0 hg hL (k := 1) dL_law_674 dL_law_675 dL_law_676 dL_law_677 dL_law_678 (by decide) (by omega) (pc2 := 679) rfl ?_
  refine y_arg C0 hg hL (k := 2) dL_law_679 dL_law_680 dL_law_681 dL_law_682 dL_law_683 (by decide) (by omega) (pc2 := 684) rfl ?_
  refine y_bool (p1 := 687) (p2 := 688) (p3 := 691) (p4 := 692) dL_law_684 dL_law_687 dL_law_688 dL_law_691 rfl rfl rfl rfl rfl ?_
  refine y_call dL_law_692 ml_L_87 mt_X8_seen mv_X8_seen (ct_X8_seen h.hc h.b0 hn8 hs8) (k := 0) (Nat.lt_of_lt_of_le (by decide) h.hc) rfl rfl rfl rfl (Nat.le_of_ble_eq_true rfl) ⟨(Nat.le_of_ble_eq_true rfl), (Nat.le_of_ble_eq_true rfl)⟩ ⟨rfl, rfl⟩ ⟨by omega, by omega⟩ (pc2 := 695) rfl (fun r N1 I1 L1 R1 hp => ?_)
  obtain ⟨rfl, rfl, rfl, rfl, hs1, h33⟩ := hp
  have hJ : ∀ c, 39 ≤ c → (seI I n8 (xs (5 * t + 1)) (decide (¬ xs (5 * t + 2) = 0))) c = I c := by
    intro c hc
    unfold seI
    split
    · rw [zrn _ _ (by omega), zrn _ _ (by omega), zrn _ _ (by omega)]
    · rfl
  have t1 : Two I I1 := h.two1 hJ hs1
  refine x_aload_n (x := g.2.1 + 40) dL_law_695 rfl ?_
  refine y_arg C0 hg hL (k := 1) dL_law_696 dL_law_697 dL_law_698 dL_law_699 dL_law_700 (by decide) (by omega) (pc2 := 701) rfl ?_
  refine y_arg C0 hg hL (k := 2) dL_law_701 dL_law_702 dL_law_703 dL_law_704 dL_law_705 (by decide) (by omega) (pc2 := 706) rfl ?_
  refine y_bool (p1 := 709) (p2 := 710) (p3 := 713) (p4 := 714) dL_law_706 dL_law_709 dL_law_710 dL_law_713 rfl rfl rfl rfl rfl ?_
  refine y_call dL_law_714 ml_L_91 mt_X9_seen mv_X9_seen (ct_X9_seen h.hc ((k_N t1.rl).trans hs8) hn8) (k := 40) (Nat.lt_of_lt_of_le (by decide) h.hc) rfl rfl rfl rfl (Nat.le_of_ble_eq_true rfl) ⟨(Nat.le_of_ble_eq_true rfl), (Nat.le_of_ble_eq_true rfl)⟩ ⟨rfl, rfl⟩ ⟨by omega, by omega⟩ (pc2 := 717) rfl (fun r N3 I3 L3 R3 hp => ?_)
  obtain ⟨rfl, rfl, rfl, hs2, h7, h9⟩ := hp
  have hK : ∀ c, c < 40 ∨ 56 ≤ c → (kseI I1 n8 (xs (5 * t + 1)) (decide (¬ xs (5 * t + 2) = 0))) c = I1 c := by
    intro c hc
    unfold kseI
    split
    · rw [zrn _ _ (by omega), zrn _ _ (by omega), zrn _ _ (by omega)]
    · rfl
  refine x_icmp_eq (tgt := 980) dL_law_717 (by decide) (fun _ => k.use (h.step hJ hs1 h33 hK hs2 h7 h9 (se_two t1 hn8 hs8 _ _))) (fun z => absurd (Eq.symm (Eq.refl _)) z)
theorem lc_18 (C0 : lw_At p s m meth c b L xs) (hg : g.2.1 = s.heap.size) (hL : L ≤ 320) (ht : 5 * t + 5 ≤ L) (h : Inv q0 q1 N I) (k : LK g nm (p, e, s, m, #[Value.ref b], below, meth, c) (lw_Z below #[Value.ref b] s) b t) : X g (mL nm) (p, e, s, m, #[Value.ref b], below, meth, c) (lw_Z below #[Value.ref b] s) (58 + 11 * t) (1345 + 85 * t) 722 (llo b g.2.1 t) [] N I Lx (zRw q0 q1) := by
  obtain ⟨n, hn, hc⟩ := h.cnt
  obtain ⟨n8, hn8, hs8⟩ : ∃ n, n ≤ 8 ∧ I 1 10 = nI n := h.live.sn
  refine x_aload_n (x := g.2.1 + 0) dL_law_722 rfl ?_
  refine y_call dL_law_723 ml_L_92 mt_X8_forget mv_X8_forget (ct_X8_forget h.hc h.b0) (k := 0) (Nat.lt_of_lt_of_le (by decide) h.hc) rfl rfl rfl rfl (Nat.le_of_ble_eq_true rfl) ⟨(Nat.le_of_ble_eq_true rfl), (Nat.le_of_ble_eq_true rfl)⟩ ⟨rfl, rfl⟩ ⟨by omega, by omega⟩ (pc2 := 726) rfl (fun r N1 I1 L1 R1 hp => ?_)
  obtain ⟨rfl, rfl, rfl, rfl, hs1, h33⟩ := hp
  have hJ : ∀ c, 39 ≤ c → (zu I 1 10 0) c = I c := by
    intro c hc
    rw [zrn _ _ (by omega)]
  have t1 : Two I I1 := h.two1 hJ hs1
  refine x_aload_n (x := g.2.1 + 40) dL_law_726 rfl ?_
  refine y_call dL_law_727 ml_L_95 mt_X9_forget mv_X9_forget (ct_X9_forget h.hc) (k := 40) (Nat.lt_of_lt_of_le (by decide) h.hc) rfl rfl rfl rfl (Nat.le_of_ble_eq_true rfl) ⟨(Nat.le_of_ble_eq_true rfl), (Nat.le_of_ble_eq_true rfl)⟩ ⟨rfl, rfl⟩ ⟨by omega, by omega⟩ (pc2 := 730) rfl (fun r N3 I3 L3 R3 hp => ?_)
  obtain ⟨rfl, rfl, rfl, hs2, h7, h9⟩ := hp
  have hK : ∀ c, c < 40 ∨ 56 ≤ c → (zu I1 40 7 0) c = I1 c := by
    intro c hc
    rw [zrn _ _ (by omega)]
  refine x_icmp_eq (tgt := 980) dL_law_730 (by decide) (fun _ => k.use (h.step hJ hs1 h33 hK hs2 h7 h9 (fo_two t1))) (fun z => absurd (Eq.symm (k_N t1.rl)) z)
theorem lc_19 (C0 : lw_At p s m meth c b L xs) (hg : g.2.1 = s.heap.size) (hL : L ≤ 320) (ht : 5 * t + 5 ≤ L) (h : Inv q0 q1 N I) (k : LK g nm (p, e, s, m, #[Value.ref b], below, meth, c) (lw_Z below #[Value.ref b] s) b t) : X g (mL nm) (p, e, s, m, #[Value.ref b], below, meth, c) (lw_Z below #[Value.ref b] s) (58 + 11 * t) (1345 + 85 * t) 735 (llo b g.2.1 t) [] N I Lx (zRw q0 q1) := by
  obtain ⟨n, hn, hc⟩ := h.cnt
  obtain ⟨n8, hn8, hs8⟩ : ∃ n, n ≤ 8 ∧ I 1 10 = nI n := h.live.sn
  refine x_aload_n (x := g.2.1 + 0) dL_law_735 rfl ?_
  refine y_arg C0 hg hL (k := 1) dL_law_736 dL_law_737 dL_law_738 dL_law_739 dL_law_740 (by decide) (by omega) (pc2 := 741) rfl ?_
  refine y_call dL_law_741 ml_L_96 mt_X8_shape mv_X8_shape (ct_X8_shape h.hc h.b0 hn8 hs8 h.live.sh) (k := 0) (Nat.lt_of_lt_of_le (by decide) h.hc) rfl rfl rfl rfl (Nat.le_of_ble_eq_true rfl) ⟨(Nat.le_of_ble_eq_true rfl), (Nat.le_of_ble_eq_true rfl)⟩ ⟨rfl, rfl⟩ ⟨by omega, by omega⟩ (pc2 := 744) rfl (fun r N1 I1 L1 R1 hp => ?_)
  obtain ⟨rfl, rfl, rfl, rfl, hs1, h33⟩ := hp
  have hJ : ∀ c, 39 ≤ c → (I) c = I c := by
    intro c hc
    rfl
  have t1 : Two I I1 := h.two1 hJ hs1
  refine x_aload_n (x := g.2.1 + 40) dL_law_744 rfl ?_
  refine y_arg C0 hg hL (k := 1) dL_law_745 dL_law_746 dL_law_747 dL_law_748 dL_law_749 (by decide) (by omega) (pc2 := 750) rfl ?_
  refine y_call dL_law_750 ml_L_99 mt_X9_shape mv_X9_shape (ct_X9_shape h.hc ((k_N t1.rl).trans hs8) hn8 (k_sig t1.rl)) (k := 40) (Nat.lt_of_lt_of_le (by decide) h.hc) rfl rfl rfl rfl (Nat.le_of_ble_eq_true rfl) ⟨(Nat.le_of_ble_eq_true rfl), (Nat.le_of_ble_eq_true rfl)⟩ ⟨rfl, rfl⟩ ⟨by omega, by omega⟩ (pc2 := 753) rfl (fun r N3 I3 L3 R3 hp => ?_)
  obtain ⟨rfl, rfl, rfl, hs2, h7, h9⟩ := hp
  have hK : ∀ c, c < 40 ∨ 56 ≤ c → (I1) c = I1 c := by
    intro c hc
    rfl
  refine x_icmp_eq (tgt := 980) dL_law_753 (by decide) (fun _ => k.use (h.step hJ hs1 h33 hK hs2 h7 h9 t1)) (fun z => absurd (Eq.symm (sh_two t1.rl hn8 _)) z)
theorem lc_20 (C0 : lw_At p s m meth c b L xs) (hg : g.2.1 = s.heap.size) (hL : L ≤ 320) (ht : 5 * t + 5 ≤ L) (h : Inv q0 q1 N I) (k : LK g nm (p, e, s, m, #[Value.ref b], below, meth, c) (lw_Z below #[Value.ref b] s) b t) : X g (mL nm) (p, e, s, m, #[Value.ref b], below, meth, c) (lw_Z below #[Value.ref b] s) (58 + 11 * t) (1345 + 85 * t) 758 (llo b g.2.1 t) [] N I Lx (zRw q0 q1) := by
  obtain ⟨n, hn, hc⟩ := h.cnt
  obtain ⟨n8, hn8, hs8⟩ : ∃ n, n ≤ 8 ∧ I 1 10 = nI n := h.live.sn
  refine x_aload_n (x := g.2.1 + 0) dL_law_758 rfl ?_
  refine y_arg C0 hg hL (k := 1) dL_law_759 dL_law_760 dL_law_761 dL_law_762 dL_law_763 (by decide) (by omega) (pc2 := 764) rfl ?_
  refine y_call dL_law_764 ml_L_100 mt_X8_ask mv_X8_ask (ct_X8_ask h.hc h.b0 hn8 hs8 h.live.sh) (k := 0) (Nat.lt_of_lt_of_le (by decide) h.hc) rfl rfl rfl rfl (Nat.le_of_ble_eq_true rfl) ⟨(Nat.le_of_ble_eq_true rfl), (Nat.le_of_ble_eq_true rfl)⟩ ⟨rfl, rfl⟩ ⟨by omega, by omega⟩ (pc2 := 767) rfl (fun r N1 I1 L1 R1 hp => ?_)
  obtain ⟨rfl, rfl, rfl, rfl, hs1, h33⟩ := hp
  have hJ : ∀ c, 39 ≤ c → (I) c = I c := by
    intro c hc
    rfl
  have t1 : Two I I1 := h.two1 hJ hs1
  refine x_aload_n (x := g.2.1 + 40) dL_law_767 rfl ?_
  refine y_arg C0 hg hL (k := 1) dL_law_768 dL_law_769 dL_law_770 dL_law_771 dL_law_772 (by decide) (by omega) (pc2 := 773) rfl ?_
  refine y_call dL_law_773 ml_L_103 mt_X9_ask mv_X9_ask (ct_X9_ask h.hc ((k_N t1.rl).trans hs8) hn8 (k_sig t1.rl)) (k := 40) (Nat.lt_of_lt_of_le (by decide) h.hc) rfl rfl rfl rfl (Nat.le_of_ble_eq_true rfl) ⟨(Nat.le_of_ble_eq_true rfl), (Nat.le_of_ble_eq_true rfl)⟩ ⟨rfl, rfl⟩ ⟨by omega, by omega⟩ (pc2 := 776) rfl (fun r N3 I3 L3 R3 hp => ?_)
  obtain ⟨rfl, rfl, rfl, hs2, h7, h9⟩ := hp
  have hK : ∀ c, c < 40 ∨ 56 ≤ c → (I1) c = I1 c := by
    intro c hc
    rfl
  refine x_icmp_eq (tgt := 980) dL_law_776 (by decide) (fun _ => k.use (h.step hJ hs1 h33 hK hs2 h7 h9 t1)) (fun z => absurd (Eq.symm (as_two t1.rl hn8 _)) z)
theorem lc_21 (C0 : lw_At p s m meth c b L xs) (hg : g.2.1 = s.heap.size) (hL : L ≤ 320) (ht : 5 * t + 5 ≤ L) (h : Inv q0 q1 N I) (k : LK g nm (p, e, s, m, #[Value.ref b], below, meth, c) (lw_Z below #[Value.ref b] s) b t) : X g (mL nm) (p, e, s, m, #[Value.ref b], below, meth, c) (lw_Z below #[Value.ref b] s) (58 + 11 * t) (1345 + 85 * t) 781 (llo b g.2.1 t) [] N I Lx (zRw q0 q1) := by
  obtain ⟨n, hn, hc⟩ := h.cnt
  obtain ⟨n8, hn8, hs8⟩ : ∃ n, n ≤ 8 ∧ I 1 10 = nI n := h.live.sn
  refine x_aload_n (x := g.2.1 + 0) dL_law_781 rfl ?_
  refine y_arg C0 hg hL (k := 1) dL_law_782 dL_law_783 dL_law_784 dL_law_785 dL_law_786 (by decide) (by omega) (pc2 := 787) rfl ?_
  refine y_arg C0 hg hL (k := 2) dL_law_787 dL_law_788 dL_law_789 dL_law_790 dL_law_791 (by decide) (by omega) (pc2 := 792) rfl ?_
  refine y_call dL_law_792 ml_L_104 mt_X8_play mv_X8_play (ct_X8_play h.hc h.b0) (k := 0) (Nat.lt_of_lt_of_le (by decide) h.hc) rfl rfl rfl rfl (Nat.le_of_ble_eq_true rfl) ⟨(Nat.le_of_ble_eq_true rfl), (Nat.le_of_ble_eq_true rfl)⟩ ⟨rfl, rfl⟩ ⟨by omega, by omega⟩ (pc2 := 795) rfl (fun r N1 I1 L1 R1 hp => ?_)
  obtain ⟨rfl, rfl, rfl, rfl, hs1, h33⟩ := hp
  have hJ : ∀ c, 39 ≤ c → (I) c = I c := by
    intro c hc
    rfl
  have t1 : Two I I1 := h.two1 hJ hs1
  refine x_aload_n (x := g.2.1 + 40) dL_law_795 rfl ?_
  refine y_arg C0 hg hL (k := 1) dL_law_796 dL_law_797 dL_law_798 dL_law_799 dL_law_800 (by decide) (by omega) (pc2 := 801) rfl ?_
  refine y_arg C0 hg hL (k := 2) dL_law_801 dL_law_802 dL_law_803 dL_law_804 dL_law_805 (by decide) (by omega) (pc2 := 806) rfl ?_
  refine y_call dL_law_806 ml_L_107 mt_X9_play mv_X9_play (ct_X9_play h.hc) (k := 40) (Nat.lt_of_lt_of_le (by decide) h.hc) rfl rfl rfl rfl (Nat.le_of_ble_eq_true rfl) ⟨(Nat.le_of_ble_eq_true rfl), (Nat.le_of_ble_eq_true rfl)⟩ ⟨rfl, rfl⟩ ⟨by omega, by omega⟩ (pc2 := 809) rfl (fun r N3 I3 L3 R3 hp => ?_)
  obtain ⟨rfl, rfl, rfl, hs2, h7, h9⟩ := hp
  have hK : ∀ c, c < 40 ∨ 56 ≤ c → (I1) c = I1 c := by
    intro c hc
    rfl
  refine x_icmp_eq (tgt := 980) dL_law_809 (by decide) (fun _ => k.use (h.step hJ hs1 h33 hK hs2 h7 h9 t1)) (fun z => absurd (Eq.symm (pl_two t1.rl _ _)) z)
theorem lc_22 (C0 : lw_At p s m meth c b L xs) (hg : g.2.1 = s.heap.size) (hL : L ≤ 320) (ht : 5 * t + 5 ≤ L) (h : Inv q0 q1 N I) (k : LK g nm (p, e, s, m, #[Value.ref b], below, meth, c) (lw_Z below #[Value.ref b] s) b t) : X g (mL nm) (p, e, s, m, #[Value.ref b], below, meth, c) (lw_Z below #[Value.ref b] s) (58 + 11 * t) (1345 + 85 * t) 814 (llo b g.2.1 t) [] N I Lx (zRw q0 q1) := by
  obtain ⟨n, hn, hc⟩ := h.cnt
  obtain ⟨n8, hn8, hs8⟩ : ∃ n, n ≤ 8 ∧ I 1 10 = nI n := h.live.sn
  refine x_aload_n (x := g.2.1 + 0) dL_law_814 rfl ?_
  refine y_arg C0 hg hL (k := 1) dL_law_815 dL_law_816 dL_law_817 dL_law_818 dL_law_819 (by decide) (by omega) (pc2 := 820) rfl ?_
  refine y_arg C0 hg hL (k := 2) dL_law_820 dL_law_821 dL_law_822 dL_law_823 dL_law_824 (by decide) (by omega) (pc2 := 825) rfl ?_
  refine y_arg C0 hg hL (k := 3) dL_law_825 dL_law_826 dL_law_827 dL_law_828 dL_law_829 (by decide) (by omega) (pc2 := 830) rfl ?_
  refine y_arg C0 hg hL (k := 4) dL_law_830 dL_law_831 dL_law_832 dL_law_833 dL_law_834 (by decide) (by omega) (pc2 := 835) rfl ?_
  refine y_call dL_law_835 ml_L_108 mt_X8_themselves mv_X8_themselves (ct_X8_themselves h.hc) (k := 0) (Nat.lt_of_lt_of_le (by decide) h.hc) rfl rfl rfl rfl (Nat.le_of_ble_eq_true rfl) ⟨(Nat.le_of_ble_eq_true rfl), (Nat.le_of_ble_eq_true rfl)⟩ ⟨rfl, rfl⟩ ⟨by omega, by omega⟩ (pc2 := 838) rfl (fun r N1 I1 L1 R1 hp => ?_)
  obtain ⟨rfl, rfl, rfl, rfl, rfl⟩ := hp
  have hs1 : ∀ c, c < 14 ∨ 39 ≤ c → I1 c = I1 c := fun _ _ => rfl
  have h33 := h.b0
  have hJ : ∀ c, 39 ≤ c → I1 c = I1 c := fun _ _ => rfl
  have t1 : Two I1 I1 := h.two
  refine x_aload_n (x := g.2.1 + 40) dL_law_838 rfl ?_
  refine y_arg C0 hg hL (k := 1) dL_law_839 dL_law_840 dL_law_841 dL_law_842 dL_law_843 (by decide) (by omega) (pc2 := 844) rfl ?_
  refine y_arg C0 hg hL (k := 2) dL_law_844 dL_law_845 dL_law_846 dL_law_847 dL_law_848 (by decide) (by omega) (pc2 := 849) rfl ?_
  refine y_arg C0 hg hL (k := 3) dL_law_849 dL_law_850 dL_law_851 dL_law_852 dL_law_853 (by decide) (by omega) (pc2 := 854) rfl ?_
  refine y_arg C0 hg hL (k := 4) dL_law_854 dL_law_855 dL_law_856 dL_law_857 dL_law_858 (by decide) (by omega) (pc2 := 859) rfl ?_
  refine y_call dL_law_859 ml_L_112 mt_X9_themselves mv_X9_themselves (ct_X9_themselves h.hc) (k := 40) (Nat.lt_of_lt_of_le (by decide) h.hc) rfl rfl rfl rfl (Nat.le_of_ble_eq_true rfl) ⟨(Nat.le_of_ble_eq_true rfl), (Nat.le_of_ble_eq_true rfl)⟩ ⟨rfl, rfl⟩ ⟨by omega, by omega⟩ (pc2 := 862) rfl (fun r N3 I3 L3 R3 hp => ?_)
  obtain ⟨rfl, rfl, rfl, hs2, h7, h9⟩ := hp
  have hK : ∀ c, c < 40 ∨ 56 ≤ c → (I1) c = I1 c := by
    intro c hc
    rfl
  refine x_lcmp dL_law_862 ?_
  refine x_if_eq (tgt := 980) dL_law_863 (by decide) (fun _ => k.use (h.step hJ hs1 h33 hK hs2 h7 h9 t1)) (fun z => absurd ?_ z)
  rw [te_two]
  exact lg_self _
theorem lc_23 (C0 : lw_At p s m meth c b L xs) (hg : g.2.1 = s.heap.size) (hL : L ≤ 320) (ht : 5 * t + 5 ≤ L) (h : Inv q0 q1 N I) (k : LK g nm (p, e, s, m, #[Value.ref b], below, meth, c) (lw_Z below #[Value.ref b] s) b t) : X g (mL nm) (p, e, s, m, #[Value.ref b], below, meth, c) (lw_Z below #[Value.ref b] s) (58 + 11 * t) (1345 + 85 * t) 868 (llo b g.2.1 t) [] N I Lx (zRw q0 q1) := by
  obtain ⟨n, hn, hc⟩ := h.cnt
  obtain ⟨n8, hn8, hs8⟩ : ∃ n, n ≤ 8 ∧ I 1 10 = nI n := h.live.sn
  refine x_aload_n (x := g.2.1 + 0) dL_law_868 rfl ?_
  refine y_arg C0 hg hL (k := 1) dL_law_869 dL_law_870 dL_law_871 dL_law_872 dL_law_873 (by decide) (by omega) (pc2 := 874) rfl ?_
  refine y_arg C0 hg hL (k := 2) dL_law_874 dL_law_875 dL_law_876 dL_law_877 dL_law_878 (by decide) (by omega) (pc2 := 879) rfl ?_
  refine y_arg C0 hg hL (k := 3) dL_law_879 dL_law_880 dL_law_881 dL_law_882 dL_law_883 (by decide) (by omega) (pc2 := 884) rfl ?_
  refine y_call dL_law_884 ml_L_113 mt_X8_year mv_X8_year (ct_X8_year h.hc h.b0 h.live.sf) (k := 0) (Nat.lt_of_lt_of_le (by decide) h.hc) rfl rfl rfl rfl (Nat.le_of_ble_eq_true rfl) ⟨(Nat.le_of_ble_eq_true rfl), (Nat.le_of_ble_eq_true rfl)⟩ ⟨rfl, rfl⟩ ⟨by omega, by omega⟩ (pc2 := 887) rfl (fun r N1 I1 L1 R1 hp => ?_)
  obtain ⟨rfl, rfl, rfl, rfl, hs1, h33⟩ := hp
  have hJ : ∀ c, 39 ≤ c → (I) c = I c := by
    intro c hc
    rfl
  have t1 : Two I I1 := h.two1 hJ hs1
  refine x_aload_n (x := g.2.1 + 40) dL_law_887 rfl ?_
  refine y_arg C0 hg hL (k := 1) dL_law_888 dL_law_889 dL_law_890 dL_law_891 dL_law_892 (by decide) (by omega) (pc2 := 893) rfl ?_
  refine y_arg C0 hg hL (k := 2) dL_law_893 dL_law_894 dL_law_895 dL_law_896 dL_law_897 (by decide) (by omega) (pc2 := 898) rfl ?_
  refine y_arg C0 hg hL (k := 3) dL_law_898 dL_law_899 dL_law_900 dL_law_901 dL_law_902 (by decide) (by omega) (pc2 := 903) rfl ?_
  refine y_call dL_law_903 ml_L_116 mt_X9_year mv_X9_year (ct_X9_year h.hc) (k := 40) (Nat.lt_of_lt_of_le (by decide) h.hc) rfl rfl rfl rfl (Nat.le_of_ble_eq_true rfl) ⟨(Nat.le_of_ble_eq_true rfl), (Nat.le_of_ble_eq_true rfl)⟩ ⟨rfl, rfl⟩ ⟨by omega, by omega⟩ (pc2 := 906) rfl (fun r N3 I3 L3 R3 hp => ?_)
  obtain ⟨rfl, rfl, rfl, hs2, h7, h9⟩ := hp
  have hK : ∀ c, c < 40 ∨ 56 ≤ c → (I1) c = I1 c := by
    intro c hc
    rfl
  refine x_icmp_eq (tgt := 980) dL_law_906 (by decide) (fun _ => k.use (h.step hJ hs1 h33 hK hs2 h7 h9 t1)) (fun z => absurd (Eq.symm (ye_eq t1.rl _ _ _)) z)
theorem lc_24 (C0 : lw_At p s m meth c b L xs) (hg : g.2.1 = s.heap.size) (hL : L ≤ 320) (ht : 5 * t + 5 ≤ L) (h : Inv q0 q1 N I) (k : LK g nm (p, e, s, m, #[Value.ref b], below, meth, c) (lw_Z below #[Value.ref b] s) b t) : X g (mL nm) (p, e, s, m, #[Value.ref b], below, meth, c) (lw_Z below #[Value.ref b] s) (58 + 11 * t) (1345 + 85 * t) 911 (llo b g.2.1 t) [] N I Lx (zRw q0 q1) := by
  obtain ⟨n, hn, hc⟩ := h.cnt
  obtain ⟨n8, hn8, hs8⟩ : ∃ n, n ≤ 8 ∧ I 1 10 = nI n := h.live.sn
  refine x_aload_n (x := g.2.1 + 0) dL_law_911 rfl ?_
  refine y_arg C0 hg hL (k := 1) dL_law_912 dL_law_913 dL_law_914 dL_law_915 dL_law_916 (by decide) (by omega) (pc2 := 917) rfl ?_
  obtain ⟨v, N1, J, r0, r1, ct, ev, hN1, fin⟩ := img_ct (g := g) (Lx := Lx) h (xs (5 * t + 1))
  refine x_weak (kc2 := 58 + 11 * t) (ks2 := 1345 + 85 * t) (Nat.le_refl _) (Nat.le_refl _) ?_
  refine x_callV dL_law_917 ml_L_117 mt_X8_image mv_X8_image ct (k := 0) (Nat.lt_of_lt_of_le (by decide) h.hc) rfl rfl rfl rfl (Nat.le_of_ble_eq_true rfl) ⟨(Nat.le_of_ble_eq_true rfl), (Nat.le_of_ble_eq_true rfl)⟩ (show 58 + 11 * t + 11 ≤ 600000 ∧ 1345 + 85 * t + 85 ≤ 7302250 by omega) (fun r N2 I2 L2 R2 hp => ?_)
  obtain ⟨rfl, rfl, rfl, rfl⟩ := hp
  refine x_pc (pc2 := 920) rfl ?_
  show X g (mL nm) _ _ (58 + 11 * t + 11) (1345 + 85 * t + 85) 920 (llo b g.2.1 t) [.int v] _ _ _ _
  refine x_aload_n (x := g.2.1 + 40) dL_law_920 rfl ?_
  refine y_arg C0 hg hL (k := 1) dL_law_921 dL_law_922 dL_law_923 dL_law_924 dL_law_925 (by decide) (by omega) (pc2 := 926) rfl ?_
  refine y_call dL_law_926 ml_L_120 mt_X9_image mv_X9_image (ct_X9_image hN1) (k := 40) (Nat.lt_of_lt_of_le (by decide) hN1) rfl rfl rfl rfl (Nat.le_of_ble_eq_true rfl) ⟨(Nat.le_of_ble_eq_true rfl), (Nat.le_of_ble_eq_true rfl)⟩ ⟨rfl, rfl⟩ ⟨by omega, by omega⟩ (pc2 := 929) rfl (fun r N3 I3 L3 R3 hp => ?_)
  obtain ⟨rfl, rfl, rfl, hs2, h7, h9⟩ := hp
  refine x_icmp_eq (tgt := 980) dL_law_929 (by decide) (fun _ => k _ _ _ _ _ (fin _ hs2 h7 h9)) (fun z => absurd ev z)
theorem lc_25 (C0 : lw_At p s m meth c b L xs) (hg : g.2.1 = s.heap.size) (hL : L ≤ 320) (ht : 5 * t + 5 ≤ L) (h : Inv q0 q1 N I) (k : LK g nm (p, e, s, m, #[Value.ref b], below, meth, c) (lw_Z below #[Value.ref b] s) b t) : X g (mL nm) (p, e, s, m, #[Value.ref b], below, meth, c) (lw_Z below #[Value.ref b] s) (58 + 11 * t) (1345 + 85 * t) 934 (llo b g.2.1 t) [] N I Lx (zRw q0 q1) := by
  obtain ⟨n, hn, hc⟩ := h.cnt
  obtain ⟨n8, hn8, hs8⟩ : ∃ n, n ≤ 8 ∧ I 1 10 = nI n := h.live.sn
  refine x_aload_n (x := g.2.1 + 0) dL_law_934 rfl ?_
  refine y_arg C0 hg hL (k := 1) dL_law_935 dL_law_936 dL_law_937 dL_law_938 dL_law_939 (by decide) (by omega) (pc2 := 940) rfl ?_
  obtain ⟨v, J, ct, ev, fin⟩ := rst_ct (g := g) (Lx := Lx) h (xs (5 * t + 1))
  refine y_call dL_law_940 ml_L_121 mt_X8_restore mv_X8_restore ct (k := 0) (Nat.lt_of_lt_of_le (by decide) h.hc) rfl rfl rfl rfl (Nat.le_of_ble_eq_true rfl) ⟨(Nat.le_of_ble_eq_true rfl), (Nat.le_of_ble_eq_true rfl)⟩ ⟨rfl, rfl⟩ ⟨by omega, by omega⟩ (pc2 := 943) rfl (fun r N2 I2 L2 R2 hp => ?_)
  obtain ⟨rfl, rfl, rfl, rfl⟩ := hp
  refine x_aload_n (x := g.2.1 + 40) dL_law_943 rfl ?_
  refine y_arg C0 hg hL (k := 1) dL_law_944 dL_law_945 dL_law_946 dL_law_947 dL_law_948 (by decide) (by omega) (pc2 := 949) rfl ?_
  refine y_call dL_law_949 ml_L_124 mt_X9_restore mv_X9_restore (ct_X9_restore h.hc) (k := 40) (Nat.lt_of_lt_of_le (by decide) h.hc) rfl rfl rfl rfl (Nat.le_of_ble_eq_true rfl) ⟨(Nat.le_of_ble_eq_true rfl), (Nat.le_of_ble_eq_true rfl)⟩ ⟨rfl, rfl⟩ ⟨by omega, by omega⟩ (pc2 := 952) rfl (fun r N3 I3 L3 R3 hp => ?_)
  obtain ⟨rfl, rfl, rfl, hs2, h7, h9⟩ := hp
  refine x_icmp_eq (tgt := 980) dL_law_952 (by decide) (fun _ => k.use (fin _ hs2 h7 h9)) (fun z => absurd ev z)
theorem lc_26 (C0 : lw_At p s m meth c b L xs) (hg : g.2.1 = s.heap.size) (hL : L ≤ 320) (ht : 5 * t + 5 ≤ L) (h : Inv q0 q1 N I) (k : LK g nm (p, e, s, m, #[Value.ref b], below, meth, c) (lw_Z below #[Value.ref b] s) b t) : X g (mL nm) (p, e, s, m, #[Value.ref b], below, meth, c) (lw_Z below #[Value.ref b] s) (58 + 11 * t) (1345 + 85 * t) 957 (llo b g.2.1 t) [] N I Lx (zRw q0 q1) := by
  obtain ⟨n, hn, hc⟩ := h.cnt
  obtain ⟨n8, hn8, hs8⟩ : ∃ n, n ≤ 8 ∧ I 1 10 = nI n := h.live.sn
  refine x_aload_n (x := g.2.1 + 0) dL_law_957 rfl ?_
  refine y_arg C0 hg hL (k := 1) dL_law_958 dL_law_959 dL_law_960 dL_law_961 dL_law_962 (by decide) (by omega) (pc2 := 963) rfl ?_
  refine y_call dL_law_963 ml_L_125 mt_X8_told mv_X8_told (ct_X8_told h.hc h.b0 hc) (k := 0) (Nat.lt_of_lt_of_le (by decide) h.hc) rfl rfl rfl rfl (Nat.le_of_ble_eq_true rfl) ⟨(Nat.le_of_ble_eq_true rfl), (Nat.le_of_ble_eq_true rfl)⟩ ⟨rfl, rfl⟩ ⟨by omega, by omega⟩ (pc2 := 966) rfl (fun r N1 I1 L1 R1 hp => ?_)
  obtain ⟨rfl, rfl, rfl, rfl, hs1, h33⟩ := hp
  have hJ : ∀ c, 39 ≤ c → (I) c = I c := by
    intro c hc
    rfl
  have t1 : Two I I1 := h.two1 hJ hs1
  refine x_aload_n (x := g.2.1 + 40) dL_law_966 rfl ?_
  refine y_arg C0 hg hL (k := 1) dL_law_967 dL_law_968 dL_law_969 dL_law_970 dL_law_971 (by decide) (by omega) (pc2 := 972) rfl ?_
  refine y_call dL_law_972 ml_L_128 mt_X9_told mv_X9_told (ct_X9_told h.hc) (k := 40) (Nat.lt_of_lt_of_le (by decide) h.hc) rfl rfl rfl rfl (Nat.le_of_ble_eq_true rfl) ⟨(Nat.le_of_ble_eq_true rfl), (Nat.le_of_ble_eq_true rfl)⟩ ⟨rfl, rfl⟩ ⟨by omega, by omega⟩ (pc2 := 975) rfl (fun r N3 I3 L3 R3 hp => ?_)
  obtain ⟨rfl, rfl, rfl, hs2, h7, h9⟩ := hp
  have hK : ∀ c, c < 40 ∨ 56 ≤ c → (I1) c = I1 c := by
    intro c hc
    rfl
  refine x_icmp_eq (tgt := 980) dL_law_975 (by decide) (fun _ => k.use (h.step hJ hs1 h33 hK hs2 h7 h9 t1)) (fun z => absurd (Eq.symm (to_two t1 hc _)) z)
end CASES
