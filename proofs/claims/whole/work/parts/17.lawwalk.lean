/-! THE CLAIM OUT OF ONE WALK OF THE LAW'S BODY. Your part is whole_start (and what it stands on); all else here is the same for every law, but numbers. -/
def R_law : String := "EachIsHitLaw"
def lw_P (b : Addr) (xs : List Int32) (args : Array Value) (s : State) : Prop := args = #[.ref b] ∧ s.IntsAt b xs ∧ xs.length ≤ 2560 ∧ (Jvm.Cond.and given_1 narrow_1).before args s = true
def lw_Q (_ : Array Value) (s : State) (o : Outcome) (t : State) : Prop := o = .returned (some (.int 1)) ∧ Framed s o t [] 600000 7302250
def lw_Z (below : List Frame) (a : Array Value) (s : State) : State → Prop := fun t => ∃ o, t.status = .running ∧ Ended t below o ∧ lw_Q a s o t
/-- the law's own end, with 1 on the stack, nothing written that was there before, its room as the claim has it -/
theorem lw_ret {p : Program} {l : Launch} {e : Env} {s : State} {m : MethodId} {below : List Frame} {meth : Method} {c : Code} {b : Nat} (hx : p.tables.exec = Jvm.exec) (hb : c.code = code) (hr : meth.sig.returnType = ret) (hlocks : meth.locks = false) {pc : Nat} {H : Heap} {ls : Array Slot} (hdg : decode code pc = .ok (.ireturn, 1)) : W p l e room_1 s m #[Value.ref b] below meth c H [] 600000 7302250 (lw_Z below #[Value.ref b] s) (F0 m pc ls [.int 1]) := by
  intro T hT X
  obtain ⟨fs, hret, hrun, hended, hW, hframe⟩ := X.leave (v := some (.int 1)) (hlocks := hlocks) (fun h => by rw [hr] at h; cases h)
  have hmeth' : T.vm.method? m = some meth := X.method'
  refine ⟨T.setFrames fs, ?_, .returned (some (.int 1)), hrun, hended, rfl, ⟨_, rfl⟩, hW, hframe⟩
  jvm_step X.here [X.here.top, hx, hb, hdg, hmeth', hr, ret, narrow_b1]
  (try refine ⟨rfl, ?_⟩); (try refine ⟨rfl, ?_⟩)
  first | (intro acts; rw [hret _ acts rfl rfl rfl]) | rw [hret _ _ rfl rfl rfl]
  exact Steps.refl _
/-- what holds at the law's entry: the machine, the code, the tables' words (any of lw_tbl by 'hts w (by decide +kernel)'), the script of L ints xs at the cell b, what the Statement gives of the start (any of its parts by flat_of_before) -/
def lw_At (p : Program) (s : State) (m : MethodId) (meth : Method) (c : Code) (b L : Nat) (xs : Nat → Int32) : Prop :=
  p.tables.exec = Jvm.exec ∧ c.code = code ∧ meth.sig.returnType = ret ∧ c.maxLocals = 4 ∧ s.vm.findClass R_law = some m.cls ∧ (∀ w ∈ lw_tbl, w.before #[Value.ref b] s = true) ∧ va_X b L xs s s.heap ∧ b < s.heap.size ∧ meth.locks = false ∧ (Jvm.Cond.and given_1 narrow_1).before #[Value.ref b] s = true
theorem l_ix (i k : Nat) {z : Int32} (h : Int32.ofInt (k : Int) = z) : nI i + z = nI (i + k) := by
  have e : z = nI k := by
    rw [← h]
    exact Int32.ofInt_eq_ofNat
  rw [e, nI_add]
theorem l_gt {i L : Nat} (h : L < i + 5) (hL : L < 2 ^ 30) (hi : i < 2 ^ 30) : nI L - (5 : Int32) < nI i := by
  have e : (5 : Int32) = nI 5 := rfl
  rw [e, Int32.lt_iff_toInt_lt, pk_sub_toInt hL (by omega), nI_toInt (by omega)]
  omega
theorem l_case0 {p : Program} {l : Launch} {e : Env} {s : State} {m : MethodId} {args : Array Value} {below : List Frame} {meth : Method} {c : Code} {Q : State → Prop} {Y : zY} {aM : Nat → Nat} {A : Nat → Prop} {b L : Nat} {xs : Nat → Int32} {σ μ : zS} {P : zS → zS → Prop} {i : Nat} (O : l_ok Y aM A p s m args c b L xs) (hs : l_sims P) (hp : P σ μ) (hi : i + 5 ≤ L) (hL : L ≤ 2560) (nx : ∀ σ' μ', P σ' μ' → l_G p l e s m args below meth c Q Y aM A σ' μ' [(0, .ref b), (1, .ref (z_ad Y 0)), (2, .ref (aM 0)), (3, .int (nI i))] 1552 []) : l_G p l e s m args below meth c Q Y aM A σ μ [(0, .ref b), (1, .ref (z_ad Y 0)), (2, .ref (aM 0)), (3, .int (nI i))] 204 [] := by
  obtain ⟨r, σ', μ', h1, h2, h3⟩ := hs.1 σ μ hp (xs (i + 1)) (xs (i + 2))
  refine l_aload_n O dzL_law_204 rfl 1 rfl ?_
  refine l_aload_n O dzL_law_205 rfl 0 rfl ?_
  refine l_iload_n O dzL_law_206 rfl 3 rfl ?_
  refine l_iconst O dzL_law_207 hcI1 ?_
  refine l_iadd O dzL_law_208 ?_
  refine l_sld O (i + 1) (l_ix i 1 rfl) (by omega) (by omega) dzL_law_209 ?_
  refine l_aload_n O dzL_law_210 rfl 0 rfl ?_
  refine l_iload_n O dzL_law_211 rfl 3 rfl ?_
  refine l_iconst O dzL_law_212 hcI2 ?_
  refine l_iadd O dzL_law_213 ?_
  refine l_sld O (i + 2) (l_ix i 2 rfl) (by omega) (by omega) dzL_law_214 ?_
  refine l_cXi O (As := [.int (xs (i + 1)), .int (xs (i + 2))]) (rest := []) (fin := (r, σ')) (kX7_price O.2.2.2.2.2.2.2.1 h1) mX7_price tw_247 (by decide) rfl rfl rfl (Nat.le_of_ble_eq_true rfl) dzL_law_215 ?_
  refine l_aload_n O dzL_law_218 rfl 2 rfl ?_
  refine l_aload_n O dzL_law_219 rfl 0 rfl ?_
  refine l_iload_n O dzL_law_220 rfl 3 rfl ?_
  refine l_iconst O dzL_law_221 hcI1 ?_
  refine l_iadd O dzL_law_222 ?_
  refine l_sld O (i + 1) (l_ix i 1 rfl) (by omega) (by omega) dzL_law_223 ?_
  refine l_aload_n O dzL_law_224 rfl 0 rfl ?_
  refine l_iload_n O dzL_law_225 rfl 3 rfl ?_
  refine l_iconst O dzL_law_226 hcI2 ?_
  refine l_iadd O dzL_law_227 ?_
  refine l_sld O (i + 2) (l_ix i 2 rfl) (by omega) (by omega) dzL_law_228 ?_
  refine l_cMi O (As := [.int (xs (i + 1)), .int (xs (i + 2))]) (rest := [.int r]) (fin := (r, μ')) (kX8_price O.2.2.2.2.2.2.2.2.1 h2) mX8_price tw_868 (by decide) rfl rfl rfl (Nat.le_of_ble_eq_true rfl) dzL_law_229 ?_
  refine l_icmp_eq O dzL_law_232 ?_
  exact nx σ' μ' h3
theorem l_case1 {p : Program} {l : Launch} {e : Env} {s : State} {m : MethodId} {args : Array Value} {below : List Frame} {meth : Method} {c : Code} {Q : State → Prop} {Y : zY} {aM : Nat → Nat} {A : Nat → Prop} {b L : Nat} {xs : Nat → Int32} {σ μ : zS} {P : zS → zS → Prop} {i : Nat} (O : l_ok Y aM A p s m args c b L xs) (hs : l_sims P) (hp : P σ μ) (hi : i + 5 ≤ L) (hL : L ≤ 2560) (nx : ∀ σ' μ', P σ' μ' → l_G p l e s m args below meth c Q Y aM A σ' μ' [(0, .ref b), (1, .ref (z_ad Y 0)), (2, .ref (aM 0)), (3, .int (nI i))] 1552 []) : l_G p l e s m args below meth c Q Y aM A σ μ [(0, .ref b), (1, .ref (z_ad Y 0)), (2, .ref (aM 0)), (3, .int (nI i))] 237 [] := by
  obtain ⟨r, h1, h2⟩ := hs.2.1 σ μ hp (xs (i + 1))
  refine l_aload_n O dzL_law_237 rfl 1 rfl ?_
  refine l_aload_n O dzL_law_238 rfl 0 rfl ?_
  refine l_iload_n O dzL_law_239 rfl 3 rfl ?_
  refine l_iconst O dzL_law_240 hcI1 ?_
  refine l_iadd O dzL_law_241 ?_
  refine l_sld O (i + 1) (l_ix i 1 rfl) (by omega) (by omega) dzL_law_242 ?_
  refine l_cXi O (As := [.int (xs (i + 1))]) (rest := []) (fin := (r, σ)) (kX7_priceOf O.2.2.2.2.2.2.2.1 h1) mX7_priceOf tw_265 (by decide) rfl rfl rfl (Nat.le_of_ble_eq_true rfl) dzL_law_243 ?_
  refine l_aload_n O dzL_law_246 rfl 2 rfl ?_
  refine l_aload_n O dzL_law_247 rfl 0 rfl ?_
  refine l_iload_n O dzL_law_248 rfl 3 rfl ?_
  refine l_iconst O dzL_law_249 hcI1 ?_
  refine l_iadd O dzL_law_250 ?_
  refine l_sld O (i + 1) (l_ix i 1 rfl) (by omega) (by omega) dzL_law_251 ?_
  refine l_cMi O (As := [.int (xs (i + 1))]) (rest := [.int r]) (fin := (r, μ)) (kX8_priceOf O.2.2.2.2.2.2.2.2.1 h2) mX8_priceOf tw_884 (by decide) rfl rfl rfl (Nat.le_of_ble_eq_true rfl) dzL_law_252 ?_
  refine l_icmp_eq O dzL_law_255 ?_
  exact nx σ μ hp
theorem l_case2 {p : Program} {l : Launch} {e : Env} {s : State} {m : MethodId} {args : Array Value} {below : List Frame} {meth : Method} {c : Code} {Q : State → Prop} {Y : zY} {aM : Nat → Nat} {A : Nat → Prop} {b L : Nat} {xs : Nat → Int32} {σ μ : zS} {P : zS → zS → Prop} {i : Nat} (O : l_ok Y aM A p s m args c b L xs) (hs : l_sims P) (hp : P σ μ) (hi : i + 5 ≤ L) (hL : L ≤ 2560) (nx : ∀ σ' μ', P σ' μ' → l_G p l e s m args below meth c Q Y aM A σ' μ' [(0, .ref b), (1, .ref (z_ad Y 0)), (2, .ref (aM 0)), (3, .int (nI i))] 1552 []) : l_G p l e s m args below meth c Q Y aM A σ μ [(0, .ref b), (1, .ref (z_ad Y 0)), (2, .ref (aM 0)), (3, .int (nI i))] 260 [] := by
  obtain ⟨r, σ', μ', h1, h2, h3⟩ := hs.2.2.1 σ μ hp (xs (i + 1)) (xs (i + 2))
  refine l_aload_n O dzL_law_260 rfl 1 rfl ?_
  refine l_aload_n O dzL_law_261 rfl 0 rfl ?_
  refine l_iload_n O dzL_law_262 rfl 3 rfl ?_
  refine l_iconst O dzL_law_263 hcI1 ?_
  refine l_iadd O dzL_law_264 ?_
  refine l_sld O (i + 1) (l_ix i 1 rfl) (by omega) (by omega) dzL_law_265 ?_
  refine l_aload_n O dzL_law_266 rfl 0 rfl ?_
  refine l_iload_n O dzL_law_267 rfl 3 rfl ?_
  refine l_iconst O dzL_law_268 hcI2 ?_
  refine l_iadd O dzL_law_269 ?_
  refine l_sld O (i + 2) (l_ix i 2 rfl) (by omega) (by omega) dzL_law_270 ?_
  refine l_cXi O (As := [.int (xs (i + 1)), .int (xs (i + 2))]) (rest := []) (fin := (r, σ')) (kX7_tell O.2.2.2.2.2.2.2.1 h1) mX7_tell tw_269 (by decide) rfl rfl rfl (Nat.le_of_ble_eq_true rfl) dzL_law_271 ?_
  refine l_aload_n O dzL_law_274 rfl 2 rfl ?_
  refine l_aload_n O dzL_law_275 rfl 0 rfl ?_
  refine l_iload_n O dzL_law_276 rfl 3 rfl ?_
  refine l_iconst O dzL_law_277 hcI1 ?_
  refine l_iadd O dzL_law_278 ?_
  refine l_sld O (i + 1) (l_ix i 1 rfl) (by omega) (by omega) dzL_law_279 ?_
  refine l_aload_n O dzL_law_280 rfl 0 rfl ?_
  refine l_iload_n O dzL_law_281 rfl 3 rfl ?_
  refine l_iconst O dzL_law_282 hcI2 ?_
  refine l_iadd O dzL_law_283 ?_
  refine l_sld O (i + 2) (l_ix i 2 rfl) (by omega) (by omega) dzL_law_284 ?_
  refine l_cMi O (As := [.int (xs (i + 1)), .int (xs (i + 2))]) (rest := [.int r]) (fin := (r, μ')) (kX8_tell O.2.2.2.2.2.2.2.2.1 h2) mX8_tell tw_888 (by decide) rfl rfl rfl (Nat.le_of_ble_eq_true rfl) dzL_law_285 ?_
  refine l_icmp_eq O dzL_law_288 ?_
  exact nx σ' μ' h3
theorem l_case3 {p : Program} {l : Launch} {e : Env} {s : State} {m : MethodId} {args : Array Value} {below : List Frame} {meth : Method} {c : Code} {Q : State → Prop} {Y : zY} {aM : Nat → Nat} {A : Nat → Prop} {b L : Nat} {xs : Nat → Int32} {σ μ : zS} {P : zS → zS → Prop} {i : Nat} (O : l_ok Y aM A p s m args c b L xs) (hs : l_sims P) (hp : P σ μ) (hi : i + 5 ≤ L) (hL : L ≤ 2560) (nx : ∀ σ' μ', P σ' μ' → l_G p l e s m args below meth c Q Y aM A σ' μ' [(0, .ref b), (1, .ref (z_ad Y 0)), (2, .ref (aM 0)), (3, .int (nI i))] 1552 []) : l_G p l e s m args below meth c Q Y aM A σ μ [(0, .ref b), (1, .ref (z_ad Y 0)), (2, .ref (aM 0)), (3, .int (nI i))] 293 [] := by
  obtain ⟨r, σ', μ', h1, h2, h3⟩ := hs.2.2.2.1 σ μ hp (xs (i + 1)) (xs (i + 2))
  refine l_aload_n O dzL_law_293 rfl 1 rfl ?_
  refine l_aload_n O dzL_law_294 rfl 0 rfl ?_
  refine l_iload_n O dzL_law_295 rfl 3 rfl ?_
  refine l_iconst O dzL_law_296 hcI1 ?_
  refine l_iadd O dzL_law_297 ?_
  refine l_sld O (i + 1) (l_ix i 1 rfl) (by omega) (by omega) dzL_law_298 ?_
  refine l_aload_n O dzL_law_299 rfl 0 rfl ?_
  refine l_iload_n O dzL_law_300 rfl 3 rfl ?_
  refine l_iconst O dzL_law_301 hcI2 ?_
  refine l_iadd O dzL_law_302 ?_
  refine l_sld O (i + 2) (l_ix i 2 rfl) (by omega) (by omega) dzL_law_303 ?_
  refine l_cXi O (As := [.int (xs (i + 1)), .int (xs (i + 2))]) (rest := []) (fin := (r, σ')) (kX7_take O.2.2.2.2.2.2.2.1 h1) mX7_take tw_298 (by decide) rfl rfl rfl (Nat.le_of_ble_eq_true rfl) dzL_law_304 ?_
  refine l_aload_n O dzL_law_307 rfl 2 rfl ?_
  refine l_aload_n O dzL_law_308 rfl 0 rfl ?_
  refine l_iload_n O dzL_law_309 rfl 3 rfl ?_
  refine l_iconst O dzL_law_310 hcI1 ?_
  refine l_iadd O dzL_law_311 ?_
  refine l_sld O (i + 1) (l_ix i 1 rfl) (by omega) (by omega) dzL_law_312 ?_
  refine l_aload_n O dzL_law_313 rfl 0 rfl ?_
  refine l_iload_n O dzL_law_314 rfl 3 rfl ?_
  refine l_iconst O dzL_law_315 hcI2 ?_
  refine l_iadd O dzL_law_316 ?_
  refine l_sld O (i + 2) (l_ix i 2 rfl) (by omega) (by omega) dzL_law_317 ?_
  refine l_cMi O (As := [.int (xs (i + 1)), .int (xs (i + 2))]) (rest := [.int r]) (fin := (r, μ')) (kX8_take O.2.2.2.2.2.2.2.2.1 h2) mX8_take tw_916 (by decide) rfl rfl rfl (Nat.le_of_ble_eq_true rfl) dzL_law_318 ?_
  refine l_icmp_eq O dzL_law_321 ?_
  exact nx σ' μ' h3
theorem l_case4 {p : Program} {l : Launch} {e : Env} {s : State} {m : MethodId} {args : Array Value} {below : List Frame} {meth : Method} {c : Code} {Q : State → Prop} {Y : zY} {aM : Nat → Nat} {A : Nat → Prop} {b L : Nat} {xs : Nat → Int32} {σ μ : zS} {P : zS → zS → Prop} {i : Nat} (O : l_ok Y aM A p s m args c b L xs) (hs : l_sims P) (hp : P σ μ) (hi : i + 5 ≤ L) (hL : L ≤ 2560) (nx : ∀ σ' μ', P σ' μ' → l_G p l e s m args below meth c Q Y aM A σ' μ' [(0, .ref b), (1, .ref (z_ad Y 0)), (2, .ref (aM 0)), (3, .int (nI i))] 1552 []) : l_G p l e s m args below meth c Q Y aM A σ μ [(0, .ref b), (1, .ref (z_ad Y 0)), (2, .ref (aM 0)), (3, .int (nI i))] 326 [] := by
  obtain ⟨r, h1, h2⟩ := hs.2.2.2.2.1 σ μ hp (xs (i + 1)) (xs (i + 2))
  refine l_aload_n O dzL_law_326 rfl 1 rfl ?_
  refine l_aload_n O dzL_law_327 rfl 0 rfl ?_
  refine l_iload_n O dzL_law_328 rfl 3 rfl ?_
  refine l_iconst O dzL_law_329 hcI1 ?_
  refine l_iadd O dzL_law_330 ?_
  refine l_sld O (i + 1) (l_ix i 1 rfl) (by omega) (by omega) dzL_law_331 ?_
  refine l_aload_n O dzL_law_332 rfl 0 rfl ?_
  refine l_iload_n O dzL_law_333 rfl 3 rfl ?_
  refine l_iconst O dzL_law_334 hcI2 ?_
  refine l_iadd O dzL_law_335 ?_
  refine l_sld O (i + 2) (l_ix i 2 rfl) (by omega) (by omega) dzL_law_336 ?_
  refine l_cXi O (As := [.int (xs (i + 1)), .int (xs (i + 2))]) (rest := []) (fin := (r, σ)) (kX7_tally O.2.2.2.2.2.2.2.1 h1) mX7_tally tw_310 (by decide) rfl rfl rfl (Nat.le_of_ble_eq_true rfl) dzL_law_337 ?_
  refine l_aload_n O dzL_law_340 rfl 2 rfl ?_
  refine l_aload_n O dzL_law_341 rfl 0 rfl ?_
  refine l_iload_n O dzL_law_342 rfl 3 rfl ?_
  refine l_iconst O dzL_law_343 hcI1 ?_
  refine l_iadd O dzL_law_344 ?_
  refine l_sld O (i + 1) (l_ix i 1 rfl) (by omega) (by omega) dzL_law_345 ?_
  refine l_aload_n O dzL_law_346 rfl 0 rfl ?_
  refine l_iload_n O dzL_law_347 rfl 3 rfl ?_
  refine l_iconst O dzL_law_348 hcI2 ?_
  refine l_iadd O dzL_law_349 ?_
  refine l_sld O (i + 2) (l_ix i 2 rfl) (by omega) (by omega) dzL_law_350 ?_
  refine l_cMi O (As := [.int (xs (i + 1)), .int (xs (i + 2))]) (rest := [.int r]) (fin := (r, μ)) (kX8_tally O.2.2.2.2.2.2.2.2.1 h2) mX8_tally tw_928 (by decide) rfl rfl rfl (Nat.le_of_ble_eq_true rfl) dzL_law_351 ?_
  refine l_icmp_eq O dzL_law_354 ?_
  exact nx σ μ hp
theorem l_case5 {p : Program} {l : Launch} {e : Env} {s : State} {m : MethodId} {args : Array Value} {below : List Frame} {meth : Method} {c : Code} {Q : State → Prop} {Y : zY} {aM : Nat → Nat} {A : Nat → Prop} {b L : Nat} {xs : Nat → Int32} {σ μ : zS} {P : zS → zS → Prop} {i : Nat} (O : l_ok Y aM A p s m args c b L xs) (hs : l_sims P) (hp : P σ μ) (hi : i + 5 ≤ L) (hL : L ≤ 2560) (nx : ∀ σ' μ', P σ' μ' → l_G p l e s m args below meth c Q Y aM A σ' μ' [(0, .ref b), (1, .ref (z_ad Y 0)), (2, .ref (aM 0)), (3, .int (nI i))] 1552 []) : l_G p l e s m args below meth c Q Y aM A σ μ [(0, .ref b), (1, .ref (z_ad Y 0)), (2, .ref (aM 0)), (3, .int (nI i))] 359 [] := by
  obtain ⟨r, h1, h2⟩ := hs.2.2.2.2.2.1 σ μ hp (xs (i + 1)) (xs (i + 2))
  refine l_aload_n O dzL_law_359 rfl 1 rfl ?_
  refine l_aload_n O dzL_law_360 rfl 0 rfl ?_
  refine l_iload_n O dzL_law_361 rfl 3 rfl ?_
  refine l_iconst O dzL_law_362 hcI1 ?_
  refine l_iadd O dzL_law_363 ?_
  refine l_sld O (i + 1) (l_ix i 1 rfl) (by omega) (by omega) dzL_law_364 ?_
  refine l_aload_n O dzL_law_365 rfl 0 rfl ?_
  refine l_iload_n O dzL_law_366 rfl 3 rfl ?_
  refine l_iconst O dzL_law_367 hcI2 ?_
  refine l_iadd O dzL_law_368 ?_
  refine l_sld O (i + 2) (l_ix i 2 rfl) (by omega) (by omega) dzL_law_369 ?_
  refine l_cXi O (As := [.int (xs (i + 1)), .int (xs (i + 2))]) (rest := []) (fin := (r, σ)) (kX7_at O.2.2.2.2.2.2.2.1 h1) mX7_at tw_314 (by decide) rfl rfl rfl (Nat.le_of_ble_eq_true rfl) dzL_law_370 ?_
  refine l_aload_n O dzL_law_373 rfl 2 rfl ?_
  refine l_aload_n O dzL_law_374 rfl 0 rfl ?_
  refine l_iload_n O dzL_law_375 rfl 3 rfl ?_
  refine l_iconst O dzL_law_376 hcI1 ?_
  refine l_iadd O dzL_law_377 ?_
  refine l_sld O (i + 1) (l_ix i 1 rfl) (by omega) (by omega) dzL_law_378 ?_
  refine l_aload_n O dzL_law_379 rfl 0 rfl ?_
  refine l_iload_n O dzL_law_380 rfl 3 rfl ?_
  refine l_iconst O dzL_law_381 hcI2 ?_
  refine l_iadd O dzL_law_382 ?_
  refine l_sld O (i + 2) (l_ix i 2 rfl) (by omega) (by omega) dzL_law_383 ?_
  refine l_cMi O (As := [.int (xs (i + 1)), .int (xs (i + 2))]) (rest := [.int r]) (fin := (r, μ)) (kX8_at O.2.2.2.2.2.2.2.2.1 h2) mX8_at tw_932 (by decide) rfl rfl rfl (Nat.le_of_ble_eq_true rfl) dzL_law_384 ?_
  refine l_icmp_eq O dzL_law_387 ?_
  exact nx σ μ hp
theorem l_case6 {p : Program} {l : Launch} {e : Env} {s : State} {m : MethodId} {args : Array Value} {below : List Frame} {meth : Method} {c : Code} {Q : State → Prop} {Y : zY} {aM : Nat → Nat} {A : Nat → Prop} {b L : Nat} {xs : Nat → Int32} {σ μ : zS} {P : zS → zS → Prop} {i : Nat} (O : l_ok Y aM A p s m args c b L xs) (hs : l_sims P) (hp : P σ μ) (hi : i + 5 ≤ L) (hL : L ≤ 2560) (nx : ∀ σ' μ', P σ' μ' → l_G p l e s m args below meth c Q Y aM A σ' μ' [(0, .ref b), (1, .ref (z_ad Y 0)), (2, .ref (aM 0)), (3, .int (nI i))] 1552 []) : l_G p l e s m args below meth c Q Y aM A σ μ [(0, .ref b), (1, .ref (z_ad Y 0)), (2, .ref (aM 0)), (3, .int (nI i))] 392 [] := by
  obtain ⟨r, h1, h2⟩ := hs.2.2.2.2.2.2.1 σ μ hp (xs (i + 1))
  refine l_aload_n O dzL_law_392 rfl 1 rfl ?_
  refine l_aload_n O dzL_law_393 rfl 0 rfl ?_
  refine l_iload_n O dzL_law_394 rfl 3 rfl ?_
  refine l_iconst O dzL_law_395 hcI1 ?_
  refine l_iadd O dzL_law_396 ?_
  refine l_sld O (i + 1) (l_ix i 1 rfl) (by omega) (by omega) dzL_law_397 ?_
  refine l_cXi O (As := [.int (xs (i + 1))]) (rest := []) (fin := (r, σ)) (kX7_size O.2.2.2.2.2.2.2.1 h1) mX7_size tw_318 (by decide) rfl rfl rfl (Nat.le_of_ble_eq_true rfl) dzL_law_398 ?_
  refine l_aload_n O dzL_law_401 rfl 2 rfl ?_
  refine l_aload_n O dzL_law_402 rfl 0 rfl ?_
  refine l_iload_n O dzL_law_403 rfl 3 rfl ?_
  refine l_iconst O dzL_law_404 hcI1 ?_
  refine l_iadd O dzL_law_405 ?_
  refine l_sld O (i + 1) (l_ix i 1 rfl) (by omega) (by omega) dzL_law_406 ?_
  refine l_cMi O (As := [.int (xs (i + 1))]) (rest := [.int r]) (fin := (r, μ)) (kX8_size O.2.2.2.2.2.2.2.2.1 h2) mX8_size tw_936 (by decide) rfl rfl rfl (Nat.le_of_ble_eq_true rfl) dzL_law_407 ?_
  refine l_icmp_eq O dzL_law_410 ?_
  exact nx σ μ hp
theorem l_case7 {p : Program} {l : Launch} {e : Env} {s : State} {m : MethodId} {args : Array Value} {below : List Frame} {meth : Method} {c : Code} {Q : State → Prop} {Y : zY} {aM : Nat → Nat} {A : Nat → Prop} {b L : Nat} {xs : Nat → Int32} {σ μ : zS} {P : zS → zS → Prop} {i : Nat} (O : l_ok Y aM A p s m args c b L xs) (hs : l_sims P) (hp : P σ μ) (hi : i + 5 ≤ L) (hL : L ≤ 2560) (nx : ∀ σ' μ', P σ' μ' → l_G p l e s m args below meth c Q Y aM A σ' μ' [(0, .ref b), (1, .ref (z_ad Y 0)), (2, .ref (aM 0)), (3, .int (nI i))] 1552 []) : l_G p l e s m args below meth c Q Y aM A σ μ [(0, .ref b), (1, .ref (z_ad Y 0)), (2, .ref (aM 0)), (3, .int (nI i))] 415 [] := by
  obtain ⟨r, σ', μ', h1, h2, h3⟩ := hs.2.2.2.2.2.2.2.1 σ μ hp (xs (i + 1))
  refine l_aload_n O dzL_law_415 rfl 1 rfl ?_
  refine l_aload_n O dzL_law_416 rfl 0 rfl ?_
  refine l_iload_n O dzL_law_417 rfl 3 rfl ?_
  refine l_iconst O dzL_law_418 hcI1 ?_
  refine l_iadd O dzL_law_419 ?_
  refine l_sld O (i + 1) (l_ix i 1 rfl) (by omega) (by omega) dzL_law_420 ?_
  refine l_cXi O (As := [.int (xs (i + 1))]) (rest := []) (fin := (r, σ')) (kX7_wipe O.2.2.2.2.2.2.2.1 h1) mX7_wipe tw_322 (by decide) rfl rfl rfl (Nat.le_of_ble_eq_true rfl) dzL_law_421 ?_
  refine l_aload_n O dzL_law_424 rfl 2 rfl ?_
  refine l_aload_n O dzL_law_425 rfl 0 rfl ?_
  refine l_iload_n O dzL_law_426 rfl 3 rfl ?_
  refine l_iconst O dzL_law_427 hcI1 ?_
  refine l_iadd O dzL_law_428 ?_
  refine l_sld O (i + 1) (l_ix i 1 rfl) (by omega) (by omega) dzL_law_429 ?_
  refine l_cMi O (As := [.int (xs (i + 1))]) (rest := [.int r]) (fin := (r, μ')) (kX8_wipe O.2.2.2.2.2.2.2.2.1 h2) mX8_wipe tw_940 (by decide) rfl rfl rfl (Nat.le_of_ble_eq_true rfl) dzL_law_430 ?_
  refine l_icmp_eq O dzL_law_433 ?_
  exact nx σ' μ' h3
theorem l_case8 {p : Program} {l : Launch} {e : Env} {s : State} {m : MethodId} {args : Array Value} {below : List Frame} {meth : Method} {c : Code} {Q : State → Prop} {Y : zY} {aM : Nat → Nat} {A : Nat → Prop} {b L : Nat} {xs : Nat → Int32} {σ μ : zS} {P : zS → zS → Prop} {i : Nat} (O : l_ok Y aM A p s m args c b L xs) (hs : l_sims P) (hp : P σ μ) (hi : i + 5 ≤ L) (hL : L ≤ 2560) (nx : ∀ σ' μ', P σ' μ' → l_G p l e s m args below meth c Q Y aM A σ' μ' [(0, .ref b), (1, .ref (z_ad Y 0)), (2, .ref (aM 0)), (3, .int (nI i))] 1552 []) : l_G p l e s m args below meth c Q Y aM A σ μ [(0, .ref b), (1, .ref (z_ad Y 0)), (2, .ref (aM 0)), (3, .int (nI i))] 438 [] := by
  obtain ⟨r, σ', μ', h1, h2, h3⟩ := hs.2.2.2.2.2.2.2.2.1 σ μ hp (xs (i + 1)) (xs (i + 2))
  refine l_aload_n O dzL_law_438 rfl 1 rfl ?_
  refine l_aload_n O dzL_law_439 rfl 0 rfl ?_
  refine l_iload_n O dzL_law_440 rfl 3 rfl ?_
  refine l_iconst O dzL_law_441 hcI1 ?_
  refine l_iadd O dzL_law_442 ?_
  refine l_sld O (i + 1) (l_ix i 1 rfl) (by omega) (by omega) dzL_law_443 ?_
  refine l_aload_n O dzL_law_444 rfl 0 rfl ?_
  refine l_iload_n O dzL_law_445 rfl 3 rfl ?_
  refine l_iconst O dzL_law_446 hcI2 ?_
  refine l_iadd O dzL_law_447 ?_
  refine l_sld O (i + 2) (l_ix i 2 rfl) (by omega) (by omega) dzL_law_448 ?_
  refine l_cXi O (As := [.int (xs (i + 1)), .int (xs (i + 2))]) (rest := []) (fin := (r, σ')) (kX7_copy O.2.2.2.2.2.2.2.1 h1) mX7_copy tw_334 (by decide) rfl rfl rfl (Nat.le_of_ble_eq_true rfl) dzL_law_449 ?_
  refine l_aload_n O dzL_law_452 rfl 2 rfl ?_
  refine l_aload_n O dzL_law_453 rfl 0 rfl ?_
  refine l_iload_n O dzL_law_454 rfl 3 rfl ?_
  refine l_iconst O dzL_law_455 hcI1 ?_
  refine l_iadd O dzL_law_456 ?_
  refine l_sld O (i + 1) (l_ix i 1 rfl) (by omega) (by omega) dzL_law_457 ?_
  refine l_aload_n O dzL_law_458 rfl 0 rfl ?_
  refine l_iload_n O dzL_law_459 rfl 3 rfl ?_
  refine l_iconst O dzL_law_460 hcI2 ?_
  refine l_iadd O dzL_law_461 ?_
  refine l_sld O (i + 2) (l_ix i 2 rfl) (by omega) (by omega) dzL_law_462 ?_
  refine l_cMi O (As := [.int (xs (i + 1)), .int (xs (i + 2))]) (rest := [.int r]) (fin := (r, μ')) (kX8_copy O.2.2.2.2.2.2.2.2.1 h2) mX8_copy tw_944 (by decide) rfl rfl rfl (Nat.le_of_ble_eq_true rfl) dzL_law_463 ?_
  refine l_icmp_eq O dzL_law_466 ?_
  exact nx σ' μ' h3
theorem l_case9 {p : Program} {l : Launch} {e : Env} {s : State} {m : MethodId} {args : Array Value} {below : List Frame} {meth : Method} {c : Code} {Q : State → Prop} {Y : zY} {aM : Nat → Nat} {A : Nat → Prop} {b L : Nat} {xs : Nat → Int32} {σ μ : zS} {P : zS → zS → Prop} {i : Nat} (O : l_ok Y aM A p s m args c b L xs) (hs : l_sims P) (hp : P σ μ) (hi : i + 5 ≤ L) (hL : L ≤ 2560) (nx : ∀ σ' μ', P σ' μ' → l_G p l e s m args below meth c Q Y aM A σ' μ' [(0, .ref b), (1, .ref (z_ad Y 0)), (2, .ref (aM 0)), (3, .int (nI i))] 1552 []) : l_G p l e s m args below meth c Q Y aM A σ μ [(0, .ref b), (1, .ref (z_ad Y 0)), (2, .ref (aM 0)), (3, .int (nI i))] 471 [] := by
  obtain ⟨r, σ', μ', h1, h2, h3⟩ := hs.2.2.2.2.2.2.2.2.2.1 σ μ hp 
  refine l_aload_n O dzL_law_471 rfl 1 rfl ?_
  refine l_cXi O (As := []) (rest := []) (fin := (r, σ')) (kX7_undo O.2.2.2.2.2.2.2.1 h1) mX7_undo tw_343 (by decide) rfl rfl rfl (Nat.le_of_ble_eq_true rfl) dzL_law_472 ?_
  refine l_aload_n O dzL_law_475 rfl 2 rfl ?_
  refine l_cMi O (As := []) (rest := [.int r]) (fin := (r, μ')) (kX8_undo O.2.2.2.2.2.2.2.2.1 h2) mX8_undo tw_948 (by decide) rfl rfl rfl (Nat.le_of_ble_eq_true rfl) dzL_law_476 ?_
  refine l_icmp_eq O dzL_law_479 ?_
  exact nx σ' μ' h3
theorem l_case10 {p : Program} {l : Launch} {e : Env} {s : State} {m : MethodId} {args : Array Value} {below : List Frame} {meth : Method} {c : Code} {Q : State → Prop} {Y : zY} {aM : Nat → Nat} {A : Nat → Prop} {b L : Nat} {xs : Nat → Int32} {σ μ : zS} {P : zS → zS → Prop} {i : Nat} (O : l_ok Y aM A p s m args c b L xs) (hs : l_sims P) (hp : P σ μ) (hi : i + 5 ≤ L) (hL : L ≤ 2560) (nx : ∀ σ' μ', P σ' μ' → l_G p l e s m args below meth c Q Y aM A σ' μ' [(0, .ref b), (1, .ref (z_ad Y 0)), (2, .ref (aM 0)), (3, .int (nI i))] 1552 []) : l_G p l e s m args below meth c Q Y aM A σ μ [(0, .ref b), (1, .ref (z_ad Y 0)), (2, .ref (aM 0)), (3, .int (nI i))] 484 [] := by
  obtain ⟨r, h1, h2⟩ := hs.2.2.2.2.2.2.2.2.2.2.1 σ μ hp (xs (i + 1)) (xs (i + 2))
  refine l_aload_n O dzL_law_484 rfl 1 rfl ?_
  refine l_aload_n O dzL_law_485 rfl 0 rfl ?_
  refine l_iload_n O dzL_law_486 rfl 3 rfl ?_
  refine l_iconst O dzL_law_487 hcI1 ?_
  refine l_iadd O dzL_law_488 ?_
  refine l_sld O (i + 1) (l_ix i 1 rfl) (by omega) (by omega) dzL_law_489 ?_
  refine l_aload_n O dzL_law_490 rfl 0 rfl ?_
  refine l_iload_n O dzL_law_491 rfl 3 rfl ?_
  refine l_iconst O dzL_law_492 hcI2 ?_
  refine l_iadd O dzL_law_493 ?_
  refine l_sld O (i + 2) (l_ix i 2 rfl) (by omega) (by omega) dzL_law_494 ?_
  refine l_cXi O (As := [.int (xs (i + 1)), .int (xs (i + 2))]) (rest := []) (fin := (r, σ)) (kX7_often O.2.2.2.2.2.2.2.1 h1) mX7_often tw_354 (by decide) rfl rfl rfl (Nat.le_of_ble_eq_true rfl) dzL_law_495 ?_
  refine l_aload_n O dzL_law_498 rfl 2 rfl ?_
  refine l_aload_n O dzL_law_499 rfl 0 rfl ?_
  refine l_iload_n O dzL_law_500 rfl 3 rfl ?_
  refine l_iconst O dzL_law_501 hcI1 ?_
  refine l_iadd O dzL_law_502 ?_
  refine l_sld O (i + 1) (l_ix i 1 rfl) (by omega) (by omega) dzL_law_503 ?_
  refine l_aload_n O dzL_law_504 rfl 0 rfl ?_
  refine l_iload_n O dzL_law_505 rfl 3 rfl ?_
  refine l_iconst O dzL_law_506 hcI2 ?_
  refine l_iadd O dzL_law_507 ?_
  refine l_sld O (i + 2) (l_ix i 2 rfl) (by omega) (by omega) dzL_law_508 ?_
  refine l_cMi O (As := [.int (xs (i + 1)), .int (xs (i + 2))]) (rest := [.int r]) (fin := (r, μ)) (kX8_often O.2.2.2.2.2.2.2.2.1 h2) mX8_often tw_952 (by decide) rfl rfl rfl (Nat.le_of_ble_eq_true rfl) dzL_law_509 ?_
  refine l_icmp_eq O dzL_law_512 ?_
  exact nx σ μ hp
theorem l_case11 {p : Program} {l : Launch} {e : Env} {s : State} {m : MethodId} {args : Array Value} {below : List Frame} {meth : Method} {c : Code} {Q : State → Prop} {Y : zY} {aM : Nat → Nat} {A : Nat → Prop} {b L : Nat} {xs : Nat → Int32} {σ μ : zS} {P : zS → zS → Prop} {i : Nat} (O : l_ok Y aM A p s m args c b L xs) (hs : l_sims P) (hp : P σ μ) (hi : i + 5 ≤ L) (hL : L ≤ 2560) (nx : ∀ σ' μ', P σ' μ' → l_G p l e s m args below meth c Q Y aM A σ' μ' [(0, .ref b), (1, .ref (z_ad Y 0)), (2, .ref (aM 0)), (3, .int (nI i))] 1552 []) : l_G p l e s m args below meth c Q Y aM A σ μ [(0, .ref b), (1, .ref (z_ad Y 0)), (2, .ref (aM 0)), (3, .int (nI i))] 517 [] := by
  obtain ⟨r, h1, h2⟩ := hs.2.2.2.2.2.2.2.2.2.2.2.1 σ μ hp (xs (i + 1))
  refine l_aload_n O dzL_law_517 rfl 1 rfl ?_
  refine l_aload_n O dzL_law_518 rfl 0 rfl ?_
  refine l_iload_n O dzL_law_519 rfl 3 rfl ?_
  refine l_iconst O dzL_law_520 hcI1 ?_
  refine l_iadd O dzL_law_521 ?_
  refine l_sld O (i + 1) (l_ix i 1 rfl) (by omega) (by omega) dzL_law_522 ?_
  refine l_cXi O (As := [.int (xs (i + 1))]) (rest := []) (fin := (r, σ)) (kX7_top O.2.2.2.2.2.2.2.1 h1) mX7_top tw_366 (by decide) rfl rfl rfl (Nat.le_of_ble_eq_true rfl) dzL_law_523 ?_
  refine l_aload_n O dzL_law_526 rfl 2 rfl ?_
  refine l_aload_n O dzL_law_527 rfl 0 rfl ?_
  refine l_iload_n O dzL_law_528 rfl 3 rfl ?_
  refine l_iconst O dzL_law_529 hcI1 ?_
  refine l_iadd O dzL_law_530 ?_
  refine l_sld O (i + 1) (l_ix i 1 rfl) (by omega) (by omega) dzL_law_531 ?_
  refine l_cMi O (As := [.int (xs (i + 1))]) (rest := [.int r]) (fin := (r, μ)) (kX8_top O.2.2.2.2.2.2.2.2.1 h2) mX8_top tw_960 (by decide) rfl rfl rfl (Nat.le_of_ble_eq_true rfl) dzL_law_532 ?_
  refine l_icmp_eq O dzL_law_535 ?_
  exact nx σ μ hp
theorem l_case12 {p : Program} {l : Launch} {e : Env} {s : State} {m : MethodId} {args : Array Value} {below : List Frame} {meth : Method} {c : Code} {Q : State → Prop} {Y : zY} {aM : Nat → Nat} {A : Nat → Prop} {b L : Nat} {xs : Nat → Int32} {σ μ : zS} {P : zS → zS → Prop} {i : Nat} (O : l_ok Y aM A p s m args c b L xs) (hs : l_sims P) (hp : P σ μ) (hi : i + 5 ≤ L) (hL : L ≤ 2560) (nx : ∀ σ' μ', P σ' μ' → l_G p l e s m args below meth c Q Y aM A σ' μ' [(0, .ref b), (1, .ref (z_ad Y 0)), (2, .ref (aM 0)), (3, .int (nI i))] 1552 []) : l_G p l e s m args below meth c Q Y aM A σ μ [(0, .ref b), (1, .ref (z_ad Y 0)), (2, .ref (aM 0)), (3, .int (nI i))] 540 [] := by
  obtain ⟨r, h1, h2⟩ := hs.2.2.2.2.2.2.2.2.2.2.2.2.1 σ μ hp (xs (i + 1))
  refine l_aload_n O dzL_law_540 rfl 1 rfl ?_
  refine l_aload_n O dzL_law_541 rfl 0 rfl ?_
  refine l_iload_n O dzL_law_542 rfl 3 rfl ?_
  refine l_iconst O dzL_law_543 hcI1 ?_
  refine l_iadd O dzL_law_544 ?_
  refine l_sld O (i + 1) (l_ix i 1 rfl) (by omega) (by omega) dzL_law_545 ?_
  refine l_cXi O (As := [.int (xs (i + 1))]) (rest := []) (fin := (r, σ)) (kX7_isSimple O.2.2.2.2.2.2.2.1 h1) mX7_isSimple tw_373 (by decide) rfl rfl rfl (Nat.le_of_ble_eq_true rfl) dzL_law_546 ?_
  refine l_aload_n O dzL_law_549 rfl 2 rfl ?_
  refine l_aload_n O dzL_law_550 rfl 0 rfl ?_
  refine l_iload_n O dzL_law_551 rfl 3 rfl ?_
  refine l_iconst O dzL_law_552 hcI1 ?_
  refine l_iadd O dzL_law_553 ?_
  refine l_sld O (i + 1) (l_ix i 1 rfl) (by omega) (by omega) dzL_law_554 ?_
  refine l_cMi O (As := [.int (xs (i + 1))]) (rest := [.int r]) (fin := (r, μ)) (kX8_isSimple O.2.2.2.2.2.2.2.2.1 h2) mX8_isSimple tw_964 (by decide) rfl rfl rfl (Nat.le_of_ble_eq_true rfl) dzL_law_555 ?_
  refine l_icmp_eq O dzL_law_558 ?_
  exact nx σ μ hp
theorem l_case13 {p : Program} {l : Launch} {e : Env} {s : State} {m : MethodId} {args : Array Value} {below : List Frame} {meth : Method} {c : Code} {Q : State → Prop} {Y : zY} {aM : Nat → Nat} {A : Nat → Prop} {b L : Nat} {xs : Nat → Int32} {σ μ : zS} {P : zS → zS → Prop} {i : Nat} (O : l_ok Y aM A p s m args c b L xs) (hs : l_sims P) (hp : P σ μ) (hi : i + 5 ≤ L) (hL : L ≤ 2560) (nx : ∀ σ' μ', P σ' μ' → l_G p l e s m args below meth c Q Y aM A σ' μ' [(0, .ref b), (1, .ref (z_ad Y 0)), (2, .ref (aM 0)), (3, .int (nI i))] 1552 []) : l_G p l e s m args below meth c Q Y aM A σ μ [(0, .ref b), (1, .ref (z_ad Y 0)), (2, .ref (aM 0)), (3, .int (nI i))] 563 [] := by
  obtain ⟨r, σ', μ', h1, h2, h3⟩ := hs.2.2.2.2.2.2.2.2.2.2.2.2.2.1 σ μ hp (xs (i + 1))
  refine l_aload_n O dzL_law_563 rfl 1 rfl ?_
  refine l_aload_n O dzL_law_564 rfl 0 rfl ?_
  refine l_iload_n O dzL_law_565 rfl 3 rfl ?_
  refine l_iconst O dzL_law_566 hcI1 ?_
  refine l_iadd O dzL_law_567 ?_
  refine l_sld O (i + 1) (l_ix i 1 rfl) (by omega) (by omega) dzL_law_568 ?_
  refine l_cXi O (As := [.int (xs (i + 1))]) (rest := []) (fin := (r, σ')) (kX7_lean O.2.2.2.2.2.2.2.1 h1) mX7_lean tw_384 (by decide) rfl rfl rfl (Nat.le_of_ble_eq_true rfl) dzL_law_569 ?_
  refine l_aload_n O dzL_law_572 rfl 2 rfl ?_
  refine l_aload_n O dzL_law_573 rfl 0 rfl ?_
  refine l_iload_n O dzL_law_574 rfl 3 rfl ?_
  refine l_iconst O dzL_law_575 hcI1 ?_
  refine l_iadd O dzL_law_576 ?_
  refine l_sld O (i + 1) (l_ix i 1 rfl) (by omega) (by omega) dzL_law_577 ?_
  refine l_cMi O (As := [.int (xs (i + 1))]) (rest := [.int r]) (fin := (r, μ')) (kX8_lean O.2.2.2.2.2.2.2.2.1 h2) mX8_lean tw_975 (by decide) rfl rfl rfl (Nat.le_of_ble_eq_true rfl) dzL_law_578 ?_
  refine l_icmp_eq O dzL_law_581 ?_
  exact nx σ' μ' h3
theorem l_case14 {p : Program} {l : Launch} {e : Env} {s : State} {m : MethodId} {args : Array Value} {below : List Frame} {meth : Method} {c : Code} {Q : State → Prop} {Y : zY} {aM : Nat → Nat} {A : Nat → Prop} {b L : Nat} {xs : Nat → Int32} {σ μ : zS} {P : zS → zS → Prop} {i : Nat} (O : l_ok Y aM A p s m args c b L xs) (hs : l_sims P) (hp : P σ μ) (hi : i + 5 ≤ L) (hL : L ≤ 2560) (nx : ∀ σ' μ', P σ' μ' → l_G p l e s m args below meth c Q Y aM A σ' μ' [(0, .ref b), (1, .ref (z_ad Y 0)), (2, .ref (aM 0)), (3, .int (nI i))] 1552 []) : l_G p l e s m args below meth c Q Y aM A σ μ [(0, .ref b), (1, .ref (z_ad Y 0)), (2, .ref (aM 0)), (3, .int (nI i))] 586 [] := by
  obtain ⟨r, σ', μ', h1, h2, h3⟩ := hs.2.2.2.2.2.2.2.2.2.2.2.2.2.2.1 σ μ hp (xs (i + 1)) (xs (i + 2)) (xs (i + 3))
  refine l_aload_n O dzL_law_586 rfl 1 rfl ?_
  refine l_aload_n O dzL_law_587 rfl 0 rfl ?_
  refine l_iload_n O dzL_law_588 rfl 3 rfl ?_
  refine l_iconst O dzL_law_589 hcI1 ?_
  refine l_iadd O dzL_law_590 ?_
  refine l_sld O (i + 1) (l_ix i 1 rfl) (by omega) (by omega) dzL_law_591 ?_
  refine l_aload_n O dzL_law_592 rfl 0 rfl ?_
  refine l_iload_n O dzL_law_593 rfl 3 rfl ?_
  refine l_iconst O dzL_law_594 hcI2 ?_
  refine l_iadd O dzL_law_595 ?_
  refine l_sld O (i + 2) (l_ix i 2 rfl) (by omega) (by omega) dzL_law_596 ?_
  refine l_aload_n O dzL_law_597 rfl 0 rfl ?_
  refine l_iload_n O dzL_law_598 rfl 3 rfl ?_
  refine l_iconst O dzL_law_599 hcI3 ?_
  refine l_iadd O dzL_law_600 ?_
  refine l_sld O (i + 3) (l_ix i 3 rfl) (by omega) (by omega) dzL_law_601 ?_
  refine l_cXi O (As := [.int (xs (i + 1)), .int (xs (i + 2)), .int (xs (i + 3))]) (rest := []) (fin := (r, σ')) (kX7_test O.2.2.2.2.2.2.2.1 h1) mX7_test tw_389 (by decide) rfl rfl rfl (Nat.le_of_ble_eq_true rfl) dzL_law_602 ?_
  refine l_aload_n O dzL_law_605 rfl 2 rfl ?_
  refine l_aload_n O dzL_law_606 rfl 0 rfl ?_
  refine l_iload_n O dzL_law_607 rfl 3 rfl ?_
  refine l_iconst O dzL_law_608 hcI1 ?_
  refine l_iadd O dzL_law_609 ?_
  refine l_sld O (i + 1) (l_ix i 1 rfl) (by omega) (by omega) dzL_law_610 ?_
  refine l_aload_n O dzL_law_611 rfl 0 rfl ?_
  refine l_iload_n O dzL_law_612 rfl 3 rfl ?_
  refine l_iconst O dzL_law_613 hcI2 ?_
  refine l_iadd O dzL_law_614 ?_
  refine l_sld O (i + 2) (l_ix i 2 rfl) (by omega) (by omega) dzL_law_615 ?_
  refine l_aload_n O dzL_law_616 rfl 0 rfl ?_
  refine l_iload_n O dzL_law_617 rfl 3 rfl ?_
  refine l_iconst O dzL_law_618 hcI3 ?_
  refine l_iadd O dzL_law_619 ?_
  refine l_sld O (i + 3) (l_ix i 3 rfl) (by omega) (by omega) dzL_law_620 ?_
  refine l_cMi O (As := [.int (xs (i + 1)), .int (xs (i + 2)), .int (xs (i + 3))]) (rest := [.int r]) (fin := (r, μ')) (kX8_test O.2.2.2.2.2.2.2.2.1 h2) mX8_test tw_979 (by decide) rfl rfl rfl (Nat.le_of_ble_eq_true rfl) dzL_law_621 ?_
  refine l_icmp_eq O dzL_law_624 ?_
  exact nx σ' μ' h3
theorem l_case15 {p : Program} {l : Launch} {e : Env} {s : State} {m : MethodId} {args : Array Value} {below : List Frame} {meth : Method} {c : Code} {Q : State → Prop} {Y : zY} {aM : Nat → Nat} {A : Nat → Prop} {b L : Nat} {xs : Nat → Int32} {σ μ : zS} {P : zS → zS → Prop} {i : Nat} (O : l_ok Y aM A p s m args c b L xs) (hs : l_sims P) (hp : P σ μ) (hi : i + 5 ≤ L) (hL : L ≤ 2560) (nx : ∀ σ' μ', P σ' μ' → l_G p l e s m args below meth c Q Y aM A σ' μ' [(0, .ref b), (1, .ref (z_ad Y 0)), (2, .ref (aM 0)), (3, .int (nI i))] 1552 []) : l_G p l e s m args below meth c Q Y aM A σ μ [(0, .ref b), (1, .ref (z_ad Y 0)), (2, .ref (aM 0)), (3, .int (nI i))] 629 [] := by
  obtain ⟨r, σ', μ', h1, h2, h3⟩ := hs.2.2.2.2.2.2.2.2.2.2.2.2.2.2.2.1 σ μ hp (xs (i + 1)) (xs (i + 2)) (xs (i + 3)) (xs (i + 4))
  refine l_aload_n O dzL_law_629 rfl 1 rfl ?_
  refine l_aload_n O dzL_law_630 rfl 0 rfl ?_
  refine l_iload_n O dzL_law_631 rfl 3 rfl ?_
  refine l_iconst O dzL_law_632 hcI1 ?_
  refine l_iadd O dzL_law_633 ?_
  refine l_sld O (i + 1) (l_ix i 1 rfl) (by omega) (by omega) dzL_law_634 ?_
  refine l_aload_n O dzL_law_635 rfl 0 rfl ?_
  refine l_iload_n O dzL_law_636 rfl 3 rfl ?_
  refine l_iconst O dzL_law_637 hcI2 ?_
  refine l_iadd O dzL_law_638 ?_
  refine l_sld O (i + 2) (l_ix i 2 rfl) (by omega) (by omega) dzL_law_639 ?_
  refine l_aload_n O dzL_law_640 rfl 0 rfl ?_
  refine l_iload_n O dzL_law_641 rfl 3 rfl ?_
  refine l_iconst O dzL_law_642 hcI3 ?_
  refine l_iadd O dzL_law_643 ?_
  refine l_sld O (i + 3) (l_ix i 3 rfl) (by omega) (by omega) dzL_law_644 ?_
  refine l_aload_n O dzL_law_645 rfl 0 rfl ?_
  refine l_iload_n O dzL_law_646 rfl 3 rfl ?_
  refine l_iconst O dzL_law_647 hcI4 ?_
  refine l_iadd O dzL_law_648 ?_
  refine l_sld O (i + 4) (l_ix i 4 rfl) (by omega) (by omega) dzL_law_649 ?_
  refine l_cXi O (As := [.int (xs (i + 1)), .int (xs (i + 2)), .int (xs (i + 3)), .int (xs (i + 4))]) (rest := []) (fin := (r, σ')) (kX7_counted O.2.2.2.2.2.2.2.1 h1) mX7_counted tw_461 (by decide) rfl rfl rfl (Nat.le_of_ble_eq_true rfl) dzL_law_650 ?_
  refine l_aload_n O dzL_law_653 rfl 2 rfl ?_
  refine l_aload_n O dzL_law_654 rfl 0 rfl ?_
  refine l_iload_n O dzL_law_655 rfl 3 rfl ?_
  refine l_iconst O dzL_law_656 hcI1 ?_
  refine l_iadd O dzL_law_657 ?_
  refine l_sld O (i + 1) (l_ix i 1 rfl) (by omega) (by omega) dzL_law_658 ?_
  refine l_aload_n O dzL_law_659 rfl 0 rfl ?_
  refine l_iload_n O dzL_law_660 rfl 3 rfl ?_
  refine l_iconst O dzL_law_661 hcI2 ?_
  refine l_iadd O dzL_law_662 ?_
  refine l_sld O (i + 2) (l_ix i 2 rfl) (by omega) (by omega) dzL_law_663 ?_
  refine l_aload_n O dzL_law_664 rfl 0 rfl ?_
  refine l_iload_n O dzL_law_665 rfl 3 rfl ?_
  refine l_iconst O dzL_law_666 hcI3 ?_
  refine l_iadd O dzL_law_667 ?_
  refine l_sld O (i + 3) (l_ix i 3 rfl) (by omega) (by omega) dzL_law_668 ?_
  refine l_aload_n O dzL_law_669 rfl 0 rfl ?_
  refine l_iload_n O dzL_law_670 rfl 3 rfl ?_
  refine l_iconst O dzL_law_671 hcI4 ?_
  refine l_iadd O dzL_law_672 ?_
  refine l_sld O (i + 4) (l_ix i 4 rfl) (by omega) (by omega) dzL_law_673 ?_
  refine l_cMi O (As := [.int (xs (i + 1)), .int (xs (i + 2)), .int (xs (i + 3)), .int (xs (i + 4))]) (rest := [.int r]) (fin := (r, μ')) (kX8_counted O.2.2.2.2.2.2.2.2.1 h2) mX8_counted tw_1002 (by decide) rfl rfl rfl (Nat.le_of_ble_eq_true rfl) dzL_law_674 ?_
  refine l_icmp_eq O dzL_law_677 ?_
  exact nx σ' μ' h3
theorem l_case16 {p : Program} {l : Launch} {e : Env} {s : State} {m : MethodId} {args : Array Value} {below : List Frame} {meth : Method} {c : Code} {Q : State → Prop} {Y : zY} {aM : Nat → Nat} {A : Nat → Prop} {b L : Nat} {xs : Nat → Int32} {σ μ : zS} {P : zS → zS → Prop} {i : Nat} (O : l_ok Y aM A p s m args c b L xs) (hs : l_sims P) (hp : P σ μ) (hi : i + 5 ≤ L) (hL : L ≤ 2560) (nx : ∀ σ' μ', P σ' μ' → l_G p l e s m args below meth c Q Y aM A σ' μ' [(0, .ref b), (1, .ref (z_ad Y 0)), (2, .ref (aM 0)), (3, .int (nI i))] 1552 []) : l_G p l e s m args below meth c Q Y aM A σ μ [(0, .ref b), (1, .ref (z_ad Y 0)), (2, .ref (aM 0)), (3, .int (nI i))] 682 [] := by
  obtain ⟨r, σ', μ', h1, h2, h3⟩ := hs.2.2.2.2.2.2.2.2.2.2.2.2.2.2.2.2.1 σ μ hp (xs (i + 1)) (xs (i + 2))
  refine l_aload_n O dzL_law_682 rfl 1 rfl ?_
  refine l_aload_n O dzL_law_683 rfl 0 rfl ?_
  refine l_iload_n O dzL_law_684 rfl 3 rfl ?_
  refine l_iconst O dzL_law_685 hcI1 ?_
  refine l_iadd O dzL_law_686 ?_
  refine l_sld O (i + 1) (l_ix i 1 rfl) (by omega) (by omega) dzL_law_687 ?_
  refine l_aload_n O dzL_law_688 rfl 0 rfl ?_
  refine l_iload_n O dzL_law_689 rfl 3 rfl ?_
  refine l_iconst O dzL_law_690 hcI2 ?_
  refine l_iadd O dzL_law_691 ?_
  refine l_sld O (i + 2) (l_ix i 2 rfl) (by omega) (by omega) dzL_law_692 ?_
  refine l_cXi O (As := [.int (xs (i + 1)), .int (xs (i + 2))]) (rest := []) (fin := (r, σ')) (kX7_dual O.2.2.2.2.2.2.2.1 h1) mX7_dual tw_477 (by decide) rfl rfl rfl (Nat.le_of_ble_eq_true rfl) dzL_law_693 ?_
  refine l_aload_n O dzL_law_696 rfl 2 rfl ?_
  refine l_aload_n O dzL_law_697 rfl 0 rfl ?_
  refine l_iload_n O dzL_law_698 rfl 3 rfl ?_
  refine l_iconst O dzL_law_699 hcI1 ?_
  refine l_iadd O dzL_law_700 ?_
  refine l_sld O (i + 1) (l_ix i 1 rfl) (by omega) (by omega) dzL_law_701 ?_
  refine l_aload_n O dzL_law_702 rfl 0 rfl ?_
  refine l_iload_n O dzL_law_703 rfl 3 rfl ?_
  refine l_iconst O dzL_law_704 hcI2 ?_
  refine l_iadd O dzL_law_705 ?_
  refine l_sld O (i + 2) (l_ix i 2 rfl) (by omega) (by omega) dzL_law_706 ?_
  refine l_cMi O (As := [.int (xs (i + 1)), .int (xs (i + 2))]) (rest := [.int r]) (fin := (r, μ')) (kX8_dual O.2.2.2.2.2.2.2.2.1 h2) mX8_dual tw_1007 (by decide) rfl rfl rfl (Nat.le_of_ble_eq_true rfl) dzL_law_707 ?_
  refine l_icmp_eq O dzL_law_710 ?_
  exact nx σ' μ' h3
theorem l_case17 {p : Program} {l : Launch} {e : Env} {s : State} {m : MethodId} {args : Array Value} {below : List Frame} {meth : Method} {c : Code} {Q : State → Prop} {Y : zY} {aM : Nat → Nat} {A : Nat → Prop} {b L : Nat} {xs : Nat → Int32} {σ μ : zS} {P : zS → zS → Prop} {i : Nat} (O : l_ok Y aM A p s m args c b L xs) (hs : l_sims P) (hp : P σ μ) (hi : i + 5 ≤ L) (hL : L ≤ 2560) (nx : ∀ σ' μ', P σ' μ' → l_G p l e s m args below meth c Q Y aM A σ' μ' [(0, .ref b), (1, .ref (z_ad Y 0)), (2, .ref (aM 0)), (3, .int (nI i))] 1552 []) : l_G p l e s m args below meth c Q Y aM A σ μ [(0, .ref b), (1, .ref (z_ad Y 0)), (2, .ref (aM 0)), (3, .int (nI i))] 715 [] := by
  obtain ⟨r, σ', μ', h1, h2, h3⟩ := hs.2.2.2.2.2.2.2.2.2.2.2.2.2.2.2.2.2.1 σ μ hp (xs (i + 1)) (xs (i + 2))
  refine l_aload_n O dzL_law_715 rfl 1 rfl ?_
  refine l_aload_n O dzL_law_716 rfl 0 rfl ?_
  refine l_iload_n O dzL_law_717 rfl 3 rfl ?_
  refine l_iconst O dzL_law_718 hcI1 ?_
  refine l_iadd O dzL_law_719 ?_
  refine l_sld O (i + 1) (l_ix i 1 rfl) (by omega) (by omega) dzL_law_720 ?_
  refine l_aload_n O dzL_law_721 rfl 0 rfl ?_
  refine l_iload_n O dzL_law_722 rfl 3 rfl ?_
  refine l_iconst O dzL_law_723 hcI2 ?_
  refine l_iadd O dzL_law_724 ?_
  refine l_sld O (i + 2) (l_ix i 2 rfl) (by omega) (by omega) dzL_law_725 ?_
  refine l_cXi O (As := [.int (xs (i + 1)), .int (xs (i + 2))]) (rest := []) (fin := (r, σ')) (kX7_into O.2.2.2.2.2.2.2.1 h1) mX7_into tw_495 (by decide) rfl rfl rfl (Nat.le_of_ble_eq_true rfl) dzL_law_726 ?_
  refine l_aload_n O dzL_law_729 rfl 2 rfl ?_
  refine l_aload_n O dzL_law_730 rfl 0 rfl ?_
  refine l_iload_n O dzL_law_731 rfl 3 rfl ?_
  refine l_iconst O dzL_law_732 hcI1 ?_
  refine l_iadd O dzL_law_733 ?_
  refine l_sld O (i + 1) (l_ix i 1 rfl) (by omega) (by omega) dzL_law_734 ?_
  refine l_aload_n O dzL_law_735 rfl 0 rfl ?_
  refine l_iload_n O dzL_law_736 rfl 3 rfl ?_
  refine l_iconst O dzL_law_737 hcI2 ?_
  refine l_iadd O dzL_law_738 ?_
  refine l_sld O (i + 2) (l_ix i 2 rfl) (by omega) (by omega) dzL_law_739 ?_
  refine l_cMi O (As := [.int (xs (i + 1)), .int (xs (i + 2))]) (rest := [.int r]) (fin := (r, μ')) (kX8_into O.2.2.2.2.2.2.2.2.1 h2) mX8_into tw_1023 (by decide) rfl rfl rfl (Nat.le_of_ble_eq_true rfl) dzL_law_740 ?_
  refine l_icmp_eq O dzL_law_743 ?_
  exact nx σ' μ' h3
theorem l_case18 {p : Program} {l : Launch} {e : Env} {s : State} {m : MethodId} {args : Array Value} {below : List Frame} {meth : Method} {c : Code} {Q : State → Prop} {Y : zY} {aM : Nat → Nat} {A : Nat → Prop} {b L : Nat} {xs : Nat → Int32} {σ μ : zS} {P : zS → zS → Prop} {i : Nat} (O : l_ok Y aM A p s m args c b L xs) (hs : l_sims P) (hp : P σ μ) (hi : i + 5 ≤ L) (hL : L ≤ 2560) (nx : ∀ σ' μ', P σ' μ' → l_G p l e s m args below meth c Q Y aM A σ' μ' [(0, .ref b), (1, .ref (z_ad Y 0)), (2, .ref (aM 0)), (3, .int (nI i))] 1552 []) : l_G p l e s m args below meth c Q Y aM A σ μ [(0, .ref b), (1, .ref (z_ad Y 0)), (2, .ref (aM 0)), (3, .int (nI i))] 748 [] := by
  obtain ⟨r, σ', μ', h1, h2, h3⟩ := hs.2.2.2.2.2.2.2.2.2.2.2.2.2.2.2.2.2.2.1 σ μ hp (xs (i + 1)) (xs (i + 2)) (xs (i + 3))
  refine l_aload_n O dzL_law_748 rfl 1 rfl ?_
  refine l_aload_n O dzL_law_749 rfl 0 rfl ?_
  refine l_iload_n O dzL_law_750 rfl 3 rfl ?_
  refine l_iconst O dzL_law_751 hcI1 ?_
  refine l_iadd O dzL_law_752 ?_
  refine l_sld O (i + 1) (l_ix i 1 rfl) (by omega) (by omega) dzL_law_753 ?_
  refine l_aload_n O dzL_law_754 rfl 0 rfl ?_
  refine l_iload_n O dzL_law_755 rfl 3 rfl ?_
  refine l_iconst O dzL_law_756 hcI2 ?_
  refine l_iadd O dzL_law_757 ?_
  refine l_sld O (i + 2) (l_ix i 2 rfl) (by omega) (by omega) dzL_law_758 ?_
  refine l_aload_n O dzL_law_759 rfl 0 rfl ?_
  refine l_iload_n O dzL_law_760 rfl 3 rfl ?_
  refine l_iconst O dzL_law_761 hcI3 ?_
  refine l_iadd O dzL_law_762 ?_
  refine l_sld O (i + 3) (l_ix i 3 rfl) (by omega) (by omega) dzL_law_763 ?_
  refine l_cXi O (As := [.int (xs (i + 1)), .int (xs (i + 2)), .int (xs (i + 3))]) (rest := []) (fin := (r, σ')) (kX7_verdict O.2.2.2.2.2.2.2.1 h1) mX7_verdict tw_499 (by decide) rfl rfl rfl (Nat.le_of_ble_eq_true rfl) dzL_law_764 ?_
  refine l_aload_n O dzL_law_767 rfl 2 rfl ?_
  refine l_aload_n O dzL_law_768 rfl 0 rfl ?_
  refine l_iload_n O dzL_law_769 rfl 3 rfl ?_
  refine l_iconst O dzL_law_770 hcI1 ?_
  refine l_iadd O dzL_law_771 ?_
  refine l_sld O (i + 1) (l_ix i 1 rfl) (by omega) (by omega) dzL_law_772 ?_
  refine l_aload_n O dzL_law_773 rfl 0 rfl ?_
  refine l_iload_n O dzL_law_774 rfl 3 rfl ?_
  refine l_iconst O dzL_law_775 hcI2 ?_
  refine l_iadd O dzL_law_776 ?_
  refine l_sld O (i + 2) (l_ix i 2 rfl) (by omega) (by omega) dzL_law_777 ?_
  refine l_aload_n O dzL_law_778 rfl 0 rfl ?_
  refine l_iload_n O dzL_law_779 rfl 3 rfl ?_
  refine l_iconst O dzL_law_780 hcI3 ?_
  refine l_iadd O dzL_law_781 ?_
  refine l_sld O (i + 3) (l_ix i 3 rfl) (by omega) (by omega) dzL_law_782 ?_
  refine l_cMi O (As := [.int (xs (i + 1)), .int (xs (i + 2)), .int (xs (i + 3))]) (rest := [.int r]) (fin := (r, μ')) (kX8_verdict O.2.2.2.2.2.2.2.2.1 h2) mX8_verdict tw_1027 (by decide) rfl rfl rfl (Nat.le_of_ble_eq_true rfl) dzL_law_783 ?_
  refine l_icmp_eq O dzL_law_786 ?_
  exact nx σ' μ' h3
theorem l_case19 {p : Program} {l : Launch} {e : Env} {s : State} {m : MethodId} {args : Array Value} {below : List Frame} {meth : Method} {c : Code} {Q : State → Prop} {Y : zY} {aM : Nat → Nat} {A : Nat → Prop} {b L : Nat} {xs : Nat → Int32} {σ μ : zS} {P : zS → zS → Prop} {i : Nat} (O : l_ok Y aM A p s m args c b L xs) (hs : l_sims P) (hp : P σ μ) (hi : i + 5 ≤ L) (hL : L ≤ 2560) (nx : ∀ σ' μ', P σ' μ' → l_G p l e s m args below meth c Q Y aM A σ' μ' [(0, .ref b), (1, .ref (z_ad Y 0)), (2, .ref (aM 0)), (3, .int (nI i))] 1552 []) : l_G p l e s m args below meth c Q Y aM A σ μ [(0, .ref b), (1, .ref (z_ad Y 0)), (2, .ref (aM 0)), (3, .int (nI i))] 791 [] := by
  obtain ⟨r, σ', μ', h1, h2, h3⟩ := hs.2.2.2.2.2.2.2.2.2.2.2.2.2.2.2.2.2.2.2.1 σ μ hp (xs (i + 1)) (xs (i + 2))
  refine l_aload_n O dzL_law_791 rfl 1 rfl ?_
  refine l_aload_n O dzL_law_792 rfl 0 rfl ?_
  refine l_iload_n O dzL_law_793 rfl 3 rfl ?_
  refine l_iconst O dzL_law_794 hcI1 ?_
  refine l_iadd O dzL_law_795 ?_
  refine l_sld O (i + 1) (l_ix i 1 rfl) (by omega) (by omega) dzL_law_796 ?_
  refine l_aload_n O dzL_law_797 rfl 0 rfl ?_
  refine l_iload_n O dzL_law_798 rfl 3 rfl ?_
  refine l_iconst O dzL_law_799 hcI2 ?_
  refine l_iadd O dzL_law_800 ?_
  refine l_sld O (i + 2) (l_ix i 2 rfl) (by omega) (by omega) dzL_law_801 ?_
  refine l_cXi O (As := [.int (xs (i + 1)), .int (xs (i + 2))]) (rest := []) (fin := (r, σ')) (kX7_tree O.2.2.2.2.2.2.2.1 h1) mX7_tree tw_517 (by decide) rfl rfl rfl (Nat.le_of_ble_eq_true rfl) dzL_law_802 ?_
  refine l_aload_n O dzL_law_805 rfl 2 rfl ?_
  refine l_aload_n O dzL_law_806 rfl 0 rfl ?_
  refine l_iload_n O dzL_law_807 rfl 3 rfl ?_
  refine l_iconst O dzL_law_808 hcI1 ?_
  refine l_iadd O dzL_law_809 ?_
  refine l_sld O (i + 1) (l_ix i 1 rfl) (by omega) (by omega) dzL_law_810 ?_
  refine l_aload_n O dzL_law_811 rfl 0 rfl ?_
  refine l_iload_n O dzL_law_812 rfl 3 rfl ?_
  refine l_iconst O dzL_law_813 hcI2 ?_
  refine l_iadd O dzL_law_814 ?_
  refine l_sld O (i + 2) (l_ix i 2 rfl) (by omega) (by omega) dzL_law_815 ?_
  refine l_cMi O (As := [.int (xs (i + 1)), .int (xs (i + 2))]) (rest := [.int r]) (fin := (r, μ')) (kX8_tree O.2.2.2.2.2.2.2.2.1 h2) mX8_tree tw_1031 (by decide) rfl rfl rfl (Nat.le_of_ble_eq_true rfl) dzL_law_816 ?_
  refine l_icmp_eq O dzL_law_819 ?_
  exact nx σ' μ' h3
theorem l_case20 {p : Program} {l : Launch} {e : Env} {s : State} {m : MethodId} {args : Array Value} {below : List Frame} {meth : Method} {c : Code} {Q : State → Prop} {Y : zY} {aM : Nat → Nat} {A : Nat → Prop} {b L : Nat} {xs : Nat → Int32} {σ μ : zS} {P : zS → zS → Prop} {i : Nat} (O : l_ok Y aM A p s m args c b L xs) (hs : l_sims P) (hp : P σ μ) (hi : i + 5 ≤ L) (hL : L ≤ 2560) (nx : ∀ σ' μ', P σ' μ' → l_G p l e s m args below meth c Q Y aM A σ' μ' [(0, .ref b), (1, .ref (z_ad Y 0)), (2, .ref (aM 0)), (3, .int (nI i))] 1552 []) : l_G p l e s m args below meth c Q Y aM A σ μ [(0, .ref b), (1, .ref (z_ad Y 0)), (2, .ref (aM 0)), (3, .int (nI i))] 824 [] := by
  obtain ⟨r, σ', μ', h1, h2, h3⟩ := hs.2.2.2.2.2.2.2.2.2.2.2.2.2.2.2.2.2.2.2.2.1 σ μ hp (xs (i + 1)) (xs (i + 2)) (xs (i + 3))
  refine l_aload_n O dzL_law_824 rfl 1 rfl ?_
  refine l_aload_n O dzL_law_825 rfl 0 rfl ?_
  refine l_iload_n O dzL_law_826 rfl 3 rfl ?_
  refine l_iconst O dzL_law_827 hcI1 ?_
  refine l_iadd O dzL_law_828 ?_
  refine l_sld O (i + 1) (l_ix i 1 rfl) (by omega) (by omega) dzL_law_829 ?_
  refine l_aload_n O dzL_law_830 rfl 0 rfl ?_
  refine l_iload_n O dzL_law_831 rfl 3 rfl ?_
  refine l_iconst O dzL_law_832 hcI2 ?_
  refine l_iadd O dzL_law_833 ?_
  refine l_sld O (i + 2) (l_ix i 2 rfl) (by omega) (by omega) dzL_law_834 ?_
  refine l_aload_n O dzL_law_835 rfl 0 rfl ?_
  refine l_iload_n O dzL_law_836 rfl 3 rfl ?_
  refine l_iconst O dzL_law_837 hcI3 ?_
  refine l_iadd O dzL_law_838 ?_
  refine l_sld O (i + 3) (l_ix i 3 rfl) (by omega) (by omega) dzL_law_839 ?_
  refine l_cXi O (As := [.int (xs (i + 1)), .int (xs (i + 2)), .int (xs (i + 3))]) (rest := []) (fin := (r, σ')) (kX7_node O.2.2.2.2.2.2.2.1 h1) mX7_node tw_545 (by decide) rfl rfl rfl (Nat.le_of_ble_eq_true rfl) dzL_law_840 ?_
  refine l_aload_n O dzL_law_843 rfl 2 rfl ?_
  refine l_aload_n O dzL_law_844 rfl 0 rfl ?_
  refine l_iload_n O dzL_law_845 rfl 3 rfl ?_
  refine l_iconst O dzL_law_846 hcI1 ?_
  refine l_iadd O dzL_law_847 ?_
  refine l_sld O (i + 1) (l_ix i 1 rfl) (by omega) (by omega) dzL_law_848 ?_
  refine l_aload_n O dzL_law_849 rfl 0 rfl ?_
  refine l_iload_n O dzL_law_850 rfl 3 rfl ?_
  refine l_iconst O dzL_law_851 hcI2 ?_
  refine l_iadd O dzL_law_852 ?_
  refine l_sld O (i + 2) (l_ix i 2 rfl) (by omega) (by omega) dzL_law_853 ?_
  refine l_aload_n O dzL_law_854 rfl 0 rfl ?_
  refine l_iload_n O dzL_law_855 rfl 3 rfl ?_
  refine l_iconst O dzL_law_856 hcI3 ?_
  refine l_iadd O dzL_law_857 ?_
  refine l_sld O (i + 3) (l_ix i 3 rfl) (by omega) (by omega) dzL_law_858 ?_
  refine l_cMi O (As := [.int (xs (i + 1)), .int (xs (i + 2)), .int (xs (i + 3))]) (rest := [.int r]) (fin := (r, μ')) (kX8_node O.2.2.2.2.2.2.2.2.1 h2) mX8_node tw_1055 (by decide) rfl rfl rfl (Nat.le_of_ble_eq_true rfl) dzL_law_859 ?_
  refine l_icmp_eq O dzL_law_862 ?_
  exact nx σ' μ' h3
theorem l_case21 {p : Program} {l : Launch} {e : Env} {s : State} {m : MethodId} {args : Array Value} {below : List Frame} {meth : Method} {c : Code} {Q : State → Prop} {Y : zY} {aM : Nat → Nat} {A : Nat → Prop} {b L : Nat} {xs : Nat → Int32} {σ μ : zS} {P : zS → zS → Prop} {i : Nat} (O : l_ok Y aM A p s m args c b L xs) (hs : l_sims P) (hp : P σ μ) (hi : i + 5 ≤ L) (hL : L ≤ 2560) (nx : ∀ σ' μ', P σ' μ' → l_G p l e s m args below meth c Q Y aM A σ' μ' [(0, .ref b), (1, .ref (z_ad Y 0)), (2, .ref (aM 0)), (3, .int (nI i))] 1552 []) : l_G p l e s m args below meth c Q Y aM A σ μ [(0, .ref b), (1, .ref (z_ad Y 0)), (2, .ref (aM 0)), (3, .int (nI i))] 867 [] := by
  obtain ⟨r, σ', μ', h1, h2, h3⟩ := hs.2.2.2.2.2.2.2.2.2.2.2.2.2.2.2.2.2.2.2.2.2.1 σ μ hp (xs (i + 1)) (xs (i + 2))
  refine l_aload_n O dzL_law_867 rfl 1 rfl ?_
  refine l_aload_n O dzL_law_868 rfl 0 rfl ?_
  refine l_iload_n O dzL_law_869 rfl 3 rfl ?_
  refine l_iconst O dzL_law_870 hcI1 ?_
  refine l_iadd O dzL_law_871 ?_
  refine l_sld O (i + 1) (l_ix i 1 rfl) (by omega) (by omega) dzL_law_872 ?_
  refine l_aload_n O dzL_law_873 rfl 0 rfl ?_
  refine l_iload_n O dzL_law_874 rfl 3 rfl ?_
  refine l_iconst O dzL_law_875 hcI2 ?_
  refine l_iadd O dzL_law_876 ?_
  refine l_sld O (i + 2) (l_ix i 2 rfl) (by omega) (by omega) dzL_law_877 ?_
  refine l_cXi O (As := [.int (xs (i + 1)), .int (xs (i + 2))]) (rest := []) (fin := (r, σ')) (kX7_keys O.2.2.2.2.2.2.2.1 h1) mX7_keys tw_549 (by decide) rfl rfl rfl (Nat.le_of_ble_eq_true rfl) dzL_law_878 ?_
  refine l_aload_n O dzL_law_881 rfl 2 rfl ?_
  refine l_aload_n O dzL_law_882 rfl 0 rfl ?_
  refine l_iload_n O dzL_law_883 rfl 3 rfl ?_
  refine l_iconst O dzL_law_884 hcI1 ?_
  refine l_iadd O dzL_law_885 ?_
  refine l_sld O (i + 1) (l_ix i 1 rfl) (by omega) (by omega) dzL_law_886 ?_
  refine l_aload_n O dzL_law_887 rfl 0 rfl ?_
  refine l_iload_n O dzL_law_888 rfl 3 rfl ?_
  refine l_iconst O dzL_law_889 hcI2 ?_
  refine l_iadd O dzL_law_890 ?_
  refine l_sld O (i + 2) (l_ix i 2 rfl) (by omega) (by omega) dzL_law_891 ?_
  refine l_cMi O (As := [.int (xs (i + 1)), .int (xs (i + 2))]) (rest := [.int r]) (fin := (r, μ')) (kX8_keys O.2.2.2.2.2.2.2.2.1 h2) mX8_keys tw_1059 (by decide) rfl rfl rfl (Nat.le_of_ble_eq_true rfl) dzL_law_892 ?_
  refine l_icmp_eq O dzL_law_895 ?_
  exact nx σ' μ' h3
theorem l_case22 {p : Program} {l : Launch} {e : Env} {s : State} {m : MethodId} {args : Array Value} {below : List Frame} {meth : Method} {c : Code} {Q : State → Prop} {Y : zY} {aM : Nat → Nat} {A : Nat → Prop} {b L : Nat} {xs : Nat → Int32} {σ μ : zS} {P : zS → zS → Prop} {i : Nat} (O : l_ok Y aM A p s m args c b L xs) (hs : l_sims P) (hp : P σ μ) (hi : i + 5 ≤ L) (hL : L ≤ 2560) (nx : ∀ σ' μ', P σ' μ' → l_G p l e s m args below meth c Q Y aM A σ' μ' [(0, .ref b), (1, .ref (z_ad Y 0)), (2, .ref (aM 0)), (3, .int (nI i))] 1552 []) : l_G p l e s m args below meth c Q Y aM A σ μ [(0, .ref b), (1, .ref (z_ad Y 0)), (2, .ref (aM 0)), (3, .int (nI i))] 900 [] := by
  obtain ⟨r, h1, h2⟩ := hs.2.2.2.2.2.2.2.2.2.2.2.2.2.2.2.2.2.2.2.2.2.2.1 σ μ hp (xs (i + 1)) (xs (i + 2))
  refine l_aload_n O dzL_law_900 rfl 1 rfl ?_
  refine l_aload_n O dzL_law_901 rfl 0 rfl ?_
  refine l_iload_n O dzL_law_902 rfl 3 rfl ?_
  refine l_iconst O dzL_law_903 hcI1 ?_
  refine l_iadd O dzL_law_904 ?_
  refine l_sld O (i + 1) (l_ix i 1 rfl) (by omega) (by omega) dzL_law_905 ?_
  refine l_aload_n O dzL_law_906 rfl 0 rfl ?_
  refine l_iload_n O dzL_law_907 rfl 3 rfl ?_
  refine l_iconst O dzL_law_908 hcI2 ?_
  refine l_iadd O dzL_law_909 ?_
  refine l_sld O (i + 2) (l_ix i 2 rfl) (by omega) (by omega) dzL_law_910 ?_
  refine l_cXi O (As := [.int (xs (i + 1)), .int (xs (i + 2))]) (rest := []) (fin := (r, σ)) (kX7_support O.2.2.2.2.2.2.2.1 h1) mX7_support tw_557 (by decide) rfl rfl rfl (Nat.le_of_ble_eq_true rfl) dzL_law_911 ?_
  refine l_aload_n O dzL_law_914 rfl 2 rfl ?_
  refine l_aload_n O dzL_law_915 rfl 0 rfl ?_
  refine l_iload_n O dzL_law_916 rfl 3 rfl ?_
  refine l_iconst O dzL_law_917 hcI1 ?_
  refine l_iadd O dzL_law_918 ?_
  refine l_sld O (i + 1) (l_ix i 1 rfl) (by omega) (by omega) dzL_law_919 ?_
  refine l_aload_n O dzL_law_920 rfl 0 rfl ?_
  refine l_iload_n O dzL_law_921 rfl 3 rfl ?_
  refine l_iconst O dzL_law_922 hcI2 ?_
  refine l_iadd O dzL_law_923 ?_
  refine l_sld O (i + 2) (l_ix i 2 rfl) (by omega) (by omega) dzL_law_924 ?_
  refine l_cMi O (As := [.int (xs (i + 1)), .int (xs (i + 2))]) (rest := [.int r]) (fin := (r, μ)) (kX8_support O.2.2.2.2.2.2.2.2.1 h2) mX8_support tw_1063 (by decide) rfl rfl rfl (Nat.le_of_ble_eq_true rfl) dzL_law_925 ?_
  refine l_icmp_eq O dzL_law_928 ?_
  exact nx σ μ hp
theorem l_case23 {p : Program} {l : Launch} {e : Env} {s : State} {m : MethodId} {args : Array Value} {below : List Frame} {meth : Method} {c : Code} {Q : State → Prop} {Y : zY} {aM : Nat → Nat} {A : Nat → Prop} {b L : Nat} {xs : Nat → Int32} {σ μ : zS} {P : zS → zS → Prop} {i : Nat} (O : l_ok Y aM A p s m args c b L xs) (hs : l_sims P) (hp : P σ μ) (hi : i + 5 ≤ L) (hL : L ≤ 2560) (nx : ∀ σ' μ', P σ' μ' → l_G p l e s m args below meth c Q Y aM A σ' μ' [(0, .ref b), (1, .ref (z_ad Y 0)), (2, .ref (aM 0)), (3, .int (nI i))] 1552 []) : l_G p l e s m args below meth c Q Y aM A σ μ [(0, .ref b), (1, .ref (z_ad Y 0)), (2, .ref (aM 0)), (3, .int (nI i))] 933 [] := by
  obtain ⟨r, σ', μ', h1, h2, h3⟩ := hs.2.2.2.2.2.2.2.2.2.2.2.2.2.2.2.2.2.2.2.2.2.2.2.1 σ μ hp (xs (i + 1)) (xs (i + 2)) (xs (i + 3)) (xs (i + 4))
  refine l_aload_n O dzL_law_933 rfl 1 rfl ?_
  refine l_aload_n O dzL_law_934 rfl 0 rfl ?_
  refine l_iload_n O dzL_law_935 rfl 3 rfl ?_
  refine l_iconst O dzL_law_936 hcI1 ?_
  refine l_iadd O dzL_law_937 ?_
  refine l_sld O (i + 1) (l_ix i 1 rfl) (by omega) (by omega) dzL_law_938 ?_
  refine l_aload_n O dzL_law_939 rfl 0 rfl ?_
  refine l_iload_n O dzL_law_940 rfl 3 rfl ?_
  refine l_iconst O dzL_law_941 hcI2 ?_
  refine l_iadd O dzL_law_942 ?_
  refine l_sld O (i + 2) (l_ix i 2 rfl) (by omega) (by omega) dzL_law_943 ?_
  refine l_aload_n O dzL_law_944 rfl 0 rfl ?_
  refine l_iload_n O dzL_law_945 rfl 3 rfl ?_
  refine l_iconst O dzL_law_946 hcI3 ?_
  refine l_iadd O dzL_law_947 ?_
  refine l_sld O (i + 3) (l_ix i 3 rfl) (by omega) (by omega) dzL_law_948 ?_
  refine l_aload_n O dzL_law_949 rfl 0 rfl ?_
  refine l_iload_n O dzL_law_950 rfl 3 rfl ?_
  refine l_iconst O dzL_law_951 hcI4 ?_
  refine l_iadd O dzL_law_952 ?_
  refine l_sld O (i + 4) (l_ix i 4 rfl) (by omega) (by omega) dzL_law_953 ?_
  refine l_cXi O (As := [.int (xs (i + 1)), .int (xs (i + 2)), .int (xs (i + 3)), .int (xs (i + 4))]) (rest := []) (fin := (r, σ')) (kX7_border O.2.2.2.2.2.2.2.1 h1) mX7_border tw_565 (by decide) rfl rfl rfl (Nat.le_of_ble_eq_true rfl) dzL_law_954 ?_
  refine l_aload_n O dzL_law_957 rfl 2 rfl ?_
  refine l_aload_n O dzL_law_958 rfl 0 rfl ?_
  refine l_iload_n O dzL_law_959 rfl 3 rfl ?_
  refine l_iconst O dzL_law_960 hcI1 ?_
  refine l_iadd O dzL_law_961 ?_
  refine l_sld O (i + 1) (l_ix i 1 rfl) (by omega) (by omega) dzL_law_962 ?_
  refine l_aload_n O dzL_law_963 rfl 0 rfl ?_
  refine l_iload_n O dzL_law_964 rfl 3 rfl ?_
  refine l_iconst O dzL_law_965 hcI2 ?_
  refine l_iadd O dzL_law_966 ?_
  refine l_sld O (i + 2) (l_ix i 2 rfl) (by omega) (by omega) dzL_law_967 ?_
  refine l_aload_n O dzL_law_968 rfl 0 rfl ?_
  refine l_iload_n O dzL_law_969 rfl 3 rfl ?_
  refine l_iconst O dzL_law_970 hcI3 ?_
  refine l_iadd O dzL_law_971 ?_
  refine l_sld O (i + 3) (l_ix i 3 rfl) (by omega) (by omega) dzL_law_972 ?_
  refine l_aload_n O dzL_law_973 rfl 0 rfl ?_
  refine l_iload_n O dzL_law_974 rfl 3 rfl ?_
  refine l_iconst O dzL_law_975 hcI4 ?_
  refine l_iadd O dzL_law_976 ?_
  refine l_sld O (i + 4) (l_ix i 4 rfl) (by omega) (by omega) dzL_law_977 ?_
  refine l_cMi O (As := [.int (xs (i + 1)), .int (xs (i + 2)), .int (xs (i + 3)), .int (xs (i + 4))]) (rest := [.int r]) (fin := (r, μ')) (kX8_border O.2.2.2.2.2.2.2.2.1 h2) mX8_border tw_1071 (by decide) rfl rfl rfl (Nat.le_of_ble_eq_true rfl) dzL_law_978 ?_
  refine l_icmp_eq O dzL_law_981 ?_
  exact nx σ' μ' h3
theorem l_case24 {p : Program} {l : Launch} {e : Env} {s : State} {m : MethodId} {args : Array Value} {below : List Frame} {meth : Method} {c : Code} {Q : State → Prop} {Y : zY} {aM : Nat → Nat} {A : Nat → Prop} {b L : Nat} {xs : Nat → Int32} {σ μ : zS} {P : zS → zS → Prop} {i : Nat} (O : l_ok Y aM A p s m args c b L xs) (hs : l_sims P) (hp : P σ μ) (hi : i + 5 ≤ L) (hL : L ≤ 2560) (nx : ∀ σ' μ', P σ' μ' → l_G p l e s m args below meth c Q Y aM A σ' μ' [(0, .ref b), (1, .ref (z_ad Y 0)), (2, .ref (aM 0)), (3, .int (nI i))] 1552 []) : l_G p l e s m args below meth c Q Y aM A σ μ [(0, .ref b), (1, .ref (z_ad Y 0)), (2, .ref (aM 0)), (3, .int (nI i))] 986 [] := by
  obtain ⟨r, σ', μ', h1, h2, h3⟩ := hs.2.2.2.2.2.2.2.2.2.2.2.2.2.2.2.2.2.2.2.2.2.2.2.2.1 σ μ hp (xs (i + 1)) (xs (i + 2)) (xs (i + 3)) (xs (i + 4))
  refine l_aload_n O dzL_law_986 rfl 1 rfl ?_
  refine l_aload_n O dzL_law_987 rfl 0 rfl ?_
  refine l_iload_n O dzL_law_988 rfl 3 rfl ?_
  refine l_iconst O dzL_law_989 hcI1 ?_
  refine l_iadd O dzL_law_990 ?_
  refine l_sld O (i + 1) (l_ix i 1 rfl) (by omega) (by omega) dzL_law_991 ?_
  refine l_aload_n O dzL_law_992 rfl 0 rfl ?_
  refine l_iload_n O dzL_law_993 rfl 3 rfl ?_
  refine l_iconst O dzL_law_994 hcI2 ?_
  refine l_iadd O dzL_law_995 ?_
  refine l_sld O (i + 2) (l_ix i 2 rfl) (by omega) (by omega) dzL_law_996 ?_
  refine l_aload_n O dzL_law_997 rfl 0 rfl ?_
  refine l_iload_n O dzL_law_998 rfl 3 rfl ?_
  refine l_iconst O dzL_law_999 hcI3 ?_
  refine l_iadd O dzL_law_1000 ?_
  refine l_sld O (i + 3) (l_ix i 3 rfl) (by omega) (by omega) dzL_law_1001 ?_
  refine l_aload_n O dzL_law_1002 rfl 0 rfl ?_
  refine l_iload_n O dzL_law_1003 rfl 3 rfl ?_
  refine l_iconst O dzL_law_1004 hcI4 ?_
  refine l_iadd O dzL_law_1005 ?_
  refine l_sld O (i + 4) (l_ix i 4 rfl) (by omega) (by omega) dzL_law_1006 ?_
  refine l_cXi O (As := [.int (xs (i + 1)), .int (xs (i + 2)), .int (xs (i + 3)), .int (xs (i + 4))]) (rest := []) (fin := (r, σ')) (kX7_make O.2.2.2.2.2.2.2.1 h1) mX7_make tw_583 (by decide) rfl rfl rfl (Nat.le_of_ble_eq_true rfl) dzL_law_1007 ?_
  refine l_aload_n O dzL_law_1010 rfl 2 rfl ?_
  refine l_aload_n O dzL_law_1011 rfl 0 rfl ?_
  refine l_iload_n O dzL_law_1012 rfl 3 rfl ?_
  refine l_iconst O dzL_law_1013 hcI1 ?_
  refine l_iadd O dzL_law_1014 ?_
  refine l_sld O (i + 1) (l_ix i 1 rfl) (by omega) (by omega) dzL_law_1015 ?_
  refine l_aload_n O dzL_law_1016 rfl 0 rfl ?_
  refine l_iload_n O dzL_law_1017 rfl 3 rfl ?_
  refine l_iconst O dzL_law_1018 hcI2 ?_
  refine l_iadd O dzL_law_1019 ?_
  refine l_sld O (i + 2) (l_ix i 2 rfl) (by omega) (by omega) dzL_law_1020 ?_
  refine l_aload_n O dzL_law_1021 rfl 0 rfl ?_
  refine l_iload_n O dzL_law_1022 rfl 3 rfl ?_
  refine l_iconst O dzL_law_1023 hcI3 ?_
  refine l_iadd O dzL_law_1024 ?_
  refine l_sld O (i + 3) (l_ix i 3 rfl) (by omega) (by omega) dzL_law_1025 ?_
  refine l_aload_n O dzL_law_1026 rfl 0 rfl ?_
  refine l_iload_n O dzL_law_1027 rfl 3 rfl ?_
  refine l_iconst O dzL_law_1028 hcI4 ?_
  refine l_iadd O dzL_law_1029 ?_
  refine l_sld O (i + 4) (l_ix i 4 rfl) (by omega) (by omega) dzL_law_1030 ?_
  refine l_cMi O (As := [.int (xs (i + 1)), .int (xs (i + 2)), .int (xs (i + 3)), .int (xs (i + 4))]) (rest := [.int r]) (fin := (r, μ')) (kX8_make O.2.2.2.2.2.2.2.2.1 h2) mX8_make tw_1080 (by decide) rfl rfl rfl (Nat.le_of_ble_eq_true rfl) dzL_law_1031 ?_
  refine l_icmp_eq O dzL_law_1034 ?_
  exact nx σ' μ' h3
theorem l_case25 {p : Program} {l : Launch} {e : Env} {s : State} {m : MethodId} {args : Array Value} {below : List Frame} {meth : Method} {c : Code} {Q : State → Prop} {Y : zY} {aM : Nat → Nat} {A : Nat → Prop} {b L : Nat} {xs : Nat → Int32} {σ μ : zS} {P : zS → zS → Prop} {i : Nat} (O : l_ok Y aM A p s m args c b L xs) (hs : l_sims P) (hp : P σ μ) (hi : i + 5 ≤ L) (hL : L ≤ 2560) (nx : ∀ σ' μ', P σ' μ' → l_G p l e s m args below meth c Q Y aM A σ' μ' [(0, .ref b), (1, .ref (z_ad Y 0)), (2, .ref (aM 0)), (3, .int (nI i))] 1552 []) : l_G p l e s m args below meth c Q Y aM A σ μ [(0, .ref b), (1, .ref (z_ad Y 0)), (2, .ref (aM 0)), (3, .int (nI i))] 1039 [] := by
  obtain ⟨r, σ', μ', h1, h2, h3⟩ := hs.2.2.2.2.2.2.2.2.2.2.2.2.2.2.2.2.2.2.2.2.2.2.2.2.2.1 σ μ hp (xs (i + 1)) (xs (i + 2)) (xs (i + 3)) (xs (i + 4))
  refine l_aload_n O dzL_law_1039 rfl 1 rfl ?_
  refine l_aload_n O dzL_law_1040 rfl 0 rfl ?_
  refine l_iload_n O dzL_law_1041 rfl 3 rfl ?_
  refine l_iconst O dzL_law_1042 hcI1 ?_
  refine l_iadd O dzL_law_1043 ?_
  refine l_sld O (i + 1) (l_ix i 1 rfl) (by omega) (by omega) dzL_law_1044 ?_
  refine l_aload_n O dzL_law_1045 rfl 0 rfl ?_
  refine l_iload_n O dzL_law_1046 rfl 3 rfl ?_
  refine l_iconst O dzL_law_1047 hcI2 ?_
  refine l_iadd O dzL_law_1048 ?_
  refine l_sld O (i + 2) (l_ix i 2 rfl) (by omega) (by omega) dzL_law_1049 ?_
  refine l_aload_n O dzL_law_1050 rfl 0 rfl ?_
  refine l_iload_n O dzL_law_1051 rfl 3 rfl ?_
  refine l_iconst O dzL_law_1052 hcI3 ?_
  refine l_iadd O dzL_law_1053 ?_
  refine l_sld O (i + 3) (l_ix i 3 rfl) (by omega) (by omega) dzL_law_1054 ?_
  refine l_aload_n O dzL_law_1055 rfl 0 rfl ?_
  refine l_iload_n O dzL_law_1056 rfl 3 rfl ?_
  refine l_iconst O dzL_law_1057 hcI4 ?_
  refine l_iadd O dzL_law_1058 ?_
  refine l_sld O (i + 4) (l_ix i 4 rfl) (by omega) (by omega) dzL_law_1059 ?_
  refine l_cXi O (As := [.int (xs (i + 1)), .int (xs (i + 2)), .int (xs (i + 3)), .int (xs (i + 4))]) (rest := []) (fin := (r, σ')) (kX7_rule O.2.2.2.2.2.2.2.1 h1) mX7_rule tw_604 (by decide) rfl rfl rfl (Nat.le_of_ble_eq_true rfl) dzL_law_1060 ?_
  refine l_aload_n O dzL_law_1063 rfl 2 rfl ?_
  refine l_aload_n O dzL_law_1064 rfl 0 rfl ?_
  refine l_iload_n O dzL_law_1065 rfl 3 rfl ?_
  refine l_iconst O dzL_law_1066 hcI1 ?_
  refine l_iadd O dzL_law_1067 ?_
  refine l_sld O (i + 1) (l_ix i 1 rfl) (by omega) (by omega) dzL_law_1068 ?_
  refine l_aload_n O dzL_law_1069 rfl 0 rfl ?_
  refine l_iload_n O dzL_law_1070 rfl 3 rfl ?_
  refine l_iconst O dzL_law_1071 hcI2 ?_
  refine l_iadd O dzL_law_1072 ?_
  refine l_sld O (i + 2) (l_ix i 2 rfl) (by omega) (by omega) dzL_law_1073 ?_
  refine l_aload_n O dzL_law_1074 rfl 0 rfl ?_
  refine l_iload_n O dzL_law_1075 rfl 3 rfl ?_
  refine l_iconst O dzL_law_1076 hcI3 ?_
  refine l_iadd O dzL_law_1077 ?_
  refine l_sld O (i + 3) (l_ix i 3 rfl) (by omega) (by omega) dzL_law_1078 ?_
  refine l_aload_n O dzL_law_1079 rfl 0 rfl ?_
  refine l_iload_n O dzL_law_1080 rfl 3 rfl ?_
  refine l_iconst O dzL_law_1081 hcI4 ?_
  refine l_iadd O dzL_law_1082 ?_
  refine l_sld O (i + 4) (l_ix i 4 rfl) (by omega) (by omega) dzL_law_1083 ?_
  refine l_cMi O (As := [.int (xs (i + 1)), .int (xs (i + 2)), .int (xs (i + 3)), .int (xs (i + 4))]) (rest := [.int r]) (fin := (r, μ')) (kX8_rule O.2.2.2.2.2.2.2.2.1 h2) mX8_rule tw_1094 (by decide) rfl rfl rfl (Nat.le_of_ble_eq_true rfl) dzL_law_1084 ?_
  refine l_icmp_eq O dzL_law_1087 ?_
  exact nx σ' μ' h3
theorem l_case26 {p : Program} {l : Launch} {e : Env} {s : State} {m : MethodId} {args : Array Value} {below : List Frame} {meth : Method} {c : Code} {Q : State → Prop} {Y : zY} {aM : Nat → Nat} {A : Nat → Prop} {b L : Nat} {xs : Nat → Int32} {σ μ : zS} {P : zS → zS → Prop} {i : Nat} (O : l_ok Y aM A p s m args c b L xs) (hs : l_sims P) (hp : P σ μ) (hi : i + 5 ≤ L) (hL : L ≤ 2560) (nx : ∀ σ' μ', P σ' μ' → l_G p l e s m args below meth c Q Y aM A σ' μ' [(0, .ref b), (1, .ref (z_ad Y 0)), (2, .ref (aM 0)), (3, .int (nI i))] 1552 []) : l_G p l e s m args below meth c Q Y aM A σ μ [(0, .ref b), (1, .ref (z_ad Y 0)), (2, .ref (aM 0)), (3, .int (nI i))] 1092 [] := by
  obtain ⟨r, σ', h1, h2, h3⟩ := hs.2.2.2.2.2.2.2.2.2.2.2.2.2.2.2.2.2.2.2.2.2.2.2.2.2.2.1 σ μ hp (xs (i + 1)) (xs (i + 2))
  refine l_aload_n O dzL_law_1092 rfl 1 rfl ?_
  refine l_aload_n O dzL_law_1093 rfl 0 rfl ?_
  refine l_iload_n O dzL_law_1094 rfl 3 rfl ?_
  refine l_iconst O dzL_law_1095 hcI1 ?_
  refine l_iadd O dzL_law_1096 ?_
  refine l_sld O (i + 1) (l_ix i 1 rfl) (by omega) (by omega) dzL_law_1097 ?_
  refine l_aload_n O dzL_law_1098 rfl 0 rfl ?_
  refine l_iload_n O dzL_law_1099 rfl 3 rfl ?_
  refine l_iconst O dzL_law_1100 hcI2 ?_
  refine l_iadd O dzL_law_1101 ?_
  refine l_sld O (i + 2) (l_ix i 2 rfl) (by omega) (by omega) dzL_law_1102 ?_
  refine l_cXi O (As := [.int (xs (i + 1)), .int (xs (i + 2))]) (rest := []) (fin := (r, σ')) (kX7_worth O.2.2.2.2.2.2.2.1 h1) mX7_worth tw_626 (by decide) rfl rfl rfl (Nat.le_of_ble_eq_true rfl) dzL_law_1103 ?_
  refine l_aload_n O dzL_law_1106 rfl 2 rfl ?_
  refine l_aload_n O dzL_law_1107 rfl 0 rfl ?_
  refine l_iload_n O dzL_law_1108 rfl 3 rfl ?_
  refine l_iconst O dzL_law_1109 hcI1 ?_
  refine l_iadd O dzL_law_1110 ?_
  refine l_sld O (i + 1) (l_ix i 1 rfl) (by omega) (by omega) dzL_law_1111 ?_
  refine l_aload_n O dzL_law_1112 rfl 0 rfl ?_
  refine l_iload_n O dzL_law_1113 rfl 3 rfl ?_
  refine l_iconst O dzL_law_1114 hcI2 ?_
  refine l_iadd O dzL_law_1115 ?_
  refine l_sld O (i + 2) (l_ix i 2 rfl) (by omega) (by omega) dzL_law_1116 ?_
  refine l_cMi O (As := [.int (xs (i + 1)), .int (xs (i + 2))]) (rest := [.int r]) (fin := (r, μ)) (kX8_worth O.2.2.2.2.2.2.2.2.1 h2) mX8_worth tw_1112 (by decide) rfl rfl rfl (Nat.le_of_ble_eq_true rfl) dzL_law_1117 ?_
  refine l_icmp_eq O dzL_law_1120 ?_
  exact nx σ' μ h3
theorem l_case27 {p : Program} {l : Launch} {e : Env} {s : State} {m : MethodId} {args : Array Value} {below : List Frame} {meth : Method} {c : Code} {Q : State → Prop} {Y : zY} {aM : Nat → Nat} {A : Nat → Prop} {b L : Nat} {xs : Nat → Int32} {σ μ : zS} {P : zS → zS → Prop} {i : Nat} (O : l_ok Y aM A p s m args c b L xs) (hs : l_sims P) (hp : P σ μ) (hi : i + 5 ≤ L) (hL : L ≤ 2560) (nx : ∀ σ' μ', P σ' μ' → l_G p l e s m args below meth c Q Y aM A σ' μ' [(0, .ref b), (1, .ref (z_ad Y 0)), (2, .ref (aM 0)), (3, .int (nI i))] 1552 []) : l_G p l e s m args below meth c Q Y aM A σ μ [(0, .ref b), (1, .ref (z_ad Y 0)), (2, .ref (aM 0)), (3, .int (nI i))] 1125 [] := by
  obtain ⟨r, σ', μ', h1, h2, h3⟩ := hs.2.2.2.2.2.2.2.2.2.2.2.2.2.2.2.2.2.2.2.2.2.2.2.2.2.2.2.1 σ μ hp (xs (i + 1)) (xs (i + 2)) (xs (i + 3))
  refine l_aload_n O dzL_law_1125 rfl 1 rfl ?_
  refine l_aload_n O dzL_law_1126 rfl 0 rfl ?_
  refine l_iload_n O dzL_law_1127 rfl 3 rfl ?_
  refine l_iconst O dzL_law_1128 hcI1 ?_
  refine l_iadd O dzL_law_1129 ?_
  refine l_sld O (i + 1) (l_ix i 1 rfl) (by omega) (by omega) dzL_law_1130 ?_
  refine l_aload_n O dzL_law_1131 rfl 0 rfl ?_
  refine l_iload_n O dzL_law_1132 rfl 3 rfl ?_
  refine l_iconst O dzL_law_1133 hcI2 ?_
  refine l_iadd O dzL_law_1134 ?_
  refine l_sld O (i + 2) (l_ix i 2 rfl) (by omega) (by omega) dzL_law_1135 ?_
  refine l_aload_n O dzL_law_1136 rfl 0 rfl ?_
  refine l_iload_n O dzL_law_1137 rfl 3 rfl ?_
  refine l_iconst O dzL_law_1138 hcI3 ?_
  refine l_iadd O dzL_law_1139 ?_
  refine l_sld O (i + 3) (l_ix i 3 rfl) (by omega) (by omega) dzL_law_1140 ?_
  refine l_cXi O (As := [.int (xs (i + 1)), .int (xs (i + 2)), .int (xs (i + 3))]) (rest := []) (fin := (r, σ')) (kX7_best O.2.2.2.2.2.2.2.1 h1) mX7_best tw_658 (by decide) rfl rfl rfl (Nat.le_of_ble_eq_true rfl) dzL_law_1141 ?_
  refine l_aload_n O dzL_law_1144 rfl 2 rfl ?_
  refine l_aload_n O dzL_law_1145 rfl 0 rfl ?_
  refine l_iload_n O dzL_law_1146 rfl 3 rfl ?_
  refine l_iconst O dzL_law_1147 hcI1 ?_
  refine l_iadd O dzL_law_1148 ?_
  refine l_sld O (i + 1) (l_ix i 1 rfl) (by omega) (by omega) dzL_law_1149 ?_
  refine l_aload_n O dzL_law_1150 rfl 0 rfl ?_
  refine l_iload_n O dzL_law_1151 rfl 3 rfl ?_
  refine l_iconst O dzL_law_1152 hcI2 ?_
  refine l_iadd O dzL_law_1153 ?_
  refine l_sld O (i + 2) (l_ix i 2 rfl) (by omega) (by omega) dzL_law_1154 ?_
  refine l_aload_n O dzL_law_1155 rfl 0 rfl ?_
  refine l_iload_n O dzL_law_1156 rfl 3 rfl ?_
  refine l_iconst O dzL_law_1157 hcI3 ?_
  refine l_iadd O dzL_law_1158 ?_
  refine l_sld O (i + 3) (l_ix i 3 rfl) (by omega) (by omega) dzL_law_1159 ?_
  refine l_cMi O (As := [.int (xs (i + 1)), .int (xs (i + 2)), .int (xs (i + 3))]) (rest := [.int r]) (fin := (r, μ')) (kX8_best O.2.2.2.2.2.2.2.2.1 h2) mX8_best tw_1128 (by decide) rfl rfl rfl (Nat.le_of_ble_eq_true rfl) dzL_law_1160 ?_
  refine l_icmp_eq O dzL_law_1163 ?_
  exact nx σ' μ' h3
theorem l_case28 {p : Program} {l : Launch} {e : Env} {s : State} {m : MethodId} {args : Array Value} {below : List Frame} {meth : Method} {c : Code} {Q : State → Prop} {Y : zY} {aM : Nat → Nat} {A : Nat → Prop} {b L : Nat} {xs : Nat → Int32} {σ μ : zS} {P : zS → zS → Prop} {i : Nat} (O : l_ok Y aM A p s m args c b L xs) (hs : l_sims P) (hp : P σ μ) (hi : i + 5 ≤ L) (hL : L ≤ 2560) (nx : ∀ σ' μ', P σ' μ' → l_G p l e s m args below meth c Q Y aM A σ' μ' [(0, .ref b), (1, .ref (z_ad Y 0)), (2, .ref (aM 0)), (3, .int (nI i))] 1552 []) : l_G p l e s m args below meth c Q Y aM A σ μ [(0, .ref b), (1, .ref (z_ad Y 0)), (2, .ref (aM 0)), (3, .int (nI i))] 1168 [] := by
  obtain ⟨r, σ', μ', h1, h2, h3⟩ := hs.2.2.2.2.2.2.2.2.2.2.2.2.2.2.2.2.2.2.2.2.2.2.2.2.2.2.2.2.1 σ μ hp (xs (i + 1)) (xs (i + 2)) (xs (i + 3))
  refine l_aload_n O dzL_law_1168 rfl 1 rfl ?_
  refine l_aload_n O dzL_law_1169 rfl 0 rfl ?_
  refine l_iload_n O dzL_law_1170 rfl 3 rfl ?_
  refine l_iconst O dzL_law_1171 hcI1 ?_
  refine l_iadd O dzL_law_1172 ?_
  refine l_sld O (i + 1) (l_ix i 1 rfl) (by omega) (by omega) dzL_law_1173 ?_
  refine l_aload_n O dzL_law_1174 rfl 0 rfl ?_
  refine l_iload_n O dzL_law_1175 rfl 3 rfl ?_
  refine l_iconst O dzL_law_1176 hcI2 ?_
  refine l_iadd O dzL_law_1177 ?_
  refine l_sld O (i + 2) (l_ix i 2 rfl) (by omega) (by omega) dzL_law_1178 ?_
  refine l_aload_n O dzL_law_1179 rfl 0 rfl ?_
  refine l_iload_n O dzL_law_1180 rfl 3 rfl ?_
  refine l_iconst O dzL_law_1181 hcI3 ?_
  refine l_iadd O dzL_law_1182 ?_
  refine l_sld O (i + 3) (l_ix i 3 rfl) (by omega) (by omega) dzL_law_1183 ?_
  refine l_cXi O (As := [.int (xs (i + 1)), .int (xs (i + 2)), .int (xs (i + 3))]) (rest := []) (fin := (r, σ')) (kX7_ranked O.2.2.2.2.2.2.2.1 h1) mX7_ranked tw_662 (by decide) rfl rfl rfl (Nat.le_of_ble_eq_true rfl) dzL_law_1184 ?_
  refine l_aload_n O dzL_law_1187 rfl 2 rfl ?_
  refine l_aload_n O dzL_law_1188 rfl 0 rfl ?_
  refine l_iload_n O dzL_law_1189 rfl 3 rfl ?_
  refine l_iconst O dzL_law_1190 hcI1 ?_
  refine l_iadd O dzL_law_1191 ?_
  refine l_sld O (i + 1) (l_ix i 1 rfl) (by omega) (by omega) dzL_law_1192 ?_
  refine l_aload_n O dzL_law_1193 rfl 0 rfl ?_
  refine l_iload_n O dzL_law_1194 rfl 3 rfl ?_
  refine l_iconst O dzL_law_1195 hcI2 ?_
  refine l_iadd O dzL_law_1196 ?_
  refine l_sld O (i + 2) (l_ix i 2 rfl) (by omega) (by omega) dzL_law_1197 ?_
  refine l_aload_n O dzL_law_1198 rfl 0 rfl ?_
  refine l_iload_n O dzL_law_1199 rfl 3 rfl ?_
  refine l_iconst O dzL_law_1200 hcI3 ?_
  refine l_iadd O dzL_law_1201 ?_
  refine l_sld O (i + 3) (l_ix i 3 rfl) (by omega) (by omega) dzL_law_1202 ?_
  refine l_cMi O (As := [.int (xs (i + 1)), .int (xs (i + 2)), .int (xs (i + 3))]) (rest := [.int r]) (fin := (r, μ')) (kX8_ranked O.2.2.2.2.2.2.2.2.1 h2) mX8_ranked tw_1132 (by decide) rfl rfl rfl (Nat.le_of_ble_eq_true rfl) dzL_law_1203 ?_
  refine l_icmp_eq O dzL_law_1206 ?_
  exact nx σ' μ' h3
theorem l_case29 {p : Program} {l : Launch} {e : Env} {s : State} {m : MethodId} {args : Array Value} {below : List Frame} {meth : Method} {c : Code} {Q : State → Prop} {Y : zY} {aM : Nat → Nat} {A : Nat → Prop} {b L : Nat} {xs : Nat → Int32} {σ μ : zS} {P : zS → zS → Prop} {i : Nat} (O : l_ok Y aM A p s m args c b L xs) (hs : l_sims P) (hp : P σ μ) (hi : i + 5 ≤ L) (hL : L ≤ 2560) (nx : ∀ σ' μ', P σ' μ' → l_G p l e s m args below meth c Q Y aM A σ' μ' [(0, .ref b), (1, .ref (z_ad Y 0)), (2, .ref (aM 0)), (3, .int (nI i))] 1552 []) : l_G p l e s m args below meth c Q Y aM A σ μ [(0, .ref b), (1, .ref (z_ad Y 0)), (2, .ref (aM 0)), (3, .int (nI i))] 1211 [] := by
  obtain ⟨r, σ', h1, h2, h3⟩ := hs.2.2.2.2.2.2.2.2.2.2.2.2.2.2.2.2.2.2.2.2.2.2.2.2.2.2.2.2.2.1 σ μ hp (xs (i + 1)) (xs (i + 2))
  refine l_aload_n O dzL_law_1211 rfl 1 rfl ?_
  refine l_aload_n O dzL_law_1212 rfl 0 rfl ?_
  refine l_iload_n O dzL_law_1213 rfl 3 rfl ?_
  refine l_iconst O dzL_law_1214 hcI1 ?_
  refine l_iadd O dzL_law_1215 ?_
  refine l_sld O (i + 1) (l_ix i 1 rfl) (by omega) (by omega) dzL_law_1216 ?_
  refine l_aload_n O dzL_law_1217 rfl 0 rfl ?_
  refine l_iload_n O dzL_law_1218 rfl 3 rfl ?_
  refine l_iconst O dzL_law_1219 hcI2 ?_
  refine l_iadd O dzL_law_1220 ?_
  refine l_sld O (i + 2) (l_ix i 2 rfl) (by omega) (by omega) dzL_law_1221 ?_
  refine l_cXi O (As := [.int (xs (i + 1)), .int (xs (i + 2))]) (rest := []) (fin := (r, σ')) (kX7_sums O.2.2.2.2.2.2.2.1 h1) mX7_sums tw_670 (by decide) rfl rfl rfl (Nat.le_of_ble_eq_true rfl) dzL_law_1222 ?_
  refine l_aload_n O dzL_law_1225 rfl 2 rfl ?_
  refine l_aload_n O dzL_law_1226 rfl 0 rfl ?_
  refine l_iload_n O dzL_law_1227 rfl 3 rfl ?_
  refine l_iconst O dzL_law_1228 hcI1 ?_
  refine l_iadd O dzL_law_1229 ?_
  refine l_sld O (i + 1) (l_ix i 1 rfl) (by omega) (by omega) dzL_law_1230 ?_
  refine l_aload_n O dzL_law_1231 rfl 0 rfl ?_
  refine l_iload_n O dzL_law_1232 rfl 3 rfl ?_
  refine l_iconst O dzL_law_1233 hcI2 ?_
  refine l_iadd O dzL_law_1234 ?_
  refine l_sld O (i + 2) (l_ix i 2 rfl) (by omega) (by omega) dzL_law_1235 ?_
  refine l_cMi O (As := [.int (xs (i + 1)), .int (xs (i + 2))]) (rest := [.int r]) (fin := (r, μ)) (kX8_sums O.2.2.2.2.2.2.2.2.1 h2) mX8_sums tw_1136 (by decide) rfl rfl rfl (Nat.le_of_ble_eq_true rfl) dzL_law_1236 ?_
  refine l_icmp_eq O dzL_law_1239 ?_
  exact nx σ' μ h3
theorem l_case30 {p : Program} {l : Launch} {e : Env} {s : State} {m : MethodId} {args : Array Value} {below : List Frame} {meth : Method} {c : Code} {Q : State → Prop} {Y : zY} {aM : Nat → Nat} {A : Nat → Prop} {b L : Nat} {xs : Nat → Int32} {σ μ : zS} {P : zS → zS → Prop} {i : Nat} (O : l_ok Y aM A p s m args c b L xs) (hs : l_sims P) (hp : P σ μ) (hi : i + 5 ≤ L) (hL : L ≤ 2560) (nx : ∀ σ' μ', P σ' μ' → l_G p l e s m args below meth c Q Y aM A σ' μ' [(0, .ref b), (1, .ref (z_ad Y 0)), (2, .ref (aM 0)), (3, .int (nI i))] 1552 []) : l_G p l e s m args below meth c Q Y aM A σ μ [(0, .ref b), (1, .ref (z_ad Y 0)), (2, .ref (aM 0)), (3, .int (nI i))] 1244 [] := by
  obtain ⟨r, σ', μ', h1, h2, h3⟩ := hs.2.2.2.2.2.2.2.2.2.2.2.2.2.2.2.2.2.2.2.2.2.2.2.2.2.2.2.2.2.2.1 σ μ hp (xs (i + 1)) (xs (i + 2)) (xs (i + 3))
  refine l_aload_n O dzL_law_1244 rfl 1 rfl ?_
  refine l_aload_n O dzL_law_1245 rfl 0 rfl ?_
  refine l_iload_n O dzL_law_1246 rfl 3 rfl ?_
  refine l_iconst O dzL_law_1247 hcI1 ?_
  refine l_iadd O dzL_law_1248 ?_
  refine l_sld O (i + 1) (l_ix i 1 rfl) (by omega) (by omega) dzL_law_1249 ?_
  refine l_aload_n O dzL_law_1250 rfl 0 rfl ?_
  refine l_iload_n O dzL_law_1251 rfl 3 rfl ?_
  refine l_iconst O dzL_law_1252 hcI2 ?_
  refine l_iadd O dzL_law_1253 ?_
  refine l_sld O (i + 2) (l_ix i 2 rfl) (by omega) (by omega) dzL_law_1254 ?_
  refine l_aload_n O dzL_law_1255 rfl 0 rfl ?_
  refine l_iload_n O dzL_law_1256 rfl 3 rfl ?_
  refine l_iconst O dzL_law_1257 hcI3 ?_
  refine l_iadd O dzL_law_1258 ?_
  refine l_sld O (i + 3) (l_ix i 3 rfl) (by omega) (by omega) dzL_law_1259 ?_
  refine l_cXi O (As := [.int (xs (i + 1)), .int (xs (i + 2)), .int (xs (i + 3))]) (rest := []) (fin := (r, σ')) (kX7_sheet O.2.2.2.2.2.2.2.1 h1) mX7_sheet tw_674 (by decide) rfl rfl rfl (Nat.le_of_ble_eq_true rfl) dzL_law_1260 ?_
  refine l_aload_n O dzL_law_1263 rfl 2 rfl ?_
  refine l_aload_n O dzL_law_1264 rfl 0 rfl ?_
  refine l_iload_n O dzL_law_1265 rfl 3 rfl ?_
  refine l_iconst O dzL_law_1266 hcI1 ?_
  refine l_iadd O dzL_law_1267 ?_
  refine l_sld O (i + 1) (l_ix i 1 rfl) (by omega) (by omega) dzL_law_1268 ?_
  refine l_aload_n O dzL_law_1269 rfl 0 rfl ?_
  refine l_iload_n O dzL_law_1270 rfl 3 rfl ?_
  refine l_iconst O dzL_law_1271 hcI2 ?_
  refine l_iadd O dzL_law_1272 ?_
  refine l_sld O (i + 2) (l_ix i 2 rfl) (by omega) (by omega) dzL_law_1273 ?_
  refine l_aload_n O dzL_law_1274 rfl 0 rfl ?_
  refine l_iload_n O dzL_law_1275 rfl 3 rfl ?_
  refine l_iconst O dzL_law_1276 hcI3 ?_
  refine l_iadd O dzL_law_1277 ?_
  refine l_sld O (i + 3) (l_ix i 3 rfl) (by omega) (by omega) dzL_law_1278 ?_
  refine l_cMi O (As := [.int (xs (i + 1)), .int (xs (i + 2)), .int (xs (i + 3))]) (rest := [.int r]) (fin := (r, μ')) (kX8_sheet O.2.2.2.2.2.2.2.2.1 h2) mX8_sheet tw_1140 (by decide) rfl rfl rfl (Nat.le_of_ble_eq_true rfl) dzL_law_1279 ?_
  refine l_icmp_eq O dzL_law_1282 ?_
  exact nx σ' μ' h3
theorem l_case31 {p : Program} {l : Launch} {e : Env} {s : State} {m : MethodId} {args : Array Value} {below : List Frame} {meth : Method} {c : Code} {Q : State → Prop} {Y : zY} {aM : Nat → Nat} {A : Nat → Prop} {b L : Nat} {xs : Nat → Int32} {σ μ : zS} {P : zS → zS → Prop} {i : Nat} (O : l_ok Y aM A p s m args c b L xs) (hs : l_sims P) (hp : P σ μ) (hi : i + 5 ≤ L) (hL : L ≤ 2560) (nx : ∀ σ' μ', P σ' μ' → l_G p l e s m args below meth c Q Y aM A σ' μ' [(0, .ref b), (1, .ref (z_ad Y 0)), (2, .ref (aM 0)), (3, .int (nI i))] 1552 []) : l_G p l e s m args below meth c Q Y aM A σ μ [(0, .ref b), (1, .ref (z_ad Y 0)), (2, .ref (aM 0)), (3, .int (nI i))] 1287 [] := by
  obtain ⟨r, σ', μ', h1, h2, h3⟩ := hs.2.2.2.2.2.2.2.2.2.2.2.2.2.2.2.2.2.2.2.2.2.2.2.2.2.2.2.2.2.2.2.1 σ μ hp (xs (i + 1)) (xs (i + 2)) (((xs (i + 3)).toInt64 <<< ((32 : Int32).toInt64 &&& 63)) ||| ((xs (i + 4)).toInt64 &&& 4294967295))
  refine l_aload_n O dzL_law_1287 rfl 1 rfl ?_
  refine l_aload_n O dzL_law_1288 rfl 0 rfl ?_
  refine l_iload_n O dzL_law_1289 rfl 3 rfl ?_
  refine l_iconst O dzL_law_1290 hcI1 ?_
  refine l_iadd O dzL_law_1291 ?_
  refine l_sld O (i + 1) (l_ix i 1 rfl) (by omega) (by omega) dzL_law_1292 ?_
  refine l_aload_n O dzL_law_1293 rfl 0 rfl ?_
  refine l_iload_n O dzL_law_1294 rfl 3 rfl ?_
  refine l_iconst O dzL_law_1295 hcI2 ?_
  refine l_iadd O dzL_law_1296 ?_
  refine l_sld O (i + 2) (l_ix i 2 rfl) (by omega) (by omega) dzL_law_1297 ?_
  refine l_aload_n O dzL_law_1298 rfl 0 rfl ?_
  refine l_iload_n O dzL_law_1299 rfl 3 rfl ?_
  refine l_iconst O dzL_law_1300 hcI3 ?_
  refine l_iadd O dzL_law_1301 ?_
  refine l_sld O (i + 3) (l_ix i 3 rfl) (by omega) (by omega) dzL_law_1302 ?_
  refine l_i2l O dzL_law_1303 ?_
  refine l_bipush O dzL_law_1304 hcB32 ?_
  refine l_lshl O dzL_law_1306 ?_
  refine l_aload_n O dzL_law_1307 rfl 0 rfl ?_
  refine l_iload_n O dzL_law_1308 rfl 3 rfl ?_
  refine l_iconst O dzL_law_1309 hcI4 ?_
  refine l_iadd O dzL_law_1310 ?_
  refine l_sld O (i + 4) (l_ix i 4 rfl) (by omega) (by omega) dzL_law_1311 ?_
  refine l_i2l O dzL_law_1312 ?_
  refine l_ldc2 O tw_1198 dzL_law_1313 ?_
  refine l_land O dzL_law_1316 ?_
  refine l_lor O dzL_law_1317 ?_
  refine l_cXi O (As := [.int (xs (i + 1)), .int (xs (i + 2)), .long (((xs (i + 3)).toInt64 <<< ((32 : Int32).toInt64 &&& 63)) ||| ((xs (i + 4)).toInt64 &&& 4294967295))]) (rest := []) (fin := (r, σ')) (kX7_cell O.2.2.2.2.2.2.2.1 h1) mX7_cell tw_686 (by decide) rfl rfl rfl (Nat.le_of_ble_eq_true rfl) dzL_law_1318 ?_
  refine l_aload_n O dzL_law_1321 rfl 2 rfl ?_
  refine l_aload_n O dzL_law_1322 rfl 0 rfl ?_
  refine l_iload_n O dzL_law_1323 rfl 3 rfl ?_
  refine l_iconst O dzL_law_1324 hcI1 ?_
  refine l_iadd O dzL_law_1325 ?_
  refine l_sld O (i + 1) (l_ix i 1 rfl) (by omega) (by omega) dzL_law_1326 ?_
  refine l_aload_n O dzL_law_1327 rfl 0 rfl ?_
  refine l_iload_n O dzL_law_1328 rfl 3 rfl ?_
  refine l_iconst O dzL_law_1329 hcI2 ?_
  refine l_iadd O dzL_law_1330 ?_
  refine l_sld O (i + 2) (l_ix i 2 rfl) (by omega) (by omega) dzL_law_1331 ?_
  refine l_aload_n O dzL_law_1332 rfl 0 rfl ?_
  refine l_iload_n O dzL_law_1333 rfl 3 rfl ?_
  refine l_iconst O dzL_law_1334 hcI3 ?_
  refine l_iadd O dzL_law_1335 ?_
  refine l_sld O (i + 3) (l_ix i 3 rfl) (by omega) (by omega) dzL_law_1336 ?_
  refine l_i2l O dzL_law_1337 ?_
  refine l_bipush O dzL_law_1338 hcB32 ?_
  refine l_lshl O dzL_law_1340 ?_
  refine l_aload_n O dzL_law_1341 rfl 0 rfl ?_
  refine l_iload_n O dzL_law_1342 rfl 3 rfl ?_
  refine l_iconst O dzL_law_1343 hcI4 ?_
  refine l_iadd O dzL_law_1344 ?_
  refine l_sld O (i + 4) (l_ix i 4 rfl) (by omega) (by omega) dzL_law_1345 ?_
  refine l_i2l O dzL_law_1346 ?_
  refine l_ldc2 O tw_1198 dzL_law_1347 ?_
  refine l_land O dzL_law_1350 ?_
  refine l_lor O dzL_law_1351 ?_
  refine l_cMi O (As := [.int (xs (i + 1)), .int (xs (i + 2)), .long (((xs (i + 3)).toInt64 <<< ((32 : Int32).toInt64 &&& 63)) ||| ((xs (i + 4)).toInt64 &&& 4294967295))]) (rest := [.int r]) (fin := (r, μ')) (kX8_cell O.2.2.2.2.2.2.2.2.1 h2) mX8_cell tw_1148 (by decide) rfl rfl rfl (Nat.le_of_ble_eq_true rfl) dzL_law_1352 ?_
  refine l_icmp_eq O dzL_law_1355 ?_
  exact nx σ' μ' h3
theorem l_case32 {p : Program} {l : Launch} {e : Env} {s : State} {m : MethodId} {args : Array Value} {below : List Frame} {meth : Method} {c : Code} {Q : State → Prop} {Y : zY} {aM : Nat → Nat} {A : Nat → Prop} {b L : Nat} {xs : Nat → Int32} {σ μ : zS} {P : zS → zS → Prop} {i : Nat} (O : l_ok Y aM A p s m args c b L xs) (hs : l_sims P) (hp : P σ μ) (hi : i + 5 ≤ L) (hL : L ≤ 2560) (nx : ∀ σ' μ', P σ' μ' → l_G p l e s m args below meth c Q Y aM A σ' μ' [(0, .ref b), (1, .ref (z_ad Y 0)), (2, .ref (aM 0)), (3, .int (nI i))] 1552 []) : l_G p l e s m args below meth c Q Y aM A σ μ [(0, .ref b), (1, .ref (z_ad Y 0)), (2, .ref (aM 0)), (3, .int (nI i))] 1360 [] := by
  obtain ⟨r, h1, h2⟩ := hs.2.2.2.2.2.2.2.2.2.2.2.2.2.2.2.2.2.2.2.2.2.2.2.2.2.2.2.2.2.2.2.2.1 σ μ hp (xs (i + 1)) (xs (i + 2))
  refine l_aload_n O dzL_law_1360 rfl 1 rfl ?_
  refine l_aload_n O dzL_law_1361 rfl 0 rfl ?_
  refine l_iload_n O dzL_law_1362 rfl 3 rfl ?_
  refine l_iconst O dzL_law_1363 hcI1 ?_
  refine l_iadd O dzL_law_1364 ?_
  refine l_sld O (i + 1) (l_ix i 1 rfl) (by omega) (by omega) dzL_law_1365 ?_
  refine l_aload_n O dzL_law_1366 rfl 0 rfl ?_
  refine l_iload_n O dzL_law_1367 rfl 3 rfl ?_
  refine l_iconst O dzL_law_1368 hcI2 ?_
  refine l_iadd O dzL_law_1369 ?_
  refine l_sld O (i + 2) (l_ix i 2 rfl) (by omega) (by omega) dzL_law_1370 ?_
  refine l_cXl O (As := [.int (xs (i + 1)), .int (xs (i + 2))]) (rest := []) (fin := (r, σ)) (kX7_read O.2.2.2.2.2.2.2.1 h1) mX7_read tw_694 (by decide) rfl rfl rfl (Nat.le_of_ble_eq_true rfl) dzL_law_1371 ?_
  refine l_aload_n O dzL_law_1374 rfl 2 rfl ?_
  refine l_aload_n O dzL_law_1375 rfl 0 rfl ?_
  refine l_iload_n O dzL_law_1376 rfl 3 rfl ?_
  refine l_iconst O dzL_law_1377 hcI1 ?_
  refine l_iadd O dzL_law_1378 ?_
  refine l_sld O (i + 1) (l_ix i 1 rfl) (by omega) (by omega) dzL_law_1379 ?_
  refine l_aload_n O dzL_law_1380 rfl 0 rfl ?_
  refine l_iload_n O dzL_law_1381 rfl 3 rfl ?_
  refine l_iconst O dzL_law_1382 hcI2 ?_
  refine l_iadd O dzL_law_1383 ?_
  refine l_sld O (i + 2) (l_ix i 2 rfl) (by omega) (by omega) dzL_law_1384 ?_
  refine l_cMl O (As := [.int (xs (i + 1)), .int (xs (i + 2))]) (rest := [.long r]) (fin := (r, μ)) (kX8_read O.2.2.2.2.2.2.2.2.1 h2) mX8_read tw_1156 (by decide) rfl rfl rfl (Nat.le_of_ble_eq_true rfl) dzL_law_1385 ?_
  refine l_lcmp O dzL_law_1388 ?_
  refine l_if_eq O dzL_law_1389 ?_
  exact nx σ μ hp
theorem l_case33 {p : Program} {l : Launch} {e : Env} {s : State} {m : MethodId} {args : Array Value} {below : List Frame} {meth : Method} {c : Code} {Q : State → Prop} {Y : zY} {aM : Nat → Nat} {A : Nat → Prop} {b L : Nat} {xs : Nat → Int32} {σ μ : zS} {P : zS → zS → Prop} {i : Nat} (O : l_ok Y aM A p s m args c b L xs) (hs : l_sims P) (hp : P σ μ) (hi : i + 5 ≤ L) (hL : L ≤ 2560) (nx : ∀ σ' μ', P σ' μ' → l_G p l e s m args below meth c Q Y aM A σ' μ' [(0, .ref b), (1, .ref (z_ad Y 0)), (2, .ref (aM 0)), (3, .int (nI i))] 1552 []) : l_G p l e s m args below meth c Q Y aM A σ μ [(0, .ref b), (1, .ref (z_ad Y 0)), (2, .ref (aM 0)), (3, .int (nI i))] 1394 [] := by
  obtain ⟨r, σ', μ', h1, h2, h3⟩ := hs.2.2.2.2.2.2.2.2.2.2.2.2.2.2.2.2.2.2.2.2.2.2.2.2.2.2.2.2.2.2.2.2.2.1 σ μ hp (xs (i + 1)) (xs (i + 2))
  refine l_aload_n O dzL_law_1394 rfl 1 rfl ?_
  refine l_aload_n O dzL_law_1395 rfl 0 rfl ?_
  refine l_iload_n O dzL_law_1396 rfl 3 rfl ?_
  refine l_iconst O dzL_law_1397 hcI1 ?_
  refine l_iadd O dzL_law_1398 ?_
  refine l_sld O (i + 1) (l_ix i 1 rfl) (by omega) (by omega) dzL_law_1399 ?_
  refine l_aload_n O dzL_law_1400 rfl 0 rfl ?_
  refine l_iload_n O dzL_law_1401 rfl 3 rfl ?_
  refine l_iconst O dzL_law_1402 hcI2 ?_
  refine l_iadd O dzL_law_1403 ?_
  refine l_sld O (i + 2) (l_ix i 2 rfl) (by omega) (by omega) dzL_law_1404 ?_
  refine l_cXi O (As := [.int (xs (i + 1)), .int (xs (i + 2))]) (rest := []) (fin := (r, σ')) (kX7_packs O.2.2.2.2.2.2.2.1 h1) mX7_packs tw_701 (by decide) rfl rfl rfl (Nat.le_of_ble_eq_true rfl) dzL_law_1405 ?_
  refine l_aload_n O dzL_law_1408 rfl 2 rfl ?_
  refine l_aload_n O dzL_law_1409 rfl 0 rfl ?_
  refine l_iload_n O dzL_law_1410 rfl 3 rfl ?_
  refine l_iconst O dzL_law_1411 hcI1 ?_
  refine l_iadd O dzL_law_1412 ?_
  refine l_sld O (i + 1) (l_ix i 1 rfl) (by omega) (by omega) dzL_law_1413 ?_
  refine l_aload_n O dzL_law_1414 rfl 0 rfl ?_
  refine l_iload_n O dzL_law_1415 rfl 3 rfl ?_
  refine l_iconst O dzL_law_1416 hcI2 ?_
  refine l_iadd O dzL_law_1417 ?_
  refine l_sld O (i + 2) (l_ix i 2 rfl) (by omega) (by omega) dzL_law_1418 ?_
  refine l_cMi O (As := [.int (xs (i + 1)), .int (xs (i + 2))]) (rest := [.int r]) (fin := (r, μ')) (kX8_packs O.2.2.2.2.2.2.2.2.1 h2) mX8_packs tw_1160 (by decide) rfl rfl rfl (Nat.le_of_ble_eq_true rfl) dzL_law_1419 ?_
  refine l_icmp_eq O dzL_law_1422 ?_
  exact nx σ' μ' h3
theorem l_case34 {p : Program} {l : Launch} {e : Env} {s : State} {m : MethodId} {args : Array Value} {below : List Frame} {meth : Method} {c : Code} {Q : State → Prop} {Y : zY} {aM : Nat → Nat} {A : Nat → Prop} {b L : Nat} {xs : Nat → Int32} {σ μ : zS} {P : zS → zS → Prop} {i : Nat} (O : l_ok Y aM A p s m args c b L xs) (hs : l_sims P) (hp : P σ μ) (hi : i + 5 ≤ L) (hL : L ≤ 2560) (nx : ∀ σ' μ', P σ' μ' → l_G p l e s m args below meth c Q Y aM A σ' μ' [(0, .ref b), (1, .ref (z_ad Y 0)), (2, .ref (aM 0)), (3, .int (nI i))] 1552 []) : l_G p l e s m args below meth c Q Y aM A σ μ [(0, .ref b), (1, .ref (z_ad Y 0)), (2, .ref (aM 0)), (3, .int (nI i))] 1427 [] := by
  obtain ⟨r, σ', μ', h1, h2, h3⟩ := hs.2.2.2.2.2.2.2.2.2.2.2.2.2.2.2.2.2.2.2.2.2.2.2.2.2.2.2.2.2.2.2.2.2.2.1 σ μ hp (xs (i + 1)) (xs (i + 2)) (xs (i + 3))
  refine l_aload_n O dzL_law_1427 rfl 1 rfl ?_
  refine l_aload_n O dzL_law_1428 rfl 0 rfl ?_
  refine l_iload_n O dzL_law_1429 rfl 3 rfl ?_
  refine l_iconst O dzL_law_1430 hcI1 ?_
  refine l_iadd O dzL_law_1431 ?_
  refine l_sld O (i + 1) (l_ix i 1 rfl) (by omega) (by omega) dzL_law_1432 ?_
  refine l_aload_n O dzL_law_1433 rfl 0 rfl ?_
  refine l_iload_n O dzL_law_1434 rfl 3 rfl ?_
  refine l_iconst O dzL_law_1435 hcI2 ?_
  refine l_iadd O dzL_law_1436 ?_
  refine l_sld O (i + 2) (l_ix i 2 rfl) (by omega) (by omega) dzL_law_1437 ?_
  refine l_aload_n O dzL_law_1438 rfl 0 rfl ?_
  refine l_iload_n O dzL_law_1439 rfl 3 rfl ?_
  refine l_iconst O dzL_law_1440 hcI3 ?_
  refine l_iadd O dzL_law_1441 ?_
  refine l_sld O (i + 3) (l_ix i 3 rfl) (by omega) (by omega) dzL_law_1442 ?_
  refine l_cXi O (As := [.int (xs (i + 1)), .int (xs (i + 2)), .int (xs (i + 3))]) (rest := []) (fin := (r, σ')) (kX7_unpacks O.2.2.2.2.2.2.2.1 h1) mX7_unpacks tw_709 (by decide) rfl rfl rfl (Nat.le_of_ble_eq_true rfl) dzL_law_1443 ?_
  refine l_aload_n O dzL_law_1446 rfl 2 rfl ?_
  refine l_aload_n O dzL_law_1447 rfl 0 rfl ?_
  refine l_iload_n O dzL_law_1448 rfl 3 rfl ?_
  refine l_iconst O dzL_law_1449 hcI1 ?_
  refine l_iadd O dzL_law_1450 ?_
  refine l_sld O (i + 1) (l_ix i 1 rfl) (by omega) (by omega) dzL_law_1451 ?_
  refine l_aload_n O dzL_law_1452 rfl 0 rfl ?_
  refine l_iload_n O dzL_law_1453 rfl 3 rfl ?_
  refine l_iconst O dzL_law_1454 hcI2 ?_
  refine l_iadd O dzL_law_1455 ?_
  refine l_sld O (i + 2) (l_ix i 2 rfl) (by omega) (by omega) dzL_law_1456 ?_
  refine l_aload_n O dzL_law_1457 rfl 0 rfl ?_
  refine l_iload_n O dzL_law_1458 rfl 3 rfl ?_
  refine l_iconst O dzL_law_1459 hcI3 ?_
  refine l_iadd O dzL_law_1460 ?_
  refine l_sld O (i + 3) (l_ix i 3 rfl) (by omega) (by omega) dzL_law_1461 ?_
  refine l_cMi O (As := [.int (xs (i + 1)), .int (xs (i + 2)), .int (xs (i + 3))]) (rest := [.int r]) (fin := (r, μ')) (kX8_unpacks O.2.2.2.2.2.2.2.2.1 h2) mX8_unpacks tw_1170 (by decide) rfl rfl rfl (Nat.le_of_ble_eq_true rfl) dzL_law_1462 ?_
  refine l_icmp_eq O dzL_law_1465 ?_
  exact nx σ' μ' h3
theorem l_case35 {p : Program} {l : Launch} {e : Env} {s : State} {m : MethodId} {args : Array Value} {below : List Frame} {meth : Method} {c : Code} {Q : State → Prop} {Y : zY} {aM : Nat → Nat} {A : Nat → Prop} {b L : Nat} {xs : Nat → Int32} {σ μ : zS} {P : zS → zS → Prop} {i : Nat} (O : l_ok Y aM A p s m args c b L xs) (hs : l_sims P) (hp : P σ μ) (hi : i + 5 ≤ L) (hL : L ≤ 2560) (nx : ∀ σ' μ', P σ' μ' → l_G p l e s m args below meth c Q Y aM A σ' μ' [(0, .ref b), (1, .ref (z_ad Y 0)), (2, .ref (aM 0)), (3, .int (nI i))] 1552 []) : l_G p l e s m args below meth c Q Y aM A σ μ [(0, .ref b), (1, .ref (z_ad Y 0)), (2, .ref (aM 0)), (3, .int (nI i))] 1470 [] := by
  obtain ⟨r, σ', μ', h1, h2, h3⟩ := hs.2.2.2.2.2.2.2.2.2.2.2.2.2.2.2.2.2.2.2.2.2.2.2.2.2.2.2.2.2.2.2.2.2.2.2.1 σ μ hp (xs (i + 1)) (xs (i + 2))
  refine l_aload_n O dzL_law_1470 rfl 1 rfl ?_
  refine l_aload_n O dzL_law_1471 rfl 0 rfl ?_
  refine l_iload_n O dzL_law_1472 rfl 3 rfl ?_
  refine l_iconst O dzL_law_1473 hcI1 ?_
  refine l_iadd O dzL_law_1474 ?_
  refine l_sld O (i + 1) (l_ix i 1 rfl) (by omega) (by omega) dzL_law_1475 ?_
  refine l_aload_n O dzL_law_1476 rfl 0 rfl ?_
  refine l_iload_n O dzL_law_1477 rfl 3 rfl ?_
  refine l_iconst O dzL_law_1478 hcI2 ?_
  refine l_iadd O dzL_law_1479 ?_
  refine l_sld O (i + 2) (l_ix i 2 rfl) (by omega) (by omega) dzL_law_1480 ?_
  refine l_cXi O (As := [.int (xs (i + 1)), .int (xs (i + 2))]) (rest := []) (fin := (r, σ')) (kX7_freqs O.2.2.2.2.2.2.2.1 h1) mX7_freqs tw_717 (by decide) rfl rfl rfl (Nat.le_of_ble_eq_true rfl) dzL_law_1481 ?_
  refine l_aload_n O dzL_law_1484 rfl 2 rfl ?_
  refine l_aload_n O dzL_law_1485 rfl 0 rfl ?_
  refine l_iload_n O dzL_law_1486 rfl 3 rfl ?_
  refine l_iconst O dzL_law_1487 hcI1 ?_
  refine l_iadd O dzL_law_1488 ?_
  refine l_sld O (i + 1) (l_ix i 1 rfl) (by omega) (by omega) dzL_law_1489 ?_
  refine l_aload_n O dzL_law_1490 rfl 0 rfl ?_
  refine l_iload_n O dzL_law_1491 rfl 3 rfl ?_
  refine l_iconst O dzL_law_1492 hcI2 ?_
  refine l_iadd O dzL_law_1493 ?_
  refine l_sld O (i + 2) (l_ix i 2 rfl) (by omega) (by omega) dzL_law_1494 ?_
  refine l_cMi O (As := [.int (xs (i + 1)), .int (xs (i + 2))]) (rest := [.int r]) (fin := (r, μ')) (kX8_freqs O.2.2.2.2.2.2.2.2.1 h2) mX8_freqs tw_1175 (by decide) rfl rfl rfl (Nat.le_of_ble_eq_true rfl) dzL_law_1495 ?_
  refine l_icmp_eq O dzL_law_1498 ?_
  exact nx σ' μ' h3
theorem l_case36 {p : Program} {l : Launch} {e : Env} {s : State} {m : MethodId} {args : Array Value} {below : List Frame} {meth : Method} {c : Code} {Q : State → Prop} {Y : zY} {aM : Nat → Nat} {A : Nat → Prop} {b L : Nat} {xs : Nat → Int32} {σ μ : zS} {P : zS → zS → Prop} {i : Nat} (O : l_ok Y aM A p s m args c b L xs) (hs : l_sims P) (hp : P σ μ) (hi : i + 5 ≤ L) (hL : L ≤ 2560) (nx : ∀ σ' μ', P σ' μ' → l_G p l e s m args below meth c Q Y aM A σ' μ' [(0, .ref b), (1, .ref (z_ad Y 0)), (2, .ref (aM 0)), (3, .int (nI i))] 1552 []) : l_G p l e s m args below meth c Q Y aM A σ μ [(0, .ref b), (1, .ref (z_ad Y 0)), (2, .ref (aM 0)), (3, .int (nI i))] 1503 [] := by
  obtain ⟨r, σ', μ', h1, h2, h3⟩ := hs.2.2.2.2.2.2.2.2.2.2.2.2.2.2.2.2.2.2.2.2.2.2.2.2.2.2.2.2.2.2.2.2.2.2.2.2.1 σ μ hp 
  refine l_aload_n O dzL_law_1503 rfl 1 rfl ?_
  refine l_cXi O (As := []) (rest := []) (fin := (r, σ')) (kX7_image O.2.2.2.2.2.2.2.1 h1) mX7_image tw_721 (by decide) rfl rfl rfl (Nat.le_of_ble_eq_true rfl) dzL_law_1504 ?_
  refine l_aload_n O dzL_law_1507 rfl 2 rfl ?_
  refine l_cMi O (As := []) (rest := [.int r]) (fin := (r, μ')) (kX8_image O.2.2.2.2.2.2.2.2.1 h2) mX8_image tw_1179 (by decide) rfl rfl rfl (Nat.le_of_ble_eq_true rfl) dzL_law_1508 ?_
  refine l_icmp_eq O dzL_law_1511 ?_
  exact nx σ' μ' h3
theorem l_case37 {p : Program} {l : Launch} {e : Env} {s : State} {m : MethodId} {args : Array Value} {below : List Frame} {meth : Method} {c : Code} {Q : State → Prop} {Y : zY} {aM : Nat → Nat} {A : Nat → Prop} {b L : Nat} {xs : Nat → Int32} {σ μ : zS} {P : zS → zS → Prop} {i : Nat} (O : l_ok Y aM A p s m args c b L xs) (hs : l_sims P) (hp : P σ μ) (hi : i + 5 ≤ L) (hL : L ≤ 2560) (nx : ∀ σ' μ', P σ' μ' → l_G p l e s m args below meth c Q Y aM A σ' μ' [(0, .ref b), (1, .ref (z_ad Y 0)), (2, .ref (aM 0)), (3, .int (nI i))] 1552 []) : l_G p l e s m args below meth c Q Y aM A σ μ [(0, .ref b), (1, .ref (z_ad Y 0)), (2, .ref (aM 0)), (3, .int (nI i))] 1516 [] := by
  obtain ⟨r, σ', μ', h1, h2, h3⟩ := hs.2.2.2.2.2.2.2.2.2.2.2.2.2.2.2.2.2.2.2.2.2.2.2.2.2.2.2.2.2.2.2.2.2.2.2.2.2.1 σ μ hp 
  refine l_aload_n O dzL_law_1516 rfl 1 rfl ?_
  refine l_cXi O (As := []) (rest := []) (fin := (r, σ')) (kX7_back O.2.2.2.2.2.2.2.1 h1) mX7_back tw_735 (by decide) rfl rfl rfl (Nat.le_of_ble_eq_true rfl) dzL_law_1517 ?_
  refine l_aload_n O dzL_law_1520 rfl 2 rfl ?_
  refine l_cMi O (As := []) (rest := [.int r]) (fin := (r, μ')) (kX8_back O.2.2.2.2.2.2.2.2.1 h2) mX8_back tw_1190 (by decide) rfl rfl rfl (Nat.le_of_ble_eq_true rfl) dzL_law_1521 ?_
  refine l_icmp_eq O dzL_law_1524 ?_
  exact nx σ' μ' h3
theorem l_case38 {p : Program} {l : Launch} {e : Env} {s : State} {m : MethodId} {args : Array Value} {below : List Frame} {meth : Method} {c : Code} {Q : State → Prop} {Y : zY} {aM : Nat → Nat} {A : Nat → Prop} {b L : Nat} {xs : Nat → Int32} {σ μ : zS} {P : zS → zS → Prop} {i : Nat} (O : l_ok Y aM A p s m args c b L xs) (hs : l_sims P) (hp : P σ μ) (hi : i + 5 ≤ L) (hL : L ≤ 2560) (nx : ∀ σ' μ', P σ' μ' → l_G p l e s m args below meth c Q Y aM A σ' μ' [(0, .ref b), (1, .ref (z_ad Y 0)), (2, .ref (aM 0)), (3, .int (nI i))] 1552 []) : l_G p l e s m args below meth c Q Y aM A σ μ [(0, .ref b), (1, .ref (z_ad Y 0)), (2, .ref (aM 0)), (3, .int (nI i))] 1529 [] := by
  obtain ⟨r, h1, h2⟩ := hs.2.2.2.2.2.2.2.2.2.2.2.2.2.2.2.2.2.2.2.2.2.2.2.2.2.2.2.2.2.2.2.2.2.2.2.2.2.2 σ μ hp (xs (i + 1))
  refine l_aload_n O dzL_law_1529 rfl 1 rfl ?_
  refine l_aload_n O dzL_law_1530 rfl 0 rfl ?_
  refine l_iload_n O dzL_law_1531 rfl 3 rfl ?_
  refine l_iconst O dzL_law_1532 hcI1 ?_
  refine l_iadd O dzL_law_1533 ?_
  refine l_sld O (i + 1) (l_ix i 1 rfl) (by omega) (by omega) dzL_law_1534 ?_
  refine l_cXi O (As := [.int (xs (i + 1))]) (rest := []) (fin := (r, σ)) (kX7_count O.2.2.2.2.2.2.2.1 h1) mX7_count tw_739 (by decide) rfl rfl rfl (Nat.le_of_ble_eq_true rfl) dzL_law_1535 ?_
  refine l_aload_n O dzL_law_1538 rfl 2 rfl ?_
  refine l_aload_n O dzL_law_1539 rfl 0 rfl ?_
  refine l_iload_n O dzL_law_1540 rfl 3 rfl ?_
  refine l_iconst O dzL_law_1541 hcI1 ?_
  refine l_iadd O dzL_law_1542 ?_
  refine l_sld O (i + 1) (l_ix i 1 rfl) (by omega) (by omega) dzL_law_1543 ?_
  refine l_cMi O (As := [.int (xs (i + 1))]) (rest := [.int r]) (fin := (r, μ)) (kX8_count O.2.2.2.2.2.2.2.2.1 h2) mX8_count tw_1194 (by decide) rfl rfl rfl (Nat.le_of_ble_eq_true rfl) dzL_law_1544 ?_
  refine l_icmp_eq O dzL_law_1547 ?_
  exact nx σ μ hp
theorem law_loop {p : Program} {l : Launch} {e : Env} {s : State} {m : MethodId} {below : List Frame} {meth : Method} {c : Code} {Y : zY} {aM : Nat → Nat} {b L : Nat} {xs : Nat → Int32} {P : zS → zS → Prop} (O : l_ok Y aM (fun q => s.heap.size ≤ q) p s m #[Value.ref b] c b L xs) (hs : l_sims P) (hL : L ≤ 2560) (hr : meth.sig.returnType = ret) (hlk : meth.locks = false) : ∀ (n i : Nat) (σ μ : zS), P σ μ → i ≤ L → L < i + n → l_G p l e s m #[Value.ref b] below meth c (lw_Z below #[Value.ref b] s) Y aM (fun q => s.heap.size ≤ q) σ μ [(0, .ref b), (1, .ref (z_ad Y 0)), (2, .ref (aM 0)), (3, .int (nI i))] 18 [] := by
  intro n
  induction n with
  | zero =>
    intro i σ μ _ h1 h2
    omega
  | succ n ih =>
    intro i σ μ hp h1 h2
    refine l_iload_n O dzL_law_18 rfl 3 rfl ?_
    refine l_aload_n O dzL_law_19 rfl 0 rfl ?_
    refine l_slen O dzL_law_20 ?_
    refine l_iconst O dzL_law_21 hcI5 ?_
    refine l_isub O dzL_law_22 ?_
    refine l_icmp_gt O dzL_law_23 (fun _ => ?_) (fun hc => ?_)
    · refine l_iconst O dzL_law_1558 hcI1 ?_
      intro H locs ls hX hM hS hl
      refine W.widen (k := 600000) (n := 7302250) (Nat.le_of_ble_eq_true rfl) (Nat.le_of_ble_eq_true rfl) ?_
      refine va_forget (fun q hq => hS.2.2 q hq) ?_
      exact lw_ret O.1 O.2.1 hr hlk dzL_law_1559.1
    · have hi : i + 5 ≤ L := by
        rcases Nat.lt_or_ge L (i + 5) with q | q
        · exact absurd (l_gt q (by omega) (by omega)) hc
        · exact q
      have nx : ∀ σ' μ', P σ' μ' → l_G p l e s m #[Value.ref b] below meth c (lw_Z below #[Value.ref b] s) Y aM (fun q => s.heap.size ≤ q) σ' μ' [(0, .ref b), (1, .ref (z_ad Y 0)), (2, .ref (aM 0)), (3, .int (nI i))] 1552 [] := by
        intro σ' μ' hp'
        refine l_iinc O (lv' := [(3, .int (nI (i + 5))), (0, .ref b), (1, .ref (z_ad Y 0)), (2, .ref (aM 0))]) dzL_law_1552 3 rfl (l_ix i 5 hcI5) (by decide) rfl ?_
        refine l_goto O dzL_law_1555 ?_
        refine l_sub [1, 2, 3, 0] rfl ?_
        exact ih (i + 5) σ' μ' hp' hi (by omega)
      refine l_aload_n O dzL_law_26 rfl 0 rfl ?_
      refine l_iload_n O dzL_law_27 rfl 3 rfl ?_
      refine l_sld O i rfl (by omega) (by omega) dzL_law_28 ?_
      refine l_bipush O dzL_law_29 hcB63 ?_
      refine l_iand O dzL_law_31 ?_
      generalize xs i &&& 63 = x
      by_cases c0 : x = 0
      · refine l_tabI O dzL_law_32 (x := x) (by rw [c0]; decide) (by rw [c0]; decide) (off := 172) (by rw [c0]; rfl) (tgt := 204) rfl ?_
        exact l_case0 O hs hp hi hL nx
      by_cases c1 : x = 1
      · refine l_tabI O dzL_law_32 (x := x) (by rw [c1]; decide) (by rw [c1]; decide) (off := 205) (by rw [c1]; rfl) (tgt := 237) rfl ?_
        exact l_case1 O hs hp hi hL nx
      by_cases c2 : x = 2
      · refine l_tabI O dzL_law_32 (x := x) (by rw [c2]; decide) (by rw [c2]; decide) (off := 228) (by rw [c2]; rfl) (tgt := 260) rfl ?_
        exact l_case2 O hs hp hi hL nx
      by_cases c3 : x = 3
      · refine l_tabI O dzL_law_32 (x := x) (by rw [c3]; decide) (by rw [c3]; decide) (off := 261) (by rw [c3]; rfl) (tgt := 293) rfl ?_
        exact l_case3 O hs hp hi hL nx
      by_cases c4 : x = 4
      · refine l_tabI O dzL_law_32 (x := x) (by rw [c4]; decide) (by rw [c4]; decide) (off := 294) (by rw [c4]; rfl) (tgt := 326) rfl ?_
        exact l_case4 O hs hp hi hL nx
      by_cases c5 : x = 5
      · refine l_tabI O dzL_law_32 (x := x) (by rw [c5]; decide) (by rw [c5]; decide) (off := 327) (by rw [c5]; rfl) (tgt := 359) rfl ?_
        exact l_case5 O hs hp hi hL nx
      by_cases c6 : x = 6
      · refine l_tabI O dzL_law_32 (x := x) (by rw [c6]; decide) (by rw [c6]; decide) (off := 360) (by rw [c6]; rfl) (tgt := 392) rfl ?_
        exact l_case6 O hs hp hi hL nx
      by_cases c7 : x = 7
      · refine l_tabI O dzL_law_32 (x := x) (by rw [c7]; decide) (by rw [c7]; decide) (off := 383) (by rw [c7]; rfl) (tgt := 415) rfl ?_
        exact l_case7 O hs hp hi hL nx
      by_cases c8 : x = 8
      · refine l_tabI O dzL_law_32 (x := x) (by rw [c8]; decide) (by rw [c8]; decide) (off := 406) (by rw [c8]; rfl) (tgt := 438) rfl ?_
        exact l_case8 O hs hp hi hL nx
      by_cases c9 : x = 9
      · refine l_tabI O dzL_law_32 (x := x) (by rw [c9]; decide) (by rw [c9]; decide) (off := 439) (by rw [c9]; rfl) (tgt := 471) rfl ?_
        exact l_case9 O hs hp hi hL nx
      by_cases c10 : x = 10
      · refine l_tabI O dzL_law_32 (x := x) (by rw [c10]; decide) (by rw [c10]; decide) (off := 452) (by rw [c10]; rfl) (tgt := 484) rfl ?_
        exact l_case10 O hs hp hi hL nx
      by_cases c11 : x = 11
      · refine l_tabI O dzL_law_32 (x := x) (by rw [c11]; decide) (by rw [c11]; decide) (off := 485) (by rw [c11]; rfl) (tgt := 517) rfl ?_
        exact l_case11 O hs hp hi hL nx
      by_cases c12 : x = 12
      · refine l_tabI O dzL_law_32 (x := x) (by rw [c12]; decide) (by rw [c12]; decide) (off := 508) (by rw [c12]; rfl) (tgt := 540) rfl ?_
        exact l_case12 O hs hp hi hL nx
      by_cases c13 : x = 13
      · refine l_tabI O dzL_law_32 (x := x) (by rw [c13]; decide) (by rw [c13]; decide) (off := 531) (by rw [c13]; rfl) (tgt := 563) rfl ?_
        exact l_case13 O hs hp hi hL nx
      by_cases c14 : x = 14
      · refine l_tabI O dzL_law_32 (x := x) (by rw [c14]; decide) (by rw [c14]; decide) (off := 554) (by rw [c14]; rfl) (tgt := 586) rfl ?_
        exact l_case14 O hs hp hi hL nx
      by_cases c15 : x = 15
      · refine l_tabI O dzL_law_32 (x := x) (by rw [c15]; decide) (by rw [c15]; decide) (off := 597) (by rw [c15]; rfl) (tgt := 629) rfl ?_
        exact l_case15 O hs hp hi hL nx
      by_cases c16 : x = 16
      · refine l_tabI O dzL_law_32 (x := x) (by rw [c16]; decide) (by rw [c16]; decide) (off := 650) (by rw [c16]; rfl) (tgt := 682) rfl ?_
        exact l_case16 O hs hp hi hL nx
      by_cases c17 : x = 17
      · refine l_tabI O dzL_law_32 (x := x) (by rw [c17]; decide) (by rw [c17]; decide) (off := 683) (by rw [c17]; rfl) (tgt := 715) rfl ?_
        exact l_case17 O hs hp hi hL nx
      by_cases c18 : x = 18
      · refine l_tabI O dzL_law_32 (x := x) (by rw [c18]; decide) (by rw [c18]; decide) (off := 716) (by rw [c18]; rfl) (tgt := 748) rfl ?_
        exact l_case18 O hs hp hi hL nx
      by_cases c19 : x = 19
      · refine l_tabI O dzL_law_32 (x := x) (by rw [c19]; decide) (by rw [c19]; decide) (off := 759) (by rw [c19]; rfl) (tgt := 791) rfl ?_
        exact l_case19 O hs hp hi hL nx
      by_cases c20 : x = 20
      · refine l_tabI O dzL_law_32 (x := x) (by rw [c20]; decide) (by rw [c20]; decide) (off := 792) (by rw [c20]; rfl) (tgt := 824) rfl ?_
        exact l_case20 O hs hp hi hL nx
      by_cases c21 : x = 21
      · refine l_tabI O dzL_law_32 (x := x) (by rw [c21]; decide) (by rw [c21]; decide) (off := 835) (by rw [c21]; rfl) (tgt := 867) rfl ?_
        exact l_case21 O hs hp hi hL nx
      by_cases c22 : x = 22
      · refine l_tabI O dzL_law_32 (x := x) (by rw [c22]; decide) (by rw [c22]; decide) (off := 868) (by rw [c22]; rfl) (tgt := 900) rfl ?_
        exact l_case22 O hs hp hi hL nx
      by_cases c23 : x = 23
      · refine l_tabI O dzL_law_32 (x := x) (by rw [c23]; decide) (by rw [c23]; decide) (off := 901) (by rw [c23]; rfl) (tgt := 933) rfl ?_
        exact l_case23 O hs hp hi hL nx
      by_cases c24 : x = 24
      · refine l_tabI O dzL_law_32 (x := x) (by rw [c24]; decide) (by rw [c24]; decide) (off := 954) (by rw [c24]; rfl) (tgt := 986) rfl ?_
        exact l_case24 O hs hp hi hL nx
      by_cases c25 : x = 25
      · refine l_tabI O dzL_law_32 (x := x) (by rw [c25]; decide) (by rw [c25]; decide) (off := 1007) (by rw [c25]; rfl) (tgt := 1039) rfl ?_
        exact l_case25 O hs hp hi hL nx
      by_cases c26 : x = 26
      · refine l_tabI O dzL_law_32 (x := x) (by rw [c26]; decide) (by rw [c26]; decide) (off := 1060) (by rw [c26]; rfl) (tgt := 1092) rfl ?_
        exact l_case26 O hs hp hi hL nx
      by_cases c27 : x = 27
      · refine l_tabI O dzL_law_32 (x := x) (by rw [c27]; decide) (by rw [c27]; decide) (off := 1093) (by rw [c27]; rfl) (tgt := 1125) rfl ?_
        exact l_case27 O hs hp hi hL nx
      by_cases c28 : x = 28
      · refine l_tabI O dzL_law_32 (x := x) (by rw [c28]; decide) (by rw [c28]; decide) (off := 1136) (by rw [c28]; rfl) (tgt := 1168) rfl ?_
        exact l_case28 O hs hp hi hL nx
      by_cases c29 : x = 29
      · refine l_tabI O dzL_law_32 (x := x) (by rw [c29]; decide) (by rw [c29]; decide) (off := 1179) (by rw [c29]; rfl) (tgt := 1211) rfl ?_
        exact l_case29 O hs hp hi hL nx
      by_cases c30 : x = 30
      · refine l_tabI O dzL_law_32 (x := x) (by rw [c30]; decide) (by rw [c30]; decide) (off := 1212) (by rw [c30]; rfl) (tgt := 1244) rfl ?_
        exact l_case30 O hs hp hi hL nx
      by_cases c31 : x = 31
      · refine l_tabI O dzL_law_32 (x := x) (by rw [c31]; decide) (by rw [c31]; decide) (off := 1255) (by rw [c31]; rfl) (tgt := 1287) rfl ?_
        exact l_case31 O hs hp hi hL nx
      by_cases c32 : x = 32
      · refine l_tabI O dzL_law_32 (x := x) (by rw [c32]; decide) (by rw [c32]; decide) (off := 1328) (by rw [c32]; rfl) (tgt := 1360) rfl ?_
        exact l_case32 O hs hp hi hL nx
      by_cases c33 : x = 33
      · refine l_tabI O dzL_law_32 (x := x) (by rw [c33]; decide) (by rw [c33]; decide) (off := 1362) (by rw [c33]; rfl) (tgt := 1394) rfl ?_
        exact l_case33 O hs hp hi hL nx
      by_cases c34 : x = 34
      · refine l_tabI O dzL_law_32 (x := x) (by rw [c34]; decide) (by rw [c34]; decide) (off := 1395) (by rw [c34]; rfl) (tgt := 1427) rfl ?_
        exact l_case34 O hs hp hi hL nx
      by_cases c35 : x = 35
      · refine l_tabI O dzL_law_32 (x := x) (by rw [c35]; decide) (by rw [c35]; decide) (off := 1438) (by rw [c35]; rfl) (tgt := 1470) rfl ?_
        exact l_case35 O hs hp hi hL nx
      by_cases c36 : x = 36
      · refine l_tabI O dzL_law_32 (x := x) (by rw [c36]; decide) (by rw [c36]; decide) (off := 1471) (by rw [c36]; rfl) (tgt := 1503) rfl ?_
        exact l_case36 O hs hp hi hL nx
      by_cases c37 : x = 37
      · refine l_tabI O dzL_law_32 (x := x) (by rw [c37]; decide) (by rw [c37]; decide) (off := 1484) (by rw [c37]; rfl) (tgt := 1516) rfl ?_
        exact l_case37 O hs hp hi hL nx
      by_cases c38 : x = 38
      · refine l_tabI O dzL_law_32 (x := x) (by rw [c38]; decide) (by rw [c38]; decide) (off := 1497) (by rw [c38]; rfl) (tgt := 1529) rfl ?_
        exact l_case38 O hs hp hi hL nx
      have q0 := z_ne (z := 0) rfl c0
      have q1 := z_ne (z := 1) rfl c1
      have q2 := z_ne (z := 2) rfl c2
      have q3 := z_ne (z := 3) rfl c3
      have q4 := z_ne (z := 4) rfl c4
      have q5 := z_ne (z := 5) rfl c5
      have q6 := z_ne (z := 6) rfl c6
      have q7 := z_ne (z := 7) rfl c7
      have q8 := z_ne (z := 8) rfl c8
      have q9 := z_ne (z := 9) rfl c9
      have q10 := z_ne (z := 10) rfl c10
      have q11 := z_ne (z := 11) rfl c11
      have q12 := z_ne (z := 12) rfl c12
      have q13 := z_ne (z := 13) rfl c13
      have q14 := z_ne (z := 14) rfl c14
      have q15 := z_ne (z := 15) rfl c15
      have q16 := z_ne (z := 16) rfl c16
      have q17 := z_ne (z := 17) rfl c17
      have q18 := z_ne (z := 18) rfl c18
      have q19 := z_ne (z := 19) rfl c19
      have q20 := z_ne (z := 20) rfl c20
      have q21 := z_ne (z := 21) rfl c21
      have q22 := z_ne (z := 22) rfl c22
      have q23 := z_ne (z := 23) rfl c23
      have q24 := z_ne (z := 24) rfl c24
      have q25 := z_ne (z := 25) rfl c25
      have q26 := z_ne (z := 26) rfl c26
      have q27 := z_ne (z := 27) rfl c27
      have q28 := z_ne (z := 28) rfl c28
      have q29 := z_ne (z := 29) rfl c29
      have q30 := z_ne (z := 30) rfl c30
      have q31 := z_ne (z := 31) rfl c31
      have q32 := z_ne (z := 32) rfl c32
      have q33 := z_ne (z := 33) rfl c33
      have q34 := z_ne (z := 34) rfl c34
      have q35 := z_ne (z := 35) rfl c35
      have q36 := z_ne (z := 36) rfl c36
      have q37 := z_ne (z := 37) rfl c37
      have q38 := z_ne (z := 38) rfl c38
      refine l_tabO O dzL_law_32 (by omega) (tgt := 1552) rfl ?_
      exact nx σ μ hp

