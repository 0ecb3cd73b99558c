/-! constructors: worlds as lists -/
def c_AOA (U : State) : Prop := (Cond.arrayOver (.array .int)).before #[] U = true
theorem c_AOA_spec {U : State} (h : c_AOA U) : ∃ comp k0 kl, U.vm.findClass (FieldType.array .int).toString = some comp ∧ (U.vm.classes.findIdx? fun (x : Class) => match x.kind with | .array component _ => component == comp | _ => false) = some k0 ∧ U.vm.classes[k0]? = some kl ∧ kl.kind = .array comp (.array .int) ∧ U.vm.findClass ("[" ++ (FieldType.array .int).toString) = some k0 := by
  unfold c_AOA Cond.before at h
  simp only [Cond.holds, Cond.value, beq_iff_eq] at h
  cases hc : U.vm.findClass (FieldType.array .int).toString with
  | none => simp [hc] at h
  | some comp =>
    simp only [hc, Option.bind_some, Option.bind_eq_some_iff, Option.map_eq_some_iff] at h
    obtain ⟨k0, hi, kl, hk, hb⟩ := h
    obtain ⟨hlt, hp, -⟩ := Array.findIdx?_eq_some_iff_getElem.mp hi
    have hkk : U.vm.classes[k0] = kl := (Array.getElem?_eq_some_iff.mp hk).2
    rw [hkk] at hp
    cases hkind : kl.kind with
    | array component ty =>
      rw [hkind] at hb hp
      simp at hb hp
      exact ⟨comp, k0, kl, rfl, hi, hk, by rw [hkind, hp, hb.1], hb.2⟩
    | _ => rw [hkind] at hb; simp at hb
theorem c_AOA_moved {u U : State} (hvm : u.vm.Alike U.vm) (h : c_AOA u) : c_AOA U := by
  obtain ⟨comp, k0, kl, h1, h2, h3, h4, h5⟩ := c_AOA_spec h
  obtain ⟨k', hk', he⟩ := hvm.2.2 _ _ h3
  have hi : (U.vm.classes.findIdx? fun (x : Class) => match x.kind with | .array component _ => component == comp | _ => false) = some k0 := by
    have a := va_idx_bare U.vm comp
    have b := va_idx_bare u.vm comp
    have e : U.vm.bare = u.vm.bare := by first | exact hvm.bare_eq | exact hvm.bare_eq.symm
    rw [e] at a
    exact (a.symm.trans b).trans h2
  have hkind : k'.kind = .array comp (.array .int) := by rw [he]; exact h4
  have f1 : U.vm.findClass (FieldType.array .int).toString = some comp := by rw [hvm.findClass]; exact h1
  have f2 : U.vm.findClass ("[" ++ (FieldType.array .int).toString) = some k0 := by rw [hvm.findClass]; exact h5
  unfold c_AOA Cond.before Cond.holds
  simp only [Cond.value]
  rw [f1, Option.bind_some]
  refine (congrArg (fun o : Option Nat => (o.bind (fun c => (U.vm.classes[c]?).map fun (k : Class) => match k.kind with | .array _ ty => decide (ty = FieldType.array .int) && decide (U.vm.findClass ("[" ++ (FieldType.array .int).toString) = some c) | _ => false) == some true)) hi).trans ?_
  simp [hk', hkind, f2]
def c_st (A : Nat → Prop) (Y : zY) (U : State) (H : Heap) : Prop := z_st A Y U H ∧ va_AO RX1 U ∧ va_AO RX2 U ∧ va_AO RX3 U ∧ c_AOA U
def c_ok (Y : zY) (A : Nat → Prop) (p : Program) (s : State) (m : MethodId) (args : Array Value) (c : Code) (cc : ByteArray) (own : String) (nL : Nat) : Prop :=
  p.tables.exec = Jvm.exec ∧ c.code = cc ∧ c.maxLocals = nL ∧ s.vm.findClass own = some m.cls ∧ (∀ w ∈ z_TB, w.before args s = true) ∧ va_K Y.1 z_cls (z_tys Y) s ∧ c_st A Y s s.heap ∧ ∀ q, s.heap.size ≤ q → A q
def c_G (p : Program) (l : Launch) (e : Env) (R : Room) (s : State) (m : MethodId) (args : Array Value) (below : List Frame) (meth : Method) (c : Code) (Q : State → Prop) (Y : zY) (A : Nat → Prop) (nL : Nat) (ws : va_W) (cells slots : Nat) (lv : List (Nat × Value)) (pc : Nat) (st : List Value) : Prop :=
  ∀ (H : Heap) (locs : List Loc) (ls : Array Slot), va_P Y.1 z_cls ws H → va_D A ws → va_S A s.heap H locs → lv_has ls nL lv → W p l e R s m args below meth c H locs cells slots Q (F0 m pc ls st)
theorem c_RA {Y : zY} {s : State} {tys : List (ClassId × FieldType)} {cA : ClassId} {ty : FieldType} {t : Nat} (h0 : va_K Y.1 z_cls (z_tys Y) s) (ht : (z_tys Y)[t]? = some (Y.2.1 t, ty)) (h : va_RA s cA ty) : cA = Y.2.1 t := by
  have h1 := (h0.2 t _ ht).2
  have key : ∀ a b : ClassId, va_RA s a ty → va_RA s b ty → a = b := by
    intro a b ha hb
    cases ty with
    | object C =>
      obtain ⟨_, _, _, _, _, h4⟩ := ha
      obtain ⟨_, _, _, _, _, h5⟩ := hb
      exact Option.some.inj (h4.symm.trans h5)
    | _ =>
      have ha' : s.vm.findClass _ = some a := ha
      have hb' : s.vm.findClass _ = some b := hb
      exact Option.some.inj (ha'.symm.trans hb')
  exact key _ _ h h1
theorem c_st_to {A B : Nat → Prop} {Y : zY} {s U : State} {H : Heap} {locs : List Loc} (hW : s.WarmedH U.vm) (hU : U.heap = H) (hS : va_S A s.heap H locs) (hAB : ∀ q, B q → A q) (h : c_st A Y s s.heap) : c_st B Y U U.heap := by
  obtain ⟨h0, h1, h2, h3, h4⟩ := h
  obtain ⟨g1, g2, g3, g4, g5⟩ := z_st_to hW hU hS h0
  exact ⟨⟨g1.narrow hAB, g2.narrow hAB, g3.narrow hAB, g4.narrow hAB, g5⟩, va_AO.moved hW.alike h1, va_AO.moved hW.alike h2, va_AO.moved hW.alike h3, c_AOA_moved hW.alike h4⟩
theorem c_st_call {A : Nat → Prop} {Y : zY} {U : State} {g : JFrame} {mk : MethodId} {a : Array Value} (h : c_st A Y U U.heap) : c_st A Y (U.calling g mk a) (U.calling g mk a).heap := ⟨z_st_call h.1, va_AO.moved (u := U) (U := U.calling g mk a) (Vm.Alike.refl U.vm) h.2.1, va_AO.moved (u := U) (U := U.calling g mk a) (Vm.Alike.refl U.vm) h.2.2.1, va_AO.moved (u := U) (U := U.calling g mk a) (Vm.Alike.refl U.vm) h.2.2.2.1, c_AOA_moved (u := U) (U := U.calling g mk a) (Vm.Alike.refl U.vm) h.2.2.2.2⟩
/-- a constructor's start: the new object alone -/
def c_Pc (Y : zY) (h0 sz : Nat) (cell : va_E) (av : List Value) : Array Value → State → Prop := va_Pc av (fun U => U.heap.size = sz ∧ va_P Y.1 z_cls [(h0, cell)] U.heap ∧ va_K Y.1 z_cls (z_tys Y) U ∧ c_st (va_A [(h0, cell)] sz) Y U U.heap)
def c_Qv (Y : zY) (h0 sz : Nat) (cell : va_E) (blk : (Nat → Nat) → va_W) : Array Value → State → Outcome → State → Prop := va_Qv (fun _ : Nat → Nat => True) (fun u t => va_P Y.1 z_cls (blk u) t.heap ∧ va_D (va_A [(h0, cell)] sz) (blk u)) (va_A [(h0, cell)] sz)
theorem c_blind {Y : zY} {h0 sz : Nat} {cell : va_E} {av : List Value} : FrameBlind (c_Pc Y h0 sz cell av) := fun a U g mk q => ⟨q.1, q.2.1, q.2.2.1, va_K.moved (u := U) (U := U.calling g mk a) (Vm.Alike.refl U.vm) q.2.2.2.1, c_st_call q.2.2.2.2⟩
def c_rm (r mc ms : Nat) : Room := { frames := r, cells := mc, slots := ms, locals := 64 * r }
theorem c_met {l : Launch} {y : MethodName} {cc : ByteArray} {maxL r mc ms h0 : Nat} {Y : zY} {cell : va_E} {av : List Value} {blk : (Nat → Nat) → va_W} (lv : List (Nat × Value)) (hlv : lv_args 0 av = lv) (hlen : (lg_sl av).length ≤ maxL) (hy : plainFor y = true)
    (body : ∀ (sz : Nat) p e s m args below meth c, c_ok Y (va_A [(h0, cell)] sz) p s m args c cc y.cls maxL → meth.sig.returnType = none → meth.locks = false → meth.name = y.name → c_G p l e (c_rm r mc ms) s m args below meth c (MQ below (c_Qv Y h0 sz cell blk) args s mc ms (va_A [(h0, cell)] sz)) Y (va_A [(h0, cell)] sz) maxL [(h0, cell)] 0 0 lv 0 []) :
    ∀ sz : Nat, Met l y (Cond.code y cc maxL none :: z_TB) (c_rm r mc ms) (c_Pc Y h0 sz cell av) (c_Qv Y h0 sz cell blk) mc ms (va_A [(h0, cell)] sz) := by
  intro sz
  refine z_ofW (cc := cc) (maxL := maxL) (ret := none) hy rfl ?_
  intro p e s m args below meth c s₁ B hml hv
  obtain ⟨rfl, hsz, hP, hK, hZ⟩ := hv
  have hts := atoms_spec (ws := Cond.code y cc maxL none :: z_TB) B.pre
  have hl := lv_entry av (n := maxL) hlen
  rw [lg_entry_eq]
  generalize (lg_sl av ++ List.replicate (maxL - (lg_sl av).length) Slot.unset).toArray = ls at hl ⊢
  rw [hlv] at hl
  have hD : va_D (va_A [(h0, cell)] sz) [(h0, cell)] := by
    refine ⟨fun i j x y hi hj hxy => ?_, fun k q hk => va_A.in hk⟩
    have h1 : i < 1 := (List.getElem?_eq_some_iff.mp hi).1
    have h2 : j < 1 := (List.getElem?_eq_some_iff.mp hj).1
    omega
  exact body sz p e s m av.toArray below meth c ⟨B.exec, B.bytes, hml, findClass_of_methodNamed B.named, fun w hw => hts w (List.mem_cons_of_mem _ hw), hK, hZ, fun q h => Or.inr (by omega)⟩ B.returns B.notSynchronized (name_of_methodNamed B.named B.method).1 s.heap [] ls hP hD va_S.rf hl
section CROWS
variable {p : Program} {l : Launch} {e : Env} {R : Room} {s : State} {m : MethodId} {args : Array Value} {below : List Frame} {meth : Method} {c : Code} {Q : State → Prop} {Y : zY} {A : Nat → Prop} {cc : ByteArray} {own : String} {nL : Nat} {ws ws' : va_W} {cells slots : Nat} {lv lv' : List (Nat × Value)} {pc pc' tgt : Nat} {rest : List Value}

theorem c_iconst (O : c_ok Y A p s m args c cc own nL) {n : Int} {v : Int32} (hd : z_d cc pc (.iconst n) 1 pc') (hv : Int32.ofInt n = v) (k : c_G p l e R s m args below meth c Q Y A nL ws cells slots lv pc' (.int v :: rest)) : c_G p l e R s m args below meth c Q Y A nL ws cells slots lv pc rest := by
  obtain ⟨hd, rfl⟩ := hd
  exact fun H locs ls hP hD hS hl => lv_iconst O.1 O.2.1 hd hv (k H locs ls hP hD hS hl)

theorem c_bipush (O : c_ok Y A p s m args c cc own nL) {n : Int} {v : Int32} (hd : z_d cc pc (.bipush n) 2 pc') (hv : (Int8.ofInt n).toInt32 = v) (k : c_G p l e R s m args below meth c Q Y A nL ws cells slots lv pc' (.int v :: rest)) : c_G p l e R s m args below meth c Q Y A nL ws cells slots lv pc rest := by
  obtain ⟨hd, rfl⟩ := hd
  exact fun H locs ls hP hD hS hl => lv_bipush O.1 O.2.1 hd hv (k H locs ls hP hD hS hl)

theorem c_sipush (O : c_ok Y A p s m args c cc own nL) {n : Int} {v : Int32} (hd : z_d cc pc (.sipush n) 3 pc') (hv : (Int16.ofInt n).toInt32 = v) (k : c_G p l e R s m args below meth c Q Y A nL ws cells slots lv pc' (.int v :: rest)) : c_G p l e R s m args below meth c Q Y A nL ws cells slots lv pc rest := by
  obtain ⟨hd, rfl⟩ := hd
  exact fun H locs ls hP hD hS hl => lv_sipush O.1 O.2.1 hd hv (k H locs ls hP hD hS hl)

theorem c_iload_n (O : c_ok Y A p s m args c cc own nL) {k : Fin 4} {i : Nat} {x : Int32} (hd : z_d cc pc (.iload_n k) 1 pc') (hi : (k : Nat) = i) (q : Nat) (hq : lv[q]? = some (i, .int x)) (k : c_G p l e R s m args below meth c Q Y A nL ws cells slots lv pc' (.int x :: rest)) : c_G p l e R s m args below meth c Q Y A nL ws cells slots lv pc rest := by
  obtain ⟨hd, rfl⟩ := hd
  exact fun H locs ls hP hD hS hl => lv_iload_n O.1 O.2.1 hd hi (lv_at hl q hq) (k H locs ls hP hD hS hl)

theorem c_aload_n (O : c_ok Y A p s m args c cc own nL) {k : Fin 4} {i : Nat} {x : Nat} (hd : z_d cc pc (.aload_n k) 1 pc') (hi : (k : Nat) = i) (q : Nat) (hq : lv[q]? = some (i, .ref x)) (k : c_G p l e R s m args below meth c Q Y A nL ws cells slots lv pc' (.ref x :: rest)) : c_G p l e R s m args below meth c Q Y A nL ws cells slots lv pc rest := by
  obtain ⟨hd, rfl⟩ := hd
  exact fun H locs ls hP hD hS hl => lv_aload_n O.1 O.2.1 hd hi (lv_at hl q hq) (k H locs ls hP hD hS hl)

theorem c_iadd (O : c_ok Y A p s m args c cc own nL) {x y : Int32} (hd : z_d cc pc (.iadd) 1 pc') (k : c_G p l e R s m args below meth c Q Y A nL ws cells slots lv pc' (.int (x + y) :: rest)) : c_G p l e R s m args below meth c Q Y A nL ws cells slots lv pc (.int y :: .int x :: rest) := by
  obtain ⟨hd, rfl⟩ := hd
  exact fun H locs ls hP hD hS hl => lv_iadd O.1 O.2.1 hd (k H locs ls hP hD hS hl)

theorem c_dup (O : c_ok Y A p s m args c cc own nL) {va : Value} (hd : z_d cc pc (.dup) 1 pc') (h1 : va.category = 1) (k : c_G p l e R s m args below meth c Q Y A nL ws cells slots lv pc' (va :: va :: rest)) : c_G p l e R s m args below meth c Q Y A nL ws cells slots lv pc (va :: rest) := by
  obtain ⟨hd, rfl⟩ := hd
  exact fun H locs ls hP hD hS hl => lv_dup O.1 O.2.1 hd h1 (k H locs ls hP hD hS hl)

theorem c_istore_n (O : c_ok Y A p s m args c cc own nL) {k : Fin 4} {i : Nat} {x : Int32} (hd : z_d cc pc (.istore_n k) 1 pc') (hi : (k : Nat) = i) (hn : i < nL) (hl' : (i, Value.int x) :: lv.filter (fun q => !(q.1 == i) && !(q.1 + 1 == i && q.2.category == 2)) = lv') (k : c_G p l e R s m args below meth c Q Y A nL ws cells slots lv' pc' rest) : c_G p l e R s m args below meth c Q Y A nL ws cells slots lv pc (.int x :: rest) := by
  obtain ⟨hd, rfl⟩ := hd
  exact fun H locs ls hP hD hS hl => lv_istore_n O.1 O.2.1 hd hi hl hn hl' (fun ls hl => k H locs ls hP hD hS hl)

theorem c_iinc (O : c_ok Y A p s m args c cc own nL) {i : Nat} {n : Int} {x v : Int32} (hd : z_d cc pc (.iinc i n) 3 pc') (q : Nat) (hk : lv[q]? = some (i, .int x)) (hv : x + Int32.ofInt n = v) (hn : i < nL) (hl' : (i, Value.int v) :: lv.filter (fun q => !(q.1 == i) && !(q.1 + 1 == i && q.2.category == 2)) = lv') (k : c_G p l e R s m args below meth c Q Y A nL ws cells slots lv' pc' rest) : c_G p l e R s m args below meth c Q Y A nL ws cells slots lv pc rest := by
  obtain ⟨hd, rfl⟩ := hd
  exact fun H locs ls hP hD hS hl => lv_iinc O.1 O.2.1 hd hl hk hv hn hl' (fun ls hl => k H locs ls hP hD hS hl)

theorem c_goto (O : c_ok Y A p s m args c cc own nL) {off : Int} (hd : z_b cc pc (.goto off) off pc' tgt) (k : c_G p l e R s m args below meth c Q Y A nL ws cells slots lv tgt rest) : c_G p l e R s m args below meth c Q Y A nL ws cells slots lv pc rest := by
  obtain ⟨hd, -, ht⟩ := hd
  exact fun H locs ls hP hD hS hl => lv_goto O.1 O.2.1 hd ht (k H locs ls hP hD hS hl)

theorem c_icmp_geT (O : c_ok Y A p s m args c cc own nL) {x y : Int32} {off : Int} (hd : z_b cc pc (.if_icmp .ge off) off pc' tgt) (hc : y ≤ x) (k : c_G p l e R s m args below meth c Q Y A nL ws cells slots lv tgt rest) : c_G p l e R s m args below meth c Q Y A nL ws cells slots lv pc (.int y :: .int x :: rest) := by
  obtain ⟨hd, -, ht⟩ := hd
  exact fun H locs ls hP hD hS hl => lv_icmp_ge O.1 O.2.1 hd ht (fun _ => k H locs ls hP hD hS hl) (fun h => absurd hc h)

theorem c_icmp_geF (O : c_ok Y A p s m args c cc own nL) {x y : Int32} {off : Int} (hd : z_b cc pc (.if_icmp .ge off) off pc' tgt) (hc : ¬ y ≤ x) (k : c_G p l e R s m args below meth c Q Y A nL ws cells slots lv pc' rest) : c_G p l e R s m args below meth c Q Y A nL ws cells slots lv pc (.int y :: .int x :: rest) := by
  obtain ⟨hd, rfl, ht⟩ := hd
  exact fun H locs ls hP hD hS hl => lv_icmp_ge O.1 O.2.1 hd ht (fun h => absurd h hc) (fun _ => k H locs ls hP hD hS hl)

theorem c_objInit (O : c_ok Y A p s m args c cc own nL) {idx : Nat} {a : Nat} (hw : Cond.methodLink own idx objectInit ∈ z_TB) (hin : Cond.instanceMethod objectInit ∈ z_TB) (hc : Cond.code objectInit ⟨#[0xb1]⟩ 1 none ∈ z_TB) (hf : 1 ≤ R.frames) (hlo : (rest.map fun v => v.category).sum + 12 ≤ R.locals) (hd : z_d cc pc (.invokespecial idx) 3 pc') (k : c_G p l e R s m args below meth c Q Y A nL ws cells slots lv pc' rest) : c_G p l e R s m args below meth c Q Y A nL ws cells slots lv pc (.ref a :: rest) := by
  obtain ⟨hd, rfl⟩ := hd
  intro H locs ls hP hD hS hl
  exact W.objInit O.1 O.2.1 O.2.2.2.1 (O.2.2.2.2.1 _ hw) (O.2.2.2.2.1 _ hin) (O.2.2.2.2.1 _ hc) rfl (by rw [O.2.2.1]; exact hl.1) rfl hd hf (by show 2 * 0 + _ + 12 ≤ _; omega) (k H locs ls hP hD hS hl)

theorem c_get (O : c_ok Y A p s m args c cc own nL) {ci a N index q0 : Nat} {C : String} {T : u_T} {ty : Nat → FieldType} {fs : List Value} {v : Value} (B : z_cb ci C T N ty) (he : ws[q0]? = some (a, .inr (ci, fs))) (k : Nat) (hk : k < N) (hw : Cond.fieldLink own index C (T k).2.1 (T k).2.2.1 ∈ z_TB) (hv : fs[k]? = some v) (hd : z_d cc pc (.getfield index) 3 pc') (kk : c_G p l e R s m args below meth c Q Y A nL ws cells slots lv pc' (v :: rest)) : c_G p l e R s m args below meth c Q Y A nL ws cells slots lv pc (.ref a :: rest) := by
  obtain ⟨hd, rfl⟩ := hd
  exact fun H locs ls hP hD hS hl => va_get (D := Y.1) (ci := ci) (C := C) (T := T) (N := N) O.1 O.2.1 O.2.2.2.2.1 B.2.1 O.2.2.2.1 O.2.2.2.2.2.1 hP q0 he B.1 k hk (O.2.2.2.2.1 _ hw) (fun x h => by rw [B.2.2.2.2 k hk] at h; exact h) hv hd (kk H locs ls hP hD hS hl)

theorem c_put (O : c_ok Y A p s m args c cc own nL) {ci a N index q0 : Nat} {C : String} {T : u_T} {ty : Nat → FieldType} {fs : List Value} {v : Value} (B : z_cb ci C T N ty) (he : ws[q0]? = some (a, .inr (ci, fs))) (k : Nat) (hk : k < N) (hw : Cond.fieldLink own index C (T k).2.1 (T k).2.2.1 ∈ z_TB) (hfin : (T k).2.2.2 = false) (hn : narrow (ty k) v = v) (hft : fits (ty k) v = true) (hl' : k < fs.length) (hws : ws.set q0 (a, .inr (ci, fs.set k v)) = ws') (hd : z_d cc pc (.putfield index) 3 pc') (kk : c_G p l e R s m args below meth c Q Y A nL ws' cells slots lv pc' rest) : c_G p l e R s m args below meth c Q Y A nL ws cells slots lv pc (v :: .ref a :: rest) := by
  obtain ⟨hd, rfl⟩ := hd
  subst hws
  exact fun H locs ls hP hD hS hl => va_put (D := Y.1) (ci := ci) (C := C) (T := T) (N := N) O.1 O.2.1 O.2.2.2.2.1 B.2.1 ty B.2.2.1 B.2.2.2.1 O.2.2.2.1 O.2.2.2.2.2.1 hP hD hS q0 he B.1 k hk (O.2.2.2.2.1 _ hw) (fun x h => by rw [B.2.2.2.2 k hk] at h; exact h) hfin (B.2.2.1 k hk) hn hft hl' hd (fun H1 locs1 hP1 hD1 hS1 => kk H1 locs1 ls hP1 hD1 hS1 hl)

theorem c_putF (O : c_ok Y A p s m args c cc own nL) {ci a N index q0 : Nat} {C : String} {T : u_T} {ty : Nat → FieldType} {fs : List Value} {v : Value} (B : z_cb ci C T N ty) (he : ws[q0]? = some (a, .inr (ci, fs))) (k : Nat) (hk : k < N) (hw : Cond.fieldLink own index C (T k).2.1 (T k).2.2.1 ∈ z_TB) (hfin : (T k).2.2.2 = true) (hin : meth.name = "<init>") (hown : C = own) (hn : narrow (ty k) v = v) (hft : fits (ty k) v = true) (hl' : k < fs.length) (hws : ws.set q0 (a, .inr (ci, fs.set k v)) = ws') (hd : z_d cc pc (.putfield index) 3 pc') (kk : c_G p l e R s m args below meth c Q Y A nL ws' cells slots lv pc' rest) : c_G p l e R s m args below meth c Q Y A nL ws cells slots lv pc (v :: .ref a :: rest) := by
  obtain ⟨hd, rfl⟩ := hd
  subst hws
  exact fun H locs ls hP hD hS hl => va_putF (D := Y.1) (ci := ci) (C := C) (T := T) (N := N) O.1 O.2.1 O.2.2.2.2.1 B.2.1 ty B.2.2.1 B.2.2.2.1 O.2.2.2.1 O.2.2.2.2.2.1 hP hD hS q0 he B.1 k hk (O.2.2.2.2.1 _ hw) (fun x h => by rw [B.2.2.2.2 k hk] at h; exact h) hfin hin (by rw [B.2.2.2.2 k hk]; exact hown) (B.2.2.1 k hk) hn hft hl' hd (fun H1 locs1 hP1 hD1 hS1 => kk H1 locs1 ls hP1 hD1 hS1 hl)

theorem c_newI (O : c_ok Y A p s m args c cc own nL) {n : Int32} {N : Nat} (hw : Cond.arrayClass .int ∈ z_TB) (hn : ¬ n < 0) (hN : n.toNatClampNeg = N) (hbt : N * componentBytes .int ≤ 536870912) (hcs : cells + 1 ≤ R.cells) (hss : slots + N ≤ R.slots) (hd : z_d cc pc (.newarray .int) 2 pc') (k : ∀ q : Nat, c_G p l e R s m args below meth c Q Y A nL (ws ++ [(q, .inl (Y.2.1 0, N, .inl (fun _ => 0)))]) (cells + 1) (slots + N) lv pc' (.ref q :: rest)) : c_G p l e R s m args below meth c Q Y A nL ws cells slots lv pc (.int n :: rest) := by
  obtain ⟨hd, rfl⟩ := hd
  refine fun H locs ls hP hD hS hl => va_newa (atype := .int) O.1 O.2.1 (O.2.2.2.2.1 _ hw) (ty := .int) rfl O.2.2.2.2.2.1 hP hD hS O.2.2.2.2.2.2.2 (a0 := (N, .inl (fun _ => 0))) (fun _ => rfl) hn hN hbt hcs hss hd (fun q cA H1 hK1 hP1 hD1 hS1 => ?_)
  have e : cA = Y.2.1 0 := c_RA (tys := []) O.2.2.2.2.2.1 rfl (hK1.2 7 (cA, .int) rfl).2
  subst e
  exact k q H1 locs ls hP1 hD1 hS1 hl

theorem c_newJ (O : c_ok Y A p s m args c cc own nL) {n : Int32} {N : Nat} (hw : Cond.arrayClass .long ∈ z_TB) (hn : ¬ n < 0) (hN : n.toNatClampNeg = N) (hbt : N * componentBytes .long ≤ 536870912) (hcs : cells + 1 ≤ R.cells) (hss : slots + N ≤ R.slots) (hd : z_d cc pc (.newarray .long) 2 pc') (k : ∀ q : Nat, c_G p l e R s m args below meth c Q Y A nL (ws ++ [(q, .inl (Y.2.1 1, N, .inr (.inl (fun _ => 0))))]) (cells + 1) (slots + N) lv pc' (.ref q :: rest)) : c_G p l e R s m args below meth c Q Y A nL ws cells slots lv pc (.int n :: rest) := by
  obtain ⟨hd, rfl⟩ := hd
  refine fun H locs ls hP hD hS hl => va_newa (atype := .long) O.1 O.2.1 (O.2.2.2.2.1 _ hw) (ty := .long) rfl O.2.2.2.2.2.1 hP hD hS O.2.2.2.2.2.2.2 (a0 := (N, .inr (.inl (fun _ => 0)))) (fun _ => rfl) hn hN hbt hcs hss hd (fun q cA H1 hK1 hP1 hD1 hS1 => ?_)
  have e : cA = Y.2.1 1 := c_RA (tys := []) O.2.2.2.2.2.1 rfl (hK1.2 7 (cA, .long) rfl).2
  subst e
  exact k q H1 locs ls hP1 hD1 hS1 hl

theorem c_newZ (O : c_ok Y A p s m args c cc own nL) {n : Int32} {N : Nat} (hw : Cond.arrayClass .boolean ∈ z_TB) (hn : ¬ n < 0) (hN : n.toNatClampNeg = N) (hbt : N * componentBytes .boolean ≤ 536870912) (hcs : cells + 1 ≤ R.cells) (hss : slots + N ≤ R.slots) (hd : z_d cc pc (.newarray .boolean) 2 pc') (k : ∀ q : Nat, c_G p l e R s m args below meth c Q Y A nL (ws ++ [(q, .inl (Y.2.1 2, N, .inl (fun _ => 0)))]) (cells + 1) (slots + N) lv pc' (.ref q :: rest)) : c_G p l e R s m args below meth c Q Y A nL ws cells slots lv pc (.int n :: rest) := by
  obtain ⟨hd, rfl⟩ := hd
  refine fun H locs ls hP hD hS hl => va_newa (atype := .boolean) O.1 O.2.1 (O.2.2.2.2.1 _ hw) (ty := .boolean) rfl O.2.2.2.2.2.1 hP hD hS O.2.2.2.2.2.2.2 (a0 := (N, .inl (fun _ => 0))) (fun _ => rfl) hn hN hbt hcs hss hd (fun q cA H1 hK1 hP1 hD1 hS1 => ?_)
  have e : cA = Y.2.1 2 := c_RA (tys := []) O.2.2.2.2.2.1 rfl (hK1.2 7 (cA, .boolean) rfl).2
  subst e
  exact k q H1 locs ls hP1 hD1 hS1 hl

theorem c_newQ (O : c_ok Y A p s m args c cc own nL) {n : Int32} {N index t : Nat} {C : String} (hw : Cond.classLink own index C ∈ z_TB) (hao : va_AO C s) (ht : (z_tys Y)[t]? = some (Y.2.1 t, .object C)) (hn : ¬ n < 0) (hN : n.toNatClampNeg = N) (hbt : N * 4 ≤ 536870912) (hcs : cells + 1 ≤ R.cells) (hss : slots + N ≤ R.slots) (hd : z_d cc pc (.anewarray index) 3 pc') (k : ∀ q : Nat, c_G p l e R s m args below meth c Q Y A nL (ws ++ [(q, .inl (Y.2.1 t, N, .inr (.inr (.inr (.inr (fun _ => none))))))]) (cells + 1) (slots + N) lv pc' (.ref q :: rest)) : c_G p l e R s m args below meth c Q Y A nL ws cells slots lv pc (.int n :: rest) := by
  obtain ⟨hd, rfl⟩ := hd
  refine fun H locs ls hP hD hS hl => va_newq O.1 O.2.1 O.2.2.2.1 (O.2.2.2.2.1 _ hw) hao O.2.2.2.2.2.1 hP hD hS O.2.2.2.2.2.2.2 hn hN hbt hcs hss hd (fun q cA H1 hK1 hP1 hD1 hS1 => ?_)
  have e : cA = Y.2.1 t := c_RA (tys := []) O.2.2.2.2.2.1 ht (hK1.2 7 (cA, .object C) rfl).2
  subst e
  exact k q H1 locs ls hP1 hD1 hS1 hl

theorem c_new (O : c_ok Y A p s m args c cc own nL) {ci N index : Nat} {C : String} {T : u_T} {ty : Nat → FieldType} {fs : List Value} (B : z_cb ci C T N ty) (hw : Cond.classLink own index C ∈ z_TB) (hinst : Cond.instantiable C N ∈ z_TB) (hini : Cond.initialized C ∈ z_TB) (hfs : ∀ j, j < N → defaultValue (ty j) = vp_V fs j) (hcs : cells + 1 ≤ R.cells) (hss : slots + N ≤ R.slots) (hd : z_d cc pc (.new index) 3 pc') (k : ∀ q : Nat, c_G p l e R s m args below meth c Q Y A nL (ws ++ [(q, .inr (ci, fs))]) (cells + 1) (slots + N) lv pc' (.ref q :: rest)) : c_G p l e R s m args below meth c Q Y A nL ws cells slots lv pc rest := by
  obtain ⟨hd, rfl⟩ := hd
  exact fun H locs ls hP hD hS hl => va_new (ci := ci) (fs := fs) (C := C) (T := T) (N := N) O.1 O.2.1 O.2.2.2.2.1 B.2.1 ty B.2.2.1 O.2.2.2.1 (O.2.2.2.2.1 _ hw) (O.2.2.2.2.1 _ hinst) (O.2.2.2.2.1 _ hini) O.2.2.2.2.2.1 hP hD hS O.2.2.2.2.2.2.2 B.1 hfs hcs hss hd (fun q H1 hP1 hD1 hS1 => k q H1 locs ls hP1 hD1 hS1 hl)

theorem c_iast (O : c_ok Y A p s m args c cc own nL) {q0 a n : Nat} {f : Nat → Int32} {i x : Int32} (ha : ws[q0]? = some (a, .inl (Y.2.1 0, n, .inl f))) (hin : vp_in i n) (hws : ws.set q0 (a, .inl (Y.2.1 0, n, .inl (upd f i.toNatClampNeg x))) = ws') (hd : z_d cc pc .iastore 1 pc') (k : c_G p l e R s m args below meth c Q Y A nL ws' cells slots lv pc' rest) : c_G p l e R s m args below meth c Q Y A nL ws cells slots lv pc (.int x :: .int i :: .ref a :: rest) := by
  obtain ⟨hd, rfl⟩ := hd
  subst hws
  exact fun H locs ls hP hD hS hl => va_iast O.1 O.2.1 O.2.2.2.2.2.1 hP hD hS q0 0 ha rfl hin hd (fun H1 locs1 hP1 hD1 hS1 => k H1 locs1 ls hP1 hD1 hS1 hl)

theorem c_astq (O : c_ok Y A p s m args c cc own nL) {q0 a n t qk ci v : Nat} {r : vw_C} {vs : List Value} {f : Nat → Option Nat} {i : Int32} (ha : ws[q0]? = some (a, .inl (Y.2.1 t, n, .inr (.inr (.inr (.inr f)))))) (ht : (z_tys Y)[t]? = some (Y.2.1 t, .object r.1)) (hv : ws[qk]? = some (v, .inr (ci, vs))) (hc : z_cls[ci]? = some r) (hin : vp_in i n) (hws : ws.set q0 (a, .inl (Y.2.1 t, n, .inr (.inr (.inr (.inr (va_up f i.toNatClampNeg (some v))))))) = ws') (hd : z_d cc pc .aastore 1 pc') (k : c_G p l e R s m args below meth c Q Y A nL ws' cells slots lv pc' rest) : c_G p l e R s m args below meth c Q Y A nL ws cells slots lv pc (.ref v :: .int i :: .ref a :: rest) := by
  obtain ⟨hd, rfl⟩ := hd
  subst hws
  exact fun H locs ls hP hD hS hl => va_astq O.1 O.2.1 O.2.2.2.2.2.1 hP hD hS q0 t qk ci ha ht hv hc hin hd (fun H1 locs1 hP1 hD1 hS1 => k H1 locs1 ls hP1 hD1 hS1 hl)

end CROWS
theorem c_vret {p : Program} {l : Launch} {e : Env} {R : Room} {s : State} {m : MethodId} {args : Array Value} {below : List Frame} {meth : Method} {c : Code} {Y : zY} {cc : ByteArray} {own : String} {nL : Nat} {ws : va_W} {cells slots h0 sz pc pc' : Nat} {cell : va_E} {blk : (Nat → Nat) → va_W} {lv : List (Nat × Value)} (O : c_ok Y (va_A [(h0, cell)] sz) p s m args c cc own nL) (hr : meth.sig.returnType = none) (hlk : meth.locks = false) (hd : z_d cc pc .return_ 1 pc') (u : Nat → Nat) (hws : blk u = ws) : c_G p l e R s m args below meth c (MQ below (c_Qv Y h0 sz cell blk) args s cells slots (va_A [(h0, cell)] sz)) Y (va_A [(h0, cell)] sz) nL ws cells slots lv pc [] :=
  fun H locs ls hP hD hS hl => W.vret O.1 O.2.1 hr (fun t ht hW => ⟨⟨u, rfl, trivial, by subst hws; rw [ht]; exact hP, by subst hws; exact hD⟩, hS.F ht⟩) hS.2.2 hd.1 hlk
/-- the rest of a world beside what a callee made of its last cell -/
theorem c_frame {D : va_G} {A A1 : Nat → Prop} {wr w1 : va_W} {x : Nat × va_E} {H H1 : Heap} (hP : va_P D z_cls (wr ++ [x]) H) (hD : va_D A (wr ++ [x])) (hA1 : A1 = va_A [x] H.size) (hsub : ∀ q, A1 q → A q) (hk : ∀ q : Nat, q < H.size → ¬ A1 q → H1[q]? = H[q]?) (hP1 : va_P D z_cls w1 H1) (hD1 : va_D A1 w1) : va_P D z_cls (wr ++ w1) H1 ∧ va_D A (wr ++ w1) := by
  have hx : (wr ++ [x])[wr.length]? = some x := by rw [List.getElem?_append_right (Nat.le_refl _), Nat.sub_self]; rfl
  have key : ∀ (k : Nat) (q : Nat × va_E), wr[k]? = some q → (wr ++ [x])[k]? = some q ∧ k < wr.length := fun k q h => by
    have hl := (List.getElem?_eq_some_iff.mp h).1
    exact ⟨by rw [List.getElem?_append_left hl]; exact h, hl⟩
  have apart : ∀ (k : Nat) (q : Nat × va_E), wr[k]? = some q → q.1 < H.size ∧ ¬ A1 q.1 := by
    intro k q h
    obtain ⟨h1, h2⟩ := key k q h
    have hlt := (hP k q h1).lt
    refine ⟨hlt, fun z => ?_⟩
    rw [hA1] at z
    rcases z with ⟨k2, e2, z⟩ | z
    · have hk0 : k2 < 1 := (List.getElem?_eq_some_iff.mp z).1
      rw [show k2 = 0 by omega] at z
      have : x = (q.1, e2) := Option.some.inj z
      have hxx : x.1 = q.1 := by rw [this]
      have := hD.1 k wr.length q x h1 hx hxx.symm
      omega
    · omega
  refine ⟨va_P.app (fun k q h => ?_) hP1, va_D.app ⟨fun i j a b hi hj hab => ?_, fun k q h => hD.2 k q (key k q h).1⟩ (hD1.weaken (fun k q _ h => hsub q.1 h)) (fun i j a b hi hj hab => ?_)⟩
  · exact (hP k q (key k q h).1).kept (hk q.1 (apart k q h).1 (apart k q h).2)
  · exact hD.1 i j a b (key i a hi).1 (key j b hj).1 hab
  · exact (apart i a hi).2 (by rw [hab]; exact hD1.2 j b hj)
/-- a constructor is called on the last cell -/
theorem c_init {p : Program} {l : Launch} {e : Env} {s : State} {m : MethodId} {args : Array Value} {below : List Frame} {meth : Method} {c : Code} {Q : State → Prop} {Y : zY} {A : Nat → Prop} {cc bytes : ByteArray} {own : String} {nL : Nat} {wr : va_W} {cells slots mc ms mc0 ms0 r r' n maxL index q pc pc' : Nat} {lv : List (Nat × Value)} {rest st0 As : List Value} {y : MethodName} {cell : va_E} {blk : (Nat → Nat) → va_W}
    (O : c_ok Y A p s m args c cc own nL) (hM : ∀ sz, Met l y (Cond.code y bytes maxL none :: z_TB) (c_rm r' mc ms) (c_Pc Y q sz cell (.ref q :: As)) (c_Qv Y q sz cell blk) mc ms (va_A [(q, cell)] sz)) (w : z_ci y bytes maxL none n) (hl0 : Cond.methodLink own index y ∈ z_TB) (hin : Cond.instanceMethod y ∈ z_TB) (hnm : y.name = "<init>") (hr : r' + 1 ≤ r) (hn : As.length = n) (hst : st0 = As.reverse ++ .ref q :: rest) (hW : (rest.map fun v => v.category).sum ≤ 8) (hc : cells + mc ≤ mc0 ∧ slots + ms ≤ ms0) (hd : z_d cc pc (.invokespecial index) 3 pc')
    (k : ∀ u : Nat → Nat, c_G p l e (c_rm r mc0 ms0) s m args below meth c Q Y A nL (wr ++ blk u) (cells + mc) (slots + ms) lv pc' rest) : c_G p l e (c_rm r mc0 ms0) s m args below meth c Q Y A nL (wr ++ [(q, cell)]) cells slots lv pc st0 := by
  obtain ⟨hd, rfl⟩ := hd
  intro H locs ls hP hD hS hl
  have hx : (wr ++ [(q, cell)])[wr.length]? = some (q, cell) := by rw [List.getElem?_append_right (Nat.le_refl _), Nat.sub_self]; rfl
  have hPc : va_P Y.1 z_cls [(q, cell)] H := fun k z hz => by
    have h0 : k < 1 := (List.getElem?_eq_some_iff.mp hz).1
    rw [show k = 0 by omega] at hz
    cases hz
    exact hP _ _ hx
  have hsub : ∀ z, va_A [(q, cell)] H.size z → A z := by
    intro z hz
    rcases hz with ⟨k2, e2, hz⟩ | hz
    · have h0 : k2 < 1 := (List.getElem?_eq_some_iff.mp hz).1
      rw [show k2 = 0 by omega] at hz
      cases hz
      exact hD.2 _ _ hx
    · exact O.2.2.2.2.2.2.2 z (Nat.le_trans hS.1 hz)
  refine va_callv (va_runI (As := As) (rest := rest) ⟨O.1, O.2.1, O.2.2.1, O.2.2.2.1, O.2.2.2.2.1⟩ (hM H.size) ⟨callB_of n O.2.2.2.2.1 (z_gin w.1) rfl rfl rfl (O.2.2.2.2.1 _ w.2.1) (O.2.2.2.2.1 _ hl0) w.2.2.1 ⟨hr, by have := w.2.2.2; show 8 + (maxL + 11) + 64 * r' ≤ 64 * r; omega⟩, hnm, O.2.2.2.2.1 _ hin⟩ ⟨c_blind, fun U hU hW => ⟨rfl, by rw [hU], by rw [hU]; exact hPc, va_K.moved hW.alike O.2.2.2.2.2.1, c_st_to hW hU hS hsub O.2.2.2.2.2.2.1⟩⟩ rfl hn hl.1 hst (lv_room hW) hd hc) hS (fun z _ h => hsub z h) hsub (fun u t H1 locs1 ht _ _ hB _ hk1 hS1 => ?_)
  obtain ⟨g1, g2⟩ := c_frame (A1 := va_A [(q, cell)] H.size) hP hD rfl hsub hk1 (by rw [← ht]; exact hB.1) hB.2
  exact k u H1 locs1 ls g1 g2 hS1 hl
