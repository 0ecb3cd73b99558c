/-! pure words: a state is what the int places and the long places hold -/
abbrev zS : Type := (Nat → Nat → Int32) × (Nat → Nat → Int64)
def z_fI (σ : zS) (p : Nat) (f : Nat → Int32) : zS := (va_up σ.1 p f, σ.2)
def z_fJ (σ : zS) (p : Nat) (f : Nat → Int64) : zS := (σ.1, va_up σ.2 p f)
def z_sI (σ : zS) (p k : Nat) (v : Int32) : zS := z_fI σ p (upd (σ.1 p) k v)
def z_sJ (σ : zS) (p k : Nat) (v : Int64) : zS := z_fJ σ p (vp_updL (σ.2 p) k v)
def z_lt {α β : Type} (e : α) (f : α → β) : β := f e
def z_gd {α : Type} (b : Bool) (x : Option α) : Option α := if b = true then x else none
def z_jn {α β : Type} (r : α) (b : α → β) : β := b r
def z_in (i : Int32) (n : Nat) : Bool := decide (0 ≤ i.toInt ∧ i.toInt < n)
def z_bz (v : Int32) : Bool := decide (v = 0 ∨ v = 1)
def z_nz (v : Int32) : Bool := decide (¬ v = 0)
def z_cp (sp dp n : Int32) (n0 n1 : Nat) : Bool := decide (0 ≤ sp.toInt ∧ 0 ≤ dp.toInt ∧ 0 ≤ n.toInt ∧ sp.toInt + n.toInt ≤ n0 ∧ dp.toInt + n.toInt ≤ n1)
theorem z_lt_at {α β : Type} {e x : α} {f : α → β} {r : β} (ex : x = e) (h : z_lt e f = r) : f x = r := by subst ex; exact h
theorem z_gd_at {α : Type} {b : Bool} {x : Option α} {r : α} (h : z_gd b x = some r) : b = true ∧ x = some r := by
  unfold z_gd at h
  split at h
  · exact ⟨by assumption, h⟩
  · cases h
theorem z_gd_t {α : Type} {b : Bool} {x : Option α} (h : b = true) : z_gd b x = x := if_pos h
theorem z_if_t {α : Type} {c : Prop} {d : Decidable c} {a b r : α} (hc : c) (h : (@ite α c d a b) = r) : a = r := by rw [if_pos hc] at h; exact h
theorem z_if_f {α : Type} {c : Prop} {d : Decidable c} {a b r : α} (hc : ¬ c) (h : (@ite α c d a b) = r) : b = r := by rw [if_neg hc] at h; exact h
theorem z_bd_at {α β : Type} {x : Option α} {f : α → Option β} {r : β} (h : x.bind f = some r) : ∃ a, x = some a ∧ f a = some r := Option.bind_eq_some_iff.mp h
theorem z_in_vp {i : Int32} {n : Nat} (h : z_in i n = true) : vp_in i n := vp_in_iff.mpr (of_decide_eq_true h)
theorem z_bz_n {v : Int32} (h : z_bz v = true) : narrow .boolean (.int v) = .int v := by
  rcases (of_decide_eq_true h : v = 0 ∨ v = 1) with rfl | rfl <;> rfl
theorem z_bz_f {v : Int32} (h : z_bz v = true) : fits .boolean (.int v) = true := by
  rcases (of_decide_eq_true h : v = 0 ∨ v = 1) with rfl | rfl <;> rfl
theorem z_nz_n {v : Int32} (h : z_nz v = true) : ¬ v = 0 := of_decide_eq_true h
theorem z_nn {z : Int32} (h : 0 ≤ z.toInt) : ¬ z < 0 := by
  intro q
  have := Int32.lt_iff_toInt_lt.mp q
  have e : (0 : Int32).toInt = 0 := rfl
  omega
theorem z_clamp {z : Int32} (h : 0 ≤ z.toInt) : (z.toNatClampNeg : Int) = z.toInt := by
  show ((z.toInt.toNat : Nat) : Int) = z.toInt
  omega
theorem z_ne {x k : Int32} {z : Int} (hk : k.toInt = z) (h : ¬ x = k) : ¬ x.toInt = z := fun e => h (Int32.toInt_inj.mp (e.trans hk.symm))
/-! the world of a layout -/
abbrev zL : Type := Nat × ((Nat → ClassId) → (Nat → Nat) → Nat → (Nat → Int32) → (Nat → Int64) → va_E)
abbrev zY : Type := va_G × (Nat → ClassId) × (Nat → Nat) × Nat × Nat
abbrev z_ad (Y : zY) : Nat → Nat := Y.2.2.1
def z_cls : List vw_C := [(RX0, TX0, 4), (RX1, TX1, 3), (RX2, TX2, 7), (RX3, TX3, 3), (RX4, TX4, 3), (RX5, TX5, 2), (RX6, TX6, 10), (RX7, TX7, 11), (RX8, TX8, 39)]
def z_tys (Y : zY) : List (ClassId × FieldType) := [(Y.2.1 0, .int), (Y.2.1 1, .long), (Y.2.1 2, .boolean), (Y.2.1 3, .object RX1), (Y.2.1 4, .object RX2), (Y.2.1 5, .object RX3), (Y.2.1 6, .array .int)]
def z_wl (Λ : zL) (Y : zY) (σ : zS) : va_W := (List.range Λ.1).map (fun p => (z_ad Y p, Λ.2 Y.2.1 (z_ad Y) p (σ.1 p) (σ.2 p)))
def z_A (Λ : zL) (Y : zY) : Nat → Prop := fun q => ∃ p, p < Λ.1 ∧ z_ad Y p = q
def z_inj (Λ : zL) (Y : zY) : Prop := ∀ i j, i < Λ.1 → j < Λ.1 → z_ad Y i = z_ad Y j → i = j
theorem z_wl_get {Λ : zL} {Y : zY} {σ : zS} {p : Nat} (h : p < Λ.1) : (z_wl Λ Y σ)[p]? = some (z_ad Y p, Λ.2 Y.2.1 (z_ad Y) p (σ.1 p) (σ.2 p)) := by
  unfold z_wl
  rw [List.getElem?_map, List.getElem?_range h]
  rfl
theorem z_wl_of {Λ : zL} {Y : zY} {σ : zS} {k : Nat} {q : Nat × va_E} (h : (z_wl Λ Y σ)[k]? = some q) : k < Λ.1 ∧ q = (z_ad Y k, Λ.2 Y.2.1 (z_ad Y) k (σ.1 k) (σ.2 k)) := by
  have hk : k < Λ.1 := by
    have := (List.getElem?_eq_some_iff.mp h).1
    simpa [z_wl] using this
  rw [z_wl_get hk] at h
  exact ⟨hk, (Option.some.inj h).symm⟩
theorem z_wl_set {Λ : zL} {Y : zY} {σ τ : zS} {p : Nat} {e : va_E} (he : Λ.2 Y.2.1 (z_ad Y) p (τ.1 p) (τ.2 p) = e) (hq : ∀ q, q ≠ p → τ.1 q = σ.1 q ∧ τ.2 q = σ.2 q) : (z_wl Λ Y σ).set p (z_ad Y p, e) = z_wl Λ Y τ := by
  apply List.ext_getElem?
  intro k
  by_cases hk : k < Λ.1
  · rw [z_wl_get (σ := τ) hk]
    by_cases hkp : k = p
    · subst hkp
      rw [List.getElem?_set_self (by simpa [z_wl] using hk), he]
    · rw [List.getElem?_set_ne (Ne.symm hkp), z_wl_get hk, (hq k hkp).1, (hq k hkp).2]
  · have h1 : (z_wl Λ Y τ)[k]? = none := List.getElem?_eq_none (by simpa [z_wl] using hk)
    rw [h1]
    exact List.getElem?_eq_none (by simpa [z_wl] using hk)
theorem z_D {Λ : zL} {Y : zY} {σ : zS} (h : z_inj Λ Y) : va_D (z_A Λ Y) (z_wl Λ Y σ) := by
  refine ⟨fun i j x y hi hj hxy => ?_, fun k q hk => ?_⟩
  · obtain ⟨h1, rfl⟩ := z_wl_of hi
    obtain ⟨h2, rfl⟩ := z_wl_of hj
    exact h i j h1 h2 hxy
  · obtain ⟨h1, rfl⟩ := z_wl_of hk
    exact ⟨k, h1, rfl⟩
theorem z_fI_o {σ : zS} {p : Nat} {f : Nat → Int32} : ∀ q, q ≠ p → (z_fI σ p f).1 q = σ.1 q ∧ (z_fI σ p f).2 q = σ.2 q := fun q h => ⟨if_neg h, rfl⟩
theorem z_fJ_o {σ : zS} {p : Nat} {f : Nat → Int64} : ∀ q, q ≠ p → (z_fJ σ p f).1 q = σ.1 q ∧ (z_fJ σ p f).2 q = σ.2 q := fun q h => ⟨rfl, if_neg h⟩
theorem z_fI_s {σ : zS} {p : Nat} {f : Nat → Int32} : (z_fI σ p f).1 p = f := if_pos rfl
theorem z_fJ_s {σ : zS} {p : Nat} {f : Nat → Int64} : (z_fJ σ p f).2 p = f := if_pos rfl
def z_withL : Nat → Int64 := fun k => match k with
  | 0 => -6148914691236517206
  | 1 => -3689348814741910324
  | 2 => -1085102592571150096
  | 3 => -71777214294589696
  | 4 => -281470681808896
  | _ => -4294967296
def z_ofcL : Nat → Int64 := fun k => match k with
  | 0 => 1
  | 1 => 4295033110
  | 2 => 282668995843688
  | 3 => 78274679833913472
  | 4 => 1614655367130677248
  | 5 => 7530159316599308288
  | _ => -9223372036854775808
def z_nest : List Cond := [Cond.methodLinkNest RX1 48 yX7_isPart RX7, Cond.methodLinkNest RX5 52 yX7_hasPoint RX7, Cond.methodLinkNest RX5 87 yX7_isNoSet RX7, Cond.methodLinkNest RX6 50 yX7_topPoint RX7, Cond.methodLinkNest RX6 78 yX7_hasPoint RX7, Cond.methodLinkNest RX6 86 yX7_isPart RX7, Cond.methodLinkNest RX5 69 yX7_isPart RX7]
/-- what is given and stays: the two tables of Table, and what nest mates may call -/
def z_st (A : Nat → Prop) (Y : zY) (U : State) (H : Heap) : Prop := va_Z RX5 "WITH" "[J" (.ref Y.2.2.2.1) A U H ∧ va_T .long Y.2.2.2.1 6 (fun k => .long (z_withL k)) A U H ∧ va_Z RX5 "OF_COUNT" "[J" (.ref Y.2.2.2.2) A U H ∧ va_T .long Y.2.2.2.2 7 (fun k => .long (z_ofcL k)) A U H ∧ ∀ w ∈ z_nest, va_Nw w U
theorem z_nestw {s U : State} (hW : s.WarmedH U.vm) (h : ∀ w ∈ z_nest, va_Nw w s) : ∀ w ∈ z_nest, va_Nw w U := by
  intro w hw
  have h1 := h w hw
  simp only [z_nest, List.mem_cons, List.not_mem_nil, or_false] at hw
  rcases hw with rfl | rfl | rfl | rfl | rfl | rfl | rfl <;> exact va_Nw.warmM hW h1
theorem z_nests {s U : State} (hv : s.vm = U.vm) (h : ∀ w ∈ z_nest, va_Nw w s) : ∀ w ∈ z_nest, va_Nw w U := by
  intro w hw
  have h1 := h w hw
  simp only [z_nest, List.mem_cons, List.not_mem_nil, or_false] at hw
  rcases hw with rfl | rfl | rfl | rfl | rfl | rfl | rfl <;> exact va_Nw.same rfl hv h1
theorem z_st_to {A : Nat → Prop} {Y : zY} {s U : State} {H : Heap} {locs : List Loc} (hW : s.WarmedH U.vm) (hU : U.heap = H) (hS : va_S A s.heap H locs) (h : z_st A Y s s.heap) : z_st A Y U U.heap := by
  obtain ⟨h1, h2, h3, h4, h5⟩ := h
  rw [hU]
  exact ⟨va_Z.moved hW.alike (h1.kept hS.2.1), va_T.moved hW.alike (h2.kept hS.2.1), va_Z.moved hW.alike (h3.kept hS.2.1), va_T.moved hW.alike (h4.kept hS.2.1), z_nestw hW h5⟩
theorem z_st_call {A : Nat → Prop} {Y : zY} {U : State} {g : JFrame} {mk : MethodId} {a : Array Value} (h : z_st A Y U U.heap) : z_st A Y (U.calling g mk a) (U.calling g mk a).heap := by
  obtain ⟨h1, h2, h3, h4, h5⟩ := h
  exact ⟨va_Z.moved (u := U) (U := U.calling g mk a) (Vm.Alike.refl U.vm) h1, va_T.moved (u := U) (U := U.calling g mk a) (Vm.Alike.refl U.vm) h2, va_Z.moved (u := U) (U := U.calling g mk a) (Vm.Alike.refl U.vm) h3, va_T.moved (u := U) (U := U.calling g mk a) (Vm.Alike.refl U.vm) h4, z_nests (s := U) (U := U.calling g mk a) rfl h5⟩
def z_rm (r : Nat) : Room := { frames := r, cells := 0, slots := 0, locals := 64 * r }
/-- a contract's start -/
def z_Pc (Λ : zL) (Y : zY) (σ : zS) (av : List Value) : Array Value → State → Prop := va_Pc av (fun U => va_P Y.1 z_cls (z_wl Λ Y σ) U.heap ∧ va_K Y.1 z_cls (z_tys Y) U ∧ z_st (z_A Λ Y) Y U U.heap)
def z_B (Λ : zL) (Y : zY) : zS → State → Prop := fun u t => va_P Y.1 z_cls (z_wl Λ Y u) t.heap
def z_Qi (Λ : zL) (Y : zY) (fin : Int32 × zS) : Array Value → State → Outcome → State → Prop := va_Qi (fun r u => (r, u) = fin) (z_B Λ Y) (z_A Λ Y)
def z_Ql (Λ : zL) (Y : zY) (fin : Int64 × zS) : Array Value → State → Outcome → State → Prop := va_Ql (fun r u => (r, u) = fin) (z_B Λ Y) (z_A Λ Y)
def z_Qv (Λ : zL) (Y : zY) (fin : zS) : Array Value → State → Outcome → State → Prop := va_Qv (fun u => u = fin) (z_B Λ Y) (z_A Λ Y)
def z_Qr (Λ : zL) (Y : zY) (fin : Nat × zS) : Array Value → State → Outcome → State → Prop := va_Qr (fun u => u = fin.2) (fun u a t => a = z_ad Y fin.1 ∧ z_B Λ Y u t) (z_A Λ Y)
theorem z_blind {Λ : zL} {Y : zY} {σ : zS} {av : List Value} : FrameBlind (z_Pc Λ Y σ av) := fun a U g mk q => ⟨q.1, q.2.1, va_K.moved (u := U) (U := U.calling g mk a) (Vm.Alike.refl U.vm) q.2.2.1, z_st_call q.2.2.2⟩
/-- what holds all along a method -/
def z_ok (Λ : zL) (Y : zY) (p : Program) (s : State) (m : MethodId) (args : Array Value) (c : Code) (cc : ByteArray) (own : String) (nL : Nat) : Prop :=
  p.tables.exec = Jvm.exec ∧ c.code = cc ∧ c.maxLocals = nL ∧ s.vm.findClass own = some m.cls ∧ (∀ w ∈ z_TB, w.before args s = true) ∧ va_K Y.1 z_cls (z_tys Y) s ∧ z_st (z_A Λ Y) Y s s.heap ∧ z_inj Λ Y
def z_G (p : Program) (l : Launch) (e : Env) (R : Room) (s : State) (m : MethodId) (args : Array Value) (below : List Frame) (meth : Method) (c : Code) (Q : State → Prop) (Λ : zL) (Y : zY) (nL : Nat) (σ : zS) (lv : List (Nat × Value)) (pc : Nat) (st : List Value) : Prop :=
  ∀ (H : Heap) (locs : List Loc) (ls : Array Slot), va_P Y.1 z_cls (z_wl Λ Y σ) H → va_S (z_A Λ Y) s.heap H locs → lv_has ls nL lv → W p l e R s m args below meth c H locs 0 0 Q (F0 m pc ls st)
def z_d (cc : ByteArray) (pc : Nat) (i : Instr) (n pc' : Nat) : Prop := decode cc pc = .ok (i, n) ∧ pc + n = pc'
def z_b (cc : ByteArray) (pc : Nat) (i : Instr) (off : Int) (pc' tgt : Nat) : Prop := decode cc pc = .ok (i, 3) ∧ pc + 3 = pc' ∧ (pc : Int) + off = (tgt : Int)
theorem z_ofW {l : Launch} {y : MethodName} {ws ws' : List Cond} {rm : Room} {Pc : Array Value → State → Prop} {Qc : Array Value → State → Outcome → State → Prop} {mc ms : Nat} {free : Addr → Prop} {cc : ByteArray} {maxL : Nat} {ret : Option FieldType}
    (hy : plainFor y = true) (hw : ws = Cond.code y cc maxL ret :: ws')
    (body : ∀ p e s m args below meth c s₁, BodyLoose p l y (headSpec ws rm) cc maxL ret e s m args below meth c s₁ → c.maxLocals = maxL → Pc args s →
      W p l e (headSpec ws rm).room s m args below meth c s.heap [] 0 0 (MQ below Qc args s mc ms free) (entryFrame m args maxL)) : Met l y ws rm Pc Qc mc ms free := by
  refine MetFree.of_bodySF (code := cc) (maxLocals := maxL) (ret := ret) hy ?_ ?_
  · intro args s m h hn
    obtain ⟨meth, c, h1, h2, h3, h4, h5, h6, -, -⟩ := Cond.code_spec hn (atoms_spec (ws := ws) h _ (by rw [hw]; exact List.mem_cons_self))
    exact ⟨meth, c, h1, h2, h3, h4, h5, h6⟩
  · intro p e s m args below meth c s₁ B hml hP _
    have hh0 : s₁.heap = s.heap := by rw [B.state]; rfl
    obtain ⟨t, a1, o, b1, b2, b3⟩ := body p e s m args below meth c s₁ B hml hP s₁ hh0 (Stand.of_body B)
    exact ⟨t, o, a1, b1, b2, ⟨b3.1, b3.2⟩⟩
theorem z_met {l : Launch} {y : MethodName} {cc : ByteArray} {maxL r : Nat} {ret : Option FieldType} {Λ : zL} {Y : zY} {σ : zS} {av : List Value} {Qc : Array Value → State → Outcome → State → Prop} (lv : List (Nat × Value)) (hlv : lv_args 0 av = lv) (hlen : (lg_sl av).length ≤ maxL) (hy : plainFor y = true) (hi : z_inj Λ Y)
    (body : ∀ p e s m args below meth c, z_ok Λ Y p s m args c cc y.cls maxL → meth.sig.returnType = ret → meth.locks = false → z_G p l e (z_rm r) s m args below meth c (MQ below Qc args s 0 0 (z_A Λ Y)) Λ Y maxL σ lv 0 []) :
    Met l y (Cond.code y cc maxL ret :: z_TB) (z_rm r) (z_Pc Λ Y σ av) Qc 0 0 (z_A Λ Y) := by
  refine z_ofW (cc := cc) (maxL := maxL) (ret := ret) hy rfl ?_
  intro p e s m args below meth c s₁ B hml hv
  obtain ⟨rfl, hP, hK, hZ⟩ := hv
  have hts := atoms_spec (ws := Cond.code y cc maxL ret :: z_TB) B.pre
  have hl := lv_entry av (n := maxL) hlen
  rw [lg_entry_eq]
  generalize (lg_sl av ++ List.replicate (maxL - (lg_sl av).length) Slot.unset).toArray = ls at hl ⊢
  rw [hlv] at hl
  exact body p e s m av.toArray below meth c ⟨B.exec, B.bytes, hml, findClass_of_methodNamed B.named, fun w hw => hts w (List.mem_cons_of_mem _ hw), hK, hZ, hi⟩ B.returns B.notSynchronized s.heap [] ls hP va_S.rf hl
section ZROWS
variable {p : Program} {l : Launch} {e : Env} {R : Room} {s : State} {m : MethodId} {args : Array Value} {below : List Frame} {meth : Method} {c : Code} {Q : State → Prop} {Λ : zL} {Y : zY} {cc : ByteArray} {own : String} {nL : Nat} {σ : zS} {lv lv' : List (Nat × Value)} {pc pc' tgt : Nat} {rest : List Value}

theorem z_iconst (O : z_ok Λ Y p s m args c cc own nL) {n : Int} {v : Int32} (hd : z_d cc pc (.iconst n) 1 pc') (hv : Int32.ofInt n = v) (k : z_G p l e R s m args below meth c Q Λ Y nL σ lv pc' (.int v :: rest)) : z_G p l e R s m args below meth c Q Λ Y nL σ lv pc rest := by
  obtain ⟨hd, rfl⟩ := hd
  exact fun H locs ls hP hS hl => lv_iconst O.1 O.2.1 hd hv (k H locs ls hP hS hl)

theorem z_bipush (O : z_ok Λ Y p s m args c cc own nL) {n : Int} {v : Int32} (hd : z_d cc pc (.bipush n) 2 pc') (hv : (Int8.ofInt n).toInt32 = v) (k : z_G p l e R s m args below meth c Q Λ Y nL σ lv pc' (.int v :: rest)) : z_G p l e R s m args below meth c Q Λ Y nL σ lv pc rest := by
  obtain ⟨hd, rfl⟩ := hd
  exact fun H locs ls hP hS hl => lv_bipush O.1 O.2.1 hd hv (k H locs ls hP hS hl)

theorem z_sipush (O : z_ok Λ Y p s m args c cc own nL) {n : Int} {v : Int32} (hd : z_d cc pc (.sipush n) 3 pc') (hv : (Int16.ofInt n).toInt32 = v) (k : z_G p l e R s m args below meth c Q Λ Y nL σ lv pc' (.int v :: rest)) : z_G p l e R s m args below meth c Q Λ Y nL σ lv pc rest := by
  obtain ⟨hd, rfl⟩ := hd
  exact fun H locs ls hP hS hl => lv_sipush O.1 O.2.1 hd hv (k H locs ls hP hS hl)

theorem z_lconst (O : z_ok Λ Y p s m args c cc own nL) {n : Fin 2} {v : Int64} (hd : z_d cc pc (.lconst n) 1 pc') (hv : Int64.ofNat (n : Nat) = v) (k : z_G p l e R s m args below meth c Q Λ Y nL σ lv pc' (.long v :: rest)) : z_G p l e R s m args below meth c Q Λ Y nL σ lv pc rest := by
  obtain ⟨hd, rfl⟩ := hd
  exact fun H locs ls hP hS hl => lv_lconst O.1 O.2.1 hd hv (k H locs ls hP hS hl)

theorem z_iload_n (O : z_ok Λ Y p s m args c cc own nL) {k : Fin 4} {i : Nat} {x : Int32} (hd : z_d cc pc (.iload_n k) 1 pc') (hi : (k : Nat) = i) (q : Nat) (hq : lv[q]? = some (i, .int x)) (k : z_G p l e R s m args below meth c Q Λ Y nL σ lv pc' (.int x :: rest)) : z_G p l e R s m args below meth c Q Λ Y nL σ lv pc rest := by
  obtain ⟨hd, rfl⟩ := hd
  exact fun H locs ls hP hS hl => lv_iload_n O.1 O.2.1 hd hi (lv_at hl q hq) (k H locs ls hP hS hl)

theorem z_iload (O : z_ok Λ Y p s m args c cc own nL) {i : Nat} {x : Int32} (hd : z_d cc pc (.iload i) 2 pc') (q : Nat) (hq : lv[q]? = some (i, .int x)) (k : z_G p l e R s m args below meth c Q Λ Y nL σ lv pc' (.int x :: rest)) : z_G p l e R s m args below meth c Q Λ Y nL σ lv pc rest := by
  obtain ⟨hd, rfl⟩ := hd
  exact fun H locs ls hP hS hl => lv_iload O.1 O.2.1 hd (lv_at hl q hq) (k H locs ls hP hS hl)

theorem z_lload_n (O : z_ok Λ Y p s m args c cc own nL) {k : Fin 4} {i : Nat} {x : Int64} (hd : z_d cc pc (.lload_n k) 1 pc') (hi : (k : Nat) = i) (q : Nat) (hq : lv[q]? = some (i, .long x)) (k : z_G p l e R s m args below meth c Q Λ Y nL σ lv pc' (.long x :: rest)) : z_G p l e R s m args below meth c Q Λ Y nL σ lv pc rest := by
  obtain ⟨hd, rfl⟩ := hd
  exact fun H locs ls hP hS hl => lv_lload_n O.1 O.2.1 hd hi (lv_at hl q hq) (k H locs ls hP hS hl)

theorem z_lload (O : z_ok Λ Y p s m args c cc own nL) {i : Nat} {x : Int64} (hd : z_d cc pc (.lload i) 2 pc') (q : Nat) (hq : lv[q]? = some (i, .long x)) (k : z_G p l e R s m args below meth c Q Λ Y nL σ lv pc' (.long x :: rest)) : z_G p l e R s m args below meth c Q Λ Y nL σ lv pc rest := by
  obtain ⟨hd, rfl⟩ := hd
  exact fun H locs ls hP hS hl => lv_lload O.1 O.2.1 hd (lv_at hl q hq) (k H locs ls hP hS hl)

theorem z_aload_n (O : z_ok Λ Y p s m args c cc own nL) {k : Fin 4} {i : Nat} {x : Nat} (hd : z_d cc pc (.aload_n k) 1 pc') (hi : (k : Nat) = i) (q : Nat) (hq : lv[q]? = some (i, .ref x)) (k : z_G p l e R s m args below meth c Q Λ Y nL σ lv pc' (.ref x :: rest)) : z_G p l e R s m args below meth c Q Λ Y nL σ lv pc rest := by
  obtain ⟨hd, rfl⟩ := hd
  exact fun H locs ls hP hS hl => lv_aload_n O.1 O.2.1 hd hi (lv_at hl q hq) (k H locs ls hP hS hl)

theorem z_aload (O : z_ok Λ Y p s m args c cc own nL) {i : Nat} {x : Nat} (hd : z_d cc pc (.aload i) 2 pc') (q : Nat) (hq : lv[q]? = some (i, .ref x)) (k : z_G p l e R s m args below meth c Q Λ Y nL σ lv pc' (.ref x :: rest)) : z_G p l e R s m args below meth c Q Λ Y nL σ lv pc rest := by
  obtain ⟨hd, rfl⟩ := hd
  exact fun H locs ls hP hS hl => lv_aload O.1 O.2.1 hd (lv_at hl q hq) (k H locs ls hP hS hl)

theorem z_istore_n (O : z_ok Λ Y p s m args c cc own nL) {k : Fin 4} {i : Nat} {x : Int32} (hd : z_d cc pc (.istore_n k) 1 pc') (hi : (k : Nat) = i) (hn : i < nL) (hl' : (i, Value.int x) :: lv.filter (fun q => !(q.1 == i) && !(q.1 + 1 == i && q.2.category == 2)) = lv') (k : z_G p l e R s m args below meth c Q Λ Y nL σ lv' pc' rest) : z_G p l e R s m args below meth c Q Λ Y nL σ lv pc (.int x :: rest) := by
  obtain ⟨hd, rfl⟩ := hd
  exact fun H locs ls hP hS hl => lv_istore_n O.1 O.2.1 hd hi hl hn hl' (fun ls hl => k H locs ls hP hS hl)

theorem z_istore (O : z_ok Λ Y p s m args c cc own nL) {i : Nat} {x : Int32} (hd : z_d cc pc (.istore i) 2 pc') (hn : i < nL) (hl' : (i, Value.int x) :: lv.filter (fun q => !(q.1 == i) && !(q.1 + 1 == i && q.2.category == 2)) = lv') (k : z_G p l e R s m args below meth c Q Λ Y nL σ lv' pc' rest) : z_G p l e R s m args below meth c Q Λ Y nL σ lv pc (.int x :: rest) := by
  obtain ⟨hd, rfl⟩ := hd
  exact fun H locs ls hP hS hl => lv_istore O.1 O.2.1 hd hl hn hl' (fun ls hl => k H locs ls hP hS hl)

theorem z_lstore_n (O : z_ok Λ Y p s m args c cc own nL) {k : Fin 4} {i : Nat} {x : Int64} (hd : z_d cc pc (.lstore_n k) 1 pc') (hi : (k : Nat) = i) (hn : i + 1 < nL) (hl' : (i, Value.long x) :: lv.filter (fun q => !(q.1 == i) && (!(q.1 == i + 1) && !(q.1 + 1 == i && q.2.category == 2))) = lv') (k : z_G p l e R s m args below meth c Q Λ Y nL σ lv' pc' rest) : z_G p l e R s m args below meth c Q Λ Y nL σ lv pc (.long x :: rest) := by
  obtain ⟨hd, rfl⟩ := hd
  exact fun H locs ls hP hS hl => lv_lstore_n O.1 O.2.1 hd hi hl hn hl' (fun ls hl => k H locs ls hP hS hl)

theorem z_lstore (O : z_ok Λ Y p s m args c cc own nL) {i : Nat} {x : Int64} (hd : z_d cc pc (.lstore i) 2 pc') (hn : i + 1 < nL) (hl' : (i, Value.long x) :: lv.filter (fun q => !(q.1 == i) && (!(q.1 == i + 1) && !(q.1 + 1 == i && q.2.category == 2))) = lv') (k : z_G p l e R s m args below meth c Q Λ Y nL σ lv' pc' rest) : z_G p l e R s m args below meth c Q Λ Y nL σ lv pc (.long x :: rest) := by
  obtain ⟨hd, rfl⟩ := hd
  exact fun H locs ls hP hS hl => lv_lstore O.1 O.2.1 hd hl hn hl' (fun ls hl => k H locs ls hP hS hl)

theorem z_astore_n (O : z_ok Λ Y p s m args c cc own nL) {k : Fin 4} {i : Nat} {x : Nat} (hd : z_d cc pc (.astore_n k) 1 pc') (hi : (k : Nat) = i) (hn : i < nL) (hl' : (i, Value.ref x) :: lv.filter (fun q => !(q.1 == i) && !(q.1 + 1 == i && q.2.category == 2)) = lv') (k : z_G p l e R s m args below meth c Q Λ Y nL σ lv' pc' rest) : z_G p l e R s m args below meth c Q Λ Y nL σ lv pc (.ref x :: rest) := by
  obtain ⟨hd, rfl⟩ := hd
  exact fun H locs ls hP hS hl => lv_astore_n O.1 O.2.1 hd hi hl hn hl' (fun ls hl => k H locs ls hP hS hl)

theorem z_astore (O : z_ok Λ Y p s m args c cc own nL) {i : Nat} {x : Nat} (hd : z_d cc pc (.astore i) 2 pc') (hn : i < nL) (hl' : (i, Value.ref x) :: lv.filter (fun q => !(q.1 == i) && !(q.1 + 1 == i && q.2.category == 2)) = lv') (k : z_G p l e R s m args below meth c Q Λ Y nL σ lv' pc' rest) : z_G p l e R s m args below meth c Q Λ Y nL σ lv pc (.ref x :: rest) := by
  obtain ⟨hd, rfl⟩ := hd
  exact fun H locs ls hP hS hl => lv_astore O.1 O.2.1 hd hl hn hl' (fun ls hl => k H locs ls hP hS hl)

theorem z_iinc (O : z_ok Λ Y p s m args c cc own nL) {i : Nat} {n : Int} {x v : Int32} (hd : z_d cc pc (.iinc i n) 3 pc') (q : Nat) (hk : lv[q]? = some (i, .int x)) (hv : x + Int32.ofInt n = v) (hn : i < nL) (hl' : (i, Value.int v) :: lv.filter (fun q => !(q.1 == i) && !(q.1 + 1 == i && q.2.category == 2)) = lv') (k : z_G p l e R s m args below meth c Q Λ Y nL σ lv' pc' rest) : z_G p l e R s m args below meth c Q Λ Y nL σ lv pc rest := by
  obtain ⟨hd, rfl⟩ := hd
  exact fun H locs ls hP hS hl => lv_iinc O.1 O.2.1 hd hl hk hv hn hl' (fun ls hl => k H locs ls hP hS hl)

theorem z_iadd (O : z_ok Λ Y p s m args c cc own nL) {x y : Int32} (hd : z_d cc pc (.iadd) 1 pc') (k : z_G p l e R s m args below meth c Q Λ Y nL σ lv pc' (.int (x + y) :: rest)) : z_G p l e R s m args below meth c Q Λ Y nL σ lv pc (.int y :: .int x :: rest) := by
  obtain ⟨hd, rfl⟩ := hd
  exact fun H locs ls hP hS hl => lv_iadd O.1 O.2.1 hd (k H locs ls hP hS hl)

theorem z_isub (O : z_ok Λ Y p s m args c cc own nL) {x y : Int32} (hd : z_d cc pc (.isub) 1 pc') (k : z_G p l e R s m args below meth c Q Λ Y nL σ lv pc' (.int (x - y) :: rest)) : z_G p l e R s m args below meth c Q Λ Y nL σ lv pc (.int y :: .int x :: rest) := by
  obtain ⟨hd, rfl⟩ := hd
  exact fun H locs ls hP hS hl => lv_isub O.1 O.2.1 hd (k H locs ls hP hS hl)

theorem z_imul (O : z_ok Λ Y p s m args c cc own nL) {x y : Int32} (hd : z_d cc pc (.imul) 1 pc') (k : z_G p l e R s m args below meth c Q Λ Y nL σ lv pc' (.int (x * y) :: rest)) : z_G p l e R s m args below meth c Q Λ Y nL σ lv pc (.int y :: .int x :: rest) := by
  obtain ⟨hd, rfl⟩ := hd
  exact fun H locs ls hP hS hl => lv_imul O.1 O.2.1 hd (k H locs ls hP hS hl)

theorem z_iand (O : z_ok Λ Y p s m args c cc own nL) {x y : Int32} (hd : z_d cc pc (.iand) 1 pc') (k : z_G p l e R s m args below meth c Q Λ Y nL σ lv pc' (.int (x &&& y) :: rest)) : z_G p l e R s m args below meth c Q Λ Y nL σ lv pc (.int y :: .int x :: rest) := by
  obtain ⟨hd, rfl⟩ := hd
  exact fun H locs ls hP hS hl => lv_iand O.1 O.2.1 hd (k H locs ls hP hS hl)

theorem z_ior (O : z_ok Λ Y p s m args c cc own nL) {x y : Int32} (hd : z_d cc pc (.ior) 1 pc') (k : z_G p l e R s m args below meth c Q Λ Y nL σ lv pc' (.int (x ||| y) :: rest)) : z_G p l e R s m args below meth c Q Λ Y nL σ lv pc (.int y :: .int x :: rest) := by
  obtain ⟨hd, rfl⟩ := hd
  exact fun H locs ls hP hS hl => lv_ior O.1 O.2.1 hd (k H locs ls hP hS hl)

theorem z_ixor (O : z_ok Λ Y p s m args c cc own nL) {x y : Int32} (hd : z_d cc pc (.ixor) 1 pc') (k : z_G p l e R s m args below meth c Q Λ Y nL σ lv pc' (.int (x ^^^ y) :: rest)) : z_G p l e R s m args below meth c Q Λ Y nL σ lv pc (.int y :: .int x :: rest) := by
  obtain ⟨hd, rfl⟩ := hd
  exact fun H locs ls hP hS hl => lv_ixor O.1 O.2.1 hd (k H locs ls hP hS hl)

theorem z_ishl (O : z_ok Λ Y p s m args c cc own nL) {x y : Int32} (hd : z_d cc pc (.ishl) 1 pc') (k : z_G p l e R s m args below meth c Q Λ Y nL σ lv pc' (.int (x <<< (y &&& 31)) :: rest)) : z_G p l e R s m args below meth c Q Λ Y nL σ lv pc (.int y :: .int x :: rest) := by
  obtain ⟨hd, rfl⟩ := hd
  exact fun H locs ls hP hS hl => lv_ishl O.1 O.2.1 hd (k H locs ls hP hS hl)

theorem z_ishr (O : z_ok Λ Y p s m args c cc own nL) {x y : Int32} (hd : z_d cc pc (.ishr) 1 pc') (k : z_G p l e R s m args below meth c Q Λ Y nL σ lv pc' (.int (x >>> (y &&& 31)) :: rest)) : z_G p l e R s m args below meth c Q Λ Y nL σ lv pc (.int y :: .int x :: rest) := by
  obtain ⟨hd, rfl⟩ := hd
  exact fun H locs ls hP hS hl => lv_ishr O.1 O.2.1 hd (k H locs ls hP hS hl)

theorem z_idiv (O : z_ok Λ Y p s m args c cc own nL) {x y : Int32} (hd : z_d cc pc (.idiv) 1 pc') (hne : ¬ y = 0) (k : z_G p l e R s m args below meth c Q Λ Y nL σ lv pc' (.int (x / y) :: rest)) : z_G p l e R s m args below meth c Q Λ Y nL σ lv pc (.int y :: .int x :: rest) := by
  obtain ⟨hd, rfl⟩ := hd
  exact fun H locs ls hP hS hl => lv_idiv O.1 O.2.1 hd hne (k H locs ls hP hS hl)

theorem z_irem (O : z_ok Λ Y p s m args c cc own nL) {x y : Int32} (hd : z_d cc pc (.irem) 1 pc') (hne : ¬ y = 0) (k : z_G p l e R s m args below meth c Q Λ Y nL σ lv pc' (.int (x - x / y * y) :: rest)) : z_G p l e R s m args below meth c Q Λ Y nL σ lv pc (.int y :: .int x :: rest) := by
  obtain ⟨hd, rfl⟩ := hd
  exact fun H locs ls hP hS hl => lv_irem O.1 O.2.1 hd hne (k H locs ls hP hS hl)

theorem z_ineg (O : z_ok Λ Y p s m args c cc own nL) {x : Int32} (hd : z_d cc pc (.ineg) 1 pc') (k : z_G p l e R s m args below meth c Q Λ Y nL σ lv pc' (.int (-x) :: rest)) : z_G p l e R s m args below meth c Q Λ Y nL σ lv pc (.int x :: rest) := by
  obtain ⟨hd, rfl⟩ := hd
  exact fun H locs ls hP hS hl => lv_ineg O.1 O.2.1 hd (k H locs ls hP hS hl)

theorem z_ladd (O : z_ok Λ Y p s m args c cc own nL) {x y : Int64} (hd : z_d cc pc (.ladd) 1 pc') (k : z_G p l e R s m args below meth c Q Λ Y nL σ lv pc' (.long (x + y) :: rest)) : z_G p l e R s m args below meth c Q Λ Y nL σ lv pc (.long y :: .long x :: rest) := by
  obtain ⟨hd, rfl⟩ := hd
  exact fun H locs ls hP hS hl => lv_ladd O.1 O.2.1 hd (k H locs ls hP hS hl)

theorem z_lsub (O : z_ok Λ Y p s m args c cc own nL) {x y : Int64} (hd : z_d cc pc (.lsub) 1 pc') (k : z_G p l e R s m args below meth c Q Λ Y nL σ lv pc' (.long (x - y) :: rest)) : z_G p l e R s m args below meth c Q Λ Y nL σ lv pc (.long y :: .long x :: rest) := by
  obtain ⟨hd, rfl⟩ := hd
  exact fun H locs ls hP hS hl => lv_lsub O.1 O.2.1 hd (k H locs ls hP hS hl)

theorem z_lmul (O : z_ok Λ Y p s m args c cc own nL) {x y : Int64} (hd : z_d cc pc (.lmul) 1 pc') (k : z_G p l e R s m args below meth c Q Λ Y nL σ lv pc' (.long (x * y) :: rest)) : z_G p l e R s m args below meth c Q Λ Y nL σ lv pc (.long y :: .long x :: rest) := by
  obtain ⟨hd, rfl⟩ := hd
  exact fun H locs ls hP hS hl => lv_lmul O.1 O.2.1 hd (k H locs ls hP hS hl)

theorem z_land (O : z_ok Λ Y p s m args c cc own nL) {x y : Int64} (hd : z_d cc pc (.land) 1 pc') (k : z_G p l e R s m args below meth c Q Λ Y nL σ lv pc' (.long (x &&& y) :: rest)) : z_G p l e R s m args below meth c Q Λ Y nL σ lv pc (.long y :: .long x :: rest) := by
  obtain ⟨hd, rfl⟩ := hd
  exact fun H locs ls hP hS hl => lv_land O.1 O.2.1 hd (k H locs ls hP hS hl)

theorem z_lor (O : z_ok Λ Y p s m args c cc own nL) {x y : Int64} (hd : z_d cc pc (.lor) 1 pc') (k : z_G p l e R s m args below meth c Q Λ Y nL σ lv pc' (.long (x ||| y) :: rest)) : z_G p l e R s m args below meth c Q Λ Y nL σ lv pc (.long y :: .long x :: rest) := by
  obtain ⟨hd, rfl⟩ := hd
  exact fun H locs ls hP hS hl => lv_lor O.1 O.2.1 hd (k H locs ls hP hS hl)

theorem z_lxor (O : z_ok Λ Y p s m args c cc own nL) {x y : Int64} (hd : z_d cc pc (.lxor) 1 pc') (k : z_G p l e R s m args below meth c Q Λ Y nL σ lv pc' (.long (x ^^^ y) :: rest)) : z_G p l e R s m args below meth c Q Λ Y nL σ lv pc (.long y :: .long x :: rest) := by
  obtain ⟨hd, rfl⟩ := hd
  exact fun H locs ls hP hS hl => lv_lxor O.1 O.2.1 hd (k H locs ls hP hS hl)

theorem z_lneg (O : z_ok Λ Y p s m args c cc own nL) {x : Int64} (hd : z_d cc pc (.lneg) 1 pc') (k : z_G p l e R s m args below meth c Q Λ Y nL σ lv pc' (.long (-x) :: rest)) : z_G p l e R s m args below meth c Q Λ Y nL σ lv pc (.long x :: rest) := by
  obtain ⟨hd, rfl⟩ := hd
  exact fun H locs ls hP hS hl => lv_lneg O.1 O.2.1 hd (k H locs ls hP hS hl)

theorem z_i2l (O : z_ok Λ Y p s m args c cc own nL) {x : Int32} (hd : z_d cc pc (.i2l) 1 pc') (k : z_G p l e R s m args below meth c Q Λ Y nL σ lv pc' (.long x.toInt64 :: rest)) : z_G p l e R s m args below meth c Q Λ Y nL σ lv pc (.int x :: rest) := by
  obtain ⟨hd, rfl⟩ := hd
  exact fun H locs ls hP hS hl => lv_i2l O.1 O.2.1 hd rfl (k H locs ls hP hS hl)

theorem z_l2i (O : z_ok Λ Y p s m args c cc own nL) {x : Int64} (hd : z_d cc pc (.l2i) 1 pc') (k : z_G p l e R s m args below meth c Q Λ Y nL σ lv pc' (.int x.toInt32 :: rest)) : z_G p l e R s m args below meth c Q Λ Y nL σ lv pc (.long x :: rest) := by
  obtain ⟨hd, rfl⟩ := hd
  exact fun H locs ls hP hS hl => lv_l2i O.1 O.2.1 hd rfl (k H locs ls hP hS hl)

theorem z_iushr (O : z_ok Λ Y p s m args c cc own nL) {x y : Int32} (hd : z_d cc pc (.iushr) 1 pc') (k : z_G p l e R s m args below meth c Q Λ Y nL σ lv pc' (.int (x.toUInt32 >>> (y.toUInt32 &&& Int32.toUInt32 31)).toInt32 :: rest)) : z_G p l e R s m args below meth c Q Λ Y nL σ lv pc (.int y :: .int x :: rest) := by
  obtain ⟨hd, rfl⟩ := hd
  exact fun H locs ls hP hS hl => lv_iushr O.1 O.2.1 hd rfl (k H locs ls hP hS hl)

theorem z_lushr (O : z_ok Λ Y p s m args c cc own nL) {x : Int64} {y : Int32} (hd : z_d cc pc (.lushr) 1 pc') (k : z_G p l e R s m args below meth c Q Λ Y nL σ lv pc' (.long (x.toUInt64 >>> (y.toInt64.toUInt64 &&& Int64.toUInt64 63)).toInt64 :: rest)) : z_G p l e R s m args below meth c Q Λ Y nL σ lv pc (.int y :: .long x :: rest) := by
  obtain ⟨hd, rfl⟩ := hd
  exact fun H locs ls hP hS hl => lv_lushr O.1 O.2.1 hd rfl (k H locs ls hP hS hl)

theorem z_lshl (O : z_ok Λ Y p s m args c cc own nL) {x : Int64} {y : Int32} (hd : z_d cc pc (.lshl) 1 pc') (k : z_G p l e R s m args below meth c Q Λ Y nL σ lv pc' (.long (x <<< (y.toInt64 &&& 63)) :: rest)) : z_G p l e R s m args below meth c Q Λ Y nL σ lv pc (.int y :: .long x :: rest) := by
  obtain ⟨hd, rfl⟩ := hd
  exact fun H locs ls hP hS hl => lv_lshl O.1 O.2.1 hd rfl (k H locs ls hP hS hl)

theorem z_lcmp (O : z_ok Λ Y p s m args c cc own nL) {x y : Int64} (hd : z_d cc pc (.lcmp) 1 pc') (k : z_G p l e R s m args below meth c Q Λ Y nL σ lv pc' (.int (lg_cmp x y) :: rest)) : z_G p l e R s m args below meth c Q Λ Y nL σ lv pc (.long y :: .long x :: rest) := by
  obtain ⟨hd, rfl⟩ := hd
  exact fun H locs ls hP hS hl => W.lcmp O.1 O.2.1 hd (k H locs ls hP hS hl)

theorem z_dup (O : z_ok Λ Y p s m args c cc own nL) {va : Value} (hd : z_d cc pc (.dup) 1 pc') (h1 : va.category = 1) (k : z_G p l e R s m args below meth c Q Λ Y nL σ lv pc' (va :: va :: rest)) : z_G p l e R s m args below meth c Q Λ Y nL σ lv pc (va :: rest) := by
  obtain ⟨hd, rfl⟩ := hd
  exact fun H locs ls hP hS hl => lv_dup O.1 O.2.1 hd h1 (k H locs ls hP hS hl)

theorem z_pop (O : z_ok Λ Y p s m args c cc own nL) {va : Value} (hd : z_d cc pc (.pop) 1 pc') (h1 : va.category = 1) (k : z_G p l e R s m args below meth c Q Λ Y nL σ lv pc' rest) : z_G p l e R s m args below meth c Q Λ Y nL σ lv pc (va :: rest) := by
  obtain ⟨hd, rfl⟩ := hd
  exact fun H locs ls hP hS hl => lv_pop O.1 O.2.1 hd h1 (k H locs ls hP hS hl)

theorem z_dup_x1 (O : z_ok Λ Y p s m args c cc own nL) {va vb : Value} (hd : z_d cc pc (.dup_x1) 1 pc') (h1 : va.category = 1) (h2 : vb.category = 1) (k : z_G p l e R s m args below meth c Q Λ Y nL σ lv pc' (va :: vb :: va :: rest)) : z_G p l e R s m args below meth c Q Λ Y nL σ lv pc (va :: vb :: rest) := by
  obtain ⟨hd, rfl⟩ := hd
  exact fun H locs ls hP hS hl => lv_dup_x1 O.1 O.2.1 hd h1 h2 (k H locs ls hP hS hl)

theorem z_dup_x2 (O : z_ok Λ Y p s m args c cc own nL) {va vb vd : Value} (hd : z_d cc pc (.dup_x2) 1 pc') (h1 : va.category = 1) (h2 : vb.category = 1) (h3 : vd.category = 1) (k : z_G p l e R s m args below meth c Q Λ Y nL σ lv pc' (va :: vb :: vd :: va :: rest)) : z_G p l e R s m args below meth c Q Λ Y nL σ lv pc (va :: vb :: vd :: rest) := by
  obtain ⟨hd, rfl⟩ := hd
  exact fun H locs ls hP hS hl => lv_dup_x2 O.1 O.2.1 hd h1 h2 h3 (k H locs ls hP hS hl)

theorem z_dup2_11 (O : z_ok Λ Y p s m args c cc own nL) {va vb : Value} (hd : z_d cc pc (.dup2) 1 pc') (h1 : va.category = 1) (h2 : vb.category = 1) (k : z_G p l e R s m args below meth c Q Λ Y nL σ lv pc' (va :: vb :: va :: vb :: rest)) : z_G p l e R s m args below meth c Q Λ Y nL σ lv pc (va :: vb :: rest) := by
  obtain ⟨hd, rfl⟩ := hd
  exact fun H locs ls hP hS hl => lv_dup2_11 O.1 O.2.1 hd h1 h2 (k H locs ls hP hS hl)

theorem z_dup2_2 (O : z_ok Λ Y p s m args c cc own nL) {va : Value} (hd : z_d cc pc (.dup2) 1 pc') (h1 : va.category = 2) (k : z_G p l e R s m args below meth c Q Λ Y nL σ lv pc' (va :: va :: rest)) : z_G p l e R s m args below meth c Q Λ Y nL σ lv pc (va :: rest) := by
  obtain ⟨hd, rfl⟩ := hd
  exact fun H locs ls hP hS hl => lv_dup2_2 O.1 O.2.1 hd h1 (k H locs ls hP hS hl)

theorem z_if_eq (O : z_ok Λ Y p s m args c cc own nL) {x : Int32} {off : Int} (hd : z_b cc pc (.ifCond .eq off) off pc' tgt) (kt : x = 0 → z_G p l e R s m args below meth c Q Λ Y nL σ lv tgt rest) (kf : ¬ x = 0 → z_G p l e R s m args below meth c Q Λ Y nL σ lv pc' rest) : z_G p l e R s m args below meth c Q Λ Y nL σ lv pc (.int x :: rest) := by
  obtain ⟨hd, rfl, ht⟩ := hd
  exact fun H locs ls hP hS hl => lv_if_eq O.1 O.2.1 hd ht (fun h => kt h H locs ls hP hS hl) (fun h => kf h H locs ls hP hS hl)

theorem z_icmp_eq (O : z_ok Λ Y p s m args c cc own nL) {x y : Int32} {off : Int} (hd : z_b cc pc (.if_icmp .eq off) off pc' tgt) (kt : x = y → z_G p l e R s m args below meth c Q Λ Y nL σ lv tgt rest) (kf : ¬ x = y → z_G p l e R s m args below meth c Q Λ Y nL σ lv pc' rest) : z_G p l e R s m args below meth c Q Λ Y nL σ lv pc (.int y :: .int x :: rest) := by
  obtain ⟨hd, rfl, ht⟩ := hd
  exact fun H locs ls hP hS hl => lv_icmp_eq O.1 O.2.1 hd ht (fun h => kt h H locs ls hP hS hl) (fun h => kf h H locs ls hP hS hl)

theorem z_if_ne (O : z_ok Λ Y p s m args c cc own nL) {x : Int32} {off : Int} (hd : z_b cc pc (.ifCond .ne off) off pc' tgt) (kt : ¬ x = 0 → z_G p l e R s m args below meth c Q Λ Y nL σ lv tgt rest) (kf : x = 0 → z_G p l e R s m args below meth c Q Λ Y nL σ lv pc' rest) : z_G p l e R s m args below meth c Q Λ Y nL σ lv pc (.int x :: rest) := by
  obtain ⟨hd, rfl, ht⟩ := hd
  exact fun H locs ls hP hS hl => lv_if_ne O.1 O.2.1 hd ht (fun h => kt h H locs ls hP hS hl) (fun h => kf h H locs ls hP hS hl)

theorem z_icmp_ne (O : z_ok Λ Y p s m args c cc own nL) {x y : Int32} {off : Int} (hd : z_b cc pc (.if_icmp .ne off) off pc' tgt) (kt : ¬ x = y → z_G p l e R s m args below meth c Q Λ Y nL σ lv tgt rest) (kf : x = y → z_G p l e R s m args below meth c Q Λ Y nL σ lv pc' rest) : z_G p l e R s m args below meth c Q Λ Y nL σ lv pc (.int y :: .int x :: rest) := by
  obtain ⟨hd, rfl, ht⟩ := hd
  exact fun H locs ls hP hS hl => lv_icmp_ne O.1 O.2.1 hd ht (fun h => kt h H locs ls hP hS hl) (fun h => kf h H locs ls hP hS hl)

theorem z_if_lt (O : z_ok Λ Y p s m args c cc own nL) {x : Int32} {off : Int} (hd : z_b cc pc (.ifCond .lt off) off pc' tgt) (kt : x < 0 → z_G p l e R s m args below meth c Q Λ Y nL σ lv tgt rest) (kf : ¬ x < 0 → z_G p l e R s m args below meth c Q Λ Y nL σ lv pc' rest) : z_G p l e R s m args below meth c Q Λ Y nL σ lv pc (.int x :: rest) := by
  obtain ⟨hd, rfl, ht⟩ := hd
  exact fun H locs ls hP hS hl => lv_if_lt O.1 O.2.1 hd ht (fun h => kt h H locs ls hP hS hl) (fun h => kf h H locs ls hP hS hl)

theorem z_icmp_lt (O : z_ok Λ Y p s m args c cc own nL) {x y : Int32} {off : Int} (hd : z_b cc pc (.if_icmp .lt off) off pc' tgt) (kt : x < y → z_G p l e R s m args below meth c Q Λ Y nL σ lv tgt rest) (kf : ¬ x < y → z_G p l e R s m args below meth c Q Λ Y nL σ lv pc' rest) : z_G p l e R s m args below meth c Q Λ Y nL σ lv pc (.int y :: .int x :: rest) := by
  obtain ⟨hd, rfl, ht⟩ := hd
  exact fun H locs ls hP hS hl => lv_icmp_lt O.1 O.2.1 hd ht (fun h => kt h H locs ls hP hS hl) (fun h => kf h H locs ls hP hS hl)

theorem z_if_ge (O : z_ok Λ Y p s m args c cc own nL) {x : Int32} {off : Int} (hd : z_b cc pc (.ifCond .ge off) off pc' tgt) (kt : 0 ≤ x → z_G p l e R s m args below meth c Q Λ Y nL σ lv tgt rest) (kf : ¬ 0 ≤ x → z_G p l e R s m args below meth c Q Λ Y nL σ lv pc' rest) : z_G p l e R s m args below meth c Q Λ Y nL σ lv pc (.int x :: rest) := by
  obtain ⟨hd, rfl, ht⟩ := hd
  exact fun H locs ls hP hS hl => lv_if_ge O.1 O.2.1 hd ht (fun h => kt h H locs ls hP hS hl) (fun h => kf h H locs ls hP hS hl)

theorem z_icmp_ge (O : z_ok Λ Y p s m args c cc own nL) {x y : Int32} {off : Int} (hd : z_b cc pc (.if_icmp .ge off) off pc' tgt) (kt : y ≤ x → z_G p l e R s m args below meth c Q Λ Y nL σ lv tgt rest) (kf : ¬ y ≤ x → z_G p l e R s m args below meth c Q Λ Y nL σ lv pc' rest) : z_G p l e R s m args below meth c Q Λ Y nL σ lv pc (.int y :: .int x :: rest) := by
  obtain ⟨hd, rfl, ht⟩ := hd
  exact fun H locs ls hP hS hl => lv_icmp_ge O.1 O.2.1 hd ht (fun h => kt h H locs ls hP hS hl) (fun h => kf h H locs ls hP hS hl)

theorem z_if_gt (O : z_ok Λ Y p s m args c cc own nL) {x : Int32} {off : Int} (hd : z_b cc pc (.ifCond .gt off) off pc' tgt) (kt : 0 < x → z_G p l e R s m args below meth c Q Λ Y nL σ lv tgt rest) (kf : ¬ 0 < x → z_G p l e R s m args below meth c Q Λ Y nL σ lv pc' rest) : z_G p l e R s m args below meth c Q Λ Y nL σ lv pc (.int x :: rest) := by
  obtain ⟨hd, rfl, ht⟩ := hd
  exact fun H locs ls hP hS hl => lv_if_gt O.1 O.2.1 hd ht (fun h => kt h H locs ls hP hS hl) (fun h => kf h H locs ls hP hS hl)

theorem z_icmp_gt (O : z_ok Λ Y p s m args c cc own nL) {x y : Int32} {off : Int} (hd : z_b cc pc (.if_icmp .gt off) off pc' tgt) (kt : y < x → z_G p l e R s m args below meth c Q Λ Y nL σ lv tgt rest) (kf : ¬ y < x → z_G p l e R s m args below meth c Q Λ Y nL σ lv pc' rest) : z_G p l e R s m args below meth c Q Λ Y nL σ lv pc (.int y :: .int x :: rest) := by
  obtain ⟨hd, rfl, ht⟩ := hd
  exact fun H locs ls hP hS hl => lv_icmp_gt O.1 O.2.1 hd ht (fun h => kt h H locs ls hP hS hl) (fun h => kf h H locs ls hP hS hl)

theorem z_if_le (O : z_ok Λ Y p s m args c cc own nL) {x : Int32} {off : Int} (hd : z_b cc pc (.ifCond .le off) off pc' tgt) (kt : x ≤ 0 → z_G p l e R s m args below meth c Q Λ Y nL σ lv tgt rest) (kf : ¬ x ≤ 0 → z_G p l e R s m args below meth c Q Λ Y nL σ lv pc' rest) : z_G p l e R s m args below meth c Q Λ Y nL σ lv pc (.int x :: rest) := by
  obtain ⟨hd, rfl, ht⟩ := hd
  exact fun H locs ls hP hS hl => lv_if_le O.1 O.2.1 hd ht (fun h => kt h H locs ls hP hS hl) (fun h => kf h H locs ls hP hS hl)

theorem z_icmp_le (O : z_ok Λ Y p s m args c cc own nL) {x y : Int32} {off : Int} (hd : z_b cc pc (.if_icmp .le off) off pc' tgt) (kt : x ≤ y → z_G p l e R s m args below meth c Q Λ Y nL σ lv tgt rest) (kf : ¬ x ≤ y → z_G p l e R s m args below meth c Q Λ Y nL σ lv pc' rest) : z_G p l e R s m args below meth c Q Λ Y nL σ lv pc (.int y :: .int x :: rest) := by
  obtain ⟨hd, rfl, ht⟩ := hd
  exact fun H locs ls hP hS hl => lv_icmp_le O.1 O.2.1 hd ht (fun h => kt h H locs ls hP hS hl) (fun h => kf h H locs ls hP hS hl)

theorem z_goto (O : z_ok Λ Y p s m args c cc own nL) {off : Int} (hd : z_b cc pc (.goto off) off pc' tgt) (k : z_G p l e R s m args below meth c Q Λ Y nL σ lv tgt rest) : z_G p l e R s m args below meth c Q Λ Y nL σ lv pc rest := by
  obtain ⟨hd, -, ht⟩ := hd
  exact fun H locs ls hP hS hl => lv_goto O.1 O.2.1 hd ht (k H locs ls hP hS hl)

theorem z_topi {x : Int32} (k : ∀ y : Int32, y = x → z_G p l e R s m args below meth c Q Λ Y nL σ lv pc (.int y :: rest)) : z_G p l e R s m args below meth c Q Λ Y nL σ lv pc (.int x :: rest) := k x rfl

theorem z_topl {x : Int64} (k : ∀ y : Int64, y = x → z_G p l e R s m args below meth c Q Λ Y nL σ lv pc (.long y :: rest)) : z_G p l e R s m args below meth c Q Λ Y nL σ lv pc (.long x :: rest) := k x rfl

theorem z_sig {τ : zS} (k : ∀ σ : zS, σ = τ → z_G p l e R s m args below meth c Q Λ Y nL σ lv pc rest) : z_G p l e R s m args below meth c Q Λ Y nL τ lv pc rest := k τ rfl

theorem z_sub (ks : List Nat) (h : lv_pick lv ks = lv') (k : z_G p l e R s m args below meth c Q Λ Y nL σ lv' pc rest) : z_G p l e R s m args below meth c Q Λ Y nL σ lv pc rest := fun H locs ls hP hS hl => k H locs ls hP hS (lv_sub hl ks h)

theorem z_ldc2 (O : z_ok Λ Y p s m args c cc own nL) {index : Nat} {v : Int64} (hw : Cond.constantLong own index v ∈ z_TB) (hd : z_d cc pc (.ldc2_w index) 3 pc') (k : z_G p l e R s m args below meth c Q Λ Y nL σ lv pc' (.long v :: rest)) : z_G p l e R s m args below meth c Q Λ Y nL σ lv pc rest := by
  obtain ⟨hd, rfl⟩ := hd
  exact fun H locs ls hP hS hl => lv_ldc2 O.1 O.2.1 O.2.2.2.1 (O.2.2.2.2.1 _ hw) hd (k H locs ls hP hS hl)

theorem z_ldcw (O : z_ok Λ Y p s m args c cc own nL) {index : Nat} {v : Int32} (hw : Cond.constant own index v ∈ z_TB) (hd : z_d cc pc (.ldc_w index) 3 pc') (k : z_G p l e R s m args below meth c Q Λ Y nL σ lv pc' (.int v :: rest)) : z_G p l e R s m args below meth c Q Λ Y nL σ lv pc rest := by
  obtain ⟨hd, rfl⟩ := hd
  exact fun H locs ls hP hS hl => lv_ldcw O.1 O.2.1 O.2.2.2.1 (O.2.2.2.2.1 _ hw) hd (k H locs ls hP hS hl)

theorem z_tabO (O : z_ok Λ Y p s m args c cc own nL) {dflt lo hi : Int} {offs : Array Int} {len : Nat} {x : Int32} (hd : decode cc pc = .ok (.tableswitch dflt lo hi offs, len)) (h : x.toInt < lo ∨ hi < x.toInt) (ht : (pc : Int) + dflt = (tgt : Int)) (k : z_G p l e R s m args below meth c Q Λ Y nL σ lv tgt rest) : z_G p l e R s m args below meth c Q Λ Y nL σ lv pc (.int x :: rest) := fun H locs ls hP hS hl => lv_tableOut O.1 O.2.1 hd h ht (k H locs ls hP hS hl)

theorem z_tabI (O : z_ok Λ Y p s m args c cc own nL) {dflt lo hi : Int} {offs : Array Int} {len : Nat} {x : Int32} {off : Int} (hd : decode cc pc = .ok (.tableswitch dflt lo hi offs, len)) (h1 : ¬ x.toInt < lo) (h2 : ¬ hi < x.toInt) (ho : offs[(x.toInt - lo).toNat]? = some off) (ht : (pc : Int) + off = (tgt : Int)) (k : z_G p l e R s m args below meth c Q Λ Y nL σ lv tgt rest) : z_G p l e R s m args below meth c Q Λ Y nL σ lv pc (.int x :: rest) := fun H locs ls hP hS hl => lv_tableIn O.1 O.2.1 hd h1 h2 ho ht (k H locs ls hP hS hl)

theorem z_look (O : z_ok Λ Y p s m args c cc own nL) {dflt : Int} {ps : Array (Int × Int)} {len : Nat} {x : Int32} {off : Int} (hd : decode cc pc = .ok (.lookupswitch dflt ps, len)) (hp : (ps.toList.zip (ps.toList.drop 1)).all (fun (a, next) => a.1 < next.1) = true) (ho : Op.lookupswitch.offset ps.toList dflt x.toInt = off) (ht : (pc : Int) + off = (tgt : Int)) (k : z_G p l e R s m args below meth c Q Λ Y nL σ lv tgt rest) : z_G p l e R s m args below meth c Q Λ Y nL σ lv pc (.int x :: rest) := fun H locs ls hP hS hl => lv_lookup O.1 O.2.1 hd hp ho ht (k H locs ls hP hS hl)

end ZROWS
