/-! what lies at a place -/
def z_FI (Λ : zL) (p n : Nat) : Prop := p < Λ.1 ∧ ∀ cs ad f g, Λ.2 cs ad p f g = .inl (cs 0, n, .inl f)
def z_FJ (Λ : zL) (p n : Nat) : Prop := p < Λ.1 ∧ ∀ cs ad f g, Λ.2 cs ad p f g = .inl (cs 1, n, .inr (.inl g))
def z_FZ (Λ : zL) (p n : Nat) : Prop := p < Λ.1 ∧ ∀ cs ad f g, Λ.2 cs ad p f g = .inl (cs 2, n, .inl f)
def z_FO (Λ : zL) (p ci : Nat) (fl : (Nat → Nat) → (Nat → Int32) → List Value) : Prop := p < Λ.1 ∧ ∀ cs ad f g, Λ.2 cs ad p f g = .inr (ci, fl ad f)
def z_FR (Λ : zL) (p t n : Nat) (h : Nat → Nat) : Prop := p < Λ.1 ∧ ∀ cs ad f g, Λ.2 cs ad p f g = .inl (cs t, n, .inr (.inr (.inr (.inr (fun i => if i < n then some (ad (h i)) else none)))))
def z_cb (ci : Nat) (C : String) (T : u_T) (N : Nat) (ty : Nat → FieldType) : Prop := z_cls[ci]? = some (C, T, N) ∧ (∀ w ∈ u_ws C T N, w ∈ z_TB) ∧ (∀ k, k < N → parseFieldDescriptor (T k).2.2.1 = some (ty k)) ∧ (∀ a, a < N → ∀ b, b < N → a ≠ b → (T a).2.1 ≠ (T b).2.1) ∧ ∀ k, k < N → (T k).1 = C
section ZHEAP
variable {p : Program} {l : Launch} {e : Env} {R : Room} {s : State} {m : MethodId} {args : Array Value} {below : List Frame} {meth : Method} {c : Code} {Q : State → Prop} {Λ : zL} {Y : zY} {cc : ByteArray} {own : String} {nL : Nat} {σ : zS} {lv lv' : List (Nat × Value)} {pc pc' tgt : Nat} {rest : List Value}

theorem z_iald (O : z_ok Λ Y p s m args c cc own nL) {q n : Nat} {i : Int32} (hF : z_FI Λ q n) (hin : z_in i n = true) (hd : z_d cc pc .iaload 1 pc') (k : z_G p l e R s m args below meth c Q Λ Y nL σ lv pc' (.int (σ.1 q i.toNatClampNeg) :: rest)) : z_G p l e R s m args below meth c Q Λ Y nL σ lv pc (.int i :: .ref (z_ad Y q) :: rest) := by
  obtain ⟨hd, rfl⟩ := hd
  exact fun H locs ls hP hS hl => va_iald O.1 O.2.1 O.2.2.2.2.2.1 hP q 0 (f := σ.1 q) (by rw [z_wl_get hF.1, hF.2]) rfl (z_in_vp hin) hd (k H locs ls hP hS hl)

theorem z_zald (O : z_ok Λ Y p s m args c cc own nL) {q n : Nat} {i : Int32} (hF : z_FZ Λ q n) (hin : z_in i n = true) (hd : z_d cc pc .baload 1 pc') (k : z_G p l e R s m args below meth c Q Λ Y nL σ lv pc' (.int (σ.1 q i.toNatClampNeg) :: rest)) : z_G p l e R s m args below meth c Q Λ Y nL σ lv pc (.int i :: .ref (z_ad Y q) :: rest) := by
  obtain ⟨hd, rfl⟩ := hd
  exact fun H locs ls hP hS hl => va_zald O.1 O.2.1 O.2.2.2.2.2.1 hP q 2 (f := σ.1 q) (by rw [z_wl_get hF.1, hF.2]) rfl (z_in_vp hin) hd (k H locs ls hP hS hl)

theorem z_lald (O : z_ok Λ Y p s m args c cc own nL) {q n : Nat} {i : Int32} (hF : z_FJ Λ q n) (hin : z_in i n = true) (hd : z_d cc pc .laload 1 pc') (k : z_G p l e R s m args below meth c Q Λ Y nL σ lv pc' (.long (σ.2 q i.toNatClampNeg) :: rest)) : z_G p l e R s m args below meth c Q Λ Y nL σ lv pc (.int i :: .ref (z_ad Y q) :: rest) := by
  obtain ⟨hd, rfl⟩ := hd
  exact fun H locs ls hP hS hl => va_lald O.1 O.2.1 O.2.2.2.2.2.1 hP q 1 (f := σ.2 q) (by rw [z_wl_get hF.1, hF.2]) rfl (z_in_vp hin) hd (k H locs ls hP hS hl)

theorem z_iast (O : z_ok Λ Y p s m args c cc own nL) {q n : Nat} {i x : Int32} (hF : z_FI Λ q n) (hin : z_in i n = true) (hd : z_d cc pc .iastore 1 pc') (k : z_G p l e R s m args below meth c Q Λ Y nL (z_sI σ q i.toNatClampNeg x) lv pc' rest) : z_G p l e R s m args below meth c Q Λ Y nL σ lv pc (.int x :: .int i :: .ref (z_ad Y q) :: rest) := by
  obtain ⟨hd, rfl⟩ := hd
  refine fun H locs ls hP hS hl => va_iast O.1 O.2.1 O.2.2.2.2.2.1 hP (z_D O.2.2.2.2.2.2.2) hS q 0 (f := σ.1 q) (by rw [z_wl_get hF.1, hF.2]) rfl (z_in_vp hin) hd (fun H1 locs1 hP1 hD1 hS1 => k H1 locs1 ls ?_ hS1 hl)
  rw [z_wl_set (τ := z_sI σ q i.toNatClampNeg x) (by rw [hF.2]; unfold z_sI; rw [z_fI_s]) z_fI_o] at hP1
  exact hP1

theorem z_zast (O : z_ok Λ Y p s m args c cc own nL) {q n : Nat} {i x : Int32} (hF : z_FZ Λ q n) (hin : z_in i n = true) (hb : z_bz x = true) (hd : z_d cc pc .bastore 1 pc') (k : z_G p l e R s m args below meth c Q Λ Y nL (z_sI σ q i.toNatClampNeg x) lv pc' rest) : z_G p l e R s m args below meth c Q Λ Y nL σ lv pc (.int x :: .int i :: .ref (z_ad Y q) :: rest) := by
  obtain ⟨hd, rfl⟩ := hd
  have hx : vp_nar .boolean x = x := by unfold vp_nar; rw [z_bz_n hb]
  refine fun H locs ls hP hS hl => va_zast O.1 O.2.1 O.2.2.2.2.2.1 hP (z_D O.2.2.2.2.2.2.2) hS q 2 (f := σ.1 q) (by rw [z_wl_get hF.1, hF.2]) rfl (z_in_vp hin) hd (fun H1 locs1 hP1 hD1 hS1 => k H1 locs1 ls ?_ hS1 hl)
  rw [hx, z_wl_set (τ := z_sI σ q i.toNatClampNeg x) (by rw [hF.2]; unfold z_sI; rw [z_fI_s]) z_fI_o] at hP1
  exact hP1

theorem z_last (O : z_ok Λ Y p s m args c cc own nL) {q n : Nat} {i : Int32} {x : Int64} (hF : z_FJ Λ q n) (hin : z_in i n = true) (hd : z_d cc pc .lastore 1 pc') (k : z_G p l e R s m args below meth c Q Λ Y nL (z_sJ σ q i.toNatClampNeg x) lv pc' rest) : z_G p l e R s m args below meth c Q Λ Y nL σ lv pc (.long x :: .int i :: .ref (z_ad Y q) :: rest) := by
  obtain ⟨hd, rfl⟩ := hd
  refine fun H locs ls hP hS hl => va_last O.1 O.2.1 O.2.2.2.2.2.1 hP (z_D O.2.2.2.2.2.2.2) hS q 1 (f := σ.2 q) (by rw [z_wl_get hF.1, hF.2]) rfl (z_in_vp hin) hd (fun H1 locs1 hP1 hD1 hS1 => k H1 locs1 ls ?_ hS1 hl)
  rw [z_wl_set (τ := z_sJ σ q i.toNatClampNeg x) (by rw [hF.2]; unfold z_sJ; rw [z_fJ_s]) z_fJ_o] at hP1
  exact hP1

theorem z_ilen (O : z_ok Λ Y p s m args c cc own nL) {q n : Nat} {v : Int32} (hF : z_FI Λ q n) (hv : Int32.ofNat n = v) (hd : z_d cc pc .arraylength 1 pc') (k : z_G p l e R s m args below meth c Q Λ Y nL σ lv pc' (.int v :: rest)) : z_G p l e R s m args below meth c Q Λ Y nL σ lv pc (.ref (z_ad Y q) :: rest) := by
  obtain ⟨hd, rfl⟩ := hd
  exact fun H locs ls hP hS hl => va_alen O.1 O.2.1 O.2.2.2.2.2.1 hP q 0 (x := (n, .inl (σ.1 q))) (by rw [z_wl_get hF.1, hF.2]) (ty := .int) rfl hv hd (k H locs ls hP hS hl)

theorem z_llen (O : z_ok Λ Y p s m args c cc own nL) {q n : Nat} {v : Int32} (hF : z_FJ Λ q n) (hv : Int32.ofNat n = v) (hd : z_d cc pc .arraylength 1 pc') (k : z_G p l e R s m args below meth c Q Λ Y nL σ lv pc' (.int v :: rest)) : z_G p l e R s m args below meth c Q Λ Y nL σ lv pc (.ref (z_ad Y q) :: rest) := by
  obtain ⟨hd, rfl⟩ := hd
  exact fun H locs ls hP hS hl => va_alen O.1 O.2.1 O.2.2.2.2.2.1 hP q 1 (x := (n, .inr (.inl (σ.2 q)))) (by rw [z_wl_get hF.1, hF.2]) (ty := .long) rfl hv hd (k H locs ls hP hS hl)

theorem z_aald (O : z_ok Λ Y p s m args c cc own nL) {q t n : Nat} {h : Nat → Nat} {i : Int32} {ty : FieldType} (hF : z_FR Λ q t n h) (ht : (z_tys Y)[t]? = some (Y.2.1 t, ty)) (hty : ty.isReference = true) (hin : z_in i n = true) (hd : z_d cc pc .aaload 1 pc') (k : z_G p l e R s m args below meth c Q Λ Y nL σ lv pc' (.ref (z_ad Y (h i.toNatClampNeg)) :: rest)) : z_G p l e R s m args below meth c Q Λ Y nL σ lv pc (.int i :: .ref (z_ad Y q) :: rest) := by
  obtain ⟨hd, rfl⟩ := hd
  intro H locs ls hP hS hl
  have hvp := z_in_vp hin
  have hlt : i.toNatClampNeg < n := Nat.not_le.mp fun z => hvp (Or.inr z)
  have ha : (z_wl Λ Y σ)[q]? = some (z_ad Y q, .inl (Y.2.1 t, n, .inr (.inr (.inr (.inr (fun i => if i < n then some (z_ad Y (h i)) else none)))))) := by rw [z_wl_get hF.1, hF.2]
  refine W.aald (v := .ref (z_ad Y (h i.toNatClampNeg))) (ty := ty) O.1 O.2.1 (hP q _ ha) ((O.2.2.2.2.2.1.2 t _ ht).1 n (fun j => va_rf (if j < n then some (z_ad Y (h j)) else none))) hty (fun z => by cases z) (by show ¬ (i < 0 ∨ (arrV _ _ _).slots.size ≤ _); rw [arrV_size]; exact hvp) ?_ rfl rfl hd (k H locs ls hP hS hl)
  show (arrV _ _ _).slots[_]? = _
  rw [arrV_read _ _ hlt]
  show some (va_rf (if i.toNatClampNeg < n then some (z_ad Y (h i.toNatClampNeg)) else none)) = _
  rw [if_pos hlt]
  rfl

theorem z_get (O : z_ok Λ Y p s m args c cc own nL) {ci q N index : Nat} {C : String} {T : u_T} {ty : Nat → FieldType} {fl : (Nat → Nat) → (Nat → Int32) → List Value} {v : Value} (B : z_cb ci C T N ty) (hF : z_FO Λ q ci fl) (k : Nat) (hk : k < N) (hw : Cond.fieldLink own index C (T k).2.1 (T k).2.2.1 ∈ z_TB) (hv : (fl (z_ad Y) (σ.1 q))[k]? = some v) (hd : z_d cc pc (.getfield index) 3 pc') (kk : z_G p l e R s m args below meth c Q Λ Y nL σ lv pc' (v :: rest)) : z_G p l e R s m args below meth c Q Λ Y nL σ lv pc (.ref (z_ad Y q) :: rest) := by
  obtain ⟨hd, rfl⟩ := hd
  exact fun H locs ls hP hS hl => va_get (D := Y.1) (ci := ci) (C := C) (T := T) (N := N) O.1 O.2.1 O.2.2.2.2.1 B.2.1 O.2.2.2.1 O.2.2.2.2.2.1 hP q (fs := fl (z_ad Y) (σ.1 q)) (by rw [z_wl_get hF.1, hF.2]) B.1 k hk (O.2.2.2.2.1 _ hw) (fun x h => by rw [B.2.2.2.2 k hk] at h; exact h) hv hd (kk H locs ls hP hS hl)

theorem z_put (O : z_ok Λ Y p s m args c cc own nL) {ci q N index : Nat} {C : String} {T : u_T} {ty : Nat → FieldType} {fl : (Nat → Nat) → (Nat → Int32) → List Value} {v : Int32} (B : z_cb ci C T N ty) (hF : z_FO Λ q ci fl) (k : Nat) (hk : k < N) (hw : Cond.fieldLink own index C (T k).2.1 (T k).2.2.1 ∈ z_TB) (hfin : (T k).2.2.2 = false) (hn : narrow (ty k) (.int v) = .int v) (hft : fits (ty k) (.int v) = true) (hfl : ∀ ad f, k < (fl ad f).length ∧ (fl ad f).set k (.int v) = fl ad (upd f k v)) (hd : z_d cc pc (.putfield index) 3 pc') (kk : z_G p l e R s m args below meth c Q Λ Y nL (z_sI σ q k v) lv pc' rest) : z_G p l e R s m args below meth c Q Λ Y nL σ lv pc (.int v :: .ref (z_ad Y q) :: rest) := by
  obtain ⟨hd, rfl⟩ := hd
  refine fun H locs ls hP hS hl => va_put (D := Y.1) (ci := ci) (C := C) (T := T) (N := N) O.1 O.2.1 O.2.2.2.2.1 B.2.1 ty B.2.2.1 B.2.2.2.1 O.2.2.2.1 O.2.2.2.2.2.1 hP (z_D O.2.2.2.2.2.2.2) hS q (fs := fl (z_ad Y) (σ.1 q)) (by rw [z_wl_get hF.1, hF.2]) B.1 k hk (O.2.2.2.2.1 _ hw) (fun x h => by rw [B.2.2.2.2 k hk] at h; exact h) hfin (B.2.2.1 k hk) hn hft (hfl _ _).1 hd (fun H1 locs1 hP1 hD1 hS1 => kk H1 locs1 ls ?_ hS1 hl)
  rw [(hfl _ _).2, z_wl_set (τ := z_sI σ q k v) (by rw [hF.2]; unfold z_sI; rw [z_fI_s]) z_fI_o] at hP1
  exact hP1

theorem z_gsW (O : z_ok Λ Y p s m args c cc own nL) {index : Nat} (hw : Cond.fieldLink own index RX5 "WITH" "[J" ∈ z_TB) (hd : z_d cc pc (.getstatic index) 3 pc') (k : z_G p l e R s m args below meth c Q Λ Y nL σ lv pc' (.ref Y.2.2.2.1 :: rest)) : z_G p l e R s m args below meth c Q Λ Y nL σ lv pc rest := by
  obtain ⟨hd, rfl⟩ := hd
  exact fun H locs ls hP hS hl => va_gets O.1 O.2.1 O.2.2.2.2.2.2.1.1 hS O.2.2.2.1 (O.2.2.2.2.1 _ hw) (fun _ h => h) hd (k H locs ls hP hS hl)

theorem z_tlW (O : z_ok Λ Y p s m args c cc own nL) {i : Int32} (hin : z_in i 6 = true) (hd : z_d cc pc .laload 1 pc') (k : z_G p l e R s m args below meth c Q Λ Y nL σ lv pc' (.long (z_withL i.toNatClampNeg) :: rest)) : z_G p l e R s m args below meth c Q Λ Y nL σ lv pc (.int i :: .ref Y.2.2.2.1 :: rest) := by
  obtain ⟨hd, rfl⟩ := hd
  exact fun H locs ls hP hS hl => va_tl O.1 O.2.1 O.2.2.2.2.2.2.1.2.1 hS (z_in_vp hin) rfl hd (k H locs ls hP hS hl)

theorem z_gsO (O : z_ok Λ Y p s m args c cc own nL) {index : Nat} (hw : Cond.fieldLink own index RX5 "OF_COUNT" "[J" ∈ z_TB) (hd : z_d cc pc (.getstatic index) 3 pc') (k : z_G p l e R s m args below meth c Q Λ Y nL σ lv pc' (.ref Y.2.2.2.2 :: rest)) : z_G p l e R s m args below meth c Q Λ Y nL σ lv pc rest := by
  obtain ⟨hd, rfl⟩ := hd
  exact fun H locs ls hP hS hl => va_gets O.1 O.2.1 O.2.2.2.2.2.2.1.2.2.1 hS O.2.2.2.1 (O.2.2.2.2.1 _ hw) (fun _ h => h) hd (k H locs ls hP hS hl)

theorem z_tlO (O : z_ok Λ Y p s m args c cc own nL) {i : Int32} (hin : z_in i 7 = true) (hd : z_d cc pc .laload 1 pc') (k : z_G p l e R s m args below meth c Q Λ Y nL σ lv pc' (.long (z_ofcL i.toNatClampNeg) :: rest)) : z_G p l e R s m args below meth c Q Λ Y nL σ lv pc (.int i :: .ref Y.2.2.2.2 :: rest) := by
  obtain ⟨hd, rfl⟩ := hd
  exact fun H locs ls hP hS hl => va_tl O.1 O.2.1 O.2.2.2.2.2.2.1.2.2.2.1 hS (z_in_vp hin) rfl hd (k H locs ls hP hS hl)

theorem z_acpy (O : z_ok Λ Y p s m args c cc own nL) {r index q0 q1 n0 n1 : Nat} {sp dp n : Int32} (hw : Cond.methodLink own index arraycopyName ∈ z_TB) (hnat : Cond.native arraycopyName ∈ z_TB) (hsta : Cond.static arraycopyName ∈ z_TB) (hini : Cond.initialized RJ10 ∈ z_TB) (h0 : z_FI Λ q0 n0) (h1 : z_FI Λ q1 n1) (hg : z_cp sp dp n n0 n1 = true) (hr : 1 ≤ r) (hW : (rest.map fun v => v.category).sum ≤ 8) (hd : z_d cc pc (.invokestatic index) 3 pc') (k : z_G p l e (z_rm r) s m args below meth c Q Λ Y nL (z_fI σ q1 (va_cpy (σ.1 q0) (σ.1 q1) sp.toNatClampNeg dp.toNatClampNeg n.toNatClampNeg)) lv pc' rest) : z_G p l e (z_rm r) s m args below meth c Q Λ Y nL σ lv pc (.int n :: .int dp :: .ref (z_ad Y q1) :: .int sp :: .ref (z_ad Y q0) :: rest) := by
  obtain ⟨hd, rfl⟩ := hd
  obtain ⟨g1, g2, g3, g4, g5⟩ := of_decide_eq_true hg
  have c1 := z_clamp g1
  have c2 := z_clamp g2
  have c3 := z_clamp g3
  refine fun H locs ls hP hS hl => va_copyi O.1 O.2.1 (by rw [O.2.2.1, hl.1]) O.2.2.2.1 (O.2.2.2.2.1 _ hw) (O.2.2.2.2.1 _ hnat) (O.2.2.2.2.1 _ hsta) (O.2.2.2.2.1 _ hini) O.2.2.2.2.2.1 hP (z_D O.2.2.2.2.2.2.2) hS q0 q1 0 0 (f := σ.1 q0) (g := σ.1 q1) (ty := .int) (by rw [z_wl_get h0.1, h0.2]) (by rw [z_wl_get h1.1, h1.2]) rfl rfl rfl (z_nn g1) (z_nn g2) (z_nn g3) (by omega) (by omega) (fun _ _ => rfl) (by show 1 ≤ r; exact hr) (by show _ + (7 + 11) ≤ 64 * r; omega) hd (fun H1 locs1 hP1 hD1 hS1 => k H1 locs1 ls ?_ hS1 hl)
  rw [z_wl_set (τ := z_fI σ q1 (va_cpy (σ.1 q0) (σ.1 q1) sp.toNatClampNeg dp.toNatClampNeg n.toNatClampNeg)) (by rw [h1.2, z_fI_s]) z_fI_o] at hP1
  exact hP1

theorem z_iret (O : z_ok Λ Y p s m args c cc own nL) {v : Int32} {fin : Int32 × zS} (hr : meth.sig.returnType = some .int) (hlk : meth.locks = false) (hd : z_d cc pc .ireturn 1 pc') (hf : some (v, σ) = some fin) : z_G p l e R s m args below meth c (MQ below (z_Qi Λ Y fin) args s 0 0 (z_A Λ Y)) Λ Y nL σ lv pc [.int v] := fun H locs ls hP hS hl => W.iret O.1 O.2.1 hr (fun t ht hW => ⟨⟨v, σ, rfl, Option.some.inj hf, by show va_P _ _ _ t.heap; rw [ht]; exact hP⟩, hS.F ht⟩) hS.2.2 hd.1 hlk

theorem z_lret (O : z_ok Λ Y p s m args c cc own nL) {v : Int64} {fin : Int64 × zS} (hr : meth.sig.returnType = some .long) (hlk : meth.locks = false) (hd : z_d cc pc .lreturn 1 pc') (hf : some (v, σ) = some fin) : z_G p l e R s m args below meth c (MQ below (z_Ql Λ Y fin) args s 0 0 (z_A Λ Y)) Λ Y nL σ lv pc [.long v] := fun H locs ls hP hS hl => W.lret O.1 O.2.1 hr (fun t ht hW => ⟨⟨v, σ, rfl, Option.some.inj hf, by show va_P _ _ _ t.heap; rw [ht]; exact hP⟩, hS.F ht⟩) hS.2.2 hd.1 hlk

theorem z_zret (O : z_ok Λ Y p s m args c cc own nL) {v : Int32} {fin : Int32 × zS} (hr : meth.sig.returnType = some .boolean) (hlk : meth.locks = false) (hn : narrow .boolean (.int v) = .int v) (hd : z_d cc pc .ireturn 1 pc') (hf : some (v, σ) = some fin) : z_G p l e R s m args below meth c (MQ below (z_Qi Λ Y fin) args s 0 0 (z_A Λ Y)) Λ Y nL σ lv pc [.int v] := fun H locs ls hP hS hl => W.zret O.1 O.2.1 hr hn (fun t ht hW => ⟨⟨v, σ, rfl, Option.some.inj hf, by show va_P _ _ _ t.heap; rw [ht]; exact hP⟩, hS.F ht⟩) hS.2.2 hd.1 hlk

theorem z_vret (O : z_ok Λ Y p s m args c cc own nL) {fin : zS} (hr : meth.sig.returnType = none) (hlk : meth.locks = false) (hd : z_d cc pc .return_ 1 pc') (hf : some σ = some fin) : z_G p l e R s m args below meth c (MQ below (z_Qv Λ Y fin) args s 0 0 (z_A Λ Y)) Λ Y nL σ lv pc [] := fun H locs ls hP hS hl => W.vret O.1 O.2.1 hr (fun t ht hW => ⟨⟨σ, rfl, Option.some.inj hf, by show va_P _ _ _ t.heap; rw [ht]; exact hP⟩, hS.F ht⟩) hS.2.2 hd.1 hlk

theorem z_aret (O : z_ok Λ Y p s m args c cc own nL) {q : Nat} {fin : Nat × zS} {rt : FieldType} (hr : meth.sig.returnType = some rt) (hrt : (∃ n, rt = .object n) ∨ ∃ t, rt = .array t) (hlk : meth.locks = false) (hd : z_d cc pc .areturn 1 pc') (hf : some (q, σ) = some fin) : z_G p l e R s m args below meth c (MQ below (z_Qr Λ Y fin) args s 0 0 (z_A Λ Y)) Λ Y nL σ lv pc [.ref (z_ad Y q)] := by
  cases hf
  exact fun H locs ls hP hS hl => W.aret O.1 O.2.1 hr hrt (Or.inr ⟨_, rfl⟩) (fun t ht hW => ⟨⟨σ, _, rfl, rfl, rfl, by show va_P _ _ _ t.heap; rw [ht]; exact hP⟩, hS.F ht⟩) hS.2.2 hd.1 hlk

end ZHEAP

/-! calls -/
def z_ci (y : MethodName) (bytes : ByteArray) (maxL : Nat) (ret : Option FieldType) (n : Nat) : Prop := Cond.code y bytes maxL ret ∈ z_TB ∧ Cond.initialized y.cls ∈ z_TB ∧ (y.cls ≠ "java/lang/invoke/MethodHandle" ∧ y.cls ≠ "java/lang/invoke/VarHandle" ∧ (parseMethodDescriptor y.desc).map (fun d => d.parameters.length) = some n) ∧ maxL ≤ 45
def z_cv (y : MethodName) (bytes : ByteArray) (maxL : Nat) (ret : Option FieldType) (n : Nat) : Prop := z_ci y bytes maxL ret n ∧ Cond.instanceMethod y ∈ z_TB ∧ Cond.selects y.cls y y ∈ z_TB
def z_cs (y : MethodName) (bytes : ByteArray) (maxL : Nat) (ret : Option FieldType) (n : Nat) : Prop := z_ci y bytes maxL ret n ∧ Cond.static y ∈ z_TB
theorem z_gin {y : MethodName} {bytes : ByteArray} {maxL : Nat} {ret : Option FieldType} (h : Cond.code y bytes maxL ret ∈ z_TB) : GoodIn z_TB (Cond.code y bytes maxL ret :: z_TB) := by
  intro w hw
  rcases List.mem_cons.mp hw with rfl | hw
  · exact ⟨h, good_of_word (z_tbg _ h).2⟩
  · exact ⟨hw, good_of_word (z_tbg _ hw).2⟩
section ZCALL
variable {p : Program} {l : Launch} {e : Env} {s : State} {m : MethodId} {args : Array Value} {below : List Frame} {meth : Method} {c : Code} {Q : State → Prop} {Λ : zL} {Y : zY} {cc bytes : ByteArray} {own : String} {nL r r' n maxL index : Nat} {y : MethodName} {ret : Option FieldType} {σ : zS} {lv lv' : List (Nat × Value)} {pc pc' : Nat} {rest st0 As : List Value} {Qc : Array Value → State → Outcome → State → Prop}
theorem z_cB (O : z_ok Λ Y p s m args c cc own nL) (w : z_ci y bytes maxL ret n) (hl : Cond.methodLink own index y ∈ z_TB) (hr : r' + 1 ≤ r) : CallB (z_rm r) s args own index y bytes maxL ret (Cond.code y bytes maxL ret :: z_TB) (z_rm r') 0 0 n :=
  callB_of n O.2.2.2.2.1 (z_gin w.1) rfl rfl rfl (O.2.2.2.2.1 _ w.2.1) (O.2.2.2.2.1 _ hl) w.2.2.1 ⟨hr, by have := w.2.2.2; show 8 + (maxL + 11) + 64 * r' ≤ 64 * r; omega⟩
theorem z_pre {H : Heap} {locs : List Loc} (O : z_ok Λ Y p s m args c cc own nL) (hP : va_P Y.1 z_cls (z_wl Λ Y σ) H) (hS : va_S (z_A Λ Y) s.heap H locs) (av : List Value) : ∀ U : State, U.heap = H → s.WarmedH U.vm → z_Pc Λ Y σ av av.toArray U := fun U hU hW => ⟨rfl, by show va_P _ _ _ U.heap; rw [hU]; exact hP, va_K.moved hW.alike O.2.2.2.2.2.1, z_st_to hW hU hS O.2.2.2.2.2.2.1⟩
theorem z_runV {H : Heap} {locs : List Loc} {ls : Array Slot} {b ci : Nat} {q : vw_C} {fl : (Nat → Nat) → (Nat → Int32) → List Value} (O : z_ok Λ Y p s m args c cc own nL) (hM : Met l y (Cond.code y bytes maxL ret :: z_TB) (z_rm r') (z_Pc Λ Y σ (.ref (z_ad Y b) :: As)) Qc 0 0 (z_A Λ Y)) (w : z_cv y bytes maxL ret n) (hl : Cond.methodLink own index y ∈ z_TB) (hr : r' + 1 ≤ r) (hF : z_FO Λ b ci fl) (hc : z_cls[ci]? = some q) (hq : q.1 = y.cls) (hn : As.length = n) (hst : st0 = As.reverse ++ .ref (z_ad Y b) :: rest) (hW : (rest.map fun v => v.category).sum ≤ 8) (hd : decode cc pc = .ok (.invokevirtual index, 3))
    (hP : va_P Y.1 z_cls (z_wl Λ Y σ) H) (hS : va_S (z_A Λ Y) s.heap H locs) (hls : ls.size = nL) : va_Run p l e (z_rm r) s m args below meth c H locs 0 0 0 0 (F0 m pc ls st0) rest (Qc (Value.ref (z_ad Y b) :: As).toArray) (z_A Λ Y) :=
  va_runV (C := y.cls) ⟨O.1, O.2.1, O.2.2.1, O.2.2.2.1, O.2.2.2.2.1⟩ hM ⟨z_cB O w.1 hl hr, O.2.2.2.2.1 _ w.2.1, O.2.2.2.2.1 _ w.2.2⟩ ⟨z_blind, by rw [← hq]; exact va_recv O.2.2.2.2.2.1 hP hc (q0 := b) (fs := fl (z_ad Y) (σ.1 b)) (by rw [z_wl_get hF.1, hF.2]), z_pre O hP hS _⟩ rfl hn hls hst (lv_room hW) hd ⟨Nat.le_of_ble_eq_true rfl, Nat.le_of_ble_eq_true rfl⟩
theorem z_runS {H : Heap} {locs : List Loc} {ls : Array Slot} (O : z_ok Λ Y p s m args c cc own nL) (hM : Met l y (Cond.code y bytes maxL ret :: z_TB) (z_rm r') (z_Pc Λ Y σ As) Qc 0 0 (z_A Λ Y)) (w : z_cs y bytes maxL ret n) (hl : Cond.methodLink own index y ∈ z_TB) (hr : r' + 1 ≤ r) (hn : As.length = n) (hst : st0 = As.reverse ++ rest) (hW : (rest.map fun v => v.category).sum ≤ 8) (hd : decode cc pc = .ok (.invokestatic index, 3))
    (hP : va_P Y.1 z_cls (z_wl Λ Y σ) H) (hS : va_S (z_A Λ Y) s.heap H locs) (hls : ls.size = nL) : va_Run p l e (z_rm r) s m args below meth c H locs 0 0 0 0 (F0 m pc ls st0) rest (Qc As.toArray) (z_A Λ Y) :=
  va_runS ⟨O.1, O.2.1, O.2.2.1, O.2.2.2.1, O.2.2.2.2.1⟩ hM ⟨z_cB O w.1 hl hr, O.2.2.2.2.1 _ w.2⟩ ⟨z_blind, z_pre O hP hS _⟩ rfl hn hls hst (lv_room hW) hd ⟨Nat.le_of_ble_eq_true rfl, Nat.le_of_ble_eq_true rfl⟩
theorem z_runN {H : Heap} {locs : List Loc} {ls : Array Slot} {host : String} (O : z_ok Λ Y p s m args c cc own nL) (hM : Met l y (Cond.code y bytes maxL ret :: z_TB) (z_rm r') (z_Pc Λ Y σ As) Qc 0 0 (z_A Λ Y)) (w : z_cs y bytes maxL ret n) (hl : Cond.methodLinkNest own index y host ∈ z_nest) (hr : r' + 1 ≤ r) (hn : As.length = n) (hst : st0 = As.reverse ++ rest) (hW : (rest.map fun v => v.category).sum ≤ 8) (hd : decode cc pc = .ok (.invokestatic index, 3))
    (hP : va_P Y.1 z_cls (z_wl Λ Y σ) H) (hS : va_S (z_A Λ Y) s.heap H locs) (hls : ls.size = nL) : va_Run p l e (z_rm r) s m args below meth c H locs 0 0 0 0 (F0 m pc ls st0) rest (Qc As.toArray) (z_A Λ Y) :=
  va_runSN (host := host) ⟨O.1, O.2.1, O.2.2.1, O.2.2.2.1, O.2.2.2.2.1⟩ hM ⟨va_cnB n O.2.2.2.2.1 (z_gin w.1.1) rfl rfl rfl (O.2.2.2.2.2.2.1.2.2.2.2 _ hl) (O.2.2.2.2.1 _ w.1.2.1) w.1.2.2.1 ⟨hr, by have := w.1.2.2.2; show 8 + (maxL + 11) + 64 * r' ≤ 64 * r; omega⟩, O.2.2.2.2.1 _ w.2, trivial⟩ ⟨z_blind, z_pre O hP hS _⟩ rfl hn hls hst (lv_room hW) hd ⟨Nat.le_of_ble_eq_true rfl, Nat.le_of_ble_eq_true rfl⟩

theorem z_callVi {b ci : Nat} {q : vw_C} {fl : (Nat → Nat) → (Nat → Int32) → List Value} {fin : Int32 × zS} (O : z_ok Λ Y p s m args c cc own nL) (hM : Met l y (Cond.code y bytes maxL ret :: z_TB) (z_rm r') (z_Pc Λ Y σ (.ref (z_ad Y b) :: As)) (z_Qi Λ Y fin) 0 0 (z_A Λ Y)) (w : z_cv y bytes maxL ret n) (hl : Cond.methodLink own index y ∈ z_TB) (hr : r' + 1 ≤ r) (hF : z_FO Λ b ci fl) (hc : z_cls[ci]? = some q) (hq : q.1 = y.cls) (hn : As.length = n) (hst : st0 = As.reverse ++ .ref (z_ad Y b) :: rest) (hW : (rest.map fun v => v.category).sum ≤ 8) (hd : z_d cc pc (.invokevirtual index) 3 pc') (k : z_G p l e (z_rm r) s m args below meth c Q Λ Y nL fin.2 lv pc' (.int fin.1 :: rest)) : z_G p l e (z_rm r) s m args below meth c Q Λ Y nL σ lv pc st0 := by
  obtain ⟨hd, rfl⟩ := hd
  intro H locs ls hP hS hl'
  exact va_calli (z_runV O hM w hl hr hF hc hq hn hst hW hd hP hS hl'.1) hS (fun _ _ h => h) (fun _ h => h) (fun r1 u t H1 locs1 ht _ hp hB _ _ hS1 => by
    cases hp
    exact k H1 locs1 ls (by rw [← ht]; exact hB) hS1 hl')

theorem z_callVl {b ci : Nat} {q : vw_C} {fl : (Nat → Nat) → (Nat → Int32) → List Value} {fin : Int64 × zS} (O : z_ok Λ Y p s m args c cc own nL) (hM : Met l y (Cond.code y bytes maxL ret :: z_TB) (z_rm r') (z_Pc Λ Y σ (.ref (z_ad Y b) :: As)) (z_Ql Λ Y fin) 0 0 (z_A Λ Y)) (w : z_cv y bytes maxL ret n) (hl : Cond.methodLink own index y ∈ z_TB) (hr : r' + 1 ≤ r) (hF : z_FO Λ b ci fl) (hc : z_cls[ci]? = some q) (hq : q.1 = y.cls) (hn : As.length = n) (hst : st0 = As.reverse ++ .ref (z_ad Y b) :: rest) (hW : (rest.map fun v => v.category).sum ≤ 8) (hd : z_d cc pc (.invokevirtual index) 3 pc') (k : z_G p l e (z_rm r) s m args below meth c Q Λ Y nL fin.2 lv pc' (.long fin.1 :: rest)) : z_G p l e (z_rm r) s m args below meth c Q Λ Y nL σ lv pc st0 := by
  obtain ⟨hd, rfl⟩ := hd
  intro H locs ls hP hS hl'
  exact va_calll (z_runV O hM w hl hr hF hc hq hn hst hW hd hP hS hl'.1) hS (fun _ _ h => h) (fun _ h => h) (fun r1 u t H1 locs1 ht _ hp hB _ _ hS1 => by
    cases hp
    exact k H1 locs1 ls (by rw [← ht]; exact hB) hS1 hl')

theorem z_callVv {b ci : Nat} {q : vw_C} {fl : (Nat → Nat) → (Nat → Int32) → List Value} {fin : zS} (O : z_ok Λ Y p s m args c cc own nL) (hM : Met l y (Cond.code y bytes maxL ret :: z_TB) (z_rm r') (z_Pc Λ Y σ (.ref (z_ad Y b) :: As)) (z_Qv Λ Y fin) 0 0 (z_A Λ Y)) (w : z_cv y bytes maxL ret n) (hl : Cond.methodLink own index y ∈ z_TB) (hr : r' + 1 ≤ r) (hF : z_FO Λ b ci fl) (hc : z_cls[ci]? = some q) (hq : q.1 = y.cls) (hn : As.length = n) (hst : st0 = As.reverse ++ .ref (z_ad Y b) :: rest) (hW : (rest.map fun v => v.category).sum ≤ 8) (hd : z_d cc pc (.invokevirtual index) 3 pc') (k : z_G p l e (z_rm r) s m args below meth c Q Λ Y nL fin lv pc' rest) : z_G p l e (z_rm r) s m args below meth c Q Λ Y nL σ lv pc st0 := by
  obtain ⟨hd, rfl⟩ := hd
  intro H locs ls hP hS hl'
  exact va_callv (z_runV O hM w hl hr hF hc hq hn hst hW hd hP hS hl'.1) hS (fun _ _ h => h) (fun _ h => h) (fun u t H1 locs1 ht _ hp hB _ _ hS1 => by
    cases hp
    exact k H1 locs1 ls (by rw [← ht]; exact hB) hS1 hl')

theorem z_callVr {b ci : Nat} {q : vw_C} {fl : (Nat → Nat) → (Nat → Int32) → List Value} {fin : Nat × zS} (O : z_ok Λ Y p s m args c cc own nL) (hM : Met l y (Cond.code y bytes maxL ret :: z_TB) (z_rm r') (z_Pc Λ Y σ (.ref (z_ad Y b) :: As)) (z_Qr Λ Y fin) 0 0 (z_A Λ Y)) (w : z_cv y bytes maxL ret n) (hl : Cond.methodLink own index y ∈ z_TB) (hr : r' + 1 ≤ r) (hF : z_FO Λ b ci fl) (hc : z_cls[ci]? = some q) (hq : q.1 = y.cls) (hn : As.length = n) (hst : st0 = As.reverse ++ .ref (z_ad Y b) :: rest) (hW : (rest.map fun v => v.category).sum ≤ 8) (hd : z_d cc pc (.invokevirtual index) 3 pc') (k : z_G p l e (z_rm r) s m args below meth c Q Λ Y nL fin.2 lv pc' (.ref (z_ad Y fin.1) :: rest)) : z_G p l e (z_rm r) s m args below meth c Q Λ Y nL σ lv pc st0 := by
  obtain ⟨hd, rfl⟩ := hd
  intro H locs ls hP hS hl'
  exact va_callr (z_runV O hM w hl hr hF hc hq hn hst hW hd hP hS hl'.1) hS (fun _ _ h => h) (fun _ h => h) (fun u ra t H1 locs1 ht _ hp hB _ _ hS1 => by
    obtain ⟨rfl, hB⟩ := hB
    cases hp
    exact k H1 locs1 ls (by rw [← ht]; exact hB) hS1 hl')

theorem z_callSi  {fin : Int32 × zS} (O : z_ok Λ Y p s m args c cc own nL) (hM : Met l y (Cond.code y bytes maxL ret :: z_TB) (z_rm r') (z_Pc Λ Y σ As) (z_Qi Λ Y fin) 0 0 (z_A Λ Y)) (w : z_cs y bytes maxL ret n) (hl : Cond.methodLink own index y ∈ z_TB) (hr : r' + 1 ≤ r) (hn : As.length = n) (hst : st0 = As.reverse ++ rest) (hW : (rest.map fun v => v.category).sum ≤ 8) (hd : z_d cc pc (.invokestatic index) 3 pc') (k : z_G p l e (z_rm r) s m args below meth c Q Λ Y nL fin.2 lv pc' (.int fin.1 :: rest)) : z_G p l e (z_rm r) s m args below meth c Q Λ Y nL σ lv pc st0 := by
  obtain ⟨hd, rfl⟩ := hd
  intro H locs ls hP hS hl'
  exact va_calli (z_runS O hM w hl hr hn hst hW hd hP hS hl'.1) hS (fun _ _ h => h) (fun _ h => h) (fun r1 u t H1 locs1 ht _ hp hB _ _ hS1 => by
    cases hp
    exact k H1 locs1 ls (by rw [← ht]; exact hB) hS1 hl')

theorem z_callSl  {fin : Int64 × zS} (O : z_ok Λ Y p s m args c cc own nL) (hM : Met l y (Cond.code y bytes maxL ret :: z_TB) (z_rm r') (z_Pc Λ Y σ As) (z_Ql Λ Y fin) 0 0 (z_A Λ Y)) (w : z_cs y bytes maxL ret n) (hl : Cond.methodLink own index y ∈ z_TB) (hr : r' + 1 ≤ r) (hn : As.length = n) (hst : st0 = As.reverse ++ rest) (hW : (rest.map fun v => v.category).sum ≤ 8) (hd : z_d cc pc (.invokestatic index) 3 pc') (k : z_G p l e (z_rm r) s m args below meth c Q Λ Y nL fin.2 lv pc' (.long fin.1 :: rest)) : z_G p l e (z_rm r) s m args below meth c Q Λ Y nL σ lv pc st0 := by
  obtain ⟨hd, rfl⟩ := hd
  intro H locs ls hP hS hl'
  exact va_calll (z_runS O hM w hl hr hn hst hW hd hP hS hl'.1) hS (fun _ _ h => h) (fun _ h => h) (fun r1 u t H1 locs1 ht _ hp hB _ _ hS1 => by
    cases hp
    exact k H1 locs1 ls (by rw [← ht]; exact hB) hS1 hl')

theorem z_callSv  {fin : zS} (O : z_ok Λ Y p s m args c cc own nL) (hM : Met l y (Cond.code y bytes maxL ret :: z_TB) (z_rm r') (z_Pc Λ Y σ As) (z_Qv Λ Y fin) 0 0 (z_A Λ Y)) (w : z_cs y bytes maxL ret n) (hl : Cond.methodLink own index y ∈ z_TB) (hr : r' + 1 ≤ r) (hn : As.length = n) (hst : st0 = As.reverse ++ rest) (hW : (rest.map fun v => v.category).sum ≤ 8) (hd : z_d cc pc (.invokestatic index) 3 pc') (k : z_G p l e (z_rm r) s m args below meth c Q Λ Y nL fin lv pc' rest) : z_G p l e (z_rm r) s m args below meth c Q Λ Y nL σ lv pc st0 := by
  obtain ⟨hd, rfl⟩ := hd
  intro H locs ls hP hS hl'
  exact va_callv (z_runS O hM w hl hr hn hst hW hd hP hS hl'.1) hS (fun _ _ h => h) (fun _ h => h) (fun u t H1 locs1 ht _ hp hB _ _ hS1 => by
    cases hp
    exact k H1 locs1 ls (by rw [← ht]; exact hB) hS1 hl')

theorem z_callSr  {fin : Nat × zS} (O : z_ok Λ Y p s m args c cc own nL) (hM : Met l y (Cond.code y bytes maxL ret :: z_TB) (z_rm r') (z_Pc Λ Y σ As) (z_Qr Λ Y fin) 0 0 (z_A Λ Y)) (w : z_cs y bytes maxL ret n) (hl : Cond.methodLink own index y ∈ z_TB) (hr : r' + 1 ≤ r) (hn : As.length = n) (hst : st0 = As.reverse ++ rest) (hW : (rest.map fun v => v.category).sum ≤ 8) (hd : z_d cc pc (.invokestatic index) 3 pc') (k : z_G p l e (z_rm r) s m args below meth c Q Λ Y nL fin.2 lv pc' (.ref (z_ad Y fin.1) :: rest)) : z_G p l e (z_rm r) s m args below meth c Q Λ Y nL σ lv pc st0 := by
  obtain ⟨hd, rfl⟩ := hd
  intro H locs ls hP hS hl'
  exact va_callr (z_runS O hM w hl hr hn hst hW hd hP hS hl'.1) hS (fun _ _ h => h) (fun _ h => h) (fun u ra t H1 locs1 ht _ hp hB _ _ hS1 => by
    obtain ⟨rfl, hB⟩ := hB
    cases hp
    exact k H1 locs1 ls (by rw [← ht]; exact hB) hS1 hl')

theorem z_callNi {host : String} {fin : Int32 × zS} (O : z_ok Λ Y p s m args c cc own nL) (hM : Met l y (Cond.code y bytes maxL ret :: z_TB) (z_rm r') (z_Pc Λ Y σ As) (z_Qi Λ Y fin) 0 0 (z_A Λ Y)) (w : z_cs y bytes maxL ret n) (hl : Cond.methodLinkNest own index y host ∈ z_nest) (hr : r' + 1 ≤ r) (hn : As.length = n) (hst : st0 = As.reverse ++ rest) (hW : (rest.map fun v => v.category).sum ≤ 8) (hd : z_d cc pc (.invokestatic index) 3 pc') (k : z_G p l e (z_rm r) s m args below meth c Q Λ Y nL fin.2 lv pc' (.int fin.1 :: rest)) : z_G p l e (z_rm r) s m args below meth c Q Λ Y nL σ lv pc st0 := by
  obtain ⟨hd, rfl⟩ := hd
  intro H locs ls hP hS hl'
  exact va_calli (z_runN O hM w hl hr hn hst hW hd hP hS hl'.1) hS (fun _ _ h => h) (fun _ h => h) (fun r1 u t H1 locs1 ht _ hp hB _ _ hS1 => by
    cases hp
    exact k H1 locs1 ls (by rw [← ht]; exact hB) hS1 hl')

theorem z_callNl {host : String} {fin : Int64 × zS} (O : z_ok Λ Y p s m args c cc own nL) (hM : Met l y (Cond.code y bytes maxL ret :: z_TB) (z_rm r') (z_Pc Λ Y σ As) (z_Ql Λ Y fin) 0 0 (z_A Λ Y)) (w : z_cs y bytes maxL ret n) (hl : Cond.methodLinkNest own index y host ∈ z_nest) (hr : r' + 1 ≤ r) (hn : As.length = n) (hst : st0 = As.reverse ++ rest) (hW : (rest.map fun v => v.category).sum ≤ 8) (hd : z_d cc pc (.invokestatic index) 3 pc') (k : z_G p l e (z_rm r) s m args below meth c Q Λ Y nL fin.2 lv pc' (.long fin.1 :: rest)) : z_G p l e (z_rm r) s m args below meth c Q Λ Y nL σ lv pc st0 := by
  obtain ⟨hd, rfl⟩ := hd
  intro H locs ls hP hS hl'
  exact va_calll (z_runN O hM w hl hr hn hst hW hd hP hS hl'.1) hS (fun _ _ h => h) (fun _ h => h) (fun r1 u t H1 locs1 ht _ hp hB _ _ hS1 => by
    cases hp
    exact k H1 locs1 ls (by rw [← ht]; exact hB) hS1 hl')

theorem z_callNv {host : String} {fin : zS} (O : z_ok Λ Y p s m args c cc own nL) (hM : Met l y (Cond.code y bytes maxL ret :: z_TB) (z_rm r') (z_Pc Λ Y σ As) (z_Qv Λ Y fin) 0 0 (z_A Λ Y)) (w : z_cs y bytes maxL ret n) (hl : Cond.methodLinkNest own index y host ∈ z_nest) (hr : r' + 1 ≤ r) (hn : As.length = n) (hst : st0 = As.reverse ++ rest) (hW : (rest.map fun v => v.category).sum ≤ 8) (hd : z_d cc pc (.invokestatic index) 3 pc') (k : z_G p l e (z_rm r) s m args below meth c Q Λ Y nL fin lv pc' rest) : z_G p l e (z_rm r) s m args below meth c Q Λ Y nL σ lv pc st0 := by
  obtain ⟨hd, rfl⟩ := hd
  intro H locs ls hP hS hl'
  exact va_callv (z_runN O hM w hl hr hn hst hW hd hP hS hl'.1) hS (fun _ _ h => h) (fun _ h => h) (fun u t H1 locs1 ht _ hp hB _ _ hS1 => by
    cases hp
    exact k H1 locs1 ls (by rw [← ht]; exact hB) hS1 hl')

theorem z_callNr {host : String} {fin : Nat × zS} (O : z_ok Λ Y p s m args c cc own nL) (hM : Met l y (Cond.code y bytes maxL ret :: z_TB) (z_rm r') (z_Pc Λ Y σ As) (z_Qr Λ Y fin) 0 0 (z_A Λ Y)) (w : z_cs y bytes maxL ret n) (hl : Cond.methodLinkNest own index y host ∈ z_nest) (hr : r' + 1 ≤ r) (hn : As.length = n) (hst : st0 = As.reverse ++ rest) (hW : (rest.map fun v => v.category).sum ≤ 8) (hd : z_d cc pc (.invokestatic index) 3 pc') (k : z_G p l e (z_rm r) s m args below meth c Q Λ Y nL fin.2 lv pc' (.ref (z_ad Y fin.1) :: rest)) : z_G p l e (z_rm r) s m args below meth c Q Λ Y nL σ lv pc st0 := by
  obtain ⟨hd, rfl⟩ := hd
  intro H locs ls hP hS hl'
  exact va_callr (z_runN O hM w hl hr hn hst hW hd hP hS hl'.1) hS (fun _ _ h => h) (fun _ h => h) (fun u ra t H1 locs1 ht _ hp hB _ _ hS1 => by
    obtain ⟨rfl, hB⟩ := hB
    cases hp
    exact k H1 locs1 ls (by rw [← ht]; exact hB) hS1 hl')

theorem z_callViR {b ci : Nat} {q : vw_C} {fl : (Nat → Nat) → (Nat → Int32) → List Value} {v : Int32} (O : z_ok Λ Y p s m args c cc own nL) (hM : Met l y (Cond.code y bytes maxL ret :: z_TB) (z_rm r') (z_Pc Λ Y σ (.ref (z_ad Y b) :: As)) (z_Qi Λ Y (v, σ)) 0 0 (z_A Λ Y)) (w : z_cv y bytes maxL ret n) (hl : Cond.methodLink own index y ∈ z_TB) (hr : r' + 1 ≤ r) (hF : z_FO Λ b ci fl) (hc : z_cls[ci]? = some q) (hq : q.1 = y.cls) (hn : As.length = n) (hst : st0 = As.reverse ++ .ref (z_ad Y b) :: rest) (hW : (rest.map fun v => v.category).sum ≤ 8) (hd : z_d cc pc (.invokevirtual index) 3 pc') (k : z_G p l e (z_rm r) s m args below meth c Q Λ Y nL σ lv pc' (.int v :: rest)) : z_G p l e (z_rm r) s m args below meth c Q Λ Y nL σ lv pc st0 := z_callVi (fin := (v, σ)) O hM w hl hr hF hc hq hn hst hW hd k

theorem z_callVlR {b ci : Nat} {q : vw_C} {fl : (Nat → Nat) → (Nat → Int32) → List Value} {v : Int64} (O : z_ok Λ Y p s m args c cc own nL) (hM : Met l y (Cond.code y bytes maxL ret :: z_TB) (z_rm r') (z_Pc Λ Y σ (.ref (z_ad Y b) :: As)) (z_Ql Λ Y (v, σ)) 0 0 (z_A Λ Y)) (w : z_cv y bytes maxL ret n) (hl : Cond.methodLink own index y ∈ z_TB) (hr : r' + 1 ≤ r) (hF : z_FO Λ b ci fl) (hc : z_cls[ci]? = some q) (hq : q.1 = y.cls) (hn : As.length = n) (hst : st0 = As.reverse ++ .ref (z_ad Y b) :: rest) (hW : (rest.map fun v => v.category).sum ≤ 8) (hd : z_d cc pc (.invokevirtual index) 3 pc') (k : z_G p l e (z_rm r) s m args below meth c Q Λ Y nL σ lv pc' (.long v :: rest)) : z_G p l e (z_rm r) s m args below meth c Q Λ Y nL σ lv pc st0 := z_callVl (fin := (v, σ)) O hM w hl hr hF hc hq hn hst hW hd k

theorem z_callSiR  {v : Int32} (O : z_ok Λ Y p s m args c cc own nL) (hM : Met l y (Cond.code y bytes maxL ret :: z_TB) (z_rm r') (z_Pc Λ Y σ As) (z_Qi Λ Y (v, σ)) 0 0 (z_A Λ Y)) (w : z_cs y bytes maxL ret n) (hl : Cond.methodLink own index y ∈ z_TB) (hr : r' + 1 ≤ r) (hn : As.length = n) (hst : st0 = As.reverse ++ rest) (hW : (rest.map fun v => v.category).sum ≤ 8) (hd : z_d cc pc (.invokestatic index) 3 pc') (k : z_G p l e (z_rm r) s m args below meth c Q Λ Y nL σ lv pc' (.int v :: rest)) : z_G p l e (z_rm r) s m args below meth c Q Λ Y nL σ lv pc st0 := z_callSi (fin := (v, σ)) O hM w hl hr hn hst hW hd k

theorem z_callSlR  {v : Int64} (O : z_ok Λ Y p s m args c cc own nL) (hM : Met l y (Cond.code y bytes maxL ret :: z_TB) (z_rm r') (z_Pc Λ Y σ As) (z_Ql Λ Y (v, σ)) 0 0 (z_A Λ Y)) (w : z_cs y bytes maxL ret n) (hl : Cond.methodLink own index y ∈ z_TB) (hr : r' + 1 ≤ r) (hn : As.length = n) (hst : st0 = As.reverse ++ rest) (hW : (rest.map fun v => v.category).sum ≤ 8) (hd : z_d cc pc (.invokestatic index) 3 pc') (k : z_G p l e (z_rm r) s m args below meth c Q Λ Y nL σ lv pc' (.long v :: rest)) : z_G p l e (z_rm r) s m args below meth c Q Λ Y nL σ lv pc st0 := z_callSl (fin := (v, σ)) O hM w hl hr hn hst hW hd k

theorem z_callNiR {host : String} {v : Int32} (O : z_ok Λ Y p s m args c cc own nL) (hM : Met l y (Cond.code y bytes maxL ret :: z_TB) (z_rm r') (z_Pc Λ Y σ As) (z_Qi Λ Y (v, σ)) 0 0 (z_A Λ Y)) (w : z_cs y bytes maxL ret n) (hl : Cond.methodLinkNest own index y host ∈ z_nest) (hr : r' + 1 ≤ r) (hn : As.length = n) (hst : st0 = As.reverse ++ rest) (hW : (rest.map fun v => v.category).sum ≤ 8) (hd : z_d cc pc (.invokestatic index) 3 pc') (k : z_G p l e (z_rm r) s m args below meth c Q Λ Y nL σ lv pc' (.int v :: rest)) : z_G p l e (z_rm r) s m args below meth c Q Λ Y nL σ lv pc st0 := z_callNi (fin := (v, σ)) O hM w hl hr hn hst hW hd k

theorem z_callNlR {host : String} {v : Int64} (O : z_ok Λ Y p s m args c cc own nL) (hM : Met l y (Cond.code y bytes maxL ret :: z_TB) (z_rm r') (z_Pc Λ Y σ As) (z_Ql Λ Y (v, σ)) 0 0 (z_A Λ Y)) (w : z_cs y bytes maxL ret n) (hl : Cond.methodLinkNest own index y host ∈ z_nest) (hr : r' + 1 ≤ r) (hn : As.length = n) (hst : st0 = As.reverse ++ rest) (hW : (rest.map fun v => v.category).sum ≤ 8) (hd : z_d cc pc (.invokestatic index) 3 pc') (k : z_G p l e (z_rm r) s m args below meth c Q Λ Y nL σ lv pc' (.long v :: rest)) : z_G p l e (z_rm r) s m args below meth c Q Λ Y nL σ lv pc st0 := z_callNl (fin := (v, σ)) O hM w hl hr hn hst hW hd k

end ZCALL

theorem z_rf {α β : Type} {v w : α} {σ : β} (h : some v = some w) : some (v, σ) = some (w, σ) := by cases h; rfl
theorem z_jn_at {α β : Type} {r : α} {b : α → β} {res : β} {P : α → Prop} {X : Prop} (h : z_jn r b = res) (hr : P r) (k : ∀ j, P j → b j = res → X) : X := k r hr h
def z_F : Nat := 5000
