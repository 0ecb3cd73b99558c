/-! what has to be shown of the two sides, call by call -/
def s_price (P : zS → zS → Prop) : Prop := ∀ σ μ, P σ μ → ∀ (a1 : Int32) (a2 : Int32), ∃ r σ' μ', fX7_price σ a1 a2 = some (r, σ') ∧ fX8_price μ a1 a2 = some (r, μ') ∧ P σ' μ'
def s_priceOf (P : zS → zS → Prop) : Prop := ∀ σ μ, P σ μ → ∀ (a1 : Int32), ∃ r, fX7_priceOf σ a1 = some r ∧ fX8_priceOf μ a1 = some r
def s_tell (P : zS → zS → Prop) : Prop := ∀ σ μ, P σ μ → ∀ (a1 : Int32) (a2 : Int32), ∃ r σ' μ', fX7_tell σ a1 a2 = some (r, σ') ∧ fX8_tell μ a1 a2 = some (r, μ') ∧ P σ' μ'
def s_take (P : zS → zS → Prop) : Prop := ∀ σ μ, P σ μ → ∀ (a1 : Int32) (a2 : Int32), ∃ r σ' μ', fX7_take σ a1 a2 = some (r, σ') ∧ fX8_take μ a1 a2 = some (r, μ') ∧ P σ' μ'
def s_tally (P : zS → zS → Prop) : Prop := ∀ σ μ, P σ μ → ∀ (a1 : Int32) (a2 : Int32), ∃ r, fX7_tally σ a1 a2 = some r ∧ fX8_tally μ a1 a2 = some r
def s_at (P : zS → zS → Prop) : Prop := ∀ σ μ, P σ μ → ∀ (a1 : Int32) (a2 : Int32), ∃ r, fX7_at σ a1 a2 = some r ∧ fX8_at μ a1 a2 = some r
def s_size (P : zS → zS → Prop) : Prop := ∀ σ μ, P σ μ → ∀ (a1 : Int32), ∃ r, fX7_size σ a1 = some r ∧ fX8_size μ a1 = some r
def s_wipe (P : zS → zS → Prop) : Prop := ∀ σ μ, P σ μ → ∀ (a1 : Int32), ∃ r σ' μ', fX7_wipe σ a1 = some (r, σ') ∧ fX8_wipe μ a1 = some (r, μ') ∧ P σ' μ'
def s_copy (P : zS → zS → Prop) : Prop := ∀ σ μ, P σ μ → ∀ (a1 : Int32) (a2 : Int32), ∃ r σ' μ', fX7_copy σ a1 a2 = some (r, σ') ∧ fX8_copy μ a1 a2 = some (r, μ') ∧ P σ' μ'
def s_undo (P : zS → zS → Prop) : Prop := ∀ σ μ, P σ μ → ∃ r σ' μ', fX7_undo σ  = some (r, σ') ∧ fX8_undo μ  = some (r, μ') ∧ P σ' μ'
def s_often (P : zS → zS → Prop) : Prop := ∀ σ μ, P σ μ → ∀ (a1 : Int32) (a2 : Int32), ∃ r, fX7_often σ a1 a2 = some r ∧ fX8_often μ a1 a2 = some r
def s_top (P : zS → zS → Prop) : Prop := ∀ σ μ, P σ μ → ∀ (a1 : Int32), ∃ r, fX7_top σ a1 = some r ∧ fX8_top μ a1 = some r
def s_isSimple (P : zS → zS → Prop) : Prop := ∀ σ μ, P σ μ → ∀ (a1 : Int32), ∃ r, fX7_isSimple σ a1 = some r ∧ fX8_isSimple μ a1 = some r
def s_lean (P : zS → zS → Prop) : Prop := ∀ σ μ, P σ μ → ∀ (a1 : Int32), ∃ r σ' μ', fX7_lean σ a1 = some (r, σ') ∧ fX8_lean μ a1 = some (r, μ') ∧ P σ' μ'
def s_test (P : zS → zS → Prop) : Prop := ∀ σ μ, P σ μ → ∀ (a1 : Int32) (a2 : Int32) (a3 : Int32), ∃ r σ' μ', fX7_test σ a1 a2 a3 = some (r, σ') ∧ fX8_test μ a1 a2 a3 = some (r, μ') ∧ P σ' μ'
def s_counted (P : zS → zS → Prop) : Prop := ∀ σ μ, P σ μ → ∀ (a1 : Int32) (a2 : Int32) (a3 : Int32) (a4 : Int32), ∃ r σ' μ', fX7_counted σ a1 a2 a3 a4 = some (r, σ') ∧ fX8_counted μ a1 a2 a3 a4 = some (r, μ') ∧ P σ' μ'
def s_dual (P : zS → zS → Prop) : Prop := ∀ σ μ, P σ μ → ∀ (a1 : Int32) (a2 : Int32), ∃ r σ' μ', fX7_dual σ a1 a2 = some (r, σ') ∧ fX8_dual μ a1 a2 = some (r, μ') ∧ P σ' μ'
def s_into (P : zS → zS → Prop) : Prop := ∀ σ μ, P σ μ → ∀ (a1 : Int32) (a2 : Int32), ∃ r σ' μ', fX7_into σ a1 a2 = some (r, σ') ∧ fX8_into μ a1 a2 = some (r, μ') ∧ P σ' μ'
def s_verdict (P : zS → zS → Prop) : Prop := ∀ σ μ, P σ μ → ∀ (a1 : Int32) (a2 : Int32) (a3 : Int32), ∃ r σ' μ', fX7_verdict σ a1 a2 a3 = some (r, σ') ∧ fX8_verdict μ a1 a2 a3 = some (r, μ') ∧ P σ' μ'
def s_tree (P : zS → zS → Prop) : Prop := ∀ σ μ, P σ μ → ∀ (a1 : Int32) (a2 : Int32), ∃ r σ' μ', fX7_tree σ a1 a2 = some (r, σ') ∧ fX8_tree μ a1 a2 = some (r, μ') ∧ P σ' μ'
def s_node (P : zS → zS → Prop) : Prop := ∀ σ μ, P σ μ → ∀ (a1 : Int32) (a2 : Int32) (a3 : Int32), ∃ r σ' μ', fX7_node σ a1 a2 a3 = some (r, σ') ∧ fX8_node μ a1 a2 a3 = some (r, μ') ∧ P σ' μ'
def s_keys (P : zS → zS → Prop) : Prop := ∀ σ μ, P σ μ → ∀ (a1 : Int32) (a2 : Int32), ∃ r σ' μ', fX7_keys σ a1 a2 = some (r, σ') ∧ fX8_keys μ a1 a2 = some (r, μ') ∧ P σ' μ'
def s_support (P : zS → zS → Prop) : Prop := ∀ σ μ, P σ μ → ∀ (a1 : Int32) (a2 : Int32), ∃ r, fX7_support σ a1 a2 = some r ∧ fX8_support μ a1 a2 = some r
def s_border (P : zS → zS → Prop) : Prop := ∀ σ μ, P σ μ → ∀ (a1 : Int32) (a2 : Int32) (a3 : Int32) (a4 : Int32), ∃ r σ' μ', fX7_border σ a1 a2 a3 a4 = some (r, σ') ∧ fX8_border μ a1 a2 a3 a4 = some (r, μ') ∧ P σ' μ'
def s_make (P : zS → zS → Prop) : Prop := ∀ σ μ, P σ μ → ∀ (a1 : Int32) (a2 : Int32) (a3 : Int32) (a4 : Int32), ∃ r σ' μ', fX7_make σ a1 a2 a3 a4 = some (r, σ') ∧ fX8_make μ a1 a2 a3 a4 = some (r, μ') ∧ P σ' μ'
def s_rule (P : zS → zS → Prop) : Prop := ∀ σ μ, P σ μ → ∀ (a1 : Int32) (a2 : Int32) (a3 : Int32) (a4 : Int32), ∃ r σ' μ', fX7_rule σ a1 a2 a3 a4 = some (r, σ') ∧ fX8_rule μ a1 a2 a3 a4 = some (r, μ') ∧ P σ' μ'
def s_worth (P : zS → zS → Prop) : Prop := ∀ σ μ, P σ μ → ∀ (a1 : Int32) (a2 : Int32), ∃ r σ', fX7_worth σ a1 a2 = some (r, σ') ∧ fX8_worth μ a1 a2 = some r ∧ P σ' μ
def s_best (P : zS → zS → Prop) : Prop := ∀ σ μ, P σ μ → ∀ (a1 : Int32) (a2 : Int32) (a3 : Int32), ∃ r σ' μ', fX7_best σ a1 a2 a3 = some (r, σ') ∧ fX8_best μ a1 a2 a3 = some (r, μ') ∧ P σ' μ'
def s_ranked (P : zS → zS → Prop) : Prop := ∀ σ μ, P σ μ → ∀ (a1 : Int32) (a2 : Int32) (a3 : Int32), ∃ r σ' μ', fX7_ranked σ a1 a2 a3 = some (r, σ') ∧ fX8_ranked μ a1 a2 a3 = some (r, μ') ∧ P σ' μ'
def s_sums (P : zS → zS → Prop) : Prop := ∀ σ μ, P σ μ → ∀ (a1 : Int32) (a2 : Int32), ∃ r σ', fX7_sums σ a1 a2 = some (r, σ') ∧ fX8_sums μ a1 a2 = some r ∧ P σ' μ
def s_sheet (P : zS → zS → Prop) : Prop := ∀ σ μ, P σ μ → ∀ (a1 : Int32) (a2 : Int32) (a3 : Int32), ∃ r σ' μ', fX7_sheet σ a1 a2 a3 = some (r, σ') ∧ fX8_sheet μ a1 a2 a3 = some (r, μ') ∧ P σ' μ'
def s_cell (P : zS → zS → Prop) : Prop := ∀ σ μ, P σ μ → ∀ (a1 : Int32) (a2 : Int32) (a3 : Int64), ∃ r σ' μ', fX7_cell σ a1 a2 a3 = some (r, σ') ∧ fX8_cell μ a1 a2 a3 = some (r, μ') ∧ P σ' μ'
def s_read (P : zS → zS → Prop) : Prop := ∀ σ μ, P σ μ → ∀ (a1 : Int32) (a2 : Int32), ∃ r, fX7_read σ a1 a2 = some r ∧ fX8_read μ a1 a2 = some r
def s_packs (P : zS → zS → Prop) : Prop := ∀ σ μ, P σ μ → ∀ (a1 : Int32) (a2 : Int32), ∃ r σ' μ', fX7_packs σ a1 a2 = some (r, σ') ∧ fX8_packs μ a1 a2 = some (r, μ') ∧ P σ' μ'
def s_unpacks (P : zS → zS → Prop) : Prop := ∀ σ μ, P σ μ → ∀ (a1 : Int32) (a2 : Int32) (a3 : Int32), ∃ r σ' μ', fX7_unpacks σ a1 a2 a3 = some (r, σ') ∧ fX8_unpacks μ a1 a2 a3 = some (r, μ') ∧ P σ' μ'
def s_freqs (P : zS → zS → Prop) : Prop := ∀ σ μ, P σ μ → ∀ (a1 : Int32) (a2 : Int32), ∃ r σ' μ', fX7_freqs σ a1 a2 = some (r, σ') ∧ fX8_freqs μ a1 a2 = some (r, μ') ∧ P σ' μ'
def s_image (P : zS → zS → Prop) : Prop := ∀ σ μ, P σ μ → ∃ r σ' μ', fX7_image σ  = some (r, σ') ∧ fX8_image μ  = some (r, μ') ∧ P σ' μ'
def s_back (P : zS → zS → Prop) : Prop := ∀ σ μ, P σ μ → ∃ r σ' μ', fX7_back σ  = some (r, σ') ∧ fX8_back μ  = some (r, μ') ∧ P σ' μ'
def s_count (P : zS → zS → Prop) : Prop := ∀ σ μ, P σ μ → ∀ (a1 : Int32), ∃ r, fX7_count σ a1 = some r ∧ fX8_count μ a1 = some r
def l_sims (P : zS → zS → Prop) : Prop := s_price P ∧ s_priceOf P ∧ s_tell P ∧ s_take P ∧ s_tally P ∧ s_at P ∧ s_size P ∧ s_wipe P ∧ s_copy P ∧ s_undo P ∧ s_often P ∧ s_top P ∧ s_isSimple P ∧ s_lean P ∧ s_test P ∧ s_counted P ∧ s_dual P ∧ s_into P ∧ s_verdict P ∧ s_tree P ∧ s_node P ∧ s_keys P ∧ s_support P ∧ s_border P ∧ s_make P ∧ s_rule P ∧ s_worth P ∧ s_best P ∧ s_ranked P ∧ s_sums P ∧ s_sheet P ∧ s_cell P ∧ s_read P ∧ s_packs P ∧ s_unpacks P ∧ s_freqs P ∧ s_image P ∧ s_back P ∧ s_count P
/-! the law -/
abbrev l_M (Y : zY) (aM : Nat → Nat) : zY := (Y.1, Y.2.1, aM, Y.2.2.2)
def l_ok (Y : zY) (aM : Nat → Nat) (A : Nat → Prop) (p : Program) (s : State) (m : MethodId) (args : Array Value) (c : Code) (b L : Nat) (xs : Nat → Int32) : Prop :=
  p.tables.exec = Jvm.exec ∧ c.code = cL_law ∧ c.maxLocals = 4 ∧ s.vm.findClass RL = some m.cls ∧ (∀ w ∈ z_TB, w.before args s = true) ∧ va_K Y.1 z_cls (z_tys Y) s ∧ z_st A Y s s.heap ∧ z_inj ΛX Y ∧ z_inj ΛM (l_M Y aM) ∧ (∀ q, z_A ΛX Y q → A q) ∧ (∀ q, z_A ΛM (l_M Y aM) q → A q) ∧ (∀ q, z_A ΛX Y q → ¬ z_A ΛM (l_M Y aM) q) ∧ va_X b L xs s s.heap ∧ b < s.heap.size ∧ ¬ A b
def l_G (p : Program) (l : Launch) (e : Env) (s : State) (m : MethodId) (args : Array Value) (below : List Frame) (meth : Method) (c : Code) (Q : State → Prop) (Y : zY) (aM : Nat → Nat) (A : Nat → Prop) (σ μ : zS) (lv : List (Nat × Value)) (pc : Nat) (st : List Value) : Prop :=
  ∀ (H : Heap) (locs : List Loc) (ls : Array Slot), va_P Y.1 z_cls (z_wl ΛX Y σ) H → va_P Y.1 z_cls (z_wl ΛM (l_M Y aM) μ) H → va_S A s.heap H locs → lv_has ls 4 lv → W p l e room_1 s m args below meth c H locs 120 12862 Q (F0 m pc ls st)
section LROWS
variable {p : Program} {l : Launch} {e : Env} {s : State} {m : MethodId} {args : Array Value} {below : List Frame} {meth : Method} {c : Code} {Q : State → Prop} {Y : zY} {aM : Nat → Nat} {A : Nat → Prop} {b L : Nat} {xs : Nat → Int32} {σ μ : zS} {lv lv' : List (Nat × Value)} {pc pc' tgt : Nat} {rest : List Value}

theorem l_iconst (O : l_ok Y aM A p s m args c b L xs) {n : Int} {v : Int32} (hd : z_d cL_law pc (.iconst n) 1 pc') (hv : Int32.ofInt n = v) (k : l_G p l e s m args below meth c Q Y aM A σ μ lv pc' (.int v :: rest)) : l_G p l e s m args below meth c Q Y aM A σ μ lv pc rest := by
  obtain ⟨hd, rfl⟩ := hd
  exact fun H locs ls hX hM hS hl => lv_iconst O.1 O.2.1 hd hv (k H locs ls hX hM hS hl)

theorem l_bipush (O : l_ok Y aM A p s m args c b L xs) {n : Int} {v : Int32} (hd : z_d cL_law pc (.bipush n) 2 pc') (hv : (Int8.ofInt n).toInt32 = v) (k : l_G p l e s m args below meth c Q Y aM A σ μ lv pc' (.int v :: rest)) : l_G p l e s m args below meth c Q Y aM A σ μ lv pc rest := by
  obtain ⟨hd, rfl⟩ := hd
  exact fun H locs ls hX hM hS hl => lv_bipush O.1 O.2.1 hd hv (k H locs ls hX hM hS hl)

theorem l_iload_n (O : l_ok Y aM A p s m args c b L xs) {k : Fin 4} {i : Nat} {x : Int32} (hd : z_d cL_law pc (.iload_n k) 1 pc') (hi : (k : Nat) = i) (q : Nat) (hq : lv[q]? = some (i, .int x)) (k : l_G p l e s m args below meth c Q Y aM A σ μ lv pc' (.int x :: rest)) : l_G p l e s m args below meth c Q Y aM A σ μ lv pc rest := by
  obtain ⟨hd, rfl⟩ := hd
  exact fun H locs ls hX hM hS hl => lv_iload_n O.1 O.2.1 hd hi (lv_at hl q hq) (k H locs ls hX hM hS hl)

theorem l_aload_n (O : l_ok Y aM A p s m args c b L xs) {k : Fin 4} {i : Nat} {x : Nat} (hd : z_d cL_law pc (.aload_n k) 1 pc') (hi : (k : Nat) = i) (q : Nat) (hq : lv[q]? = some (i, .ref x)) (k : l_G p l e s m args below meth c Q Y aM A σ μ lv pc' (.ref x :: rest)) : l_G p l e s m args below meth c Q Y aM A σ μ lv pc rest := by
  obtain ⟨hd, rfl⟩ := hd
  exact fun H locs ls hX hM hS hl => lv_aload_n O.1 O.2.1 hd hi (lv_at hl q hq) (k H locs ls hX hM hS hl)

theorem l_iadd (O : l_ok Y aM A p s m args c b L xs) {x y : Int32} (hd : z_d cL_law pc (.iadd) 1 pc') (k : l_G p l e s m args below meth c Q Y aM A σ μ lv pc' (.int (x + y) :: rest)) : l_G p l e s m args below meth c Q Y aM A σ μ lv pc (.int y :: .int x :: rest) := by
  obtain ⟨hd, rfl⟩ := hd
  exact fun H locs ls hX hM hS hl => lv_iadd O.1 O.2.1 hd (k H locs ls hX hM hS hl)

theorem l_isub (O : l_ok Y aM A p s m args c b L xs) {x y : Int32} (hd : z_d cL_law pc (.isub) 1 pc') (k : l_G p l e s m args below meth c Q Y aM A σ μ lv pc' (.int (x - y) :: rest)) : l_G p l e s m args below meth c Q Y aM A σ μ lv pc (.int y :: .int x :: rest) := by
  obtain ⟨hd, rfl⟩ := hd
  exact fun H locs ls hX hM hS hl => lv_isub O.1 O.2.1 hd (k H locs ls hX hM hS hl)

theorem l_iand (O : l_ok Y aM A p s m args c b L xs) {x y : Int32} (hd : z_d cL_law pc (.iand) 1 pc') (k : l_G p l e s m args below meth c Q Y aM A σ μ lv pc' (.int (x &&& y) :: rest)) : l_G p l e s m args below meth c Q Y aM A σ μ lv pc (.int y :: .int x :: rest) := by
  obtain ⟨hd, rfl⟩ := hd
  exact fun H locs ls hX hM hS hl => lv_iand O.1 O.2.1 hd (k H locs ls hX hM hS hl)

theorem l_land (O : l_ok Y aM A p s m args c b L xs) {x y : Int64} (hd : z_d cL_law pc (.land) 1 pc') (k : l_G p l e s m args below meth c Q Y aM A σ μ lv pc' (.long (x &&& y) :: rest)) : l_G p l e s m args below meth c Q Y aM A σ μ lv pc (.long y :: .long x :: rest) := by
  obtain ⟨hd, rfl⟩ := hd
  exact fun H locs ls hX hM hS hl => lv_land O.1 O.2.1 hd (k H locs ls hX hM hS hl)

theorem l_lor (O : l_ok Y aM A p s m args c b L xs) {x y : Int64} (hd : z_d cL_law pc (.lor) 1 pc') (k : l_G p l e s m args below meth c Q Y aM A σ μ lv pc' (.long (x ||| y) :: rest)) : l_G p l e s m args below meth c Q Y aM A σ μ lv pc (.long y :: .long x :: rest) := by
  obtain ⟨hd, rfl⟩ := hd
  exact fun H locs ls hX hM hS hl => lv_lor O.1 O.2.1 hd (k H locs ls hX hM hS hl)

theorem l_i2l (O : l_ok Y aM A p s m args c b L xs) {x : Int32} (hd : z_d cL_law pc (.i2l) 1 pc') (k : l_G p l e s m args below meth c Q Y aM A σ μ lv pc' (.long x.toInt64 :: rest)) : l_G p l e s m args below meth c Q Y aM A σ μ lv pc (.int x :: rest) := by
  obtain ⟨hd, rfl⟩ := hd
  exact fun H locs ls hX hM hS hl => lv_i2l O.1 O.2.1 hd rfl (k H locs ls hX hM hS hl)

theorem l_lshl (O : l_ok Y aM A p s m args c b L xs) {x : Int64} {y : Int32} (hd : z_d cL_law pc (.lshl) 1 pc') (k : l_G p l e s m args below meth c Q Y aM A σ μ lv pc' (.long (x <<< (y.toInt64 &&& 63)) :: rest)) : l_G p l e s m args below meth c Q Y aM A σ μ lv pc (.int y :: .long x :: rest) := by
  obtain ⟨hd, rfl⟩ := hd
  exact fun H locs ls hX hM hS hl => lv_lshl O.1 O.2.1 hd rfl (k H locs ls hX hM hS hl)

theorem l_ldc2 (O : l_ok Y aM A p s m args c b L xs) {index : Nat} {v : Int64} (hw : Cond.constantLong RL index v ∈ z_TB) (hd : z_d cL_law pc (.ldc2_w index) 3 pc') (k : l_G p l e s m args below meth c Q Y aM A σ μ lv pc' (.long v :: rest)) : l_G p l e s m args below meth c Q Y aM A σ μ lv pc rest := by
  obtain ⟨hd, rfl⟩ := hd
  exact fun H locs ls hX hM hS hl => lv_ldc2 O.1 O.2.1 O.2.2.2.1 (O.2.2.2.2.1 _ hw) hd (k H locs ls hX hM hS hl)

theorem l_lcmp (O : l_ok Y aM A p s m args c b L xs) {x : Int64} (hd : z_d cL_law pc .lcmp 1 pc') (k : l_G p l e s m args below meth c Q Y aM A σ μ lv pc' (.int 0 :: rest)) : l_G p l e s m args below meth c Q Y aM A σ μ lv pc (.long x :: .long x :: rest) := by
  obtain ⟨hd, rfl⟩ := hd
  refine fun H locs ls hX hM hS hl => W.lcmp O.1 O.2.1 hd ?_
  have e : lg_cmp x x = 0 := by
    unfold lg_cmp
    rw [if_neg (by simp), if_pos rfl]
  rw [e]
  exact k H locs ls hX hM hS hl

theorem l_icmp_eq (O : l_ok Y aM A p s m args c b L xs) {x : Int32} {off : Int} (hd : z_b cL_law pc (.if_icmp .eq off) off pc' tgt) (k : l_G p l e s m args below meth c Q Y aM A σ μ lv tgt rest) : l_G p l e s m args below meth c Q Y aM A σ μ lv pc (.int x :: .int x :: rest) := by
  obtain ⟨hd, -, ht⟩ := hd
  exact fun H locs ls hX hM hS hl => lv_icmp_eq O.1 O.2.1 hd ht (fun _ => k H locs ls hX hM hS hl) (fun h => absurd rfl h)

theorem l_if_eq (O : l_ok Y aM A p s m args c b L xs) {off : Int} (hd : z_b cL_law pc (.ifCond .eq off) off pc' tgt) (k : l_G p l e s m args below meth c Q Y aM A σ μ lv tgt rest) : l_G p l e s m args below meth c Q Y aM A σ μ lv pc (.int 0 :: rest) := by
  obtain ⟨hd, -, ht⟩ := hd
  exact fun H locs ls hX hM hS hl => lv_if_eq O.1 O.2.1 hd ht (fun _ => k H locs ls hX hM hS hl) (fun h => absurd rfl h)

theorem l_icmp_gt (O : l_ok Y aM A p s m args c b L xs) {x y : Int32} {off : Int} (hd : z_b cL_law pc (.if_icmp .gt off) off pc' tgt) (kt : y < x → l_G p l e s m args below meth c Q Y aM A σ μ lv tgt rest) (kf : ¬ y < x → l_G p l e s m args below meth c Q Y aM A σ μ lv pc' rest) : l_G p l e s m args below meth c Q Y aM A σ μ lv pc (.int y :: .int x :: rest) := by
  obtain ⟨hd, rfl, ht⟩ := hd
  exact fun H locs ls hX hM hS hl => lv_icmp_gt O.1 O.2.1 hd ht (fun h => kt h H locs ls hX hM hS hl) (fun h => kf h H locs ls hX hM hS hl)

theorem l_goto (O : l_ok Y aM A p s m args c b L xs) {off : Int} (hd : z_b cL_law pc (.goto off) off pc' tgt) (k : l_G p l e s m args below meth c Q Y aM A σ μ lv tgt rest) : l_G p l e s m args below meth c Q Y aM A σ μ lv pc rest := by
  obtain ⟨hd, -, ht⟩ := hd
  exact fun H locs ls hX hM hS hl => lv_goto O.1 O.2.1 hd ht (k H locs ls hX hM hS hl)

theorem l_iinc (O : l_ok Y aM A p s m args c b L xs) {i : Nat} {n : Int} {x v : Int32} (hd : z_d cL_law pc (.iinc i n) 3 pc') (q : Nat) (hk : lv[q]? = some (i, .int x)) (hv : x + Int32.ofInt n = v) (hn : i < 4) (hl' : (i, Value.int v) :: lv.filter (fun q => !(q.1 == i) && !(q.1 + 1 == i && q.2.category == 2)) = lv') (k : l_G p l e s m args below meth c Q Y aM A σ μ lv' pc' rest) : l_G p l e s m args below meth c Q Y aM A σ μ lv pc rest := by
  obtain ⟨hd, rfl⟩ := hd
  exact fun H locs ls hX hM hS hl => lv_iinc O.1 O.2.1 hd hl hk hv hn hl' (fun ls hl => k H locs ls hX hM hS hl)

theorem l_sub (ks : List Nat) (h : lv_pick lv ks = lv') (k : l_G p l e s m args below meth c Q Y aM A σ μ lv' pc rest) : l_G p l e s m args below meth c Q Y aM A σ μ lv pc rest := fun H locs ls hX hM hS hl => k H locs ls hX hM hS (lv_sub hl ks h)

theorem l_tabO (O : l_ok Y aM A p s m args c b L xs) {dflt lo hi : Int} {offs : Array Int} {len : Nat} {x : Int32} (hd : decode cL_law pc = .ok (.tableswitch dflt lo hi offs, len)) (h : x.toInt < lo ∨ hi < x.toInt) (ht : (pc : Int) + dflt = (tgt : Int)) (k : l_G p l e s m args below meth c Q Y aM A σ μ lv tgt rest) : l_G p l e s m args below meth c Q Y aM A σ μ lv pc (.int x :: rest) := fun H locs ls hX hM hS hl => lv_tableOut O.1 O.2.1 hd h ht (k H locs ls hX hM hS hl)

theorem l_tabI (O : l_ok Y aM A p s m args c b L xs) {dflt lo hi : Int} {offs : Array Int} {len : Nat} {x : Int32} {off : Int} (hd : decode cL_law pc = .ok (.tableswitch dflt lo hi offs, len)) (h1 : ¬ x.toInt < lo) (h2 : ¬ hi < x.toInt) (ho : offs[(x.toInt - lo).toNat]? = some off) (ht : (pc : Int) + off = (tgt : Int)) (k : l_G p l e s m args below meth c Q Y aM A σ μ lv tgt rest) : l_G p l e s m args below meth c Q Y aM A σ μ lv pc (.int x :: rest) := fun H locs ls hX hM hS hl => lv_tableIn O.1 O.2.1 hd h1 h2 ho ht (k H locs ls hX hM hS hl)

theorem l_slen (O : l_ok Y aM A p s m args c b L xs) (hd : z_d cL_law pc .arraylength 1 pc') (k : l_G p l e s m args below meth c Q Y aM A σ μ lv pc' (.int (nI L) :: rest)) : l_G p l e s m args below meth c Q Y aM A σ μ lv pc (.ref b :: rest) := by
  obtain ⟨hd, rfl⟩ := hd
  obtain ⟨-, -, -, -, -, -, -, -, -, -, -, -, hx, hbl, hbA⟩ := id O
  exact fun H locs ls hX hM hS hl => va_slen O.1 O.2.1 hx hbl hbA hS hd (k H locs ls hX hM hS hl)

theorem l_sld (O : l_ok Y aM A p s m args c b L xs) {x : Int32} (j : Nat) (hx : x = nI j) (hj : j < L) (hL : L < 2 ^ 31) (hd : z_d cL_law pc .iaload 1 pc') (k : l_G p l e s m args below meth c Q Y aM A σ μ lv pc' (.int (xs j) :: rest)) : l_G p l e s m args below meth c Q Y aM A σ μ lv pc (.int x :: .ref b :: rest) := by
  obtain ⟨hd, rfl⟩ := hd
  obtain ⟨-, -, -, -, -, -, -, -, -, -, -, -, hs, hbl, hbA⟩ := id O
  subst hx
  refine fun H locs ls hX hM hS hl => va_sld O.1 O.2.1 hs hbl hbA hS (vp_in_nI hj hL) hd ?_
  rw [nI_clamp (by omega)]
  exact k H locs ls hX hM hS hl

end LROWS
section LCALL
variable {p : Program} {l : Launch} {e : Env} {s : State} {m : MethodId} {args : Array Value} {below : List Frame} {meth : Method} {c : Code} {Q : State → Prop} {Y : zY} {aM : Nat → Nat} {A : Nat → Prop} {b L : Nat} {xs : Nat → Int32} {σ μ : zS} {lv lv' : List (Nat × Value)} {pc pc' r' n maxL index : Nat} {rest st0 As : List Value} {y : MethodName} {bytes : ByteArray} {ret : Option FieldType} {Qc : Array Value → State → Outcome → State → Prop}
theorem l_cB (O : l_ok Y aM A p s m args c b L xs) (w : z_ci y bytes maxL ret n) (hl : Cond.methodLink RL index y ∈ z_TB) (hr : r' ≤ 1000) : CallB room_1 s args RL index y bytes maxL ret (Cond.code y bytes maxL ret :: z_TB) (z_rm r') 0 0 n :=
  callB_of n O.2.2.2.2.1 (z_gin w.1) rfl rfl rfl (O.2.2.2.2.1 _ w.2.1) (O.2.2.2.2.1 _ hl) w.2.2.1 ⟨by show r' + 1 ≤ 2048; omega, by have := w.2.2.2; show 8 + (maxL + 11) + 64 * r' ≤ 84000; omega⟩
theorem l_runX {H : Heap} {locs : List Loc} {ls : Array Slot} (O : l_ok Y aM A p s m args c b L xs) (hM : Met l y (Cond.code y bytes maxL ret :: z_TB) (z_rm r') (z_Pc ΛX Y σ (.ref (z_ad Y 0) :: As)) Qc 0 0 (z_A ΛX Y)) (w : z_cv y bytes maxL ret n) (hl : Cond.methodLink RL index y ∈ z_TB) (hr : r' ≤ 1000) (hq : RX7 = y.cls) (hn : As.length = n) (hst : st0 = As.reverse ++ .ref (z_ad Y 0) :: rest) (hW : (rest.map fun v => v.category).sum ≤ 8) (hd : decode cL_law pc = .ok (.invokevirtual index, 3))
    (hP : va_P Y.1 z_cls (z_wl ΛX Y σ) H) (hS : va_S A s.heap H locs) (hls : ls.size = 4) : va_Run p l e room_1 s m args below meth c H locs 120 12862 0 0 (F0 m pc ls st0) rest (Qc (Value.ref (z_ad Y 0) :: As).toArray) (z_A ΛX Y) := by
  obtain ⟨o1, o2, o3, o4, o5, o6, o7, o8, o9, o10, o11, o12, o13, o14, o15⟩ := id O
  refine va_runV (C := y.cls) ⟨o1, o2, o3, o4, o5⟩ hM ⟨l_cB O w.1 hl hr, o5 _ w.2.1, o5 _ w.2.2⟩ ⟨z_blind, by rw [← hq]; exact va_recv o6 hP (ci := 7) (q := (RX7, TX7, 11)) rfl (q0 := 0) (fs := z_flO (z_ad Y) (σ.1 0)) (by rw [z_wl_get fx_obj.1, fx_obj.2]), fun U hU hW => ⟨rfl, by show va_P _ _ _ U.heap; rw [hU]; exact hP, va_K.moved hW.alike o6, ?_⟩⟩ rfl hn hls hst (lv_room hW) hd ⟨Nat.le_of_ble_eq_true rfl, Nat.le_of_ble_eq_true rfl⟩
  obtain ⟨g1, g2, g3, g4, g5⟩ := z_st_to hW hU hS o7
  exact ⟨g1.narrow o10, g2.narrow o10, g3.narrow o10, g4.narrow o10, g5⟩
theorem l_runM {H : Heap} {locs : List Loc} {ls : Array Slot} (O : l_ok Y aM A p s m args c b L xs) (hM : Met l y (Cond.code y bytes maxL ret :: z_TB) (z_rm r') (z_Pc ΛM (l_M Y aM) μ (.ref (aM 0) :: As)) Qc 0 0 (z_A ΛM (l_M Y aM))) (w : z_cv y bytes maxL ret n) (hl : Cond.methodLink RL index y ∈ z_TB) (hr : r' ≤ 1000) (hq : RX8 = y.cls) (hn : As.length = n) (hst : st0 = As.reverse ++ .ref (aM 0) :: rest) (hW : (rest.map fun v => v.category).sum ≤ 8) (hd : decode cL_law pc = .ok (.invokevirtual index, 3))
    (hP : va_P Y.1 z_cls (z_wl ΛM (l_M Y aM) μ) H) (hS : va_S A s.heap H locs) (hls : ls.size = 4) : va_Run p l e room_1 s m args below meth c H locs 120 12862 0 0 (F0 m pc ls st0) rest (Qc (Value.ref (aM 0) :: As).toArray) (z_A ΛM (l_M Y aM)) := by
  obtain ⟨o1, o2, o3, o4, o5, o6, o7, o8, o9, o10, o11, o12, o13, o14, o15⟩ := id O
  refine va_runV (C := y.cls) ⟨o1, o2, o3, o4, o5⟩ hM ⟨l_cB O w.1 hl hr, o5 _ w.2.1, o5 _ w.2.2⟩ ⟨z_blind, by rw [← hq]; exact va_recv o6 hP (ci := 8) (q := (RX8, TX8, 39)) rfl (q0 := 0) (fs := z_flM aM (μ.1 0)) (by rw [z_wl_get fm_obj.1, fm_obj.2]), fun U hU hW => ⟨rfl, by show va_P _ _ _ U.heap; rw [hU]; exact hP, va_K.moved hW.alike o6, ?_⟩⟩ rfl hn hls hst (lv_room hW) hd ⟨Nat.le_of_ble_eq_true rfl, Nat.le_of_ble_eq_true rfl⟩
  obtain ⟨g1, g2, g3, g4, g5⟩ := z_st_to hW hU hS o7
  exact ⟨g1.narrow o11, g2.narrow o11, g3.narrow o11, g4.narrow o11, g5⟩
theorem l_keep {Λ : zL} {Y2 : zY} {τ : zS} {B : Nat → Prop} {D : va_G} {H H1 : Heap} (hP : va_P D z_cls (z_wl Λ Y2 τ) H) (hk : ∀ q : Nat, q < H.size → ¬ B q → H1[q]? = H[q]?) (hB : ∀ q, z_A Λ Y2 q → ¬ B q) : va_P D z_cls (z_wl Λ Y2 τ) H1 := hP.kept (fun k q h => by
  obtain ⟨h1, rfl⟩ := z_wl_of h
  exact hk _ ((hP k _ h).lt) (hB _ ⟨k, h1, rfl⟩))

theorem l_cXi {fin : Int32 × zS} (O : l_ok Y aM A p s m args c b L xs) (hM : Met l y (Cond.code y bytes maxL ret :: z_TB) (z_rm r') (z_Pc ΛX Y σ (.ref (z_ad Y 0) :: As)) (z_Qi ΛX Y fin) 0 0 (z_A ΛX Y)) (w : z_cv y bytes maxL ret n) (hl : Cond.methodLink RL index y ∈ z_TB) (hr : r' ≤ 1000) (hq : RX7 = y.cls) (hn : As.length = n) (hst : st0 = As.reverse ++ .ref (z_ad Y 0) :: rest) (hW : (rest.map fun v => v.category).sum ≤ 8) (hd : z_d cL_law pc (.invokevirtual index) 3 pc') (k : l_G p l e s m args below meth c Q Y aM A fin.2 μ lv pc' (.int fin.1 :: rest)) : l_G p l e s m args below meth c Q Y aM A σ μ lv pc st0 := by
  obtain ⟨hd, rfl⟩ := hd
  intro H locs ls hX hMm hS hl'
  obtain ⟨o1, o2, o3, o4, o5, o6, o7, o8, o9, o10, o11, o12, o13, o14, o15⟩ := id O
  exact va_calli (l_runX O hM w hl hr hq hn hst hW hd hX hS hl'.1) hS (fun q _ h => o10 q h) (fun q h => o10 q h) (fun r1 u t H1 locs1 ht _ hp hB _ hk1 hS1 => by
    cases hp
    exact k H1 locs1 ls (by rw [← ht]; exact hB) (l_keep hMm hk1 (fun q h1 h2 => o12 q h2 h1)) hS1 hl')

theorem l_cMi {fin : Int32 × zS} (O : l_ok Y aM A p s m args c b L xs) (hM : Met l y (Cond.code y bytes maxL ret :: z_TB) (z_rm r') (z_Pc ΛM (l_M Y aM) μ (.ref (aM 0) :: As)) (z_Qi ΛM (l_M Y aM) fin) 0 0 (z_A ΛM (l_M Y aM))) (w : z_cv y bytes maxL ret n) (hl : Cond.methodLink RL index y ∈ z_TB) (hr : r' ≤ 1000) (hq : RX8 = y.cls) (hn : As.length = n) (hst : st0 = As.reverse ++ .ref (aM 0) :: rest) (hW : (rest.map fun v => v.category).sum ≤ 8) (hd : z_d cL_law pc (.invokevirtual index) 3 pc') (k : l_G p l e s m args below meth c Q Y aM A σ fin.2 lv pc' (.int fin.1 :: rest)) : l_G p l e s m args below meth c Q Y aM A σ μ lv pc st0 := by
  obtain ⟨hd, rfl⟩ := hd
  intro H locs ls hX hMm hS hl'
  obtain ⟨o1, o2, o3, o4, o5, o6, o7, o8, o9, o10, o11, o12, o13, o14, o15⟩ := id O
  exact va_calli (l_runM O hM w hl hr hq hn hst hW hd hMm hS hl'.1) hS (fun q _ h => o11 q h) (fun q h => o11 q h) (fun r1 u t H1 locs1 ht _ hp hB _ hk1 hS1 => by
    cases hp
    exact k H1 locs1 ls (l_keep hX hk1 (fun q h1 h2 => o12 q h1 h2)) (by rw [← ht]; exact hB) hS1 hl')

theorem l_cXl {fin : Int64 × zS} (O : l_ok Y aM A p s m args c b L xs) (hM : Met l y (Cond.code y bytes maxL ret :: z_TB) (z_rm r') (z_Pc ΛX Y σ (.ref (z_ad Y 0) :: As)) (z_Ql ΛX Y fin) 0 0 (z_A ΛX Y)) (w : z_cv y bytes maxL ret n) (hl : Cond.methodLink RL index y ∈ z_TB) (hr : r' ≤ 1000) (hq : RX7 = y.cls) (hn : As.length = n) (hst : st0 = As.reverse ++ .ref (z_ad Y 0) :: rest) (hW : (rest.map fun v => v.category).sum ≤ 8) (hd : z_d cL_law pc (.invokevirtual index) 3 pc') (k : l_G p l e s m args below meth c Q Y aM A fin.2 μ lv pc' (.long fin.1 :: rest)) : l_G p l e s m args below meth c Q Y aM A σ μ lv pc st0 := by
  obtain ⟨hd, rfl⟩ := hd
  intro H locs ls hX hMm hS hl'
  obtain ⟨o1, o2, o3, o4, o5, o6, o7, o8, o9, o10, o11, o12, o13, o14, o15⟩ := id O
  exact va_calll (l_runX O hM w hl hr hq hn hst hW hd hX hS hl'.1) hS (fun q _ h => o10 q h) (fun q h => o10 q h) (fun r1 u t H1 locs1 ht _ hp hB _ hk1 hS1 => by
    cases hp
    exact k H1 locs1 ls (by rw [← ht]; exact hB) (l_keep hMm hk1 (fun q h1 h2 => o12 q h2 h1)) hS1 hl')

theorem l_cMl {fin : Int64 × zS} (O : l_ok Y aM A p s m args c b L xs) (hM : Met l y (Cond.code y bytes maxL ret :: z_TB) (z_rm r') (z_Pc ΛM (l_M Y aM) μ (.ref (aM 0) :: As)) (z_Ql ΛM (l_M Y aM) fin) 0 0 (z_A ΛM (l_M Y aM))) (w : z_cv y bytes maxL ret n) (hl : Cond.methodLink RL index y ∈ z_TB) (hr : r' ≤ 1000) (hq : RX8 = y.cls) (hn : As.length = n) (hst : st0 = As.reverse ++ .ref (aM 0) :: rest) (hW : (rest.map fun v => v.category).sum ≤ 8) (hd : z_d cL_law pc (.invokevirtual index) 3 pc') (k : l_G p l e s m args below meth c Q Y aM A σ fin.2 lv pc' (.long fin.1 :: rest)) : l_G p l e s m args below meth c Q Y aM A σ μ lv pc st0 := by
  obtain ⟨hd, rfl⟩ := hd
  intro H locs ls hX hMm hS hl'
  obtain ⟨o1, o2, o3, o4, o5, o6, o7, o8, o9, o10, o11, o12, o13, o14, o15⟩ := id O
  exact va_calll (l_runM O hM w hl hr hq hn hst hW hd hMm hS hl'.1) hS (fun q _ h => o11 q h) (fun q h => o11 q h) (fun r1 u t H1 locs1 ht _ hp hB _ hk1 hS1 => by
    cases hp
    exact k H1 locs1 ls (l_keep hX hk1 (fun q h1 h2 => o12 q h1 h2)) (by rw [← ht]; exact hB) hS1 hl')

end LCALL
