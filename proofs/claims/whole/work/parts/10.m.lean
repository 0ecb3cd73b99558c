def fX8_allHeld_L4 (σ : zS) (k : Int32 → Int32 → Option (Int32)) : Nat → Int32 → Int32 → Option (Int32)
  | 0, _, _ => none
  | n + 1, v1, v2 => (if (4 : Int32) ≤ v2 then k v1 v2 else z_gd (z_in v2 4) (z_lt (v1 + (σ.1 2 v2.toNatClampNeg)) (fun (x1 : Int32) => fX8_allHeld_L4 σ k n x1 (v2 + (1 : Int32)))))
theorem kX8_allHeld_L4 {l : Launch} {Y : zY} {fin : Int32} {p : Program} {e : Env} {s : State} {m : MethodId} {args : Array Value} {below : List Frame} {meth : Method} {c : Code} {σ : zS} (O : z_ok ΛM Y p s m args c cX8_allHeld RX8 3) (hi : z_inj ΛM Y) (hr : meth.sig.returnType = (some .int)) (hlk : meth.locks = false)  {k : Int32 → Int32 → Option (Int32)} (hk : ∀ (z1 : Int32) (z2 : Int32), k z1 z2 = some fin → z_G p l e (z_rm 1) s m args below meth c (MQ below (z_Qi ΛM Y (fin, σ)) args s 0 0 (z_A ΛM Y)) ΛM Y 3 σ [(0, .ref (z_ad Y 0)), (1, .int z1), (2, .int z2)] 24 []) : ∀ (n : Nat) (v1 : Int32) (v2 : Int32), fX8_allHeld_L4 σ k n v1 v2 = some fin → z_G p l e (z_rm 1) s m args below meth c (MQ below (z_Qi ΛM Y (fin, σ)) args s 0 0 (z_A ΛM Y)) ΛM Y 3 σ [(0, .ref (z_ad Y 0)), (1, .int v1), (2, .int v2)] 4 [] := by
  intro n
  induction n with
  | zero =>
    intro _ _ h
    cases h
  | succ n ih =>
    intro v1 v2 h
    rw [fX8_allHeld_L4.eq_2] at h
    refine z_iload_n O dzX8_allHeld_4 rfl 2 rfl ?_
    refine z_iconst O dzX8_allHeld_5 hcI4 ?_
    refine z_icmp_ge O dzX8_allHeld_6 (fun c1 => ?_) (fun c1 => ?_)
    · have h := z_if_t c1 h
      exact hk _ _ h
    · have h := z_if_f c1 h
      refine z_iload_n O dzX8_allHeld_9 rfl 1 rfl ?_
      refine z_aload_n O dzX8_allHeld_10 rfl 0 rfl ?_
      refine z_get O z_cb8 fm_obj (v := .ref (z_ad Y 2)) 1 (Nat.le_of_ble_eq_true rfl) tw_750 rfl dzX8_allHeld_11 ?_
      refine z_iload_n O dzX8_allHeld_14 rfl 2 rfl ?_
      obtain ⟨g1, h⟩ := z_gd_at h
      refine z_iald O fm_sizes g1 dzX8_allHeld_15 ?_
      refine z_iadd O dzX8_allHeld_16 ?_
      refine z_topi (fun x1 e1 => ?_)
      have h := z_lt_at e1 h
      refine z_istore_n O (lv' := [(1, .int x1), (0, .ref (z_ad Y 0)), (2, .int v2)]) dzX8_allHeld_17 rfl (by decide) rfl ?_
      refine z_iinc O (lv' := [(2, .int (v2 + (1 : Int32))), (1, .int x1), (0, .ref (z_ad Y 0))]) dzX8_allHeld_18 2 rfl (congrArg _ hcI1) (by decide) rfl ?_
      refine z_goto O dzX8_allHeld_21 ?_
      refine z_sub [2, 1, 0] rfl ?_
      exact ih _ _ h
def fX8_allHeld (σ : zS) : Option (Int32) :=
  fX8_allHeld_L4 σ (fun (x1 : Int32) (x2 : Int32) => some x1) z_F (0 : Int32) (0 : Int32)
theorem kX8_allHeld {l : Launch} {Y : zY} (hi : z_inj ΛM Y) {σ : zS}  {fin : Int32} (h : fX8_allHeld σ = some fin) : Met l yX8_allHeld (Cond.code yX8_allHeld cX8_allHeld 3 (some .int) :: z_TB) (z_rm 1) (z_Pc ΛM Y σ [.ref (z_ad Y 0)]) (z_Qi ΛM Y (fin, σ)) 0 0 (z_A ΛM Y) := by
  unfold fX8_allHeld at h
  refine z_met [(0, .ref (z_ad Y 0))] rfl (Nat.le_of_ble_eq_true rfl) (plainFor_of_name (by decide)) hi ?_
  intro p e s m args below meth c O hr hlk
  refine z_iconst O dzX8_allHeld_0 hcI0 ?_
  refine z_istore_n O (lv' := [(1, .int (0 : Int32)), (0, .ref (z_ad Y 0))]) dzX8_allHeld_1 rfl (by decide) rfl ?_
  refine z_iconst O dzX8_allHeld_2 hcI0 ?_
  refine z_istore_n O (lv' := [(2, .int (0 : Int32)), (1, .int (0 : Int32)), (0, .ref (z_ad Y 0))]) dzX8_allHeld_3 rfl (by decide) rfl ?_
  refine z_sub [2, 1, 0] rfl ?_
  refine kX8_allHeld_L4 O hi hr hlk   (fun x1 x2 h => ?_) _ _ _ h
  refine z_iload_n O dzX8_allHeld_24 rfl 1 rfl ?_
  exact z_iret O hr hlk dzX8_allHeld_25 (z_rf h)
def fX8_in (a0 : Int64) (a2 : Int64) (a4 : Int64) : Option (Int32) :=
  (if (lg_cmp a0 a2) < 0 then some (0 : Int32) else (if 0 < (lg_cmp a0 a4) then some (0 : Int32) else some (1 : Int32)))
theorem kX8_in {l : Launch} {Y : zY} (hi : z_inj ΛM Y) {σ : zS} {a0 : Int64} {a2 : Int64} {a4 : Int64} {fin : Int32} (h : fX8_in a0 a2 a4 = some fin) : Met l yX8_in (Cond.code yX8_in cX8_in 6 (some .boolean) :: z_TB) (z_rm 1) (z_Pc ΛM Y σ [.long a0, .long a2, .long a4]) (z_Qi ΛM Y (fin, σ)) 0 0 (z_A ΛM Y) := by
  unfold fX8_in at h
  refine z_met [(0, .long a0), (2, .long a2), (4, .long a4)] rfl (Nat.le_of_ble_eq_true rfl) (plainFor_of_name (by decide)) hi ?_
  intro p e s m args below meth c O hr hlk
  refine z_lload_n O dzX8_in_0 rfl 0 rfl ?_
  refine z_lload_n O dzX8_in_1 rfl 1 rfl ?_
  refine z_lcmp O dzX8_in_2 ?_
  refine z_if_lt O dzX8_in_3 (fun c2 => ?_) (fun c2 => ?_)
  · have h := z_if_t c2 h
    refine z_iconst O dzX8_in_17 hcI0 ?_
    exact z_zret O hr hlk rfl dzX8_in_18 (z_rf h)
  · have h := z_if_f c2 h
    refine z_lload_n O dzX8_in_6 rfl 0 rfl ?_
    refine z_lload O dzX8_in_7 2 rfl ?_
    refine z_lcmp O dzX8_in_9 ?_
    refine z_if_gt O dzX8_in_10 (fun c1 => ?_) (fun c1 => ?_)
    · have h := z_if_t c1 h
      refine z_iconst O dzX8_in_17 hcI0 ?_
      exact z_zret O hr hlk rfl dzX8_in_18 (z_rf h)
    · have h := z_if_f c1 h
      refine z_iconst O dzX8_in_13 hcI1 ?_
      refine z_goto O dzX8_in_14 ?_
      exact z_zret O hr hlk rfl dzX8_in_18 (z_rf h)
def fX8_isFamily (a0 : Int32) : Option (Int32) :=
  (fX8_in (a0.toInt64) (0 : Int64) (3 : Int64)).bind (fun r1 => z_gd (z_bz r1) (some r1))
theorem kX8_isFamily {l : Launch} {Y : zY} (hi : z_inj ΛM Y) {σ : zS} {a0 : Int32} {fin : Int32} (h : fX8_isFamily a0 = some fin) : Met l yX8_isFamily (Cond.code yX8_isFamily cX8_isFamily 1 (some .boolean) :: z_TB) (z_rm 2) (z_Pc ΛM Y σ [.int a0]) (z_Qi ΛM Y (fin, σ)) 0 0 (z_A ΛM Y) := by
  unfold fX8_isFamily at h
  refine z_met [(0, .int a0)] rfl (Nat.le_of_ble_eq_true rfl) (plainFor_of_name (by decide)) hi ?_
  intro p e s m args below meth c O hr hlk
  refine z_iload_n O dzX8_isFamily_0 rfl 0 rfl ?_
  refine z_i2l O dzX8_isFamily_1 ?_
  refine z_lconst O dzX8_isFamily_2 (v := 0) rfl ?_
  refine z_ldc2 O tw_895 dzX8_isFamily_3 ?_
  obtain ⟨r1, hc1, h⟩ := z_bd_at h
  refine z_callSiR O (As := [.long (a0.toInt64), .long (0 : Int64), .long (3 : Int64)]) (rest := []) (kX8_in hi hc1) mX8_in tw_876 (Nat.le_of_ble_eq_true rfl) rfl rfl (Nat.le_of_ble_eq_true rfl) dzX8_isFamily_6 ?_
  obtain ⟨g1, h⟩ := z_gd_at h
  exact z_zret O hr hlk (z_bz_n g1) dzX8_isFamily_9 (z_rf h)
def fX8_setOf (σ : zS) (a1 : Int32) (a2 : Int32) : Option (Int32) :=
  z_gd (z_in (((40 : Int32) * a1) + a2) 160) (some (σ.1 3 (((40 : Int32) * a1) + a2).toNatClampNeg))
theorem kX8_setOf {l : Launch} {Y : zY} (hi : z_inj ΛM Y) {σ : zS} {a1 : Int32} {a2 : Int32} {fin : Int32} (h : fX8_setOf σ a1 a2 = some fin) : Met l yX8_setOf (Cond.code yX8_setOf cX8_setOf 3 (some .int) :: z_TB) (z_rm 1) (z_Pc ΛM Y σ [.ref (z_ad Y 0), .int a1, .int a2]) (z_Qi ΛM Y (fin, σ)) 0 0 (z_A ΛM Y) := by
  unfold fX8_setOf at h
  refine z_met [(0, .ref (z_ad Y 0)), (1, .int a1), (2, .int a2)] rfl (Nat.le_of_ble_eq_true rfl) (plainFor_of_name (by decide)) hi ?_
  intro p e s m args below meth c O hr hlk
  refine z_aload_n O dzX8_setOf_0 rfl 0 rfl ?_
  refine z_get O z_cb8 fm_obj (v := .ref (z_ad Y 3)) 2 (Nat.le_of_ble_eq_true rfl) tw_751 rfl dzX8_setOf_1 ?_
  refine z_bipush O dzX8_setOf_4 hcB40 ?_
  refine z_iload_n O dzX8_setOf_6 rfl 1 rfl ?_
  refine z_imul O dzX8_setOf_7 ?_
  refine z_iload_n O dzX8_setOf_8 rfl 2 rfl ?_
  refine z_iadd O dzX8_setOf_9 ?_
  obtain ⟨g1, h⟩ := z_gd_at h
  refine z_iald O fm_sets g1 dzX8_setOf_10 ?_
  exact z_iret O hr hlk dzX8_setOf_11 (z_rf h)
def fX8_at (σ : zS) (a1 : Int32) (a2 : Int32) : Option (Int32) :=
  (fX8_isFamily a1).bind (fun r1 => (if r1 = 0 then some (-2 : Int32) else z_gd (z_in a1 4) ((fX8_in (a2.toInt64) (0 : Int64) (((σ.1 2 a1.toNatClampNeg) - (1 : Int32)).toInt64)).bind (fun r2 => (if r2 = 0 then some (-12 : Int32) else (fX8_setOf σ a1 a2).bind (fun r3 => some r3))))))
theorem kX8_at {l : Launch} {Y : zY} (hi : z_inj ΛM Y) {σ : zS} {a1 : Int32} {a2 : Int32} {fin : Int32} (h : fX8_at σ a1 a2 = some fin) : Met l yX8_at (Cond.code yX8_at cX8_at 3 (some .int) :: z_TB) (z_rm 3) (z_Pc ΛM Y σ [.ref (z_ad Y 0), .int a1, .int a2]) (z_Qi ΛM Y (fin, σ)) 0 0 (z_A ΛM Y) := by
  unfold fX8_at at h
  refine z_met [(0, .ref (z_ad Y 0)), (1, .int a1), (2, .int a2)] rfl (Nat.le_of_ble_eq_true rfl) (plainFor_of_name (by decide)) hi ?_
  intro p e s m args below meth c O hr hlk
  refine z_iload_n O dzX8_at_0 rfl 1 rfl ?_
  obtain ⟨r1, hc1, h⟩ := z_bd_at h
  refine z_callSiR O (As := [.int a1]) (rest := []) (kX8_isFamily hi hc1) mX8_isFamily tw_892 (Nat.le_of_ble_eq_true rfl) rfl rfl (Nat.le_of_ble_eq_true rfl) dzX8_at_1 ?_
  refine z_if_ne O dzX8_at_4 (fun c2 => ?_) (fun c2 => ?_)
  · have h := z_if_f c2 h
    refine z_iload_n O dzX8_at_12 rfl 2 rfl ?_
    refine z_i2l O dzX8_at_13 ?_
    refine z_lconst O dzX8_at_14 (v := 0) rfl ?_
    refine z_aload_n O dzX8_at_15 rfl 0 rfl ?_
    refine z_get O z_cb8 fm_obj (v := .ref (z_ad Y 2)) 1 (Nat.le_of_ble_eq_true rfl) tw_750 rfl dzX8_at_16 ?_
    refine z_iload_n O dzX8_at_19 rfl 1 rfl ?_
    obtain ⟨g1, h⟩ := z_gd_at h
    refine z_iald O fm_sizes g1 dzX8_at_20 ?_
    refine z_iconst O dzX8_at_21 hcI1 ?_
    refine z_isub O dzX8_at_22 ?_
    refine z_i2l O dzX8_at_23 ?_
    obtain ⟨r2, hc2, h⟩ := z_bd_at h
    refine z_callSiR O (As := [.long (a2.toInt64), .long (0 : Int64), .long (((σ.1 2 a1.toNatClampNeg) - (1 : Int32)).toInt64)]) (rest := []) (kX8_in hi hc2) mX8_in tw_876 (Nat.le_of_ble_eq_true rfl) rfl rfl (Nat.le_of_ble_eq_true rfl) dzX8_at_24 ?_
    refine z_if_eq O dzX8_at_27 (fun c1 => ?_) (fun c1 => ?_)
    · have h := z_if_t c1 h
      refine z_bipush O dzX8_at_39 hcBm12 ?_
      exact z_iret O hr hlk dzX8_at_41 (z_rf h)
    · have h := z_if_f c1 h
      refine z_aload_n O dzX8_at_30 rfl 0 rfl ?_
      refine z_iload_n O dzX8_at_31 rfl 1 rfl ?_
      refine z_iload_n O dzX8_at_32 rfl 2 rfl ?_
      obtain ⟨r3, hc3, h⟩ := z_bd_at h
      refine z_callViR O (As := [.int a1, .int a2]) (rest := []) (kX8_setOf hi hc3) mX8_setOf tw_908 (Nat.le_of_ble_eq_true rfl) fm_obj rfl rfl rfl rfl (Nat.le_of_ble_eq_true rfl) dzX8_at_33 ?_
      refine z_goto O dzX8_at_36 ?_
      exact z_iret O hr hlk dzX8_at_41 (z_rf h)
  · have h := z_if_t c2 h
    refine z_bipush O dzX8_at_7 hcBm2 ?_
    refine z_goto O dzX8_at_9 ?_
    exact z_iret O hr hlk dzX8_at_41 (z_rf h)
def fX8_copies_L2 (q0 : Nat) (l0 : Nat) (q1 : Nat) (l1 : Nat) (k : zS → Int32 → Option (zS)) : Nat → zS → Int32 → Option (zS)
  | 0, _, _ => none
  | n + 1, σ, v2 => (if (Int32.ofNat l0) ≤ v2 then k σ v2 else z_gd (z_in v2 l0) (z_gd (z_in v2 l1) (z_lt (z_sI σ q1 v2.toNatClampNeg (σ.1 q0 v2.toNatClampNeg)) (fun (w1 : zS) => fX8_copies_L2 q0 l0 q1 l1 k n w1 (v2 + (1 : Int32))))))
theorem kX8_copies_L2 {l : Launch} {Y : zY} {fin : zS} {p : Program} {e : Env} {s : State} {m : MethodId} {args : Array Value} {below : List Frame} {meth : Method} {c : Code} (O : z_ok ΛM Y p s m args c cX8_copies RX8 3) (hi : z_inj ΛM Y) (hr : meth.sig.returnType = none) (hlk : meth.locks = false) {q0 : Nat} {l0 : Nat} (h0 : z_FI ΛM q0 l0) {q1 : Nat} {l1 : Nat} (h1 : z_FI ΛM q1 l1) {k : zS → Int32 → Option (zS)} (hk : ∀ (w : zS) (z2 : Int32), k w z2 = some fin → z_G p l e (z_rm 1) s m args below meth c (MQ below (z_Qv ΛM Y fin) args s 0 0 (z_A ΛM Y)) ΛM Y 3 w [(0, .ref (z_ad Y q0)), (1, .ref (z_ad Y q1)), (2, .int z2)] 20 []) : ∀ (n : Nat) (σ : zS) (v2 : Int32), fX8_copies_L2 q0 l0 q1 l1 k n σ v2 = some fin → z_G p l e (z_rm 1) s m args below meth c (MQ below (z_Qv ΛM Y fin) args s 0 0 (z_A ΛM Y)) ΛM Y 3 σ [(0, .ref (z_ad Y q0)), (1, .ref (z_ad Y q1)), (2, .int v2)] 2 [] := by
  intro n
  induction n with
  | zero =>
    intro _ _ h
    cases h
  | succ n ih =>
    intro σ v2 h
    rw [fX8_copies_L2.eq_2] at h
    refine z_iload_n O dzX8_copies_2 rfl 2 rfl ?_
    refine z_aload_n O dzX8_copies_3 rfl 0 rfl ?_
    refine z_ilen O h0 rfl dzX8_copies_4 ?_
    refine z_icmp_ge O dzX8_copies_5 (fun c1 => ?_) (fun c1 => ?_)
    · have h := z_if_t c1 h
      exact hk _ _ h
    · have h := z_if_f c1 h
      refine z_aload_n O dzX8_copies_8 rfl 1 rfl ?_
      refine z_iload_n O dzX8_copies_9 rfl 2 rfl ?_
      refine z_aload_n O dzX8_copies_10 rfl 0 rfl ?_
      refine z_iload_n O dzX8_copies_11 rfl 2 rfl ?_
      obtain ⟨g1, h⟩ := z_gd_at h
      refine z_iald O h0 g1 dzX8_copies_12 ?_
      obtain ⟨g2, h⟩ := z_gd_at h
      refine z_iast O h1 g2 dzX8_copies_13 ?_
      refine z_sig (fun w1 e1 => ?_)
      have h := z_lt_at e1 h
      refine z_iinc O (lv' := [(2, .int (v2 + (1 : Int32))), (0, .ref (z_ad Y q0)), (1, .ref (z_ad Y q1))]) dzX8_copies_14 2 rfl (congrArg _ hcI1) (by decide) rfl ?_
      refine z_goto O dzX8_copies_17 ?_
      refine z_sub [1, 2, 0] rfl ?_
      exact ih _ _ h
def fX8_copies (σ : zS) (p0 : Nat) (n0 : Nat) (p1 : Nat) (n1 : Nat) : Option (zS) :=
  fX8_copies_L2 p0 n0 p1 n1 (fun (w1 : zS) (x1 : Int32) => some w1) z_F σ (0 : Int32)
theorem kX8_copies {l : Launch} {Y : zY} (hi : z_inj ΛM Y) {σ : zS} {p0 n0 : Nat} (h0 : z_FI ΛM p0 n0) {p1 n1 : Nat} (h1 : z_FI ΛM p1 n1) {fin : zS} (h : fX8_copies σ p0 n0 p1 n1 = some fin) : Met l yX8_copies (Cond.code yX8_copies cX8_copies 3 none :: z_TB) (z_rm 1) (z_Pc ΛM Y σ [.ref (z_ad Y p0), .ref (z_ad Y p1)]) (z_Qv ΛM Y fin) 0 0 (z_A ΛM Y) := by
  unfold fX8_copies at h
  refine z_met [(0, .ref (z_ad Y p0)), (1, .ref (z_ad Y p1))] rfl (Nat.le_of_ble_eq_true rfl) (plainFor_of_name (by decide)) hi ?_
  intro p e s m args below meth c O hr hlk
  refine z_iconst O dzX8_copies_0 hcI0 ?_
  refine z_istore_n O (lv' := [(2, .int (0 : Int32)), (0, .ref (z_ad Y p0)), (1, .ref (z_ad Y p1))]) dzX8_copies_1 rfl (by decide) rfl ?_
  refine z_sub [1, 2, 0] rfl ?_
  refine kX8_copies_L2 O hi hr hlk (h0 := h0) (h1 := h1)  (fun w1 x1 h => ?_) _ _ _ h
  exact z_vret O hr hlk dzX8_copies_20 h
def fX8_back (σ : zS) : Option (Int32 × zS) :=
  (if (σ.1 0 33) = 0 then some ((-3 : Int32), σ) else (fX8_copies σ 22 12 1 12).bind (fun r1 => (fX8_copies r1 23 4 2 4).bind (fun r2 => (fX8_copies r2 24 160 3 160).bind (fun r3 => (fX8_copies r3 25 160 4 160).bind (fun r4 => z_lt (z_sI r4 0 4 (r4.1 0 38)) (fun (w1 : zS) => z_lt (z_sI w1 0 10 (0 : Int32)) (fun (w2 : zS) => (fX8_allHeld w2).bind (fun r5 => some (r5, w2)))))))))
theorem kX8_back {l : Launch} {Y : zY} (hi : z_inj ΛM Y) {σ : zS}  {fin : Int32 × zS} (h : fX8_back σ = some fin) : Met l yX8_back (Cond.code yX8_back cX8_back 1 (some .int) :: z_TB) (z_rm 2) (z_Pc ΛM Y σ [.ref (z_ad Y 0)]) (z_Qi ΛM Y fin) 0 0 (z_A ΛM Y) := by
  unfold fX8_back at h
  refine z_met [(0, .ref (z_ad Y 0))] rfl (Nat.le_of_ble_eq_true rfl) (plainFor_of_name (by decide)) hi ?_
  intro p e s m args below meth c O hr hlk
  refine z_aload_n O dzX8_back_0 rfl 0 rfl ?_
  refine z_get O z_cb8 fm_obj (v := .int (σ.1 0 33)) 33 (Nat.le_of_ble_eq_true rfl) tw_782 rfl dzX8_back_1 ?_
  refine z_if_ne O dzX8_back_4 (fun c1 => ?_) (fun c1 => ?_)
  · have h := z_if_f c1 h
    refine z_aload_n O dzX8_back_10 rfl 0 rfl ?_
    refine z_get O z_cb8 fm_obj (v := .ref (z_ad Y 22)) 34 (Nat.le_of_ble_eq_true rfl) tw_783 rfl dzX8_back_11 ?_
    refine z_aload_n O dzX8_back_14 rfl 0 rfl ?_
    refine z_get O z_cb8 fm_obj (v := .ref (z_ad Y 1)) 0 (Nat.le_of_ble_eq_true rfl) tw_749 rfl dzX8_back_15 ?_
    obtain ⟨r1, hc1, h⟩ := z_bd_at h
    refine z_callSv O (As := [.ref (z_ad Y 22), .ref (z_ad Y 1)]) (rest := []) (kX8_copies hi fm_keptPrice fm_price hc1) mX8_copies tw_1183 (Nat.le_of_ble_eq_true rfl) rfl rfl (Nat.le_of_ble_eq_true rfl) dzX8_back_18 ?_
    refine z_aload_n O dzX8_back_21 rfl 0 rfl ?_
    refine z_get O z_cb8 fm_obj (v := .ref (z_ad Y 23)) 35 (Nat.le_of_ble_eq_true rfl) tw_784 rfl dzX8_back_22 ?_
    refine z_aload_n O dzX8_back_25 rfl 0 rfl ?_
    refine z_get O z_cb8 fm_obj (v := .ref (z_ad Y 2)) 1 (Nat.le_of_ble_eq_true rfl) tw_750 rfl dzX8_back_26 ?_
    obtain ⟨r2, hc2, h⟩ := z_bd_at h
    refine z_callSv O (As := [.ref (z_ad Y 23), .ref (z_ad Y 2)]) (rest := []) (kX8_copies hi fm_keptSizes fm_sizes hc2) mX8_copies tw_1183 (Nat.le_of_ble_eq_true rfl) rfl rfl (Nat.le_of_ble_eq_true rfl) dzX8_back_29 ?_
    refine z_aload_n O dzX8_back_32 rfl 0 rfl ?_
    refine z_get O z_cb8 fm_obj (v := .ref (z_ad Y 24)) 36 (Nat.le_of_ble_eq_true rfl) tw_785 rfl dzX8_back_33 ?_
    refine z_aload_n O dzX8_back_36 rfl 0 rfl ?_
    refine z_get O z_cb8 fm_obj (v := .ref (z_ad Y 3)) 2 (Nat.le_of_ble_eq_true rfl) tw_751 rfl dzX8_back_37 ?_
    obtain ⟨r3, hc3, h⟩ := z_bd_at h
    refine z_callSv O (As := [.ref (z_ad Y 24), .ref (z_ad Y 3)]) (rest := []) (kX8_copies hi fm_keptSets fm_sets hc3) mX8_copies tw_1183 (Nat.le_of_ble_eq_true rfl) rfl rfl (Nat.le_of_ble_eq_true rfl) dzX8_back_40 ?_
    refine z_aload_n O dzX8_back_43 rfl 0 rfl ?_
    refine z_get O z_cb8 fm_obj (v := .ref (z_ad Y 25)) 37 (Nat.le_of_ble_eq_true rfl) tw_786 rfl dzX8_back_44 ?_
    refine z_aload_n O dzX8_back_47 rfl 0 rfl ?_
    refine z_get O z_cb8 fm_obj (v := .ref (z_ad Y 4)) 3 (Nat.le_of_ble_eq_true rfl) tw_752 rfl dzX8_back_48 ?_
    obtain ⟨r4, hc4, h⟩ := z_bd_at h
    refine z_callSv O (As := [.ref (z_ad Y 25), .ref (z_ad Y 4)]) (rest := []) (kX8_copies hi fm_keptTallies fm_tallies hc4) mX8_copies tw_1183 (Nat.le_of_ble_eq_true rfl) rfl rfl (Nat.le_of_ble_eq_true rfl) dzX8_back_51 ?_
    refine z_aload_n O dzX8_back_54 rfl 0 rfl ?_
    refine z_aload_n O dzX8_back_55 rfl 0 rfl ?_
    refine z_get O z_cb8 fm_obj (v := .int (r4.1 0 38)) 38 (Nat.le_of_ble_eq_true rfl) tw_787 rfl dzX8_back_56 ?_
    refine z_put O z_cb8 fm_obj 4 (Nat.le_of_ble_eq_true rfl) tw_753 rfl rfl rfl fp_M4 dzX8_back_59 ?_
    refine z_sig (fun w1 e1 => ?_)
    have h := z_lt_at e1 h
    refine z_aload_n O dzX8_back_62 rfl 0 rfl ?_
    refine z_iconst O dzX8_back_63 hcI0 ?_
    refine z_put O z_cb8 fm_obj 10 (Nat.le_of_ble_eq_true rfl) tw_759 rfl rfl rfl fp_M10 dzX8_back_64 ?_
    refine z_sig (fun w2 e2 => ?_)
    have h := z_lt_at e2 h
    refine z_aload_n O dzX8_back_67 rfl 0 rfl ?_
    obtain ⟨r5, hc5, h⟩ := z_bd_at h
    refine z_callViR O (As := []) (rest := []) (kX8_allHeld hi hc5) mX8_allHeld tw_1186 (Nat.le_of_ble_eq_true rfl) fm_obj rfl rfl rfl rfl (Nat.le_of_ble_eq_true rfl) dzX8_back_68 ?_
    exact z_iret O hr hlk dzX8_back_71 h
  · have h := z_if_t c1 h
    refine z_bipush O dzX8_back_7 hcBm3 ?_
    exact z_iret O hr hlk dzX8_back_9 h
def fX8_hits_L4 (σ : zS) (a1 : Int32) (k : Int32 → Int32 → Option (Int32)) : Nat → Int32 → Int32 → Option (Int32)
  | 0, _, _ => none
  | n + 1, v2, v3 => (if (σ.1 0 16) ≤ v3 then k v2 v3 else z_gd (z_in v3 780) (z_lt ((σ.1 14 v3.toNatClampNeg) &&& a1) (fun (x1 : Int32) => (if x1 = 0 then some (0 : Int32) else (if (x1 &&& (x1 - (1 : Int32))) = 0 then z_lt (v2 ||| x1) (fun (x3 : Int32) => fX8_hits_L4 σ a1 k n x3 (v3 + (1 : Int32))) else z_lt (v2 ||| (0 : Int32)) (fun (x2 : Int32) => fX8_hits_L4 σ a1 k n x2 (v3 + (1 : Int32))))))))
theorem kX8_hits_L4 {l : Launch} {Y : zY} {fin : Int32} {p : Program} {e : Env} {s : State} {m : MethodId} {args : Array Value} {below : List Frame} {meth : Method} {c : Code} {σ : zS} (O : z_ok ΛM Y p s m args c cX8_hits RX8 5) (hi : z_inj ΛM Y) (hr : meth.sig.returnType = (some .int)) (hlk : meth.locks = false) {a1 : Int32} {k : Int32 → Int32 → Option (Int32)} (hk : ∀ (z2 : Int32) (z3 : Int32), k z2 z3 = some fin → z_G p l e (z_rm 1) s m args below meth c (MQ below (z_Qi ΛM Y (fin, σ)) args s 0 0 (z_A ΛM Y)) ΛM Y 5 σ [(0, .ref (z_ad Y 0)), (1, .int a1), (2, .int z2), (3, .int z3)] 54 []) : ∀ (n : Nat) (v2 : Int32) (v3 : Int32), fX8_hits_L4 σ a1 k n v2 v3 = some fin → z_G p l e (z_rm 1) s m args below meth c (MQ below (z_Qi ΛM Y (fin, σ)) args s 0 0 (z_A ΛM Y)) ΛM Y 5 σ [(0, .ref (z_ad Y 0)), (1, .int a1), (2, .int v2), (3, .int v3)] 4 [] := by
  intro n
  induction n with
  | zero =>
    intro _ _ h
    cases h
  | succ n ih =>
    intro v2 v3 h
    rw [fX8_hits_L4.eq_2] at h
    refine z_iload_n O dzX8_hits_4 rfl 3 rfl ?_
    refine z_aload_n O dzX8_hits_5 rfl 0 rfl ?_
    refine z_get O z_cb8 fm_obj (v := .int (σ.1 0 16)) 16 (Nat.le_of_ble_eq_true rfl) tw_765 rfl dzX8_hits_6 ?_
    refine z_icmp_ge O dzX8_hits_9 (fun c3 => ?_) (fun c3 => ?_)
    · have h := z_if_t c3 h
      exact hk _ _ h
    · have h := z_if_f c3 h
      refine z_aload_n O dzX8_hits_12 rfl 0 rfl ?_
      refine z_get O z_cb8 fm_obj (v := .ref (z_ad Y 14)) 15 (Nat.le_of_ble_eq_true rfl) tw_764 rfl dzX8_hits_13 ?_
      refine z_iload_n O dzX8_hits_16 rfl 3 rfl ?_
      obtain ⟨g1, h⟩ := z_gd_at h
      refine z_iald O fm_wanted g1 dzX8_hits_17 ?_
      refine z_iload_n O dzX8_hits_18 rfl 1 rfl ?_
      refine z_iand O dzX8_hits_19 ?_
      refine z_topi (fun x1 e1 => ?_)
      have h := z_lt_at e1 h
      refine z_istore O (lv' := [(4, .int x1), (0, .ref (z_ad Y 0)), (1, .int a1), (2, .int v2), (3, .int v3)]) dzX8_hits_20 (by decide) rfl ?_
      refine z_iload O dzX8_hits_22 0 rfl ?_
      refine z_if_ne O dzX8_hits_24 (fun c2 => ?_) (fun c2 => ?_)
      · have h := z_if_f c2 h
        refine z_iload_n O dzX8_hits_29 rfl 3 rfl ?_
        refine z_iload O dzX8_hits_30 0 rfl ?_
        refine z_iload O dzX8_hits_32 0 rfl ?_
        refine z_iconst O dzX8_hits_34 hcI1 ?_
        refine z_isub O dzX8_hits_35 ?_
        refine z_iand O dzX8_hits_36 ?_
        refine z_if_ne O dzX8_hits_37 (fun c1 => ?_) (fun c1 => ?_)
        · have h := z_if_f c1 h
          refine z_iconst O dzX8_hits_45 hcI0 ?_
          refine z_ior O dzX8_hits_46 ?_
          refine z_topi (fun x2 e2 => ?_)
          have h := z_lt_at e2 h
          refine z_istore_n O (lv' := [(2, .int x2), (4, .int x1), (0, .ref (z_ad Y 0)), (1, .int a1), (3, .int v3)]) dzX8_hits_47 rfl (by decide) rfl ?_
          refine z_iinc O (lv' := [(3, .int (v3 + (1 : Int32))), (2, .int x2), (4, .int x1), (0, .ref (z_ad Y 0)), (1, .int a1)]) dzX8_hits_48 4 rfl (congrArg _ hcI1) (by decide) rfl ?_
          refine z_goto O dzX8_hits_51 ?_
          refine z_sub [3, 4, 1, 0] rfl ?_
          exact ih _ _ h
        · have h := z_if_t c1 h
          refine z_iload O dzX8_hits_40 0 rfl ?_
          refine z_goto O dzX8_hits_42 ?_
          refine z_ior O dzX8_hits_46 ?_
          refine z_topi (fun x3 e3 => ?_)
          have h := z_lt_at e3 h
          refine z_istore_n O (lv' := [(2, .int x3), (4, .int x1), (0, .ref (z_ad Y 0)), (1, .int a1), (3, .int v3)]) dzX8_hits_47 rfl (by decide) rfl ?_
          refine z_iinc O (lv' := [(3, .int (v3 + (1 : Int32))), (2, .int x3), (4, .int x1), (0, .ref (z_ad Y 0)), (1, .int a1)]) dzX8_hits_48 4 rfl (congrArg _ hcI1) (by decide) rfl ?_
          refine z_goto O dzX8_hits_51 ?_
          refine z_sub [3, 4, 1, 0] rfl ?_
          exact ih _ _ h
      · have h := z_if_t c2 h
        refine z_iconst O dzX8_hits_27 hcI0 ?_
        exact z_iret O hr hlk dzX8_hits_28 (z_rf h)
def fX8_hits (σ : zS) (a1 : Int32) : Option (Int32) :=
  fX8_hits_L4 σ a1 (fun (x1 : Int32) (x2 : Int32) => (if x1 = a1 then some (2 : Int32) else some (1 : Int32))) z_F (0 : Int32) (0 : Int32)
theorem kX8_hits {l : Launch} {Y : zY} (hi : z_inj ΛM Y) {σ : zS} {a1 : Int32} {fin : Int32} (h : fX8_hits σ a1 = some fin) : Met l yX8_hits (Cond.code yX8_hits cX8_hits 5 (some .int) :: z_TB) (z_rm 1) (z_Pc ΛM Y σ [.ref (z_ad Y 0), .int a1]) (z_Qi ΛM Y (fin, σ)) 0 0 (z_A ΛM Y) := by
  unfold fX8_hits at h
  refine z_met [(0, .ref (z_ad Y 0)), (1, .int a1)] rfl (Nat.le_of_ble_eq_true rfl) (plainFor_of_name (by decide)) hi ?_
  intro p e s m args below meth c O hr hlk
  refine z_iconst O dzX8_hits_0 hcI0 ?_
  refine z_istore_n O (lv' := [(2, .int (0 : Int32)), (0, .ref (z_ad Y 0)), (1, .int a1)]) dzX8_hits_1 rfl (by decide) rfl ?_
  refine z_iconst O dzX8_hits_2 hcI0 ?_
  refine z_istore_n O (lv' := [(3, .int (0 : Int32)), (2, .int (0 : Int32)), (0, .ref (z_ad Y 0)), (1, .int a1)]) dzX8_hits_3 rfl (by decide) rfl ?_
  refine z_sub [2, 3, 1, 0] rfl ?_
  refine kX8_hits_L4 O hi hr hlk   (fun x1 x2 h => ?_) _ _ _ h
  refine z_iload_n O dzX8_hits_54 rfl 2 rfl ?_
  refine z_iload_n O dzX8_hits_55 rfl 1 rfl ?_
  refine z_icmp_ne O dzX8_hits_56 (fun c1 => ?_) (fun c1 => ?_)
  · have h := z_if_f c1 h
    refine z_iconst O dzX8_hits_63 hcI1 ?_
    exact z_iret O hr hlk dzX8_hits_64 (z_rf h)
  · have h := z_if_t c1 h
    refine z_iconst O dzX8_hits_59 hcI2 ?_
    refine z_goto O dzX8_hits_60 ?_
    exact z_iret O hr hlk dzX8_hits_64 (z_rf h)
def fX8_findsLeast_L7 (k : zS → Int32 → Option (zS)) : Nat → zS → Int32 → Option (zS)
  | 0, _, _ => none
  | n + 1, σ, v1 => (if (4096 : Int32) ≤ v1 then k σ v1 else (fX8_hits σ v1).bind (fun r1 => (if r1 = (2 : Int32) then z_gd (z_in (σ.1 0 18) 4096) (z_lt (z_sI σ 15 (σ.1 0 18).toNatClampNeg v1) (fun (w1 : zS) => z_lt (z_sI w1 0 18 ((w1.1 0 18) + (1 : Int32))) (fun (w2 : zS) => fX8_findsLeast_L7 k n w2 (v1 + (1 : Int32))))) else fX8_findsLeast_L7 k n σ (v1 + (1 : Int32)))))
theorem kX8_findsLeast_L7 {l : Launch} {Y : zY} {fin : zS} {p : Program} {e : Env} {s : State} {m : MethodId} {args : Array Value} {below : List Frame} {meth : Method} {c : Code} (O : z_ok ΛM Y p s m args c cX8_findsLeast RX8 2) (hi : z_inj ΛM Y) (hr : meth.sig.returnType = none) (hlk : meth.locks = false)  {k : zS → Int32 → Option (zS)} (hk : ∀ (w : zS) (z1 : Int32), k w z1 = some fin → z_G p l e (z_rm 2) s m args below meth c (MQ below (z_Qv ΛM Y fin) args s 0 0 (z_A ΛM Y)) ΛM Y 2 w [(0, .ref (z_ad Y 0)), (1, .int z1)] 49 []) : ∀ (n : Nat) (σ : zS) (v1 : Int32), fX8_findsLeast_L7 k n σ v1 = some fin → z_G p l e (z_rm 2) s m args below meth c (MQ below (z_Qv ΛM Y fin) args s 0 0 (z_A ΛM Y)) ΛM Y 2 σ [(0, .ref (z_ad Y 0)), (1, .int v1)] 7 [] := by
  intro n
  induction n with
  | zero =>
    intro _ _ h
    cases h
  | succ n ih =>
    intro σ v1 h
    rw [fX8_findsLeast_L7.eq_2] at h
    refine z_iload_n O dzX8_findsLeast_7 rfl 1 rfl ?_
    refine z_sipush O dzX8_findsLeast_8 hcS4096 ?_
    refine z_icmp_ge O dzX8_findsLeast_11 (fun c2 => ?_) (fun c2 => ?_)
    · have h := z_if_t c2 h
      exact hk _ _ h
    · have h := z_if_f c2 h
      refine z_aload_n O dzX8_findsLeast_14 rfl 0 rfl ?_
      refine z_iload_n O dzX8_findsLeast_15 rfl 1 rfl ?_
      obtain ⟨r1, hc1, h⟩ := z_bd_at h
      refine z_callViR O (As := [.int v1]) (rest := []) (kX8_hits hi hc1) mX8_hits tw_995 (Nat.le_of_ble_eq_true rfl) fm_obj rfl rfl rfl rfl (Nat.le_of_ble_eq_true rfl) dzX8_findsLeast_16 ?_
      refine z_iconst O dzX8_findsLeast_19 hcI2 ?_
      refine z_icmp_ne O dzX8_findsLeast_20 (fun c1 => ?_) (fun c1 => ?_)
      · have h := z_if_f c1 h
        refine z_iinc O (lv' := [(1, .int (v1 + (1 : Int32))), (0, .ref (z_ad Y 0))]) dzX8_findsLeast_43 1 rfl (congrArg _ hcI1) (by decide) rfl ?_
        refine z_goto O dzX8_findsLeast_46 ?_
        refine z_sub [1, 0] rfl ?_
        exact ih _ _ h
      · have h := z_if_t c1 h
        refine z_aload_n O dzX8_findsLeast_23 rfl 0 rfl ?_
        refine z_get O z_cb8 fm_obj (v := .ref (z_ad Y 15)) 17 (Nat.le_of_ble_eq_true rfl) tw_766 rfl dzX8_findsLeast_24 ?_
        refine z_aload_n O dzX8_findsLeast_27 rfl 0 rfl ?_
        refine z_get O z_cb8 fm_obj (v := .int (σ.1 0 18)) 18 (Nat.le_of_ble_eq_true rfl) tw_767 rfl dzX8_findsLeast_28 ?_
        refine z_iload_n O dzX8_findsLeast_31 rfl 1 rfl ?_
        obtain ⟨g1, h⟩ := z_gd_at h
        refine z_iast O fm_least g1 dzX8_findsLeast_32 ?_
        refine z_sig (fun w1 e1 => ?_)
        have h := z_lt_at e1 h
        refine z_aload_n O dzX8_findsLeast_33 rfl 0 rfl ?_
        refine z_dup O dzX8_findsLeast_34 rfl ?_
        refine z_get O z_cb8 fm_obj (v := .int (w1.1 0 18)) 18 (Nat.le_of_ble_eq_true rfl) tw_767 rfl dzX8_findsLeast_35 ?_
        refine z_iconst O dzX8_findsLeast_38 hcI1 ?_
        refine z_iadd O dzX8_findsLeast_39 ?_
        refine z_put O z_cb8 fm_obj 18 (Nat.le_of_ble_eq_true rfl) tw_767 rfl rfl rfl fp_M18 dzX8_findsLeast_40 ?_
        refine z_sig (fun w2 e2 => ?_)
        have h := z_lt_at e2 h
        refine z_iinc O (lv' := [(1, .int (v1 + (1 : Int32))), (0, .ref (z_ad Y 0))]) dzX8_findsLeast_43 1 rfl (congrArg _ hcI1) (by decide) rfl ?_
        refine z_goto O dzX8_findsLeast_46 ?_
        refine z_sub [1, 0] rfl ?_
        exact ih _ _ h
def fX8_findsLeast (σ : zS) : Option (zS) :=
  z_lt (z_sI σ 0 18 (0 : Int32)) (fun (w1 : zS) => fX8_findsLeast_L7 (fun (w2 : zS) (x1 : Int32) => some w2) z_F w1 (0 : Int32))
theorem kX8_findsLeast {l : Launch} {Y : zY} (hi : z_inj ΛM Y) {σ : zS}  {fin : zS} (h : fX8_findsLeast σ = some fin) : Met l yX8_findsLeast (Cond.code yX8_findsLeast cX8_findsLeast 2 none :: z_TB) (z_rm 2) (z_Pc ΛM Y σ [.ref (z_ad Y 0)]) (z_Qv ΛM Y fin) 0 0 (z_A ΛM Y) := by
  unfold fX8_findsLeast at h
  refine z_met [(0, .ref (z_ad Y 0))] rfl (Nat.le_of_ble_eq_true rfl) (plainFor_of_name (by decide)) hi ?_
  intro p e s m args below meth c O hr hlk
  refine z_aload_n O dzX8_findsLeast_0 rfl 0 rfl ?_
  refine z_iconst O dzX8_findsLeast_1 hcI0 ?_
  refine z_put O z_cb8 fm_obj 18 (Nat.le_of_ble_eq_true rfl) tw_767 rfl rfl rfl fp_M18 dzX8_findsLeast_2 ?_
  refine z_sig (fun w1 e1 => ?_)
  have h := z_lt_at e1 h
  refine z_iconst O dzX8_findsLeast_5 hcI0 ?_
  refine z_istore_n O (lv' := [(1, .int (0 : Int32)), (0, .ref (z_ad Y 0))]) dzX8_findsLeast_6 rfl (by decide) rfl ?_
  refine z_sub [1, 0] rfl ?_
  refine kX8_findsLeast_L7 O hi hr hlk   (fun w2 x1 h => ?_) _ _ _ h
  exact z_vret O hr hlk dzX8_findsLeast_49 h
def fX8_wants_L12 (a1 : Int32) (k : zS → Int32 → Option (zS)) : Nat → zS → Int32 → Option (zS)
  | 0, _, _ => none
  | n + 1, σ, v2 => z_gd (z_in a1 4) ((if (σ.1 2 a1.toNatClampNeg) ≤ v2 then k σ v2 else (fX8_setOf σ a1 v2).bind (fun r1 => z_gd (z_in v2 780) (z_lt (z_sI σ 14 v2.toNatClampNeg r1) (fun (w1 : zS) => fX8_wants_L12 a1 k n w1 (v2 + (1 : Int32)))))))
theorem kX8_wants_L12 {l : Launch} {Y : zY} {fin : zS} {p : Program} {e : Env} {s : State} {m : MethodId} {args : Array Value} {below : List Frame} {meth : Method} {c : Code} (O : z_ok ΛM Y p s m args c cX8_wants RX8 3) (hi : z_inj ΛM Y) (hr : meth.sig.returnType = none) (hlk : meth.locks = false) {a1 : Int32} {k : zS → Int32 → Option (zS)} (hk : ∀ (w : zS) (z2 : Int32), k w z2 = some fin → z_G p l e (z_rm 2) s m args below meth c (MQ below (z_Qv ΛM Y fin) args s 0 0 (z_A ΛM Y)) ΛM Y 3 w [(0, .ref (z_ad Y 0)), (1, .int a1), (2, .int z2)] 40 []) : ∀ (n : Nat) (σ : zS) (v2 : Int32), fX8_wants_L12 a1 k n σ v2 = some fin → z_G p l e (z_rm 2) s m args below meth c (MQ below (z_Qv ΛM Y fin) args s 0 0 (z_A ΛM Y)) ΛM Y 3 σ [(0, .ref (z_ad Y 0)), (1, .int a1), (2, .int v2)] 12 [] := by
  intro n
  induction n with
  | zero =>
    intro _ _ h
    cases h
  | succ n ih =>
    intro σ v2 h
    rw [fX8_wants_L12.eq_2] at h
    refine z_iload_n O dzX8_wants_12 rfl 2 rfl ?_
    refine z_aload_n O dzX8_wants_13 rfl 0 rfl ?_
    refine z_get O z_cb8 fm_obj (v := .ref (z_ad Y 2)) 1 (Nat.le_of_ble_eq_true rfl) tw_750 rfl dzX8_wants_14 ?_
    refine z_iload_n O dzX8_wants_17 rfl 1 rfl ?_
    obtain ⟨g1, h⟩ := z_gd_at h
    refine z_iald O fm_sizes g1 dzX8_wants_18 ?_
    refine z_icmp_ge O dzX8_wants_19 (fun c1 => ?_) (fun c1 => ?_)
    · have h := z_if_t c1 h
      exact hk _ _ h
    · have h := z_if_f c1 h
      refine z_aload_n O dzX8_wants_22 rfl 0 rfl ?_
      refine z_get O z_cb8 fm_obj (v := .ref (z_ad Y 14)) 15 (Nat.le_of_ble_eq_true rfl) tw_764 rfl dzX8_wants_23 ?_
      refine z_iload_n O dzX8_wants_26 rfl 2 rfl ?_
      refine z_aload_n O dzX8_wants_27 rfl 0 rfl ?_
      refine z_iload_n O dzX8_wants_28 rfl 1 rfl ?_
      refine z_iload_n O dzX8_wants_29 rfl 2 rfl ?_
      obtain ⟨r1, hc1, h⟩ := z_bd_at h
      refine z_callViR O (As := [.int a1, .int v2]) (rest := [.int v2, .ref (z_ad Y 14)]) (kX8_setOf hi hc1) mX8_setOf tw_908 (Nat.le_of_ble_eq_true rfl) fm_obj rfl rfl rfl rfl (Nat.le_of_ble_eq_true rfl) dzX8_wants_30 ?_
      obtain ⟨g2, h⟩ := z_gd_at h
      refine z_iast O fm_wanted g2 dzX8_wants_33 ?_
      refine z_sig (fun w1 e1 => ?_)
      have h := z_lt_at e1 h
      refine z_iinc O (lv' := [(2, .int (v2 + (1 : Int32))), (0, .ref (z_ad Y 0)), (1, .int a1)]) dzX8_wants_34 2 rfl (congrArg _ hcI1) (by decide) rfl ?_
      refine z_goto O dzX8_wants_37 ?_
      refine z_sub [1, 2, 0] rfl ?_
      exact ih _ _ h
def fX8_wants (σ : zS) (a1 : Int32) : Option (zS) :=
  z_gd (z_in a1 4) (z_lt (z_sI σ 0 16 (σ.1 2 a1.toNatClampNeg)) (fun (w1 : zS) => fX8_wants_L12 a1 (fun (w2 : zS) (x1 : Int32) => some w2) z_F w1 (0 : Int32)))
theorem kX8_wants {l : Launch} {Y : zY} (hi : z_inj ΛM Y) {σ : zS} {a1 : Int32} {fin : zS} (h : fX8_wants σ a1 = some fin) : Met l yX8_wants (Cond.code yX8_wants cX8_wants 3 none :: z_TB) (z_rm 2) (z_Pc ΛM Y σ [.ref (z_ad Y 0), .int a1]) (z_Qv ΛM Y fin) 0 0 (z_A ΛM Y) := by
  unfold fX8_wants at h
  refine z_met [(0, .ref (z_ad Y 0)), (1, .int a1)] rfl (Nat.le_of_ble_eq_true rfl) (plainFor_of_name (by decide)) hi ?_
  intro p e s m args below meth c O hr hlk
  refine z_aload_n O dzX8_wants_0 rfl 0 rfl ?_
  refine z_aload_n O dzX8_wants_1 rfl 0 rfl ?_
  refine z_get O z_cb8 fm_obj (v := .ref (z_ad Y 2)) 1 (Nat.le_of_ble_eq_true rfl) tw_750 rfl dzX8_wants_2 ?_
  refine z_iload_n O dzX8_wants_5 rfl 1 rfl ?_
  obtain ⟨g1, h⟩ := z_gd_at h
  refine z_iald O fm_sizes g1 dzX8_wants_6 ?_
  refine z_put O z_cb8 fm_obj 16 (Nat.le_of_ble_eq_true rfl) tw_765 rfl rfl rfl fp_M16 dzX8_wants_7 ?_
  refine z_sig (fun w1 e1 => ?_)
  have h := z_lt_at e1 h
  refine z_iconst O dzX8_wants_10 hcI0 ?_
  refine z_istore_n O (lv' := [(2, .int (0 : Int32)), (0, .ref (z_ad Y 0)), (1, .int a1)]) dzX8_wants_11 rfl (by decide) rfl ?_
  refine z_sub [1, 2, 0] rfl ?_
  refine kX8_wants_L12 O hi hr hlk   (fun w2 x1 h => ?_) _ _ _ h
  exact z_vret O hr hlk dzX8_wants_40 h
def fX8_findsDual (σ : zS) (a1 : Int32) : Option (zS) :=
  (fX8_wants σ a1).bind (fun r1 => (fX8_findsLeast r1).bind (fun r2 => some r2))
theorem kX8_findsDual {l : Launch} {Y : zY} (hi : z_inj ΛM Y) {σ : zS} {a1 : Int32} {fin : zS} (h : fX8_findsDual σ a1 = some fin) : Met l yX8_findsDual (Cond.code yX8_findsDual cX8_findsDual 2 none :: z_TB) (z_rm 3) (z_Pc ΛM Y σ [.ref (z_ad Y 0), .int a1]) (z_Qv ΛM Y fin) 0 0 (z_A ΛM Y) := by
  unfold fX8_findsDual at h
  refine z_met [(0, .ref (z_ad Y 0)), (1, .int a1)] rfl (Nat.le_of_ble_eq_true rfl) (plainFor_of_name (by decide)) hi ?_
  intro p e s m args below meth c O hr hlk
  refine z_aload_n O dzX8_findsDual_0 rfl 0 rfl ?_
  refine z_iload_n O dzX8_findsDual_1 rfl 1 rfl ?_
  obtain ⟨r1, hc1, h⟩ := z_bd_at h
  refine z_callVv O (As := [.int a1]) (rest := []) (kX8_wants hi hc1) mX8_wants tw_991 (Nat.le_of_ble_eq_true rfl) fm_obj rfl rfl rfl rfl (Nat.le_of_ble_eq_true rfl) dzX8_findsDual_2 ?_
  refine z_aload_n O dzX8_findsDual_5 rfl 0 rfl ?_
  obtain ⟨r2, hc2, h⟩ := z_bd_at h
  refine z_callVv O (As := []) (rest := []) (kX8_findsLeast hi hc2) mX8_findsLeast tw_1015 (Nat.le_of_ble_eq_true rfl) fm_obj rfl rfl rfl rfl (Nat.le_of_ble_eq_true rfl) dzX8_findsDual_6 ?_
  exact z_vret O hr hlk dzX8_findsDual_9 h
def fX8_isRule (σ : zS) (a1 : Int32) : Option (Int32) :=
  (fX8_in (a1.toInt64) (0 : Int64) (((σ.1 0 4) - (1 : Int32)).toInt64)).bind (fun r1 => z_gd (z_bz r1) (some r1))
theorem kX8_isRule {l : Launch} {Y : zY} (hi : z_inj ΛM Y) {σ : zS} {a1 : Int32} {fin : Int32} (h : fX8_isRule σ a1 = some fin) : Met l yX8_isRule (Cond.code yX8_isRule cX8_isRule 2 (some .boolean) :: z_TB) (z_rm 2) (z_Pc ΛM Y σ [.ref (z_ad Y 0), .int a1]) (z_Qi ΛM Y (fin, σ)) 0 0 (z_A ΛM Y) := by
  unfold fX8_isRule at h
  refine z_met [(0, .ref (z_ad Y 0)), (1, .int a1)] rfl (Nat.le_of_ble_eq_true rfl) (plainFor_of_name (by decide)) hi ?_
  intro p e s m args below meth c O hr hlk
  refine z_iload_n O dzX8_isRule_0 rfl 1 rfl ?_
  refine z_i2l O dzX8_isRule_1 ?_
  refine z_lconst O dzX8_isRule_2 (v := 0) rfl ?_
  refine z_aload_n O dzX8_isRule_3 rfl 0 rfl ?_
  refine z_get O z_cb8 fm_obj (v := .int (σ.1 0 4)) 4 (Nat.le_of_ble_eq_true rfl) tw_753 rfl dzX8_isRule_4 ?_
  refine z_iconst O dzX8_isRule_7 hcI1 ?_
  refine z_isub O dzX8_isRule_8 ?_
  refine z_i2l O dzX8_isRule_9 ?_
  obtain ⟨r1, hc1, h⟩ := z_bd_at h
  refine z_callSiR O (As := [.long (a1.toInt64), .long (0 : Int64), .long (((σ.1 0 4) - (1 : Int32)).toInt64)]) (rest := []) (kX8_in hi hc1) mX8_in tw_876 (Nat.le_of_ble_eq_true rfl) rfl rfl (Nat.le_of_ble_eq_true rfl) dzX8_isRule_10 ?_
  obtain ⟨g1, h⟩ := z_gd_at h
  exact z_zret O hr hlk (z_bz_n g1) dzX8_isRule_13 (z_rf h)
def fX8_has (a0 : Int32) (a1 : Int32) : Option (Int32) :=
  (if ((a0 >>> (a1 &&& 31)) &&& (1 : Int32)) = (1 : Int32) then some (1 : Int32) else some (0 : Int32))
theorem kX8_has {l : Launch} {Y : zY} (hi : z_inj ΛM Y) {σ : zS} {a0 : Int32} {a1 : Int32} {fin : Int32} (h : fX8_has a0 a1 = some fin) : Met l yX8_has (Cond.code yX8_has cX8_has 2 (some .boolean) :: z_TB) (z_rm 1) (z_Pc ΛM Y σ [.int a0, .int a1]) (z_Qi ΛM Y (fin, σ)) 0 0 (z_A ΛM Y) := by
  unfold fX8_has at h
  refine z_met [(0, .int a0), (1, .int a1)] rfl (Nat.le_of_ble_eq_true rfl) (plainFor_of_name (by decide)) hi ?_
  intro p e s m args below meth c O hr hlk
  refine z_iload_n O dzX8_has_0 rfl 0 rfl ?_
  refine z_iload_n O dzX8_has_1 rfl 1 rfl ?_
  refine z_ishr O dzX8_has_2 ?_
  refine z_iconst O dzX8_has_3 hcI1 ?_
  refine z_iand O dzX8_has_4 ?_
  refine z_iconst O dzX8_has_5 hcI1 ?_
  refine z_icmp_ne O dzX8_has_6 (fun c1 => ?_) (fun c1 => ?_)
  · have h := z_if_f c1 h
    refine z_iconst O dzX8_has_13 hcI0 ?_
    exact z_zret O hr hlk rfl dzX8_has_14 (z_rf h)
  · have h := z_if_t c1 h
    refine z_iconst O dzX8_has_9 hcI1 ?_
    refine z_goto O dzX8_has_10 ?_
    exact z_zret O hr hlk rfl dzX8_has_14 (z_rf h)
def fX8_many_L4 (k : Int32 → Int32 → Option (Int32)) : Nat → Int32 → Int32 → Option (Int32)
  | 0, _, _ => none
  | n + 1, v1, v2 => (if v2 = 0 then k v1 v2 else z_lt (v2 &&& (v2 - (1 : Int32))) (fun (x1 : Int32) => fX8_many_L4 k n (v1 + (1 : Int32)) x1))
theorem kX8_many_L4 {l : Launch} {Y : zY} {fin : Int32} {p : Program} {e : Env} {s : State} {m : MethodId} {args : Array Value} {below : List Frame} {meth : Method} {c : Code} {σ : zS} (O : z_ok ΛM Y p s m args c cX8_many RX8 3) (hi : z_inj ΛM Y) (hr : meth.sig.returnType = (some .int)) (hlk : meth.locks = false)  {k : Int32 → Int32 → Option (Int32)} (hk : ∀ (z1 : Int32) (z2 : Int32), k z1 z2 = some fin → z_G p l e (z_rm 1) s m args below meth c (MQ below (z_Qi ΛM Y (fin, σ)) args s 0 0 (z_A ΛM Y)) ΛM Y 3 σ [(1, .int z1), (2, .int z2)] 20 []) : ∀ (n : Nat) (v1 : Int32) (v2 : Int32), fX8_many_L4 k n v1 v2 = some fin → z_G p l e (z_rm 1) s m args below meth c (MQ below (z_Qi ΛM Y (fin, σ)) args s 0 0 (z_A ΛM Y)) ΛM Y 3 σ [(1, .int v1), (2, .int v2)] 4 [] := by
  intro n
  induction n with
  | zero =>
    intro _ _ h
    cases h
  | succ n ih =>
    intro v1 v2 h
    rw [fX8_many_L4.eq_2] at h
    refine z_iload_n O dzX8_many_4 rfl 1 rfl ?_
    refine z_if_eq O dzX8_many_5 (fun c1 => ?_) (fun c1 => ?_)
    · have h := z_if_t c1 h
      exact hk _ _ h
    · have h := z_if_f c1 h
      refine z_iinc O (lv' := [(1, .int (v1 + (1 : Int32))), (2, .int v2)]) dzX8_many_8 0 rfl (congrArg _ hcI1) (by decide) rfl ?_
      refine z_iload_n O dzX8_many_11 rfl 1 rfl ?_
      refine z_iload_n O dzX8_many_12 rfl 1 rfl ?_
      refine z_iconst O dzX8_many_13 hcI1 ?_
      refine z_isub O dzX8_many_14 ?_
      refine z_iand O dzX8_many_15 ?_
      refine z_topi (fun x1 e1 => ?_)
      have h := z_lt_at e1 h
      refine z_istore_n O (lv' := [(2, .int x1), (1, .int (v1 + (1 : Int32)))]) dzX8_many_16 rfl (by decide) rfl ?_
      refine z_goto O dzX8_many_17 ?_
      refine z_sub [1, 0] rfl ?_
      exact ih _ _ h
def fX8_many (a0 : Int32) : Option (Int32) :=
  fX8_many_L4 (fun (x1 : Int32) (x2 : Int32) => some x1) z_F (0 : Int32) a0
theorem kX8_many {l : Launch} {Y : zY} (hi : z_inj ΛM Y) {σ : zS} {a0 : Int32} {fin : Int32} (h : fX8_many a0 = some fin) : Met l yX8_many (Cond.code yX8_many cX8_many 3 (some .int) :: z_TB) (z_rm 1) (z_Pc ΛM Y σ [.int a0]) (z_Qi ΛM Y (fin, σ)) 0 0 (z_A ΛM Y) := by
  unfold fX8_many at h
  refine z_met [(0, .int a0)] rfl (Nat.le_of_ble_eq_true rfl) (plainFor_of_name (by decide)) hi ?_
  intro p e s m args below meth c O hr hlk
  refine z_iconst O dzX8_many_0 hcI0 ?_
  refine z_istore_n O (lv' := [(1, .int (0 : Int32)), (0, .int a0)]) dzX8_many_1 rfl (by decide) rfl ?_
  refine z_iload_n O dzX8_many_2 rfl 1 rfl ?_
  refine z_istore_n O (lv' := [(2, .int a0), (1, .int (0 : Int32)), (0, .int a0)]) dzX8_many_3 rfl (by decide) rfl ?_
  refine z_sub [1, 0] rfl ?_
  refine kX8_many_L4 O hi hr hlk   (fun x1 x2 h => ?_) _ _ _ h
  refine z_iload_n O dzX8_many_20 rfl 0 rfl ?_
  exact z_iret O hr hlk dzX8_many_21 (z_rf h)
def fX8_first_L30 (σ : zS) (a2 : Int32) (k : Int32 → Int32 → Int32 → Option (Int32)) : Nat → Int32 → Int32 → Int32 → Option (Int32)
  | 0, _, _, _ => none
  | n + 1, v3, v4, v5 => (if (12 : Int32) ≤ v5 then k v3 v4 v5 else (fX8_has a2 v5).bind (fun r1 => z_jn (fun (x1 : Int32) => z_lt (v3 + x1) (fun (x2 : Int32) => (fX8_has a2 v5).bind (fun r2 => (if r2 = 0 then fX8_first_L30 σ a2 k n x2 v4 (v5 + (1 : Int32)) else z_gd (z_in v5 12) ((if (σ.1 1 v5.toNatClampNeg) ≤ v4 then fX8_first_L30 σ a2 k n x2 v4 (v5 + (1 : Int32)) else z_gd (z_in v5 12) (z_lt (σ.1 1 v5.toNatClampNeg) (fun (x3 : Int32) => fX8_first_L30 σ a2 k n x2 x3 (v5 + (1 : Int32)))))))))) (fun j1 => (if r1 = 0 then j1 (0 : Int32) else z_gd (z_in v5 12) (j1 (σ.1 1 v5.toNatClampNeg))))))
theorem kX8_first_L30 {l : Launch} {Y : zY} {fin : Int32} {p : Program} {e : Env} {s : State} {m : MethodId} {args : Array Value} {below : List Frame} {meth : Method} {c : Code} {σ : zS} (O : z_ok ΛM Y p s m args c cX8_first RX8 6) (hi : z_inj ΛM Y) (hr : meth.sig.returnType = (some .int)) (hlk : meth.locks = false) {b1 : Int32} {a2 : Int32} {k : Int32 → Int32 → Int32 → Option (Int32)} (hk : ∀ (z3 : Int32) (z4 : Int32) (z5 : Int32), k z3 z4 z5 = some fin → z_G p l e (z_rm 2) s m args below meth c (MQ below (z_Qi ΛM Y (fin, σ)) args s 0 0 (z_A ΛM Y)) ΛM Y 6 σ [(0, .ref (z_ad Y 0)), (1, .int b1), (2, .int a2), (3, .int z3), (4, .int z4), (5, .int z5)] 101 []) : ∀ (n : Nat) (v3 : Int32) (v4 : Int32) (v5 : Int32), fX8_first_L30 σ a2 k n v3 v4 v5 = some fin → z_G p l e (z_rm 2) s m args below meth c (MQ below (z_Qi ΛM Y (fin, σ)) args s 0 0 (z_A ΛM Y)) ΛM Y 6 σ [(0, .ref (z_ad Y 0)), (1, .int b1), (2, .int a2), (3, .int v3), (4, .int v4), (5, .int v5)] 30 [] := by
  intro n
  induction n with
  | zero =>
    intro _ _ _ h
    cases h
  | succ n ih =>
    intro v3 v4 v5 h
    rw [fX8_first_L30.eq_2] at h
    refine z_iload O dzX8_first_30 5 rfl ?_
    refine z_bipush O dzX8_first_32 hcB12 ?_
    refine z_icmp_ge O dzX8_first_34 (fun c4 => ?_) (fun c4 => ?_)
    · have h := z_if_t c4 h
      exact hk _ _ _ h
    · have h := z_if_f c4 h
      refine z_iload_n O dzX8_first_37 rfl 3 rfl ?_
      refine z_iload_n O dzX8_first_38 rfl 2 rfl ?_
      refine z_iload O dzX8_first_39 5 rfl ?_
      obtain ⟨r1, hc1, h⟩ := z_bd_at h
      refine z_callSiR O (As := [.int a2, .int v5]) (rest := [.int v3]) (kX8_has hi hc1) mX8_has tw_1052 (Nat.le_of_ble_eq_true rfl) rfl rfl (Nat.le_of_ble_eq_true rfl) dzX8_first_41 ?_
      refine z_jn_at (P := fun j1 => ∀ (x1 : Int32), j1 x1 = some fin → z_G p l e (z_rm 2) s m args below meth c (MQ below (z_Qi ΛM Y (fin, σ)) args s 0 0 (z_A ΛM Y)) ΛM Y 6 σ [(0, .ref (z_ad Y 0)), (1, .int b1), (2, .int a2), (4, .int v4), (5, .int v5)] 58 [.int x1, .int v3]) h ?_ (fun j1 J1 h => ?_)
      · intro x1 h
        refine z_iadd O dzX8_first_58 ?_
        refine z_topi (fun x2 e1 => ?_)
        have h := z_lt_at e1 h
        refine z_istore_n O (lv' := [(3, .int x2), (0, .ref (z_ad Y 0)), (1, .int b1), (2, .int a2), (4, .int v4), (5, .int v5)]) dzX8_first_59 rfl (by decide) rfl ?_
        refine z_iload_n O dzX8_first_60 rfl 3 rfl ?_
        refine z_iload O dzX8_first_61 5 rfl ?_
        obtain ⟨r2, hc2, h⟩ := z_bd_at h
        refine z_callSiR O (As := [.int a2, .int v5]) (rest := []) (kX8_has hi hc2) mX8_has tw_1052 (Nat.le_of_ble_eq_true rfl) rfl rfl (Nat.le_of_ble_eq_true rfl) dzX8_first_63 ?_
        refine z_if_eq O dzX8_first_66 (fun c2 => ?_) (fun c2 => ?_)
        · have h := z_if_t c2 h
          refine z_iload O dzX8_first_91 4 rfl ?_
          refine z_istore O (lv' := [(4, .int v4), (3, .int x2), (0, .ref (z_ad Y 0)), (1, .int b1), (2, .int a2), (5, .int v5)]) dzX8_first_93 (by decide) rfl ?_
          refine z_iinc O (lv' := [(5, .int (v5 + (1 : Int32))), (4, .int v4), (3, .int x2), (0, .ref (z_ad Y 0)), (1, .int b1), (2, .int a2)]) dzX8_first_95 5 rfl (congrArg _ hcI1) (by decide) rfl ?_
          refine z_goto O dzX8_first_98 ?_
          refine z_sub [3, 4, 5, 2, 1, 0] rfl ?_
          exact ih _ _ _ h
        · have h := z_if_f c2 h
          refine z_aload_n O dzX8_first_69 rfl 1 rfl ?_
          refine z_get O z_cb8 fm_obj (v := .ref (z_ad Y 1)) 0 (Nat.le_of_ble_eq_true rfl) tw_749 rfl dzX8_first_70 ?_
          refine z_iload O dzX8_first_73 5 rfl ?_
          obtain ⟨g1, h⟩ := z_gd_at h
          refine z_iald O fm_price g1 dzX8_first_75 ?_
          refine z_iload O dzX8_first_76 4 rfl ?_
          refine z_icmp_le O dzX8_first_78 (fun c1 => ?_) (fun c1 => ?_)
          · have h := z_if_t c1 h
            refine z_iload O dzX8_first_91 4 rfl ?_
            refine z_istore O (lv' := [(4, .int v4), (3, .int x2), (0, .ref (z_ad Y 0)), (1, .int b1), (2, .int a2), (5, .int v5)]) dzX8_first_93 (by decide) rfl ?_
            refine z_iinc O (lv' := [(5, .int (v5 + (1 : Int32))), (4, .int v4), (3, .int x2), (0, .ref (z_ad Y 0)), (1, .int b1), (2, .int a2)]) dzX8_first_95 5 rfl (congrArg _ hcI1) (by decide) rfl ?_
            refine z_goto O dzX8_first_98 ?_
            refine z_sub [3, 4, 5, 2, 1, 0] rfl ?_
            exact ih _ _ _ h
          · have h := z_if_f c1 h
            refine z_aload_n O dzX8_first_81 rfl 1 rfl ?_
            refine z_get O z_cb8 fm_obj (v := .ref (z_ad Y 1)) 0 (Nat.le_of_ble_eq_true rfl) tw_749 rfl dzX8_first_82 ?_
            refine z_iload O dzX8_first_85 5 rfl ?_
            obtain ⟨g2, h⟩ := z_gd_at h
            refine z_iald O fm_price g2 dzX8_first_87 ?_
            refine z_goto O dzX8_first_88 ?_
            refine z_topi (fun x3 e2 => ?_)
            have h := z_lt_at e2 h
            refine z_istore O (lv' := [(4, .int x3), (3, .int x2), (0, .ref (z_ad Y 0)), (1, .int b1), (2, .int a2), (5, .int v5)]) dzX8_first_93 (by decide) rfl ?_
            refine z_iinc O (lv' := [(5, .int (v5 + (1 : Int32))), (4, .int x3), (3, .int x2), (0, .ref (z_ad Y 0)), (1, .int b1), (2, .int a2)]) dzX8_first_95 5 rfl (congrArg _ hcI1) (by decide) rfl ?_
            refine z_goto O dzX8_first_98 ?_
            refine z_sub [3, 4, 5, 2, 1, 0] rfl ?_
            exact ih _ _ _ h
      · refine z_if_eq O dzX8_first_44 (fun c3 => ?_) (fun c3 => ?_)
        · have h := z_if_t c3 h
          refine z_iconst O dzX8_first_57 hcI0 ?_
          refine z_sub [0, 1, 2, 4, 5] rfl ?_
          exact J1 (0 : Int32) h
        · have h := z_if_f c3 h
          refine z_aload_n O dzX8_first_47 rfl 0 rfl ?_
          refine z_get O z_cb8 fm_obj (v := .ref (z_ad Y 1)) 0 (Nat.le_of_ble_eq_true rfl) tw_749 rfl dzX8_first_48 ?_
          refine z_iload O dzX8_first_51 5 rfl ?_
          obtain ⟨g3, h⟩ := z_gd_at h
          refine z_iald O fm_price g3 dzX8_first_53 ?_
          refine z_goto O dzX8_first_54 ?_
          refine z_sub [0, 1, 2, 4, 5] rfl ?_
          exact J1 (σ.1 1 v5.toNatClampNeg) h
def fX8_first (σ : zS) (a1 : Int32) (a2 : Int32) : Option (Int32) :=
  (if a1 = 0 then (if a1 = 0 then (fX8_many a2).bind (fun r1 => some r1) else some a2) else (if a1 = (3 : Int32) then (if a1 = 0 then (fX8_many a2).bind (fun r2 => some r2) else some a2) else fX8_first_L30 σ a2 (fun (x1 : Int32) (x2 : Int32) (x3 : Int32) => (if a1 = (1 : Int32) then some x1 else some x2)) z_F (0 : Int32) (0 : Int32) (0 : Int32)))
theorem kX8_first {l : Launch} {Y : zY} (hi : z_inj ΛM Y) {σ : zS} {a1 : Int32} {a2 : Int32} {fin : Int32} (h : fX8_first σ a1 a2 = some fin) : Met l yX8_first (Cond.code yX8_first cX8_first 6 (some .int) :: z_TB) (z_rm 2) (z_Pc ΛM Y σ [.ref (z_ad Y 0), .int a1, .int a2]) (z_Qi ΛM Y (fin, σ)) 0 0 (z_A ΛM Y) := by
  unfold fX8_first at h
  refine z_met [(0, .ref (z_ad Y 0)), (1, .int a1), (2, .int a2)] rfl (Nat.le_of_ble_eq_true rfl) (plainFor_of_name (by decide)) hi ?_
  intro p e s m args below meth c O hr hlk
  refine z_iload_n O dzX8_first_0 rfl 1 rfl ?_
  refine z_if_eq O dzX8_first_1 (fun c5 => ?_) (fun c5 => ?_)
  · have h := z_if_t c5 h
    refine z_iload_n O dzX8_first_9 rfl 1 rfl ?_
    refine z_if_ne O dzX8_first_10 (fun c1 => ?_) (fun c1 => ?_)
    · have h := z_if_f c1 h
      refine z_iload_n O dzX8_first_20 rfl 2 rfl ?_
      exact z_iret O hr hlk dzX8_first_21 (z_rf h)
    · have h := z_if_t c1 h
      refine z_iload_n O dzX8_first_13 rfl 2 rfl ?_
      obtain ⟨r1, hc1, h⟩ := z_bd_at h
      refine z_callSiR O (As := [.int a2]) (rest := []) (kX8_many hi hc1) mX8_many tw_999 (Nat.le_of_ble_eq_true rfl) rfl rfl (Nat.le_of_ble_eq_true rfl) dzX8_first_14 ?_
      refine z_goto O dzX8_first_17 ?_
      exact z_iret O hr hlk dzX8_first_21 (z_rf h)
  · have h := z_if_f c5 h
    refine z_iload_n O dzX8_first_4 rfl 1 rfl ?_
    refine z_iconst O dzX8_first_5 hcI3 ?_
    refine z_icmp_ne O dzX8_first_6 (fun c4 => ?_) (fun c4 => ?_)
    · have h := z_if_f c4 h
      refine z_iconst O dzX8_first_22 hcI0 ?_
      refine z_istore_n O (lv' := [(3, .int (0 : Int32)), (0, .ref (z_ad Y 0)), (1, .int a1), (2, .int a2)]) dzX8_first_23 rfl (by decide) rfl ?_
      refine z_iconst O dzX8_first_24 hcI0 ?_
      refine z_istore O (lv' := [(4, .int (0 : Int32)), (3, .int (0 : Int32)), (0, .ref (z_ad Y 0)), (1, .int a1), (2, .int a2)]) dzX8_first_25 (by decide) rfl ?_
      refine z_iconst O dzX8_first_27 hcI0 ?_
      refine z_istore O (lv' := [(5, .int (0 : Int32)), (4, .int (0 : Int32)), (3, .int (0 : Int32)), (0, .ref (z_ad Y 0)), (1, .int a1), (2, .int a2)]) dzX8_first_28 (by decide) rfl ?_
      refine z_sub [3, 4, 5, 2, 1, 0] rfl ?_
      refine kX8_first_L30 O hi hr hlk   (fun x1 x2 x3 h => ?_) _ _ _ _ h
      refine z_iload_n O dzX8_first_101 rfl 1 rfl ?_
      refine z_iconst O dzX8_first_102 hcI1 ?_
      refine z_icmp_ne O dzX8_first_103 (fun c2 => ?_) (fun c2 => ?_)
      · have h := z_if_f c2 h
        refine z_iload O dzX8_first_110 4 rfl ?_
        exact z_iret O hr hlk dzX8_first_112 (z_rf h)
      · have h := z_if_t c2 h
        refine z_iload_n O dzX8_first_106 rfl 3 rfl ?_
        refine z_goto O dzX8_first_107 ?_
        exact z_iret O hr hlk dzX8_first_112 (z_rf h)
    · have h := z_if_t c4 h
      refine z_iload_n O dzX8_first_9 rfl 1 rfl ?_
      refine z_if_ne O dzX8_first_10 (fun c3 => ?_) (fun c3 => ?_)
      · have h := z_if_f c3 h
        refine z_iload_n O dzX8_first_20 rfl 2 rfl ?_
        exact z_iret O hr hlk dzX8_first_21 (z_rf h)
      · have h := z_if_t c3 h
        refine z_iload_n O dzX8_first_13 rfl 2 rfl ?_
        obtain ⟨r2, hc2, h⟩ := z_bd_at h
        refine z_callSiR O (As := [.int a2]) (rest := []) (kX8_many hi hc2) mX8_many tw_999 (Nat.le_of_ble_eq_true rfl) rfl rfl (Nat.le_of_ble_eq_true rfl) dzX8_first_14 ?_
        refine z_goto O dzX8_first_17 ?_
        exact z_iret O hr hlk dzX8_first_21 (z_rf h)
def fX8_metBy_L5 (σ : zS) (a1 : Int32) (a2 : Int32) (k : Int32 → Int32 → Option (Int32)) : Nat → Int32 → Int32 → Option (Int32)
  | 0, _, _ => none
  | n + 1, v3, v4 => z_gd (z_in a1 4) ((if (σ.1 2 a1.toNatClampNeg) ≤ v4 then k v3 v4 else (fX8_setOf σ a1 v4).bind (fun r1 => (if (r1 &&& a2) = 0 then z_lt (v3 + (0 : Int32)) (fun (x1 : Int32) => fX8_metBy_L5 σ a1 a2 k n x1 (v4 + (1 : Int32))) else z_lt (v3 + (1 : Int32)) (fun (x2 : Int32) => fX8_metBy_L5 σ a1 a2 k n x2 (v4 + (1 : Int32)))))))
theorem kX8_metBy_L5 {l : Launch} {Y : zY} {fin : Int32} {p : Program} {e : Env} {s : State} {m : MethodId} {args : Array Value} {below : List Frame} {meth : Method} {c : Code} {σ : zS} (O : z_ok ΛM Y p s m args c cX8_metBy RX8 5) (hi : z_inj ΛM Y) (hr : meth.sig.returnType = (some .int)) (hlk : meth.locks = false) {a1 : Int32} {a2 : Int32} {k : Int32 → Int32 → Option (Int32)} (hk : ∀ (z3 : Int32) (z4 : Int32), k z3 z4 = some fin → z_G p l e (z_rm 2) s m args below meth c (MQ below (z_Qi ΛM Y (fin, σ)) args s 0 0 (z_A ΛM Y)) ΛM Y 5 σ [(0, .ref (z_ad Y 0)), (1, .int a1), (2, .int a2), (3, .int z3), (4, .int z4)] 42 []) : ∀ (n : Nat) (v3 : Int32) (v4 : Int32), fX8_metBy_L5 σ a1 a2 k n v3 v4 = some fin → z_G p l e (z_rm 2) s m args below meth c (MQ below (z_Qi ΛM Y (fin, σ)) args s 0 0 (z_A ΛM Y)) ΛM Y 5 σ [(0, .ref (z_ad Y 0)), (1, .int a1), (2, .int a2), (3, .int v3), (4, .int v4)] 5 [] := by
  intro n
  induction n with
  | zero =>
    intro _ _ h
    cases h
  | succ n ih =>
    intro v3 v4 h
    rw [fX8_metBy_L5.eq_2] at h
    refine z_iload O dzX8_metBy_5 4 rfl ?_
    refine z_aload_n O dzX8_metBy_7 rfl 0 rfl ?_
    refine z_get O z_cb8 fm_obj (v := .ref (z_ad Y 2)) 1 (Nat.le_of_ble_eq_true rfl) tw_750 rfl dzX8_metBy_8 ?_
    refine z_iload_n O dzX8_metBy_11 rfl 1 rfl ?_
    obtain ⟨g1, h⟩ := z_gd_at h
    refine z_iald O fm_sizes g1 dzX8_metBy_12 ?_
    refine z_icmp_ge O dzX8_metBy_13 (fun c2 => ?_) (fun c2 => ?_)
    · have h := z_if_t c2 h
      exact hk _ _ h
    · have h := z_if_f c2 h
      refine z_iload_n O dzX8_metBy_16 rfl 3 rfl ?_
      refine z_aload_n O dzX8_metBy_17 rfl 0 rfl ?_
      refine z_iload_n O dzX8_metBy_18 rfl 1 rfl ?_
      refine z_iload O dzX8_metBy_19 4 rfl ?_
      obtain ⟨r1, hc1, h⟩ := z_bd_at h
      refine z_callViR O (As := [.int a1, .int v4]) (rest := [.int v3]) (kX8_setOf hi hc1) mX8_setOf tw_908 (Nat.le_of_ble_eq_true rfl) fm_obj rfl rfl rfl rfl (Nat.le_of_ble_eq_true rfl) dzX8_metBy_21 ?_
      refine z_iload_n O dzX8_metBy_24 rfl 2 rfl ?_
      refine z_iand O dzX8_metBy_25 ?_
      refine z_if_eq O dzX8_metBy_26 (fun c1 => ?_) (fun c1 => ?_)
      · have h := z_if_t c1 h
        refine z_iconst O dzX8_metBy_33 hcI0 ?_
        refine z_iadd O dzX8_metBy_34 ?_
        refine z_topi (fun x1 e1 => ?_)
        have h := z_lt_at e1 h
        refine z_istore_n O (lv' := [(3, .int x1), (0, .ref (z_ad Y 0)), (1, .int a1), (2, .int a2), (4, .int v4)]) dzX8_metBy_35 rfl (by decide) rfl ?_
        refine z_iinc O (lv' := [(4, .int (v4 + (1 : Int32))), (3, .int x1), (0, .ref (z_ad Y 0)), (1, .int a1), (2, .int a2)]) dzX8_metBy_36 4 rfl (congrArg _ hcI1) (by decide) rfl ?_
        refine z_goto O dzX8_metBy_39 ?_
        refine z_sub [2, 3, 4, 1, 0] rfl ?_
        exact ih _ _ h
      · have h := z_if_f c1 h
        refine z_iconst O dzX8_metBy_29 hcI1 ?_
        refine z_goto O dzX8_metBy_30 ?_
        refine z_iadd O dzX8_metBy_34 ?_
        refine z_topi (fun x2 e2 => ?_)
        have h := z_lt_at e2 h
        refine z_istore_n O (lv' := [(3, .int x2), (0, .ref (z_ad Y 0)), (1, .int a1), (2, .int a2), (4, .int v4)]) dzX8_metBy_35 rfl (by decide) rfl ?_
        refine z_iinc O (lv' := [(4, .int (v4 + (1 : Int32))), (3, .int x2), (0, .ref (z_ad Y 0)), (1, .int a1), (2, .int a2)]) dzX8_metBy_36 4 rfl (congrArg _ hcI1) (by decide) rfl ?_
        refine z_goto O dzX8_metBy_39 ?_
        refine z_sub [2, 3, 4, 1, 0] rfl ?_
        exact ih _ _ h
def fX8_metBy (σ : zS) (a1 : Int32) (a2 : Int32) : Option (Int32) :=
  fX8_metBy_L5 σ a1 a2 (fun (x1 : Int32) (x2 : Int32) => some x1) z_F (0 : Int32) (0 : Int32)
theorem kX8_metBy {l : Launch} {Y : zY} (hi : z_inj ΛM Y) {σ : zS} {a1 : Int32} {a2 : Int32} {fin : Int32} (h : fX8_metBy σ a1 a2 = some fin) : Met l yX8_metBy (Cond.code yX8_metBy cX8_metBy 5 (some .int) :: z_TB) (z_rm 2) (z_Pc ΛM Y σ [.ref (z_ad Y 0), .int a1, .int a2]) (z_Qi ΛM Y (fin, σ)) 0 0 (z_A ΛM Y) := by
  unfold fX8_metBy at h
  refine z_met [(0, .ref (z_ad Y 0)), (1, .int a1), (2, .int a2)] rfl (Nat.le_of_ble_eq_true rfl) (plainFor_of_name (by decide)) hi ?_
  intro p e s m args below meth c O hr hlk
  refine z_iconst O dzX8_metBy_0 hcI0 ?_
  refine z_istore_n O (lv' := [(3, .int (0 : Int32)), (0, .ref (z_ad Y 0)), (1, .int a1), (2, .int a2)]) dzX8_metBy_1 rfl (by decide) rfl ?_
  refine z_iconst O dzX8_metBy_2 hcI0 ?_
  refine z_istore O (lv' := [(4, .int (0 : Int32)), (3, .int (0 : Int32)), (0, .ref (z_ad Y 0)), (1, .int a1), (2, .int a2)]) dzX8_metBy_3 (by decide) rfl ?_
  refine z_sub [2, 3, 4, 1, 0] rfl ?_
  refine kX8_metBy_L5 O hi hr hlk   (fun x1 x2 h => ?_) _ _ _ h
  refine z_iload_n O dzX8_metBy_42 rfl 3 rfl ?_
  exact z_iret O hr hlk dzX8_metBy_43 (z_rf h)
def fX8_worthOf_L217 (σ : zS) (a1 : Int32) (a2 : Int32) (k : Int32 → Int32 → Option (Int32)) : Nat → Int32 → Int32 → Option (Int32)
  | 0, _, _ => none
  | n + 1, v7, v8 => (if (12 : Int32) ≤ v8 then k v7 v8 else (fX8_has a2 v8).bind (fun r1 => (if r1 = 0 then z_lt (v7 + (0 : Int32)) (fun (x1 : Int32) => fX8_worthOf_L217 σ a1 a2 k n x1 (v8 + (1 : Int32))) else z_gd (z_in (((12 : Int32) * a1) + v8) 144) (z_lt (v7 + (σ.1 9 (((12 : Int32) * a1) + v8).toNatClampNeg)) (fun (x2 : Int32) => fX8_worthOf_L217 σ a1 a2 k n x2 (v8 + (1 : Int32)))))))
theorem kX8_worthOf_L217 {l : Launch} {Y : zY} {fin : Int32} {p : Program} {e : Env} {s : State} {m : MethodId} {args : Array Value} {below : List Frame} {meth : Method} {c : Code} {σ : zS} {d : Nat} (O : z_ok ΛM Y p s m args c cX8_worthOf RX8 9) (hi : z_inj ΛM Y) (hr : meth.sig.returnType = (some .int)) (hlk : meth.locks = false) {a1 : Int32} {a2 : Int32} {k : Int32 → Int32 → Option (Int32)} (hk : ∀ (z7 : Int32) (z8 : Int32), k z7 z8 = some fin → z_G p l e (z_rm (3 + d + 1)) s m args below meth c (MQ below (z_Qi ΛM Y (fin, σ)) args s 0 0 (z_A ΛM Y)) ΛM Y 9 σ [(0, .ref (z_ad Y 0)), (1, .int a1), (2, .int a2), (7, .int z7), (8, .int z8)] 260 []) : ∀ (n : Nat) (v7 : Int32) (v8 : Int32), fX8_worthOf_L217 σ a1 a2 k n v7 v8 = some fin → z_G p l e (z_rm (3 + d + 1)) s m args below meth c (MQ below (z_Qi ΛM Y (fin, σ)) args s 0 0 (z_A ΛM Y)) ΛM Y 9 σ [(0, .ref (z_ad Y 0)), (1, .int a1), (2, .int a2), (7, .int v7), (8, .int v8)] 217 [] := by
  intro n
  induction n with
  | zero =>
    intro _ _ h
    cases h
  | succ n ih =>
    intro v7 v8 h
    rw [fX8_worthOf_L217.eq_2] at h
    refine z_iload O dzX8_worthOf_217 4 rfl ?_
    refine z_bipush O dzX8_worthOf_219 hcB12 ?_
    refine z_icmp_ge O dzX8_worthOf_221 (fun c2 => ?_) (fun c2 => ?_)
    · have h := z_if_t c2 h
      exact hk _ _ h
    · have h := z_if_f c2 h
      refine z_iload O dzX8_worthOf_224 3 rfl ?_
      refine z_iload_n O dzX8_worthOf_226 rfl 2 rfl ?_
      refine z_iload O dzX8_worthOf_227 4 rfl ?_
      obtain ⟨r1, hc1, h⟩ := z_bd_at h
      refine z_callSiR O (As := [.int a2, .int v8]) (rest := [.int v7]) (kX8_has hi hc1) mX8_has tw_1052 (by omega) rfl rfl (Nat.le_of_ble_eq_true rfl) dzX8_worthOf_229 ?_
      refine z_if_eq O dzX8_worthOf_232 (fun c1 => ?_) (fun c1 => ?_)
      · have h := z_if_t c1 h
        refine z_iconst O dzX8_worthOf_250 hcI0 ?_
        refine z_iadd O dzX8_worthOf_251 ?_
        refine z_topi (fun x1 e1 => ?_)
        have h := z_lt_at e1 h
        refine z_istore O (lv' := [(7, .int x1), (0, .ref (z_ad Y 0)), (1, .int a1), (2, .int a2), (8, .int v8)]) dzX8_worthOf_252 (by decide) rfl ?_
        refine z_iinc O (lv' := [(8, .int (v8 + (1 : Int32))), (7, .int x1), (0, .ref (z_ad Y 0)), (1, .int a1), (2, .int a2)]) dzX8_worthOf_254 4 rfl (congrArg _ hcI1) (by decide) rfl ?_
        refine z_goto O dzX8_worthOf_257 ?_
        refine z_sub [2, 3, 4, 1, 0] rfl ?_
        exact ih _ _ h
      · have h := z_if_f c1 h
        refine z_aload_n O dzX8_worthOf_235 rfl 0 rfl ?_
        refine z_get O z_cb8 fm_obj (v := .ref (z_ad Y 9)) 9 (Nat.le_of_ble_eq_true rfl) tw_758 rfl dzX8_worthOf_236 ?_
        refine z_bipush O dzX8_worthOf_239 hcB12 ?_
        refine z_iload_n O dzX8_worthOf_241 rfl 1 rfl ?_
        refine z_imul O dzX8_worthOf_242 ?_
        refine z_iload O dzX8_worthOf_243 4 rfl ?_
        refine z_iadd O dzX8_worthOf_245 ?_
        obtain ⟨g1, h⟩ := z_gd_at h
        refine z_iald O fm_rulePrice g1 dzX8_worthOf_246 ?_
        refine z_goto O dzX8_worthOf_247 ?_
        refine z_iadd O dzX8_worthOf_251 ?_
        refine z_topi (fun x2 e2 => ?_)
        have h := z_lt_at e2 h
        refine z_istore O (lv' := [(7, .int x2), (0, .ref (z_ad Y 0)), (1, .int a1), (2, .int a2), (8, .int v8)]) dzX8_worthOf_252 (by decide) rfl ?_
        refine z_iinc O (lv' := [(8, .int (v8 + (1 : Int32))), (7, .int x2), (0, .ref (z_ad Y 0)), (1, .int a1), (2, .int a2)]) dzX8_worthOf_254 4 rfl (congrArg _ hcI1) (by decide) rfl ?_
        refine z_goto O dzX8_worthOf_257 ?_
        refine z_sub [2, 3, 4, 1, 0] rfl ?_
        exact ih _ _ h
def fX8_worthOf : Nat → zS → Int32 → Int32 → Option (Int32)
  | 0, _, _, _ => none
  | d + 1, σ, a1, a2 => (if (4 : Int32) ≤ a1 then z_gd (z_in a1 12) (z_lt (σ.1 6 a1.toNatClampNeg) (fun (x1 : Int32) => z_gd (z_in a1 12) (z_lt (σ.1 8 a1.toNatClampNeg) (fun (x2 : Int32) => z_gd (z_in a1 12) ((if (σ.1 5 a1.toNatClampNeg) = 0 then (fX8_worthOf d σ x1 a2).bind (fun r1 => z_gd (z_in a1 12) ((fX8_worthOf d σ (σ.1 7 a1.toNatClampNeg) a2).bind (fun r2 => some (r1 + r2)))) else (if (σ.1 5 a1.toNatClampNeg) = 1 then (fX8_worthOf d σ x1 a2).bind (fun r3 => z_gd (z_in a1 12) ((fX8_worthOf d σ (σ.1 7 a1.toNatClampNeg) a2).bind (fun r4 => (if r3 ≤ r4 then some r4 else some r3)))) else (if (σ.1 5 a1.toNatClampNeg) = 2 then (fX8_worthOf d σ x1 a2).bind (fun r5 => some (x2 * r5)) else (if (σ.1 5 a1.toNatClampNeg) = 3 then (fX8_worthOf d σ x1 (a2 &&& (((1 : Int32) <<< (x2 &&& 31)) ^^^ (-1 : Int32)))).bind (fun r6 => some r6) else (if (σ.1 5 a1.toNatClampNeg) = 4 then (if 0 ≤ x2 then (fX8_worthOf d σ x1 ((a2 <<< (x2 &&& 31)) &&& (4095 : Int32))).bind (fun r7 => some r7) else (fX8_worthOf d σ x1 (a2 >>> ((-x2) &&& 31))).bind (fun r8 => some r8)) else (if (σ.1 5 a1.toNatClampNeg) = 5 then (fX8_has a2 x2).bind (fun r9 => (if r9 = 0 then z_gd (z_in a1 12) ((fX8_worthOf d σ (σ.1 7 a1.toNatClampNeg) a2).bind (fun r10 => some r10)) else (fX8_worthOf d σ x1 a2).bind (fun r11 => some r11))) else (if (σ.1 5 a1.toNatClampNeg) = 6 then fX8_worthOf_L217 σ a1 a2 (fun (x3 : Int32) (x4 : Int32) => some x3) z_F (0 : Int32) (0 : Int32) else (if (σ.1 5 a1.toNatClampNeg) = 7 then (fX8_metBy σ x2 a2).bind (fun r12 => some r12) else (fX8_worthOf d σ x1 ((4095 : Int32) &&& (a2 ^^^ (-1 : Int32)))).bind (fun r13 => some r13)))))))))))))) else (fX8_first σ a1 a2).bind (fun r14 => some r14))
theorem kX8_worthOf {l : Launch} {Y : zY} (hi : z_inj ΛM Y) : ∀ (d : Nat) {σ : zS} {a1 : Int32} {a2 : Int32} {fin : Int32} (h : fX8_worthOf d σ a1 a2 = some fin), Met l yX8_worthOf (Cond.code yX8_worthOf cX8_worthOf 9 (some .int) :: z_TB) (z_rm (3 + d)) (z_Pc ΛM Y σ [.ref (z_ad Y 0), .int a1, .int a2]) (z_Qi ΛM Y (fin, σ)) 0 0 (z_A ΛM Y) := by
  intro d
  induction d with
  | zero =>
    intro σ a1 a2 fin h
    cases h
  | succ d ih =>
    intro σ a1 a2 fin h
    rw [fX8_worthOf.eq_2] at h
    refine z_met [(0, .ref (z_ad Y 0)), (1, .int a1), (2, .int a2)] rfl (Nat.le_of_ble_eq_true rfl) (plainFor_of_name (by decide)) hi ?_
    intro p e s m args below meth c O hr hlk
    refine z_iload_n O dzX8_worthOf_0 rfl 1 rfl ?_
    refine z_iconst O dzX8_worthOf_1 hcI4 ?_
    refine z_icmp_ge O dzX8_worthOf_2 (fun c12 => ?_) (fun c12 => ?_)
    · have h := z_if_t c12 h
      refine z_aload_n O dzX8_worthOf_12 rfl 0 rfl ?_
      refine z_get O z_cb8 fm_obj (v := .ref (z_ad Y 6)) 6 (Nat.le_of_ble_eq_true rfl) tw_755 rfl dzX8_worthOf_13 ?_
      refine z_iload_n O dzX8_worthOf_16 rfl 1 rfl ?_
      obtain ⟨g1, h⟩ := z_gd_at h
      refine z_iald O fm_ruleA g1 dzX8_worthOf_17 ?_
      refine z_topi (fun x1 e1 => ?_)
      have h := z_lt_at e1 h
      refine z_istore_n O (lv' := [(3, .int x1), (0, .ref (z_ad Y 0)), (1, .int a1), (2, .int a2)]) dzX8_worthOf_18 rfl (by decide) rfl ?_
      refine z_aload_n O dzX8_worthOf_19 rfl 1 rfl ?_
      refine z_get O z_cb8 fm_obj (v := .ref (z_ad Y 8)) 8 (Nat.le_of_ble_eq_true rfl) tw_757 rfl dzX8_worthOf_20 ?_
      refine z_iload_n O dzX8_worthOf_23 rfl 2 rfl ?_
      obtain ⟨g2, h⟩ := z_gd_at h
      refine z_iald O fm_ruleC g2 dzX8_worthOf_24 ?_
      refine z_topi (fun x2 e2 => ?_)
      have h := z_lt_at e2 h
      refine z_istore O (lv' := [(4, .int x2), (3, .int x1), (0, .ref (z_ad Y 0)), (1, .int a1), (2, .int a2)]) dzX8_worthOf_25 (by decide) rfl ?_
      refine z_aload_n O dzX8_worthOf_27 rfl 2 rfl ?_
      refine z_get O z_cb8 fm_obj (v := .ref (z_ad Y 5)) 5 (Nat.le_of_ble_eq_true rfl) tw_754 rfl dzX8_worthOf_28 ?_
      refine z_iload_n O dzX8_worthOf_31 rfl 3 rfl ?_
      obtain ⟨g3, h⟩ := z_gd_at h
      refine z_iald O fm_ruleHow g3 dzX8_worthOf_32 ?_
      by_cases c1 : (σ.1 5 a1.toNatClampNeg) = 0
      · have h := z_if_t c1 h
        refine z_tabI O dzX8_worthOf_33 (x := (σ.1 5 a1.toNatClampNeg)) (by rw [c1]; decide) (by rw [c1]; decide) (off := 47) (by rw [c1]; rfl) (tgt := 80) rfl ?_
        refine z_aload_n O dzX8_worthOf_80 rfl 2 rfl ?_
        refine z_iload_n O dzX8_worthOf_81 rfl 1 rfl ?_
        refine z_iload_n O dzX8_worthOf_82 rfl 4 rfl ?_
        obtain ⟨r1, hc1, h⟩ := z_bd_at h
        refine z_callViR O (As := [.int x1, .int a2]) (rest := []) (ih hc1) mX8_worthOf tw_1116 (by omega) fm_obj rfl rfl rfl rfl (Nat.le_of_ble_eq_true rfl) dzX8_worthOf_83 ?_
        refine z_aload_n O dzX8_worthOf_86 rfl 2 rfl ?_
        refine z_aload_n O dzX8_worthOf_87 rfl 2 rfl ?_
        refine z_get O z_cb8 fm_obj (v := .ref (z_ad Y 7)) 7 (Nat.le_of_ble_eq_true rfl) tw_756 rfl dzX8_worthOf_88 ?_
        refine z_iload_n O dzX8_worthOf_91 rfl 3 rfl ?_
        obtain ⟨g4, h⟩ := z_gd_at h
        refine z_iald O fm_ruleB g4 dzX8_worthOf_92 ?_
        refine z_iload_n O dzX8_worthOf_93 rfl 4 rfl ?_
        obtain ⟨r2, hc2, h⟩ := z_bd_at h
        refine z_callViR O (As := [.int (σ.1 7 a1.toNatClampNeg), .int a2]) (rest := [.int r1]) (ih hc2) mX8_worthOf tw_1116 (by omega) fm_obj rfl rfl rfl rfl (Nat.le_of_ble_eq_true rfl) dzX8_worthOf_94 ?_
        refine z_iadd O dzX8_worthOf_97 ?_
        exact z_iret O hr hlk dzX8_worthOf_98 (z_rf h)
      have h := z_if_f c1 h
      by_cases c2 : (σ.1 5 a1.toNatClampNeg) = 1
      · have h := z_if_t c2 h
        refine z_tabI O dzX8_worthOf_33 (x := (σ.1 5 a1.toNatClampNeg)) (by rw [c2]; decide) (by rw [c2]; decide) (off := 66) (by rw [c2]; rfl) (tgt := 99) rfl ?_
        refine z_aload_n O dzX8_worthOf_99 rfl 2 rfl ?_
        refine z_iload_n O dzX8_worthOf_100 rfl 1 rfl ?_
        refine z_iload_n O dzX8_worthOf_101 rfl 4 rfl ?_
        obtain ⟨r3, hc3, h⟩ := z_bd_at h
        refine z_callViR O (As := [.int x1, .int a2]) (rest := []) (ih hc3) mX8_worthOf tw_1116 (by omega) fm_obj rfl rfl rfl rfl (Nat.le_of_ble_eq_true rfl) dzX8_worthOf_102 ?_
        refine z_istore O (lv' := [(5, .int r3), (4, .int x2), (3, .int x1), (0, .ref (z_ad Y 0)), (1, .int a1), (2, .int a2)]) dzX8_worthOf_105 (by decide) rfl ?_
        refine z_aload_n O dzX8_worthOf_107 rfl 3 rfl ?_
        refine z_aload_n O dzX8_worthOf_108 rfl 3 rfl ?_
        refine z_get O z_cb8 fm_obj (v := .ref (z_ad Y 7)) 7 (Nat.le_of_ble_eq_true rfl) tw_756 rfl dzX8_worthOf_109 ?_
        refine z_iload_n O dzX8_worthOf_112 rfl 4 rfl ?_
        obtain ⟨g5, h⟩ := z_gd_at h
        refine z_iald O fm_ruleB g5 dzX8_worthOf_113 ?_
        refine z_iload_n O dzX8_worthOf_114 rfl 5 rfl ?_
        obtain ⟨r4, hc4, h⟩ := z_bd_at h
        refine z_callViR O (As := [.int (σ.1 7 a1.toNatClampNeg), .int a2]) (rest := []) (ih hc4) mX8_worthOf tw_1116 (by omega) fm_obj rfl rfl rfl rfl (Nat.le_of_ble_eq_true rfl) dzX8_worthOf_115 ?_
        refine z_istore O (lv' := [(6, .int r4), (5, .int r3), (4, .int x2), (3, .int x1), (0, .ref (z_ad Y 0)), (1, .int a1), (2, .int a2)]) dzX8_worthOf_118 (by decide) rfl ?_
        refine z_iload O dzX8_worthOf_120 1 rfl ?_
        refine z_iload O dzX8_worthOf_122 0 rfl ?_
        refine z_icmp_le O dzX8_worthOf_124 (fun c3 => ?_) (fun c3 => ?_)
        · have h := z_if_t c3 h
          refine z_iload O dzX8_worthOf_132 0 rfl ?_
          exact z_iret O hr hlk dzX8_worthOf_134 (z_rf h)
        · have h := z_if_f c3 h
          refine z_iload O dzX8_worthOf_127 1 rfl ?_
          refine z_goto O dzX8_worthOf_129 ?_
          exact z_iret O hr hlk dzX8_worthOf_134 (z_rf h)
      have h := z_if_f c2 h
      by_cases c4 : (σ.1 5 a1.toNatClampNeg) = 2
      · have h := z_if_t c4 h
        refine z_tabI O dzX8_worthOf_33 (x := (σ.1 5 a1.toNatClampNeg)) (by rw [c4]; decide) (by rw [c4]; decide) (off := 102) (by rw [c4]; rfl) (tgt := 135) rfl ?_
        refine z_iload O dzX8_worthOf_135 0 rfl ?_
        refine z_aload_n O dzX8_worthOf_137 rfl 2 rfl ?_
        refine z_iload_n O dzX8_worthOf_138 rfl 1 rfl ?_
        refine z_iload_n O dzX8_worthOf_139 rfl 4 rfl ?_
        obtain ⟨r5, hc5, h⟩ := z_bd_at h
        refine z_callViR O (As := [.int x1, .int a2]) (rest := [.int x2]) (ih hc5) mX8_worthOf tw_1116 (by omega) fm_obj rfl rfl rfl rfl (Nat.le_of_ble_eq_true rfl) dzX8_worthOf_140 ?_
        refine z_imul O dzX8_worthOf_143 ?_
        exact z_iret O hr hlk dzX8_worthOf_144 (z_rf h)
      have h := z_if_f c4 h
      by_cases c5 : (σ.1 5 a1.toNatClampNeg) = 3
      · have h := z_if_t c5 h
        refine z_tabI O dzX8_worthOf_33 (x := (σ.1 5 a1.toNatClampNeg)) (by rw [c5]; decide) (by rw [c5]; decide) (off := 112) (by rw [c5]; rfl) (tgt := 145) rfl ?_
        refine z_aload_n O dzX8_worthOf_145 rfl 2 rfl ?_
        refine z_iload_n O dzX8_worthOf_146 rfl 1 rfl ?_
        refine z_iload_n O dzX8_worthOf_147 rfl 4 rfl ?_
        refine z_iconst O dzX8_worthOf_148 hcI1 ?_
        refine z_iload O dzX8_worthOf_149 0 rfl ?_
        refine z_ishl O dzX8_worthOf_151 ?_
        refine z_iconst O dzX8_worthOf_152 hcIm1 ?_
        refine z_ixor O dzX8_worthOf_153 ?_
        refine z_iand O dzX8_worthOf_154 ?_
        obtain ⟨r6, hc6, h⟩ := z_bd_at h
        refine z_callViR O (As := [.int x1, .int (a2 &&& (((1 : Int32) <<< (x2 &&& 31)) ^^^ (-1 : Int32)))]) (rest := []) (ih hc6) mX8_worthOf tw_1116 (by omega) fm_obj rfl rfl rfl rfl (Nat.le_of_ble_eq_true rfl) dzX8_worthOf_155 ?_
        exact z_iret O hr hlk dzX8_worthOf_158 (z_rf h)
      have h := z_if_f c5 h
      by_cases c6 : (σ.1 5 a1.toNatClampNeg) = 4
      · have h := z_if_t c6 h
        refine z_tabI O dzX8_worthOf_33 (x := (σ.1 5 a1.toNatClampNeg)) (by rw [c6]; decide) (by rw [c6]; decide) (off := 126) (by rw [c6]; rfl) (tgt := 159) rfl ?_
        refine z_aload_n O dzX8_worthOf_159 rfl 2 rfl ?_
        refine z_iload_n O dzX8_worthOf_160 rfl 1 rfl ?_
        refine z_iload O dzX8_worthOf_161 0 rfl ?_
        refine z_if_ge O dzX8_worthOf_163 (fun c7 => ?_) (fun c7 => ?_)
        · have h := z_if_t c7 h
          refine z_iload_n O dzX8_worthOf_174 rfl 4 rfl ?_
          refine z_iload O dzX8_worthOf_175 0 rfl ?_
          refine z_ishl O dzX8_worthOf_177 ?_
          refine z_sipush O dzX8_worthOf_178 hcS4095 ?_
          refine z_iand O dzX8_worthOf_181 ?_
          obtain ⟨r7, hc7, h⟩ := z_bd_at h
          refine z_callViR O (As := [.int x1, .int ((a2 <<< (x2 &&& 31)) &&& (4095 : Int32))]) (rest := []) (ih hc7) mX8_worthOf tw_1116 (by omega) fm_obj rfl rfl rfl rfl (Nat.le_of_ble_eq_true rfl) dzX8_worthOf_182 ?_
          exact z_iret O hr hlk dzX8_worthOf_185 (z_rf h)
        · have h := z_if_f c7 h
          refine z_iload_n O dzX8_worthOf_166 rfl 4 rfl ?_
          refine z_iload O dzX8_worthOf_167 0 rfl ?_
          refine z_ineg O dzX8_worthOf_169 ?_
          refine z_ishr O dzX8_worthOf_170 ?_
          refine z_goto O dzX8_worthOf_171 ?_
          obtain ⟨r8, hc8, h⟩ := z_bd_at h
          refine z_callViR O (As := [.int x1, .int (a2 >>> ((-x2) &&& 31))]) (rest := []) (ih hc8) mX8_worthOf tw_1116 (by omega) fm_obj rfl rfl rfl rfl (Nat.le_of_ble_eq_true rfl) dzX8_worthOf_182 ?_
          exact z_iret O hr hlk dzX8_worthOf_185 (z_rf h)
      have h := z_if_f c6 h
      by_cases c8 : (σ.1 5 a1.toNatClampNeg) = 5
      · have h := z_if_t c8 h
        refine z_tabI O dzX8_worthOf_33 (x := (σ.1 5 a1.toNatClampNeg)) (by rw [c8]; decide) (by rw [c8]; decide) (off := 153) (by rw [c8]; rfl) (tgt := 186) rfl ?_
        refine z_aload_n O dzX8_worthOf_186 rfl 2 rfl ?_
        refine z_iload_n O dzX8_worthOf_187 rfl 4 rfl ?_
        refine z_iload O dzX8_worthOf_188 0 rfl ?_
        obtain ⟨r9, hc9, h⟩ := z_bd_at h
        refine z_callSiR O (As := [.int a2, .int x2]) (rest := [.ref (z_ad Y 0)]) (kX8_has hi hc9) mX8_has tw_1052 (by omega) rfl rfl (Nat.le_of_ble_eq_true rfl) dzX8_worthOf_190 ?_
        refine z_if_eq O dzX8_worthOf_193 (fun c9 => ?_) (fun c9 => ?_)
        · have h := z_if_t c9 h
          refine z_aload_n O dzX8_worthOf_200 rfl 2 rfl ?_
          refine z_get O z_cb8 fm_obj (v := .ref (z_ad Y 7)) 7 (Nat.le_of_ble_eq_true rfl) tw_756 rfl dzX8_worthOf_201 ?_
          refine z_iload_n O dzX8_worthOf_204 rfl 3 rfl ?_
          obtain ⟨g6, h⟩ := z_gd_at h
          refine z_iald O fm_ruleB g6 dzX8_worthOf_205 ?_
          refine z_iload_n O dzX8_worthOf_206 rfl 4 rfl ?_
          obtain ⟨r10, hc10, h⟩ := z_bd_at h
          refine z_callViR O (As := [.int (σ.1 7 a1.toNatClampNeg), .int a2]) (rest := []) (ih hc10) mX8_worthOf tw_1116 (by omega) fm_obj rfl rfl rfl rfl (Nat.le_of_ble_eq_true rfl) dzX8_worthOf_207 ?_
          exact z_iret O hr hlk dzX8_worthOf_210 (z_rf h)
        · have h := z_if_f c9 h
          refine z_iload_n O dzX8_worthOf_196 rfl 1 rfl ?_
          refine z_goto O dzX8_worthOf_197 ?_
          refine z_iload_n O dzX8_worthOf_206 rfl 4 rfl ?_
          obtain ⟨r11, hc11, h⟩ := z_bd_at h
          refine z_callViR O (As := [.int x1, .int a2]) (rest := []) (ih hc11) mX8_worthOf tw_1116 (by omega) fm_obj rfl rfl rfl rfl (Nat.le_of_ble_eq_true rfl) dzX8_worthOf_207 ?_
          exact z_iret O hr hlk dzX8_worthOf_210 (z_rf h)
      have h := z_if_f c8 h
      by_cases c10 : (σ.1 5 a1.toNatClampNeg) = 6
      · have h := z_if_t c10 h
        refine z_tabI O dzX8_worthOf_33 (x := (σ.1 5 a1.toNatClampNeg)) (by rw [c10]; decide) (by rw [c10]; decide) (off := 178) (by rw [c10]; rfl) (tgt := 211) rfl ?_
        refine z_iconst O dzX8_worthOf_211 hcI0 ?_
        refine z_istore O (lv' := [(7, .int (0 : Int32)), (4, .int x2), (3, .int x1), (0, .ref (z_ad Y 0)), (1, .int a1), (2, .int a2)]) dzX8_worthOf_212 (by decide) rfl ?_
        refine z_iconst O dzX8_worthOf_214 hcI0 ?_
        refine z_istore O (lv' := [(8, .int (0 : Int32)), (7, .int (0 : Int32)), (4, .int x2), (3, .int x1), (0, .ref (z_ad Y 0)), (1, .int a1), (2, .int a2)]) dzX8_worthOf_215 (by decide) rfl ?_
        refine z_sub [4, 5, 6, 1, 0] rfl ?_
        refine kX8_worthOf_L217 O hi hr hlk   (fun x3 x4 h => ?_) _ _ _ h
        refine z_iload O dzX8_worthOf_260 3 rfl ?_
        exact z_iret O hr hlk dzX8_worthOf_262 (z_rf h)
      have h := z_if_f c10 h
      by_cases c11 : (σ.1 5 a1.toNatClampNeg) = 7
      · have h := z_if_t c11 h
        refine z_tabI O dzX8_worthOf_33 (x := (σ.1 5 a1.toNatClampNeg)) (by rw [c11]; decide) (by rw [c11]; decide) (off := 230) (by rw [c11]; rfl) (tgt := 263) rfl ?_
        refine z_aload_n O dzX8_worthOf_263 rfl 2 rfl ?_
        refine z_iload O dzX8_worthOf_264 0 rfl ?_
        refine z_iload_n O dzX8_worthOf_266 rfl 4 rfl ?_
        obtain ⟨r12, hc12, h⟩ := z_bd_at h
        refine z_callViR O (As := [.int x2, .int a2]) (rest := []) (kX8_metBy hi hc12) mX8_metBy tw_1124 (by omega) fm_obj rfl rfl rfl rfl (Nat.le_of_ble_eq_true rfl) dzX8_worthOf_267 ?_
        exact z_iret O hr hlk dzX8_worthOf_270 (z_rf h)
      have h := z_if_f c11 h
      have qc1 := z_ne (z := 0) rfl c1
      have qc2 := z_ne (z := 1) rfl c2
      have qc4 := z_ne (z := 2) rfl c4
      have qc5 := z_ne (z := 3) rfl c5
      have qc6 := z_ne (z := 4) rfl c6
      have qc8 := z_ne (z := 5) rfl c8
      have qc10 := z_ne (z := 6) rfl c10
      have qc11 := z_ne (z := 7) rfl c11
      refine z_tabO O dzX8_worthOf_33 (by omega) (tgt := 271) rfl ?_
      refine z_aload_n O dzX8_worthOf_271 rfl 2 rfl ?_
      refine z_iload_n O dzX8_worthOf_272 rfl 1 rfl ?_
      refine z_sipush O dzX8_worthOf_273 hcS4095 ?_
      refine z_iload_n O dzX8_worthOf_276 rfl 4 rfl ?_
      refine z_iconst O dzX8_worthOf_277 hcIm1 ?_
      refine z_ixor O dzX8_worthOf_278 ?_
      refine z_iand O dzX8_worthOf_279 ?_
      obtain ⟨r13, hc13, h⟩ := z_bd_at h
      refine z_callViR O (As := [.int x1, .int ((4095 : Int32) &&& (a2 ^^^ (-1 : Int32)))]) (rest := []) (ih hc13) mX8_worthOf tw_1116 (by omega) fm_obj rfl rfl rfl rfl (Nat.le_of_ble_eq_true rfl) dzX8_worthOf_280 ?_
      exact z_iret O hr hlk dzX8_worthOf_283 (z_rf h)
    · have h := z_if_f c12 h
      refine z_aload_n O dzX8_worthOf_5 rfl 0 rfl ?_
      refine z_iload_n O dzX8_worthOf_6 rfl 1 rfl ?_
      refine z_iload_n O dzX8_worthOf_7 rfl 2 rfl ?_
      obtain ⟨r14, hc14, h⟩ := z_bd_at h
      refine z_callViR O (As := [.int a1, .int a2]) (rest := []) (kX8_first hi hc14) mX8_first tw_1120 (by omega) fm_obj rfl rfl rfl rfl (Nat.le_of_ble_eq_true rfl) dzX8_worthOf_8 ?_
      exact z_iret O hr hlk dzX8_worthOf_11 (z_rf h)
def fX8_best_L62 (σ : zS) (a2 : Int32) (k : Int32 → Int32 → Int32 → Option (Int32 × zS)) : Nat → Int32 → Int32 → Int32 → Option (Int32 × zS)
  | 0, _, _, _ => none
  | n + 1, v4, v5, v6 => (if (σ.1 0 18) ≤ v6 then k v4 v5 v6 else z_gd (z_in v6 4096) ((fX8_worthOf 13 σ a2 (σ.1 15 v6.toNatClampNeg)).bind (fun r1 => (if v5 ≤ r1 then (if v5 ≤ r1 then fX8_best_L62 σ a2 k n v4 v5 (v6 + (1 : Int32)) else fX8_best_L62 σ a2 k n v4 r1 (v6 + (1 : Int32))) else z_gd (z_in v6 4096) (z_lt (σ.1 15 v6.toNatClampNeg) (fun (x1 : Int32) => (if v5 ≤ r1 then fX8_best_L62 σ a2 k n x1 v5 (v6 + (1 : Int32)) else fX8_best_L62 σ a2 k n x1 r1 (v6 + (1 : Int32)))))))))
theorem kX8_best_L62 {l : Launch} {Y : zY} {fin : Int32 × zS} {p : Program} {e : Env} {s : State} {m : MethodId} {args : Array Value} {below : List Frame} {meth : Method} {c : Code} {σ : zS} (O : z_ok ΛM Y p s m args c cX8_best RX8 8) (hi : z_inj ΛM Y) (hr : meth.sig.returnType = (some .int)) (hlk : meth.locks = false) {a2 : Int32} {b3 : Int32} {k : Int32 → Int32 → Int32 → Option (Int32 × zS)} (hk : ∀ (z4 : Int32) (z5 : Int32) (z6 : Int32), k z4 z5 z6 = some fin → z_G p l e (z_rm 17) s m args below meth c (MQ below (z_Qi ΛM Y fin) args s 0 0 (z_A ΛM Y)) ΛM Y 8 σ [(0, .ref (z_ad Y 0)), (2, .int a2), (3, .int b3), (4, .int z4), (5, .int z5), (6, .int z6)] 128 []) : ∀ (n : Nat) (v4 : Int32) (v5 : Int32) (v6 : Int32), fX8_best_L62 σ a2 k n v4 v5 v6 = some fin → z_G p l e (z_rm 17) s m args below meth c (MQ below (z_Qi ΛM Y fin) args s 0 0 (z_A ΛM Y)) ΛM Y 8 σ [(0, .ref (z_ad Y 0)), (2, .int a2), (3, .int b3), (4, .int v4), (5, .int v5), (6, .int v6)] 62 [] := by
  intro n
  induction n with
  | zero =>
    intro _ _ _ h
    cases h
  | succ n ih =>
    intro v4 v5 v6 h
    rw [fX8_best_L62.eq_2] at h
    refine z_iload O dzX8_best_62 5 rfl ?_
    refine z_aload_n O dzX8_best_64 rfl 0 rfl ?_
    refine z_get O z_cb8 fm_obj (v := .int (σ.1 0 18)) 18 (Nat.le_of_ble_eq_true rfl) tw_767 rfl dzX8_best_65 ?_
    refine z_icmp_ge O dzX8_best_68 (fun c4 => ?_) (fun c4 => ?_)
    · have h := z_if_t c4 h
      exact hk _ _ _ h
    · have h := z_if_f c4 h
      refine z_aload_n O dzX8_best_71 rfl 0 rfl ?_
      refine z_iload_n O dzX8_best_72 rfl 1 rfl ?_
      refine z_aload_n O dzX8_best_73 rfl 0 rfl ?_
      refine z_get O z_cb8 fm_obj (v := .ref (z_ad Y 15)) 17 (Nat.le_of_ble_eq_true rfl) tw_766 rfl dzX8_best_74 ?_
      refine z_iload O dzX8_best_77 5 rfl ?_
      obtain ⟨g1, h⟩ := z_gd_at h
      refine z_iald O fm_least g1 dzX8_best_79 ?_
      obtain ⟨r1, hc1, h⟩ := z_bd_at h
      refine z_callViR O (As := [.int a2, .int (σ.1 15 v6.toNatClampNeg)]) (rest := []) (kX8_worthOf hi 13 hc1) mX8_worthOf tw_1116 (Nat.le_of_ble_eq_true rfl) fm_obj rfl rfl rfl rfl (Nat.le_of_ble_eq_true rfl) dzX8_best_80 ?_
      refine z_istore O (lv' := [(7, .int r1), (0, .ref (z_ad Y 0)), (2, .int a2), (3, .int b3), (4, .int v4), (5, .int v5), (6, .int v6)]) dzX8_best_83 (by decide) rfl ?_
      refine z_iload O dzX8_best_85 0 rfl ?_
      refine z_iload O dzX8_best_87 5 rfl ?_
      refine z_icmp_ge O dzX8_best_89 (fun c3 => ?_) (fun c3 => ?_)
      · have h := z_if_t c3 h
        refine z_iload O dzX8_best_102 4 rfl ?_
        refine z_istore O (lv' := [(4, .int v4), (7, .int r1), (0, .ref (z_ad Y 0)), (2, .int a2), (3, .int b3), (5, .int v5), (6, .int v6)]) dzX8_best_104 (by decide) rfl ?_
        refine z_iload O dzX8_best_106 1 rfl ?_
        refine z_iload O dzX8_best_108 5 rfl ?_
        refine z_icmp_ge O dzX8_best_110 (fun c1 => ?_) (fun c1 => ?_)
        · have h := z_if_t c1 h
          refine z_iload O dzX8_best_118 5 rfl ?_
          refine z_istore O (lv' := [(5, .int v5), (4, .int v4), (7, .int r1), (0, .ref (z_ad Y 0)), (2, .int a2), (3, .int b3), (6, .int v6)]) dzX8_best_120 (by decide) rfl ?_
          refine z_iinc O (lv' := [(6, .int (v6 + (1 : Int32))), (5, .int v5), (4, .int v4), (7, .int r1), (0, .ref (z_ad Y 0)), (2, .int a2), (3, .int b3)]) dzX8_best_122 6 rfl (congrArg _ hcI1) (by decide) rfl ?_
          refine z_goto O dzX8_best_125 ?_
          refine z_sub [4, 5, 6, 2, 1, 0] rfl ?_
          exact ih _ _ _ h
        · have h := z_if_f c1 h
          refine z_iload O dzX8_best_113 1 rfl ?_
          refine z_goto O dzX8_best_115 ?_
          refine z_istore O (lv' := [(5, .int r1), (4, .int v4), (7, .int r1), (0, .ref (z_ad Y 0)), (2, .int a2), (3, .int b3), (6, .int v6)]) dzX8_best_120 (by decide) rfl ?_
          refine z_iinc O (lv' := [(6, .int (v6 + (1 : Int32))), (5, .int r1), (4, .int v4), (7, .int r1), (0, .ref (z_ad Y 0)), (2, .int a2), (3, .int b3)]) dzX8_best_122 6 rfl (congrArg _ hcI1) (by decide) rfl ?_
          refine z_goto O dzX8_best_125 ?_
          refine z_sub [4, 5, 6, 2, 1, 0] rfl ?_
          exact ih _ _ _ h
      · have h := z_if_f c3 h
        refine z_aload_n O dzX8_best_92 rfl 1 rfl ?_
        refine z_get O z_cb8 fm_obj (v := .ref (z_ad Y 15)) 17 (Nat.le_of_ble_eq_true rfl) tw_766 rfl dzX8_best_93 ?_
        refine z_iload O dzX8_best_96 6 rfl ?_
        obtain ⟨g2, h⟩ := z_gd_at h
        refine z_iald O fm_least g2 dzX8_best_98 ?_
        refine z_goto O dzX8_best_99 ?_
        refine z_topi (fun x1 e1 => ?_)
        have h := z_lt_at e1 h
        refine z_istore O (lv' := [(4, .int x1), (7, .int r1), (0, .ref (z_ad Y 0)), (2, .int a2), (3, .int b3), (5, .int v5), (6, .int v6)]) dzX8_best_104 (by decide) rfl ?_
        refine z_iload O dzX8_best_106 1 rfl ?_
        refine z_iload O dzX8_best_108 5 rfl ?_
        refine z_icmp_ge O dzX8_best_110 (fun c2 => ?_) (fun c2 => ?_)
        · have h := z_if_t c2 h
          refine z_iload O dzX8_best_118 5 rfl ?_
          refine z_istore O (lv' := [(5, .int v5), (4, .int x1), (7, .int r1), (0, .ref (z_ad Y 0)), (2, .int a2), (3, .int b3), (6, .int v6)]) dzX8_best_120 (by decide) rfl ?_
          refine z_iinc O (lv' := [(6, .int (v6 + (1 : Int32))), (5, .int v5), (4, .int x1), (7, .int r1), (0, .ref (z_ad Y 0)), (2, .int a2), (3, .int b3)]) dzX8_best_122 6 rfl (congrArg _ hcI1) (by decide) rfl ?_
          refine z_goto O dzX8_best_125 ?_
          refine z_sub [4, 5, 6, 2, 1, 0] rfl ?_
          exact ih _ _ _ h
        · have h := z_if_f c2 h
          refine z_iload O dzX8_best_113 1 rfl ?_
          refine z_goto O dzX8_best_115 ?_
          refine z_istore O (lv' := [(5, .int r1), (4, .int x1), (7, .int r1), (0, .ref (z_ad Y 0)), (2, .int a2), (3, .int b3), (6, .int v6)]) dzX8_best_120 (by decide) rfl ?_
          refine z_iinc O (lv' := [(6, .int (v6 + (1 : Int32))), (5, .int r1), (4, .int x1), (7, .int r1), (0, .ref (z_ad Y 0)), (2, .int a2), (3, .int b3)]) dzX8_best_122 6 rfl (congrArg _ hcI1) (by decide) rfl ?_
          refine z_goto O dzX8_best_125 ?_
          refine z_sub [4, 5, 6, 2, 1, 0] rfl ?_
          exact ih _ _ _ h
def fX8_best (σ : zS) (a1 : Int32) (a2 : Int32) (a3 : Int32) : Option (Int32 × zS) :=
  (fX8_isFamily a1).bind (fun r1 => (if r1 = 0 then some ((-2 : Int32), σ) else (fX8_isRule σ a2).bind (fun r2 => (if r2 = 0 then some ((-2 : Int32), σ) else (fX8_in (a3.toInt64) (0 : Int64) (1 : Int64)).bind (fun r3 => (if r3 = 0 then some ((-2 : Int32), σ) else (fX8_findsDual σ a1).bind (fun r4 => (if (r4.1 0 18) = 0 then some ((-1 : Int32), r4) else z_gd (z_in (0 : Int32) 4096) (z_lt (r4.1 15 (0 : Int32).toNatClampNeg) (fun (x1 : Int32) => (fX8_worthOf 13 r4 a2 x1).bind (fun r5 => fX8_best_L62 r4 a2 (fun (x2 : Int32) (x3 : Int32) (x4 : Int32) => (if a3 = 0 then some (x2, r4) else some (x3, r4))) z_F x1 r5 (1 : Int32))))))))))))
theorem kX8_best {l : Launch} {Y : zY} (hi : z_inj ΛM Y) {σ : zS} {a1 : Int32} {a2 : Int32} {a3 : Int32} {fin : Int32 × zS} (h : fX8_best σ a1 a2 a3 = some fin) : Met l yX8_best (Cond.code yX8_best cX8_best 8 (some .int) :: z_TB) (z_rm 17) (z_Pc ΛM Y σ [.ref (z_ad Y 0), .int a1, .int a2, .int a3]) (z_Qi ΛM Y fin) 0 0 (z_A ΛM Y) := by
  unfold fX8_best at h
  refine z_met [(0, .ref (z_ad Y 0)), (1, .int a1), (2, .int a2), (3, .int a3)] rfl (Nat.le_of_ble_eq_true rfl) (plainFor_of_name (by decide)) hi ?_
  intro p e s m args below meth c O hr hlk
  refine z_iload_n O dzX8_best_0 rfl 1 rfl ?_
  obtain ⟨r1, hc1, h⟩ := z_bd_at h
  refine z_callSiR O (As := [.int a1]) (rest := []) (kX8_isFamily hi hc1) mX8_isFamily tw_892 (Nat.le_of_ble_eq_true rfl) rfl rfl (Nat.le_of_ble_eq_true rfl) dzX8_best_1 ?_
  refine z_if_eq O dzX8_best_4 (fun c5 => ?_) (fun c5 => ?_)
  · have h := z_if_t c5 h
    refine z_bipush O dzX8_best_25 hcBm2 ?_
    exact z_iret O hr hlk dzX8_best_27 h
  · have h := z_if_f c5 h
    refine z_aload_n O dzX8_best_7 rfl 0 rfl ?_
    refine z_iload_n O dzX8_best_8 rfl 2 rfl ?_
    obtain ⟨r2, hc2, h⟩ := z_bd_at h
    refine z_callViR O (As := [.int a2]) (rest := []) (kX8_isRule hi hc2) mX8_isRule tw_1102 (Nat.le_of_ble_eq_true rfl) fm_obj rfl rfl rfl rfl (Nat.le_of_ble_eq_true rfl) dzX8_best_9 ?_
    refine z_if_eq O dzX8_best_12 (fun c4 => ?_) (fun c4 => ?_)
    · have h := z_if_t c4 h
      refine z_bipush O dzX8_best_25 hcBm2 ?_
      exact z_iret O hr hlk dzX8_best_27 h
    · have h := z_if_f c4 h
      refine z_iload_n O dzX8_best_15 rfl 3 rfl ?_
      refine z_i2l O dzX8_best_16 ?_
      refine z_lconst O dzX8_best_17 (v := 0) rfl ?_
      refine z_lconst O dzX8_best_18 (v := 1) rfl ?_
      obtain ⟨r3, hc3, h⟩ := z_bd_at h
      refine z_callSiR O (As := [.long (a3.toInt64), .long (0 : Int64), .long (1 : Int64)]) (rest := []) (kX8_in hi hc3) mX8_in tw_876 (Nat.le_of_ble_eq_true rfl) rfl rfl (Nat.le_of_ble_eq_true rfl) dzX8_best_19 ?_
      refine z_if_ne O dzX8_best_22 (fun c3 => ?_) (fun c3 => ?_)
      · have h := z_if_f c3 h
        refine z_aload_n O dzX8_best_28 rfl 0 rfl ?_
        refine z_iload_n O dzX8_best_29 rfl 1 rfl ?_
        obtain ⟨r4, hc4, h⟩ := z_bd_at h
        refine z_callVv O (As := [.int a1]) (rest := []) (kX8_findsDual hi hc4) mX8_findsDual tw_1011 (Nat.le_of_ble_eq_true rfl) fm_obj rfl rfl rfl rfl (Nat.le_of_ble_eq_true rfl) dzX8_best_30 ?_
        refine z_aload_n O dzX8_best_33 rfl 0 rfl ?_
        refine z_get O z_cb8 fm_obj (v := .int (r4.1 0 18)) 18 (Nat.le_of_ble_eq_true rfl) tw_767 rfl dzX8_best_34 ?_
        refine z_if_ne O dzX8_best_37 (fun c2 => ?_) (fun c2 => ?_)
        · have h := z_if_f c2 h
          refine z_aload_n O dzX8_best_42 rfl 0 rfl ?_
          refine z_get O z_cb8 fm_obj (v := .ref (z_ad Y 15)) 17 (Nat.le_of_ble_eq_true rfl) tw_766 rfl dzX8_best_43 ?_
          refine z_iconst O dzX8_best_46 hcI0 ?_
          obtain ⟨g1, h⟩ := z_gd_at h
          refine z_iald O fm_least g1 dzX8_best_47 ?_
          refine z_topi (fun x1 e1 => ?_)
          have h := z_lt_at e1 h
          refine z_istore O (lv' := [(4, .int x1), (0, .ref (z_ad Y 0)), (1, .int a1), (2, .int a2), (3, .int a3)]) dzX8_best_48 (by decide) rfl ?_
          refine z_aload_n O dzX8_best_50 rfl 1 rfl ?_
          refine z_iload_n O dzX8_best_51 rfl 3 rfl ?_
          refine z_iload O dzX8_best_52 0 rfl ?_
          obtain ⟨r5, hc5, h⟩ := z_bd_at h
          refine z_callViR O (As := [.int a2, .int x1]) (rest := []) (kX8_worthOf hi 13 hc5) mX8_worthOf tw_1116 (Nat.le_of_ble_eq_true rfl) fm_obj rfl rfl rfl rfl (Nat.le_of_ble_eq_true rfl) dzX8_best_54 ?_
          refine z_istore O (lv' := [(5, .int r5), (4, .int x1), (0, .ref (z_ad Y 0)), (1, .int a1), (2, .int a2), (3, .int a3)]) dzX8_best_57 (by decide) rfl ?_
          refine z_iconst O dzX8_best_59 hcI1 ?_
          refine z_istore O (lv' := [(6, .int (1 : Int32)), (5, .int r5), (4, .int x1), (0, .ref (z_ad Y 0)), (1, .int a1), (2, .int a2), (3, .int a3)]) dzX8_best_60 (by decide) rfl ?_
          refine z_sub [3, 5, 6, 2, 1, 0] rfl ?_
          refine kX8_best_L62 O hi hr hlk   (fun x2 x3 x4 h => ?_) _ _ _ _ h
          refine z_iload_n O dzX8_best_128 rfl 2 rfl ?_
          refine z_if_ne O dzX8_best_129 (fun c1 => ?_) (fun c1 => ?_)
          · have h := z_if_f c1 h
            refine z_iload O dzX8_best_137 4 rfl ?_
            exact z_iret O hr hlk dzX8_best_139 h
          · have h := z_if_t c1 h
            refine z_iload O dzX8_best_132 3 rfl ?_
            refine z_goto O dzX8_best_134 ?_
            exact z_iret O hr hlk dzX8_best_139 h
        · have h := z_if_t c2 h
          refine z_iconst O dzX8_best_40 hcIm1 ?_
          exact z_iret O hr hlk dzX8_best_41 h
      · have h := z_if_t c3 h
        refine z_bipush O dzX8_best_25 hcBm2 ?_
        exact z_iret O hr hlk dzX8_best_27 h
def fX8_isBorder_L22 (σ : zS) (a1 : Int32) (a2 : Int32) (k : Int32 → Option (Int32)) : Nat → Int32 → Option (Int32)
  | 0, _ => none
  | n + 1, v3 => (if (12 : Int32) ≤ v3 then k v3 else z_lt (a1 ^^^ ((1 : Int32) <<< (v3 &&& 31))) (fun (x1 : Int32) => (fX8_has a1 v3).bind (fun r1 => z_jn (fun (x2 : Int32) => (if r1 = x2 then z_gd (z_in x1 4096) ((if a2 = 0 then (if (σ.1 17 x1.toNatClampNeg) = (1 : Int32) then some (0 : Int32) else fX8_isBorder_L22 σ a1 a2 k n (v3 + (1 : Int32))) else (if (σ.1 17 x1.toNatClampNeg) = (0 : Int32) then some (0 : Int32) else fX8_isBorder_L22 σ a1 a2 k n (v3 + (1 : Int32))))) else fX8_isBorder_L22 σ a1 a2 k n (v3 + (1 : Int32)))) (fun j1 => (if a2 = (1 : Int32) then j1 (1 : Int32) else j1 (0 : Int32))))))
theorem kX8_isBorder_L22 {l : Launch} {Y : zY} {fin : Int32} {p : Program} {e : Env} {s : State} {m : MethodId} {args : Array Value} {below : List Frame} {meth : Method} {c : Code} {σ : zS} (O : z_ok ΛM Y p s m args c cX8_isBorder RX8 5) (hi : z_inj ΛM Y) (hr : meth.sig.returnType = (some .boolean)) (hlk : meth.locks = false) {a1 : Int32} {a2 : Int32} {k : Int32 → Option (Int32)} (hk : ∀ (z3 : Int32), k z3 = some fin → z_G p l e (z_rm 2) s m args below meth c (MQ below (z_Qi ΛM Y (fin, σ)) args s 0 0 (z_A ΛM Y)) ΛM Y 5 σ [(0, .ref (z_ad Y 0)), (1, .int a1), (2, .int a2), (3, .int z3)] 80 []) : ∀ (n : Nat) (v3 : Int32), fX8_isBorder_L22 σ a1 a2 k n v3 = some fin → z_G p l e (z_rm 2) s m args below meth c (MQ below (z_Qi ΛM Y (fin, σ)) args s 0 0 (z_A ΛM Y)) ΛM Y 5 σ [(0, .ref (z_ad Y 0)), (1, .int a1), (2, .int a2), (3, .int v3)] 22 [] := by
  intro n
  induction n with
  | zero =>
    intro _ h
    cases h
  | succ n ih =>
    intro v3 h
    rw [fX8_isBorder_L22.eq_2] at h
    refine z_iload_n O dzX8_isBorder_22 rfl 3 rfl ?_
    refine z_bipush O dzX8_isBorder_23 hcB12 ?_
    refine z_icmp_ge O dzX8_isBorder_25 (fun c6 => ?_) (fun c6 => ?_)
    · have h := z_if_t c6 h
      exact hk _ h
    · have h := z_if_f c6 h
      refine z_iload_n O dzX8_isBorder_28 rfl 1 rfl ?_
      refine z_iconst O dzX8_isBorder_29 hcI1 ?_
      refine z_iload_n O dzX8_isBorder_30 rfl 3 rfl ?_
      refine z_ishl O dzX8_isBorder_31 ?_
      refine z_ixor O dzX8_isBorder_32 ?_
      refine z_topi (fun x1 e1 => ?_)
      have h := z_lt_at e1 h
      refine z_istore O (lv' := [(4, .int x1), (0, .ref (z_ad Y 0)), (1, .int a1), (2, .int a2), (3, .int v3)]) dzX8_isBorder_33 (by decide) rfl ?_
      refine z_iload_n O dzX8_isBorder_35 rfl 2 rfl ?_
      refine z_iload_n O dzX8_isBorder_36 rfl 4 rfl ?_
      obtain ⟨r1, hc1, h⟩ := z_bd_at h
      refine z_callSiR O (As := [.int a1, .int v3]) (rest := []) (kX8_has hi hc1) mX8_has tw_1052 (Nat.le_of_ble_eq_true rfl) rfl rfl (Nat.le_of_ble_eq_true rfl) dzX8_isBorder_37 ?_
      refine z_iload_n O dzX8_isBorder_40 rfl 3 rfl ?_
      refine z_iconst O dzX8_isBorder_41 hcI1 ?_
      refine z_jn_at (P := fun j1 => ∀ (x2 : Int32), j1 x2 = some fin → z_G p l e (z_rm 2) s m args below meth c (MQ below (z_Qi ΛM Y (fin, σ)) args s 0 0 (z_A ΛM Y)) ΛM Y 5 σ [(4, .int x1), (0, .ref (z_ad Y 0)), (1, .int a1), (2, .int a2), (3, .int v3)] 50 [.int x2, .int r1]) h ?_ (fun j1 J1 h => ?_)
      · intro x2 h
        refine z_icmp_ne O dzX8_isBorder_50 (fun c4 => ?_) (fun c4 => ?_)
        · have h := z_if_f c4 h
          refine z_iinc O (lv' := [(3, .int (v3 + (1 : Int32))), (4, .int x1), (0, .ref (z_ad Y 0)), (1, .int a1), (2, .int a2)]) dzX8_isBorder_74 4 rfl (congrArg _ hcI1) (by decide) rfl ?_
          refine z_goto O dzX8_isBorder_77 ?_
          refine z_sub [2, 3, 4, 0] rfl ?_
          exact ih _ h
        · have h := z_if_t c4 h
          refine z_aload_n O dzX8_isBorder_53 rfl 1 rfl ?_
          refine z_get O z_cb8 fm_obj (v := .ref (z_ad Y 17)) 28 (Nat.le_of_ble_eq_true rfl) tw_777 rfl dzX8_isBorder_54 ?_
          refine z_iload O dzX8_isBorder_57 0 rfl ?_
          obtain ⟨g1, h⟩ := z_gd_at h
          refine z_zald O fm_isCommon g1 dzX8_isBorder_59 ?_
          refine z_iload_n O dzX8_isBorder_60 rfl 3 rfl ?_
          refine z_if_ne O dzX8_isBorder_61 (fun c3 => ?_) (fun c3 => ?_)
          · have h := z_if_f c3 h
            refine z_iconst O dzX8_isBorder_68 hcI0 ?_
            refine z_icmp_ne O dzX8_isBorder_69 (fun c1 => ?_) (fun c1 => ?_)
            · have h := z_if_f c1 h
              refine z_iinc O (lv' := [(3, .int (v3 + (1 : Int32))), (4, .int x1), (0, .ref (z_ad Y 0)), (1, .int a1), (2, .int a2)]) dzX8_isBorder_74 4 rfl (congrArg _ hcI1) (by decide) rfl ?_
              refine z_goto O dzX8_isBorder_77 ?_
              refine z_sub [2, 3, 4, 0] rfl ?_
              exact ih _ h
            · have h := z_if_t c1 h
              refine z_iconst O dzX8_isBorder_72 hcI0 ?_
              exact z_zret O hr hlk rfl dzX8_isBorder_73 (z_rf h)
          · have h := z_if_t c3 h
            refine z_iconst O dzX8_isBorder_64 hcI1 ?_
            refine z_goto O dzX8_isBorder_65 ?_
            refine z_icmp_ne O dzX8_isBorder_69 (fun c2 => ?_) (fun c2 => ?_)
            · have h := z_if_f c2 h
              refine z_iinc O (lv' := [(3, .int (v3 + (1 : Int32))), (4, .int x1), (0, .ref (z_ad Y 0)), (1, .int a1), (2, .int a2)]) dzX8_isBorder_74 4 rfl (congrArg _ hcI1) (by decide) rfl ?_
              refine z_goto O dzX8_isBorder_77 ?_
              refine z_sub [2, 3, 4, 0] rfl ?_
              exact ih _ h
            · have h := z_if_t c2 h
              refine z_iconst O dzX8_isBorder_72 hcI0 ?_
              exact z_zret O hr hlk rfl dzX8_isBorder_73 (z_rf h)
      · refine z_icmp_ne O dzX8_isBorder_42 (fun c5 => ?_) (fun c5 => ?_)
        · have h := z_if_f c5 h
          refine z_iconst O dzX8_isBorder_49 hcI0 ?_
          exact J1 (0 : Int32) h
        · have h := z_if_t c5 h
          refine z_iconst O dzX8_isBorder_45 hcI1 ?_
          refine z_goto O dzX8_isBorder_46 ?_
          exact J1 (1 : Int32) h
def fX8_isBorder (σ : zS) (a1 : Int32) (a2 : Int32) : Option (Int32) :=
  z_gd (z_in a1 4096) (z_jn (fun (x1 : Int32) => (if (σ.1 17 a1.toNatClampNeg) = x1 then fX8_isBorder_L22 σ a1 a2 (fun (x2 : Int32) => some (1 : Int32)) z_F (0 : Int32) else some (0 : Int32))) (fun j1 => (if a2 = 0 then j1 (1 : Int32) else j1 (0 : Int32))))
theorem kX8_isBorder {l : Launch} {Y : zY} (hi : z_inj ΛM Y) {σ : zS} {a1 : Int32} {a2 : Int32} {fin : Int32} (h : fX8_isBorder σ a1 a2 = some fin) : Met l yX8_isBorder (Cond.code yX8_isBorder cX8_isBorder 5 (some .boolean) :: z_TB) (z_rm 2) (z_Pc ΛM Y σ [.ref (z_ad Y 0), .int a1, .int a2]) (z_Qi ΛM Y (fin, σ)) 0 0 (z_A ΛM Y) := by
  unfold fX8_isBorder at h
  refine z_met [(0, .ref (z_ad Y 0)), (1, .int a1), (2, .int a2)] rfl (Nat.le_of_ble_eq_true rfl) (plainFor_of_name (by decide)) hi ?_
  intro p e s m args below meth c O hr hlk
  refine z_aload_n O dzX8_isBorder_0 rfl 0 rfl ?_
  refine z_get O z_cb8 fm_obj (v := .ref (z_ad Y 17)) 28 (Nat.le_of_ble_eq_true rfl) tw_777 rfl dzX8_isBorder_1 ?_
  refine z_iload_n O dzX8_isBorder_4 rfl 1 rfl ?_
  obtain ⟨g1, h⟩ := z_gd_at h
  refine z_zald O fm_isCommon g1 dzX8_isBorder_5 ?_
  refine z_iload_n O dzX8_isBorder_6 rfl 2 rfl ?_
  refine z_jn_at (P := fun j1 => ∀ (x1 : Int32), j1 x1 = some fin → z_G p l e (z_rm 2) s m args below meth c (MQ below (z_Qi ΛM Y (fin, σ)) args s 0 0 (z_A ΛM Y)) ΛM Y 5 σ [(0, .ref (z_ad Y 0)), (1, .int a1), (2, .int a2)] 15 [.int x1, .int (σ.1 17 a1.toNatClampNeg)]) h ?_ (fun j1 J1 h => ?_)
  · intro x1 h
    refine z_icmp_eq O dzX8_isBorder_15 (fun c1 => ?_) (fun c1 => ?_)
    · have h := z_if_t c1 h
      refine z_iconst O dzX8_isBorder_20 hcI0 ?_
      refine z_istore_n O (lv' := [(3, .int (0 : Int32)), (0, .ref (z_ad Y 0)), (1, .int a1), (2, .int a2)]) dzX8_isBorder_21 rfl (by decide) rfl ?_
      refine z_sub [1, 2, 3, 0] rfl ?_
      refine kX8_isBorder_L22 O hi hr hlk   (fun x2 h => ?_) _ _ h
      refine z_iconst O dzX8_isBorder_80 hcI1 ?_
      exact z_zret O hr hlk rfl dzX8_isBorder_81 (z_rf h)
    · have h := z_if_f c1 h
      refine z_iconst O dzX8_isBorder_18 hcI0 ?_
      exact z_zret O hr hlk rfl dzX8_isBorder_19 (z_rf h)
  · refine z_if_ne O dzX8_isBorder_7 (fun c2 => ?_) (fun c2 => ?_)
    · have h := z_if_f c2 h
      refine z_iconst O dzX8_isBorder_14 hcI0 ?_
      exact J1 (0 : Int32) h
    · have h := z_if_t c2 h
      refine z_iconst O dzX8_isBorder_10 hcI1 ?_
      refine z_goto O dzX8_isBorder_11 ?_
      exact J1 (1 : Int32) h
def fX8_leastAt (σ : zS) (a1 : Int32) : Option (Int32) :=
  (if a1 = (-1 : Int32) then some (σ.1 0 18) else (fX8_in (a1.toInt64) (0 : Int64) (((σ.1 0 18) - (1 : Int32)).toInt64)).bind (fun r1 => (if r1 = 0 then some (-12 : Int32) else z_gd (z_in a1 4096) (some (σ.1 15 a1.toNatClampNeg)))))
theorem kX8_leastAt {l : Launch} {Y : zY} (hi : z_inj ΛM Y) {σ : zS} {a1 : Int32} {fin : Int32} (h : fX8_leastAt σ a1 = some fin) : Met l yX8_leastAt (Cond.code yX8_leastAt cX8_leastAt 2 (some .int) :: z_TB) (z_rm 2) (z_Pc ΛM Y σ [.ref (z_ad Y 0), .int a1]) (z_Qi ΛM Y (fin, σ)) 0 0 (z_A ΛM Y) := by
  unfold fX8_leastAt at h
  refine z_met [(0, .ref (z_ad Y 0)), (1, .int a1)] rfl (Nat.le_of_ble_eq_true rfl) (plainFor_of_name (by decide)) hi ?_
  intro p e s m args below meth c O hr hlk
  refine z_iload_n O dzX8_leastAt_0 rfl 1 rfl ?_
  refine z_iconst O dzX8_leastAt_1 hcIm1 ?_
  refine z_icmp_ne O dzX8_leastAt_2 (fun c2 => ?_) (fun c2 => ?_)
  · have h := z_if_f c2 h
    refine z_iload_n O dzX8_leastAt_12 rfl 1 rfl ?_
    refine z_i2l O dzX8_leastAt_13 ?_
    refine z_lconst O dzX8_leastAt_14 (v := 0) rfl ?_
    refine z_aload_n O dzX8_leastAt_15 rfl 0 rfl ?_
    refine z_get O z_cb8 fm_obj (v := .int (σ.1 0 18)) 18 (Nat.le_of_ble_eq_true rfl) tw_767 rfl dzX8_leastAt_16 ?_
    refine z_iconst O dzX8_leastAt_19 hcI1 ?_
    refine z_isub O dzX8_leastAt_20 ?_
    refine z_i2l O dzX8_leastAt_21 ?_
    obtain ⟨r1, hc1, h⟩ := z_bd_at h
    refine z_callSiR O (As := [.long (a1.toInt64), .long (0 : Int64), .long (((σ.1 0 18) - (1 : Int32)).toInt64)]) (rest := []) (kX8_in hi hc1) mX8_in tw_876 (Nat.le_of_ble_eq_true rfl) rfl rfl (Nat.le_of_ble_eq_true rfl) dzX8_leastAt_22 ?_
    refine z_if_eq O dzX8_leastAt_25 (fun c1 => ?_) (fun c1 => ?_)
    · have h := z_if_t c1 h
      refine z_bipush O dzX8_leastAt_37 hcBm12 ?_
      exact z_iret O hr hlk dzX8_leastAt_39 (z_rf h)
    · have h := z_if_f c1 h
      refine z_aload_n O dzX8_leastAt_28 rfl 0 rfl ?_
      refine z_get O z_cb8 fm_obj (v := .ref (z_ad Y 15)) 17 (Nat.le_of_ble_eq_true rfl) tw_766 rfl dzX8_leastAt_29 ?_
      refine z_iload_n O dzX8_leastAt_32 rfl 1 rfl ?_
      obtain ⟨g1, h⟩ := z_gd_at h
      refine z_iald O fm_least g1 dzX8_leastAt_33 ?_
      refine z_goto O dzX8_leastAt_34 ?_
      exact z_iret O hr hlk dzX8_leastAt_39 (z_rf h)
  · have h := z_if_t c2 h
    refine z_aload_n O dzX8_leastAt_5 rfl 0 rfl ?_
    refine z_get O z_cb8 fm_obj (v := .int (σ.1 0 18)) 18 (Nat.le_of_ble_eq_true rfl) tw_767 rfl dzX8_leastAt_6 ?_
    refine z_goto O dzX8_leastAt_9 ?_
    exact z_iret O hr hlk dzX8_leastAt_39 (z_rf h)
def fX8_isPart (a0 : Int32) (a1 : Int32) : Option (Int32) :=
  (if (a0 &&& (a1 ^^^ (-1 : Int32))) = 0 then some (1 : Int32) else some (0 : Int32))
theorem kX8_isPart {l : Launch} {Y : zY} (hi : z_inj ΛM Y) {σ : zS} {a0 : Int32} {a1 : Int32} {fin : Int32} (h : fX8_isPart a0 a1 = some fin) : Met l yX8_isPart (Cond.code yX8_isPart cX8_isPart 2 (some .boolean) :: z_TB) (z_rm 1) (z_Pc ΛM Y σ [.int a0, .int a1]) (z_Qi ΛM Y (fin, σ)) 0 0 (z_A ΛM Y) := by
  unfold fX8_isPart at h
  refine z_met [(0, .int a0), (1, .int a1)] rfl (Nat.le_of_ble_eq_true rfl) (plainFor_of_name (by decide)) hi ?_
  intro p e s m args below meth c O hr hlk
  refine z_iload_n O dzX8_isPart_0 rfl 0 rfl ?_
  refine z_iload_n O dzX8_isPart_1 rfl 1 rfl ?_
  refine z_iconst O dzX8_isPart_2 hcIm1 ?_
  refine z_ixor O dzX8_isPart_3 ?_
  refine z_iand O dzX8_isPart_4 ?_
  refine z_if_ne O dzX8_isPart_5 (fun c1 => ?_) (fun c1 => ?_)
  · have h := z_if_f c1 h
    refine z_iconst O dzX8_isPart_12 hcI0 ?_
    exact z_zret O hr hlk rfl dzX8_isPart_13 (z_rf h)
  · have h := z_if_t c1 h
    refine z_iconst O dzX8_isPart_8 hcI1 ?_
    refine z_goto O dzX8_isPart_9 ?_
    exact z_zret O hr hlk rfl dzX8_isPart_13 (z_rf h)
def fX8_supportOf_L5 (σ : zS) (a1 : Int32) (a2 : Int32) (k : Int32 → Int32 → Option (Int32)) : Nat → Int32 → Int32 → Option (Int32)
  | 0, _, _ => none
  | n + 1, v3, v4 => z_gd (z_in a1 4) ((if (σ.1 2 a1.toNatClampNeg) ≤ v4 then k v3 v4 else (fX8_setOf σ a1 v4).bind (fun r1 => (fX8_isPart a2 r1).bind (fun r2 => (if r2 = 0 then z_lt (v3 + (0 : Int32)) (fun (x1 : Int32) => fX8_supportOf_L5 σ a1 a2 k n x1 (v4 + (1 : Int32))) else z_gd (z_in (((40 : Int32) * a1) + v4) 160) (z_lt (v3 + (σ.1 4 (((40 : Int32) * a1) + v4).toNatClampNeg)) (fun (x2 : Int32) => fX8_supportOf_L5 σ a1 a2 k n x2 (v4 + (1 : Int32)))))))))
theorem kX8_supportOf_L5 {l : Launch} {Y : zY} {fin : Int32} {p : Program} {e : Env} {s : State} {m : MethodId} {args : Array Value} {below : List Frame} {meth : Method} {c : Code} {σ : zS} (O : z_ok ΛM Y p s m args c cX8_supportOf RX8 5) (hi : z_inj ΛM Y) (hr : meth.sig.returnType = (some .int)) (hlk : meth.locks = false) {a1 : Int32} {a2 : Int32} {k : Int32 → Int32 → Option (Int32)} (hk : ∀ (z3 : Int32) (z4 : Int32), k z3 z4 = some fin → z_G p l e (z_rm 2) s m args below meth c (MQ below (z_Qi ΛM Y (fin, σ)) args s 0 0 (z_A ΛM Y)) ΛM Y 5 σ [(0, .ref (z_ad Y 0)), (1, .int a1), (2, .int a2), (3, .int z3), (4, .int z4)] 55 []) : ∀ (n : Nat) (v3 : Int32) (v4 : Int32), fX8_supportOf_L5 σ a1 a2 k n v3 v4 = some fin → z_G p l e (z_rm 2) s m args below meth c (MQ below (z_Qi ΛM Y (fin, σ)) args s 0 0 (z_A ΛM Y)) ΛM Y 5 σ [(0, .ref (z_ad Y 0)), (1, .int a1), (2, .int a2), (3, .int v3), (4, .int v4)] 5 [] := by
  intro n
  induction n with
  | zero =>
    intro _ _ h
    cases h
  | succ n ih =>
    intro v3 v4 h
    rw [fX8_supportOf_L5.eq_2] at h
    refine z_iload O dzX8_supportOf_5 4 rfl ?_
    refine z_aload_n O dzX8_supportOf_7 rfl 0 rfl ?_
    refine z_get O z_cb8 fm_obj (v := .ref (z_ad Y 2)) 1 (Nat.le_of_ble_eq_true rfl) tw_750 rfl dzX8_supportOf_8 ?_
    refine z_iload_n O dzX8_supportOf_11 rfl 1 rfl ?_
    obtain ⟨g1, h⟩ := z_gd_at h
    refine z_iald O fm_sizes g1 dzX8_supportOf_12 ?_
    refine z_icmp_ge O dzX8_supportOf_13 (fun c2 => ?_) (fun c2 => ?_)
    · have h := z_if_t c2 h
      exact hk _ _ h
    · have h := z_if_f c2 h
      refine z_iload_n O dzX8_supportOf_16 rfl 3 rfl ?_
      refine z_iload_n O dzX8_supportOf_17 rfl 2 rfl ?_
      refine z_aload_n O dzX8_supportOf_18 rfl 0 rfl ?_
      refine z_iload_n O dzX8_supportOf_19 rfl 1 rfl ?_
      refine z_iload O dzX8_supportOf_20 4 rfl ?_
      obtain ⟨r1, hc1, h⟩ := z_bd_at h
      refine z_callViR O (As := [.int a1, .int v4]) (rest := [.int a2, .int v3]) (kX8_setOf hi hc1) mX8_setOf tw_908 (Nat.le_of_ble_eq_true rfl) fm_obj rfl rfl rfl rfl (Nat.le_of_ble_eq_true rfl) dzX8_supportOf_22 ?_
      obtain ⟨r2, hc2, h⟩ := z_bd_at h
      refine z_callSiR O (As := [.int a2, .int r1]) (rest := [.int v3]) (kX8_isPart hi hc2) mX8_isPart tw_972 (Nat.le_of_ble_eq_true rfl) rfl rfl (Nat.le_of_ble_eq_true rfl) dzX8_supportOf_25 ?_
      refine z_if_eq O dzX8_supportOf_28 (fun c1 => ?_) (fun c1 => ?_)
      · have h := z_if_t c1 h
        refine z_iconst O dzX8_supportOf_46 hcI0 ?_
        refine z_iadd O dzX8_supportOf_47 ?_
        refine z_topi (fun x1 e1 => ?_)
        have h := z_lt_at e1 h
        refine z_istore_n O (lv' := [(3, .int x1), (0, .ref (z_ad Y 0)), (1, .int a1), (2, .int a2), (4, .int v4)]) dzX8_supportOf_48 rfl (by decide) rfl ?_
        refine z_iinc O (lv' := [(4, .int (v4 + (1 : Int32))), (3, .int x1), (0, .ref (z_ad Y 0)), (1, .int a1), (2, .int a2)]) dzX8_supportOf_49 4 rfl (congrArg _ hcI1) (by decide) rfl ?_
        refine z_goto O dzX8_supportOf_52 ?_
        refine z_sub [2, 3, 4, 1, 0] rfl ?_
        exact ih _ _ h
      · have h := z_if_f c1 h
        refine z_aload_n O dzX8_supportOf_31 rfl 0 rfl ?_
        refine z_get O z_cb8 fm_obj (v := .ref (z_ad Y 4)) 3 (Nat.le_of_ble_eq_true rfl) tw_752 rfl dzX8_supportOf_32 ?_
        refine z_bipush O dzX8_supportOf_35 hcB40 ?_
        refine z_iload_n O dzX8_supportOf_37 rfl 1 rfl ?_
        refine z_imul O dzX8_supportOf_38 ?_
        refine z_iload O dzX8_supportOf_39 4 rfl ?_
        refine z_iadd O dzX8_supportOf_41 ?_
        obtain ⟨g2, h⟩ := z_gd_at h
        refine z_iald O fm_tallies g2 dzX8_supportOf_42 ?_
        refine z_goto O dzX8_supportOf_43 ?_
        refine z_iadd O dzX8_supportOf_47 ?_
        refine z_topi (fun x2 e2 => ?_)
        have h := z_lt_at e2 h
        refine z_istore_n O (lv' := [(3, .int x2), (0, .ref (z_ad Y 0)), (1, .int a1), (2, .int a2), (4, .int v4)]) dzX8_supportOf_48 rfl (by decide) rfl ?_
        refine z_iinc O (lv' := [(4, .int (v4 + (1 : Int32))), (3, .int x2), (0, .ref (z_ad Y 0)), (1, .int a1), (2, .int a2)]) dzX8_supportOf_49 4 rfl (congrArg _ hcI1) (by decide) rfl ?_
        refine z_goto O dzX8_supportOf_52 ?_
        refine z_sub [2, 3, 4, 1, 0] rfl ?_
        exact ih _ _ h
def fX8_supportOf (σ : zS) (a1 : Int32) (a2 : Int32) : Option (Int32) :=
  fX8_supportOf_L5 σ a1 a2 (fun (x1 : Int32) (x2 : Int32) => some x1) z_F (0 : Int32) (0 : Int32)
theorem kX8_supportOf {l : Launch} {Y : zY} (hi : z_inj ΛM Y) {σ : zS} {a1 : Int32} {a2 : Int32} {fin : Int32} (h : fX8_supportOf σ a1 a2 = some fin) : Met l yX8_supportOf (Cond.code yX8_supportOf cX8_supportOf 5 (some .int) :: z_TB) (z_rm 2) (z_Pc ΛM Y σ [.ref (z_ad Y 0), .int a1, .int a2]) (z_Qi ΛM Y (fin, σ)) 0 0 (z_A ΛM Y) := by
  unfold fX8_supportOf at h
  refine z_met [(0, .ref (z_ad Y 0)), (1, .int a1), (2, .int a2)] rfl (Nat.le_of_ble_eq_true rfl) (plainFor_of_name (by decide)) hi ?_
  intro p e s m args below meth c O hr hlk
  refine z_iconst O dzX8_supportOf_0 hcI0 ?_
  refine z_istore_n O (lv' := [(3, .int (0 : Int32)), (0, .ref (z_ad Y 0)), (1, .int a1), (2, .int a2)]) dzX8_supportOf_1 rfl (by decide) rfl ?_
  refine z_iconst O dzX8_supportOf_2 hcI0 ?_
  refine z_istore O (lv' := [(4, .int (0 : Int32)), (3, .int (0 : Int32)), (0, .ref (z_ad Y 0)), (1, .int a1), (2, .int a2)]) dzX8_supportOf_3 (by decide) rfl ?_
  refine z_sub [2, 3, 4, 1, 0] rfl ?_
  refine kX8_supportOf_L5 O hi hr hlk   (fun x1 x2 h => ?_) _ _ _ h
  refine z_iload_n O dzX8_supportOf_55 rfl 3 rfl ?_
  exact z_iret O hr hlk dzX8_supportOf_56 (z_rf h)
def fX8_border_L35 (a1 : Int32) (a2 : Int32) (k : zS → Int32 → Option (Int32 × zS)) : Nat → zS → Int32 → Option (Int32 × zS)
  | 0, _, _ => none
  | n + 1, σ, v5 => (if (4096 : Int32) ≤ v5 then k σ v5 else (fX8_supportOf σ a1 v5).bind (fun r1 => (if r1 < a2 then z_gd (z_in v5 4096) (z_gd (z_bz (0 : Int32)) (z_lt (z_sI σ 17 v5.toNatClampNeg (0 : Int32)) (fun (w1 : zS) => fX8_border_L35 a1 a2 k n w1 (v5 + (1 : Int32))))) else z_gd (z_in v5 4096) (z_gd (z_bz (1 : Int32)) (z_lt (z_sI σ 17 v5.toNatClampNeg (1 : Int32)) (fun (w2 : zS) => fX8_border_L35 a1 a2 k n w2 (v5 + (1 : Int32))))))))
theorem kX8_border_L35 {l : Launch} {Y : zY} {fin : Int32 × zS} {p : Program} {e : Env} {s : State} {m : MethodId} {args : Array Value} {below : List Frame} {meth : Method} {c : Code} (O : z_ok ΛM Y p s m args c cX8_border RX8 6) (hi : z_inj ΛM Y) (hr : meth.sig.returnType = (some .int)) (hlk : meth.locks = false) {a1 : Int32} {a2 : Int32} {b3 : Int32} {b4 : Int32} {k : zS → Int32 → Option (Int32 × zS)} (hk : ∀ (w : zS) (z5 : Int32), k w z5 = some fin → z_G p l e (z_rm 3) s m args below meth c (MQ below (z_Qi ΛM Y fin) args s 0 0 (z_A ΛM Y)) ΛM Y 6 w [(0, .ref (z_ad Y 0)), (1, .int a1), (2, .int a2), (3, .int b3), (4, .int b4), (5, .int z5)] 72 []) : ∀ (n : Nat) (σ : zS) (v5 : Int32), fX8_border_L35 a1 a2 k n σ v5 = some fin → z_G p l e (z_rm 3) s m args below meth c (MQ below (z_Qi ΛM Y fin) args s 0 0 (z_A ΛM Y)) ΛM Y 6 σ [(0, .ref (z_ad Y 0)), (1, .int a1), (2, .int a2), (3, .int b3), (4, .int b4), (5, .int v5)] 35 [] := by
  intro n
  induction n with
  | zero =>
    intro _ _ h
    cases h
  | succ n ih =>
    intro σ v5 h
    rw [fX8_border_L35.eq_2] at h
    refine z_iload O dzX8_border_35 5 rfl ?_
    refine z_sipush O dzX8_border_37 hcS4096 ?_
    refine z_icmp_ge O dzX8_border_40 (fun c2 => ?_) (fun c2 => ?_)
    · have h := z_if_t c2 h
      exact hk _ _ h
    · have h := z_if_f c2 h
      refine z_aload_n O dzX8_border_43 rfl 0 rfl ?_
      refine z_get O z_cb8 fm_obj (v := .ref (z_ad Y 17)) 28 (Nat.le_of_ble_eq_true rfl) tw_777 rfl dzX8_border_44 ?_
      refine z_iload O dzX8_border_47 5 rfl ?_
      refine z_aload_n O dzX8_border_49 rfl 0 rfl ?_
      refine z_iload_n O dzX8_border_50 rfl 1 rfl ?_
      refine z_iload O dzX8_border_51 5 rfl ?_
      obtain ⟨r1, hc1, h⟩ := z_bd_at h
      refine z_callViR O (As := [.int a1, .int v5]) (rest := [.int v5, .ref (z_ad Y 17)]) (kX8_supportOf hi hc1) mX8_supportOf tw_1067 (Nat.le_of_ble_eq_true rfl) fm_obj rfl rfl rfl rfl (Nat.le_of_ble_eq_true rfl) dzX8_border_53 ?_
      refine z_iload_n O dzX8_border_56 rfl 2 rfl ?_
      refine z_icmp_lt O dzX8_border_57 (fun c1 => ?_) (fun c1 => ?_)
      · have h := z_if_t c1 h
        refine z_iconst O dzX8_border_64 hcI0 ?_
        obtain ⟨g1, h⟩ := z_gd_at h
        obtain ⟨g2, h⟩ := z_gd_at h
        refine z_zast O fm_isCommon g1 g2 dzX8_border_65 ?_
        refine z_sig (fun w1 e1 => ?_)
        have h := z_lt_at e1 h
        refine z_iinc O (lv' := [(5, .int (v5 + (1 : Int32))), (0, .ref (z_ad Y 0)), (1, .int a1), (2, .int a2), (3, .int b3), (4, .int b4)]) dzX8_border_66 5 rfl (congrArg _ hcI1) (by decide) rfl ?_
        refine z_goto O dzX8_border_69 ?_
        refine z_sub [1, 2, 3, 4, 5, 0] rfl ?_
        exact ih _ _ h
      · have h := z_if_f c1 h
        refine z_iconst O dzX8_border_60 hcI1 ?_
        refine z_goto O dzX8_border_61 ?_
        obtain ⟨g3, h⟩ := z_gd_at h
        obtain ⟨g4, h⟩ := z_gd_at h
        refine z_zast O fm_isCommon g3 g4 dzX8_border_65 ?_
        refine z_sig (fun w2 e2 => ?_)
        have h := z_lt_at e2 h
        refine z_iinc O (lv' := [(5, .int (v5 + (1 : Int32))), (0, .ref (z_ad Y 0)), (1, .int a1), (2, .int a2), (3, .int b3), (4, .int b4)]) dzX8_border_66 5 rfl (congrArg _ hcI1) (by decide) rfl ?_
        refine z_goto O dzX8_border_69 ?_
        refine z_sub [1, 2, 3, 4, 5, 0] rfl ?_
        exact ih _ _ h
def fX8_border_L80 (a3 : Int32) (k : zS → Int32 → Option (Int32 × zS)) : Nat → zS → Int32 → Option (Int32 × zS)
  | 0, _, _ => none
  | n + 1, σ, v5 => (if (4096 : Int32) ≤ v5 then k σ v5 else (fX8_isBorder σ v5 a3).bind (fun r1 => (if r1 = 0 then fX8_border_L80 a3 k n σ (v5 + (1 : Int32)) else z_gd (z_in (σ.1 0 18) 4096) (z_lt (z_sI σ 15 (σ.1 0 18).toNatClampNeg v5) (fun (w1 : zS) => z_lt (z_sI w1 0 18 ((w1.1 0 18) + (1 : Int32))) (fun (w2 : zS) => fX8_border_L80 a3 k n w2 (v5 + (1 : Int32))))))))
theorem kX8_border_L80 {l : Launch} {Y : zY} {fin : Int32 × zS} {p : Program} {e : Env} {s : State} {m : MethodId} {args : Array Value} {below : List Frame} {meth : Method} {c : Code} (O : z_ok ΛM Y p s m args c cX8_border RX8 6) (hi : z_inj ΛM Y) (hr : meth.sig.returnType = (some .int)) (hlk : meth.locks = false) {a3 : Int32} {b4 : Int32} {k : zS → Int32 → Option (Int32 × zS)} (hk : ∀ (w : zS) (z5 : Int32), k w z5 = some fin → z_G p l e (z_rm 3) s m args below meth c (MQ below (z_Qi ΛM Y fin) args s 0 0 (z_A ΛM Y)) ΛM Y 6 w [(0, .ref (z_ad Y 0)), (3, .int a3), (4, .int b4), (5, .int z5)] 125 []) : ∀ (n : Nat) (σ : zS) (v5 : Int32), fX8_border_L80 a3 k n σ v5 = some fin → z_G p l e (z_rm 3) s m args below meth c (MQ below (z_Qi ΛM Y fin) args s 0 0 (z_A ΛM Y)) ΛM Y 6 σ [(0, .ref (z_ad Y 0)), (3, .int a3), (4, .int b4), (5, .int v5)] 80 [] := by
  intro n
  induction n with
  | zero =>
    intro _ _ h
    cases h
  | succ n ih =>
    intro σ v5 h
    rw [fX8_border_L80.eq_2] at h
    refine z_iload O dzX8_border_80 3 rfl ?_
    refine z_sipush O dzX8_border_82 hcS4096 ?_
    refine z_icmp_ge O dzX8_border_85 (fun c2 => ?_) (fun c2 => ?_)
    · have h := z_if_t c2 h
      exact hk _ _ h
    · have h := z_if_f c2 h
      refine z_aload_n O dzX8_border_88 rfl 0 rfl ?_
      refine z_iload O dzX8_border_89 3 rfl ?_
      refine z_iload_n O dzX8_border_91 rfl 1 rfl ?_
      obtain ⟨r1, hc1, h⟩ := z_bd_at h
      refine z_callViR O (As := [.int v5, .int a3]) (rest := []) (kX8_isBorder hi hc1) mX8_isBorder tw_1076 (Nat.le_of_ble_eq_true rfl) fm_obj rfl rfl rfl rfl (Nat.le_of_ble_eq_true rfl) dzX8_border_92 ?_
      refine z_if_eq O dzX8_border_95 (fun c1 => ?_) (fun c1 => ?_)
      · have h := z_if_t c1 h
        refine z_iinc O (lv' := [(5, .int (v5 + (1 : Int32))), (0, .ref (z_ad Y 0)), (3, .int a3), (4, .int b4)]) dzX8_border_119 3 rfl (congrArg _ hcI1) (by decide) rfl ?_
        refine z_goto O dzX8_border_122 ?_
        refine z_sub [1, 2, 3, 0] rfl ?_
        exact ih _ _ h
      · have h := z_if_f c1 h
        refine z_aload_n O dzX8_border_98 rfl 0 rfl ?_
        refine z_get O z_cb8 fm_obj (v := .ref (z_ad Y 15)) 17 (Nat.le_of_ble_eq_true rfl) tw_766 rfl dzX8_border_99 ?_
        refine z_aload_n O dzX8_border_102 rfl 0 rfl ?_
        refine z_get O z_cb8 fm_obj (v := .int (σ.1 0 18)) 18 (Nat.le_of_ble_eq_true rfl) tw_767 rfl dzX8_border_103 ?_
        refine z_iload O dzX8_border_106 3 rfl ?_
        obtain ⟨g1, h⟩ := z_gd_at h
        refine z_iast O fm_least g1 dzX8_border_108 ?_
        refine z_sig (fun w1 e1 => ?_)
        have h := z_lt_at e1 h
        refine z_aload_n O dzX8_border_109 rfl 0 rfl ?_
        refine z_dup O dzX8_border_110 rfl ?_
        refine z_get O z_cb8 fm_obj (v := .int (w1.1 0 18)) 18 (Nat.le_of_ble_eq_true rfl) tw_767 rfl dzX8_border_111 ?_
        refine z_iconst O dzX8_border_114 hcI1 ?_
        refine z_iadd O dzX8_border_115 ?_
        refine z_put O z_cb8 fm_obj 18 (Nat.le_of_ble_eq_true rfl) tw_767 rfl rfl rfl fp_M18 dzX8_border_116 ?_
        refine z_sig (fun w2 e2 => ?_)
        have h := z_lt_at e2 h
        refine z_iinc O (lv' := [(5, .int (v5 + (1 : Int32))), (0, .ref (z_ad Y 0)), (3, .int a3), (4, .int b4)]) dzX8_border_119 3 rfl (congrArg _ hcI1) (by decide) rfl ?_
        refine z_goto O dzX8_border_122 ?_
        refine z_sub [1, 2, 3, 0] rfl ?_
        exact ih _ _ h
def fX8_border (σ : zS) (a1 : Int32) (a2 : Int32) (a3 : Int32) (a4 : Int32) : Option (Int32 × zS) :=
  (fX8_isFamily a1).bind (fun r1 => (if r1 = 0 then some ((-2 : Int32), σ) else (fX8_in (a2.toInt64) (0 : Int64) (4000 : Int64)).bind (fun r2 => (if r2 = 0 then some ((-2 : Int32), σ) else (fX8_in (a3.toInt64) (0 : Int64) (1 : Int64)).bind (fun r3 => (if r3 = 0 then some ((-2 : Int32), σ) else fX8_border_L35 a1 a2 (fun (w1 : zS) (x1 : Int32) => z_lt (z_sI w1 0 18 (0 : Int32)) (fun (w2 : zS) => fX8_border_L80 a3 (fun (w3 : zS) (x2 : Int32) => (fX8_leastAt w3 a4).bind (fun r4 => some (r4, w3))) z_F w2 (0 : Int32))) z_F σ (0 : Int32)))))))
theorem kX8_border {l : Launch} {Y : zY} (hi : z_inj ΛM Y) {σ : zS} {a1 : Int32} {a2 : Int32} {a3 : Int32} {a4 : Int32} {fin : Int32 × zS} (h : fX8_border σ a1 a2 a3 a4 = some fin) : Met l yX8_border (Cond.code yX8_border cX8_border 6 (some .int) :: z_TB) (z_rm 3) (z_Pc ΛM Y σ [.ref (z_ad Y 0), .int a1, .int a2, .int a3, .int a4]) (z_Qi ΛM Y fin) 0 0 (z_A ΛM Y) := by
  unfold fX8_border at h
  refine z_met [(0, .ref (z_ad Y 0)), (1, .int a1), (2, .int a2), (3, .int a3), (4, .int a4)] rfl (Nat.le_of_ble_eq_true rfl) (plainFor_of_name (by decide)) hi ?_
  intro p e s m args below meth c O hr hlk
  refine z_iload_n O dzX8_border_0 rfl 1 rfl ?_
  obtain ⟨r1, hc1, h⟩ := z_bd_at h
  refine z_callSiR O (As := [.int a1]) (rest := []) (kX8_isFamily hi hc1) mX8_isFamily tw_892 (Nat.le_of_ble_eq_true rfl) rfl rfl (Nat.le_of_ble_eq_true rfl) dzX8_border_1 ?_
  refine z_if_eq O dzX8_border_4 (fun c3 => ?_) (fun c3 => ?_)
  · have h := z_if_t c3 h
    refine z_bipush O dzX8_border_29 hcBm2 ?_
    exact z_iret O hr hlk dzX8_border_31 h
  · have h := z_if_f c3 h
    refine z_iload_n O dzX8_border_7 rfl 2 rfl ?_
    refine z_i2l O dzX8_border_8 ?_
    refine z_lconst O dzX8_border_9 (v := 0) rfl ?_
    refine z_ldc2 O tw_1075 dzX8_border_10 ?_
    obtain ⟨r2, hc2, h⟩ := z_bd_at h
    refine z_callSiR O (As := [.long (a2.toInt64), .long (0 : Int64), .long (4000 : Int64)]) (rest := []) (kX8_in hi hc2) mX8_in tw_876 (Nat.le_of_ble_eq_true rfl) rfl rfl (Nat.le_of_ble_eq_true rfl) dzX8_border_13 ?_
    refine z_if_eq O dzX8_border_16 (fun c2 => ?_) (fun c2 => ?_)
    · have h := z_if_t c2 h
      refine z_bipush O dzX8_border_29 hcBm2 ?_
      exact z_iret O hr hlk dzX8_border_31 h
    · have h := z_if_f c2 h
      refine z_iload_n O dzX8_border_19 rfl 3 rfl ?_
      refine z_i2l O dzX8_border_20 ?_
      refine z_lconst O dzX8_border_21 (v := 0) rfl ?_
      refine z_lconst O dzX8_border_22 (v := 1) rfl ?_
      obtain ⟨r3, hc3, h⟩ := z_bd_at h
      refine z_callSiR O (As := [.long (a3.toInt64), .long (0 : Int64), .long (1 : Int64)]) (rest := []) (kX8_in hi hc3) mX8_in tw_876 (Nat.le_of_ble_eq_true rfl) rfl rfl (Nat.le_of_ble_eq_true rfl) dzX8_border_23 ?_
      refine z_if_ne O dzX8_border_26 (fun c1 => ?_) (fun c1 => ?_)
      · have h := z_if_f c1 h
        refine z_iconst O dzX8_border_32 hcI0 ?_
        refine z_istore O (lv' := [(5, .int (0 : Int32)), (0, .ref (z_ad Y 0)), (1, .int a1), (2, .int a2), (3, .int a3), (4, .int a4)]) dzX8_border_33 (by decide) rfl ?_
        refine z_sub [1, 2, 3, 4, 5, 0] rfl ?_
        refine kX8_border_L35 O hi hr hlk   (fun w1 x1 h => ?_) _ _ _ h
        refine z_aload_n O dzX8_border_72 rfl 0 rfl ?_
        refine z_iconst O dzX8_border_73 hcI0 ?_
        refine z_put O z_cb8 fm_obj 18 (Nat.le_of_ble_eq_true rfl) tw_767 rfl rfl rfl fp_M18 dzX8_border_74 ?_
        refine z_sig (fun w2 e1 => ?_)
        have h := z_lt_at e1 h
        refine z_iconst O dzX8_border_77 hcI0 ?_
        refine z_istore O (lv' := [(5, .int (0 : Int32)), (0, .ref (z_ad Y 0)), (1, .int a1), (2, .int a2), (3, .int a3), (4, .int a4)]) dzX8_border_78 (by decide) rfl ?_
        refine z_sub [1, 4, 5, 0] rfl ?_
        refine kX8_border_L80 O hi hr hlk   (fun w3 x2 h => ?_) _ _ _ h
        refine z_aload_n O dzX8_border_125 rfl 0 rfl ?_
        refine z_iload O dzX8_border_126 2 rfl ?_
        obtain ⟨r4, hc4, h⟩ := z_bd_at h
        refine z_callViR O (As := [.int a4]) (rest := []) (kX8_leastAt hi hc4) mX8_leastAt tw_1019 (Nat.le_of_ble_eq_true rfl) fm_obj rfl rfl rfl rfl (Nat.le_of_ble_eq_true rfl) dzX8_border_128 ?_
        exact z_iret O hr hlk dzX8_border_131 h
      · have h := z_if_t c1 h
        refine z_bipush O dzX8_border_29 hcBm2 ?_
        exact z_iret O hr hlk dzX8_border_31 h
def fX8_canMake (a0 : Int32) (a1 : Int32) (a2 : Int32) : Option (Int32) :=
  (if a0 = 0 then (fX8_in (a1.toInt64) (0 : Int64) (12 : Int64)).bind (fun r1 => (if r1 = 0 then some (0 : Int32) else (fX8_in (a2.toInt64) (0 : Int64) (12 : Int64)).bind (fun r2 => (if r2 = 0 then some (0 : Int32) else some (1 : Int32))))) else (if a0 = 1 then (fX8_in (a1.toInt64) (0 : Int64) (6 : Int64)).bind (fun r3 => z_gd (z_bz r3) (some r3)) else (if a0 = 2 then (fX8_in (a1.toInt64) (0 : Int64) (12 : Int64)).bind (fun r4 => (if r4 = 0 then some (0 : Int32) else (fX8_in (a2.toInt64) (1 : Int64) (12 : Int64)).bind (fun r5 => (if r5 = 0 then some (0 : Int32) else some (1 : Int32))))) else (if a0 = 3 then (fX8_in (a1.toInt64) (0 : Int64) (12 : Int64)).bind (fun r6 => (if r6 = 0 then some (0 : Int32) else (fX8_in (a2.toInt64) (1 : Int64) (12 : Int64)).bind (fun r7 => (if r7 = 0 then some (0 : Int32) else some (1 : Int32))))) else (if a0 = (4 : Int32) then (fX8_in (a1.toInt64) (0 : Int64) (12 : Int64)).bind (fun r8 => (if r8 = 0 then some (0 : Int32) else some (1 : Int32))) else some (0 : Int32))))))
theorem kX8_canMake {l : Launch} {Y : zY} (hi : z_inj ΛM Y) {σ : zS} {a0 : Int32} {a1 : Int32} {a2 : Int32} {fin : Int32} (h : fX8_canMake a0 a1 a2 = some fin) : Met l yX8_canMake (Cond.code yX8_canMake cX8_canMake 3 (some .boolean) :: z_TB) (z_rm 2) (z_Pc ΛM Y σ [.int a0, .int a1, .int a2]) (z_Qi ΛM Y (fin, σ)) 0 0 (z_A ΛM Y) := by
  unfold fX8_canMake at h
  refine z_met [(0, .int a0), (1, .int a1), (2, .int a2)] rfl (Nat.le_of_ble_eq_true rfl) (plainFor_of_name (by decide)) hi ?_
  intro p e s m args below meth c O hr hlk
  refine z_iload_n O dzX8_canMake_0 rfl 0 rfl ?_
  by_cases c1 : a0 = 0
  · have h := z_if_t c1 h
    refine z_tabI O dzX8_canMake_1 (x := a0) (by rw [c1]; decide) (by rw [c1]; decide) (off := 31) (by rw [c1]; rfl) (tgt := 32) rfl ?_
    refine z_iload_n O dzX8_canMake_32 rfl 1 rfl ?_
    refine z_i2l O dzX8_canMake_33 ?_
    refine z_lconst O dzX8_canMake_34 (v := 0) rfl ?_
    refine z_ldc2 O tw_1006 dzX8_canMake_35 ?_
    obtain ⟨r1, hc1, h⟩ := z_bd_at h
    refine z_callSiR O (As := [.long (a1.toInt64), .long (0 : Int64), .long (12 : Int64)]) (rest := []) (kX8_in hi hc1) mX8_in tw_876 (Nat.le_of_ble_eq_true rfl) rfl rfl (Nat.le_of_ble_eq_true rfl) dzX8_canMake_38 ?_
    refine z_if_eq O dzX8_canMake_41 (fun c3 => ?_) (fun c3 => ?_)
    · have h := z_if_t c3 h
      refine z_iconst O dzX8_canMake_60 hcI0 ?_
      exact z_zret O hr hlk rfl dzX8_canMake_61 (z_rf h)
    · have h := z_if_f c3 h
      refine z_iload_n O dzX8_canMake_44 rfl 2 rfl ?_
      refine z_i2l O dzX8_canMake_45 ?_
      refine z_lconst O dzX8_canMake_46 (v := 0) rfl ?_
      refine z_ldc2 O tw_1006 dzX8_canMake_47 ?_
      obtain ⟨r2, hc2, h⟩ := z_bd_at h
      refine z_callSiR O (As := [.long (a2.toInt64), .long (0 : Int64), .long (12 : Int64)]) (rest := []) (kX8_in hi hc2) mX8_in tw_876 (Nat.le_of_ble_eq_true rfl) rfl rfl (Nat.le_of_ble_eq_true rfl) dzX8_canMake_50 ?_
      refine z_if_eq O dzX8_canMake_53 (fun c2 => ?_) (fun c2 => ?_)
      · have h := z_if_t c2 h
        refine z_iconst O dzX8_canMake_60 hcI0 ?_
        exact z_zret O hr hlk rfl dzX8_canMake_61 (z_rf h)
      · have h := z_if_f c2 h
        refine z_iconst O dzX8_canMake_56 hcI1 ?_
        refine z_goto O dzX8_canMake_57 ?_
        exact z_zret O hr hlk rfl dzX8_canMake_61 (z_rf h)
  have h := z_if_f c1 h
  by_cases c4 : a0 = 1
  · have h := z_if_t c4 h
    refine z_tabI O dzX8_canMake_1 (x := a0) (by rw [c4]; decide) (by rw [c4]; decide) (off := 61) (by rw [c4]; rfl) (tgt := 62) rfl ?_
    refine z_iload_n O dzX8_canMake_62 rfl 1 rfl ?_
    refine z_i2l O dzX8_canMake_63 ?_
    refine z_lconst O dzX8_canMake_64 (v := 0) rfl ?_
    refine z_ldc2 O tw_1087 dzX8_canMake_65 ?_
    obtain ⟨r3, hc3, h⟩ := z_bd_at h
    refine z_callSiR O (As := [.long (a1.toInt64), .long (0 : Int64), .long (6 : Int64)]) (rest := []) (kX8_in hi hc3) mX8_in tw_876 (Nat.le_of_ble_eq_true rfl) rfl rfl (Nat.le_of_ble_eq_true rfl) dzX8_canMake_68 ?_
    obtain ⟨g1, h⟩ := z_gd_at h
    exact z_zret O hr hlk (z_bz_n g1) dzX8_canMake_71 (z_rf h)
  have h := z_if_f c4 h
  by_cases c5 : a0 = 2
  · have h := z_if_t c5 h
    refine z_tabI O dzX8_canMake_1 (x := a0) (by rw [c5]; decide) (by rw [c5]; decide) (off := 71) (by rw [c5]; rfl) (tgt := 72) rfl ?_
    refine z_iload_n O dzX8_canMake_72 rfl 1 rfl ?_
    refine z_i2l O dzX8_canMake_73 ?_
    refine z_lconst O dzX8_canMake_74 (v := 0) rfl ?_
    refine z_ldc2 O tw_1006 dzX8_canMake_75 ?_
    obtain ⟨r4, hc4, h⟩ := z_bd_at h
    refine z_callSiR O (As := [.long (a1.toInt64), .long (0 : Int64), .long (12 : Int64)]) (rest := []) (kX8_in hi hc4) mX8_in tw_876 (Nat.le_of_ble_eq_true rfl) rfl rfl (Nat.le_of_ble_eq_true rfl) dzX8_canMake_78 ?_
    refine z_if_eq O dzX8_canMake_81 (fun c7 => ?_) (fun c7 => ?_)
    · have h := z_if_t c7 h
      refine z_iconst O dzX8_canMake_100 hcI0 ?_
      exact z_zret O hr hlk rfl dzX8_canMake_101 (z_rf h)
    · have h := z_if_f c7 h
      refine z_iload_n O dzX8_canMake_84 rfl 2 rfl ?_
      refine z_i2l O dzX8_canMake_85 ?_
      refine z_lconst O dzX8_canMake_86 (v := 1) rfl ?_
      refine z_ldc2 O tw_1006 dzX8_canMake_87 ?_
      obtain ⟨r5, hc5, h⟩ := z_bd_at h
      refine z_callSiR O (As := [.long (a2.toInt64), .long (1 : Int64), .long (12 : Int64)]) (rest := []) (kX8_in hi hc5) mX8_in tw_876 (Nat.le_of_ble_eq_true rfl) rfl rfl (Nat.le_of_ble_eq_true rfl) dzX8_canMake_90 ?_
      refine z_if_eq O dzX8_canMake_93 (fun c6 => ?_) (fun c6 => ?_)
      · have h := z_if_t c6 h
        refine z_iconst O dzX8_canMake_100 hcI0 ?_
        exact z_zret O hr hlk rfl dzX8_canMake_101 (z_rf h)
      · have h := z_if_f c6 h
        refine z_iconst O dzX8_canMake_96 hcI1 ?_
        refine z_goto O dzX8_canMake_97 ?_
        exact z_zret O hr hlk rfl dzX8_canMake_101 (z_rf h)
  have h := z_if_f c5 h
  by_cases c8 : a0 = 3
  · have h := z_if_t c8 h
    refine z_tabI O dzX8_canMake_1 (x := a0) (by rw [c8]; decide) (by rw [c8]; decide) (off := 71) (by rw [c8]; rfl) (tgt := 72) rfl ?_
    refine z_iload_n O dzX8_canMake_72 rfl 1 rfl ?_
    refine z_i2l O dzX8_canMake_73 ?_
    refine z_lconst O dzX8_canMake_74 (v := 0) rfl ?_
    refine z_ldc2 O tw_1006 dzX8_canMake_75 ?_
    obtain ⟨r6, hc6, h⟩ := z_bd_at h
    refine z_callSiR O (As := [.long (a1.toInt64), .long (0 : Int64), .long (12 : Int64)]) (rest := []) (kX8_in hi hc6) mX8_in tw_876 (Nat.le_of_ble_eq_true rfl) rfl rfl (Nat.le_of_ble_eq_true rfl) dzX8_canMake_78 ?_
    refine z_if_eq O dzX8_canMake_81 (fun c10 => ?_) (fun c10 => ?_)
    · have h := z_if_t c10 h
      refine z_iconst O dzX8_canMake_100 hcI0 ?_
      exact z_zret O hr hlk rfl dzX8_canMake_101 (z_rf h)
    · have h := z_if_f c10 h
      refine z_iload_n O dzX8_canMake_84 rfl 2 rfl ?_
      refine z_i2l O dzX8_canMake_85 ?_
      refine z_lconst O dzX8_canMake_86 (v := 1) rfl ?_
      refine z_ldc2 O tw_1006 dzX8_canMake_87 ?_
      obtain ⟨r7, hc7, h⟩ := z_bd_at h
      refine z_callSiR O (As := [.long (a2.toInt64), .long (1 : Int64), .long (12 : Int64)]) (rest := []) (kX8_in hi hc7) mX8_in tw_876 (Nat.le_of_ble_eq_true rfl) rfl rfl (Nat.le_of_ble_eq_true rfl) dzX8_canMake_90 ?_
      refine z_if_eq O dzX8_canMake_93 (fun c9 => ?_) (fun c9 => ?_)
      · have h := z_if_t c9 h
        refine z_iconst O dzX8_canMake_100 hcI0 ?_
        exact z_zret O hr hlk rfl dzX8_canMake_101 (z_rf h)
      · have h := z_if_f c9 h
        refine z_iconst O dzX8_canMake_96 hcI1 ?_
        refine z_goto O dzX8_canMake_97 ?_
        exact z_zret O hr hlk rfl dzX8_canMake_101 (z_rf h)
  have h := z_if_f c8 h
  have qc1 := z_ne (z := 0) rfl c1
  have qc4 := z_ne (z := 1) rfl c4
  have qc5 := z_ne (z := 2) rfl c5
  have qc8 := z_ne (z := 3) rfl c8
  refine z_tabO O dzX8_canMake_1 (by omega) (tgt := 102) rfl ?_
  refine z_iload_n O dzX8_canMake_102 rfl 0 rfl ?_
  refine z_iconst O dzX8_canMake_103 hcI4 ?_
  refine z_icmp_ne O dzX8_canMake_104 (fun c12 => ?_) (fun c12 => ?_)
  · have h := z_if_f c12 h
    refine z_iconst O dzX8_canMake_123 hcI0 ?_
    exact z_zret O hr hlk rfl dzX8_canMake_124 (z_rf h)
  · have h := z_if_t c12 h
    refine z_iload_n O dzX8_canMake_107 rfl 1 rfl ?_
    refine z_i2l O dzX8_canMake_108 ?_
    refine z_lconst O dzX8_canMake_109 (v := 0) rfl ?_
    refine z_ldc2 O tw_1006 dzX8_canMake_110 ?_
    obtain ⟨r8, hc8, h⟩ := z_bd_at h
    refine z_callSiR O (As := [.long (a1.toInt64), .long (0 : Int64), .long (12 : Int64)]) (rest := []) (kX8_in hi hc8) mX8_in tw_876 (Nat.le_of_ble_eq_true rfl) rfl rfl (Nat.le_of_ble_eq_true rfl) dzX8_canMake_113 ?_
    refine z_if_eq O dzX8_canMake_116 (fun c11 => ?_) (fun c11 => ?_)
    · have h := z_if_t c11 h
      refine z_iconst O dzX8_canMake_123 hcI0 ?_
      exact z_zret O hr hlk rfl dzX8_canMake_124 (z_rf h)
    · have h := z_if_f c11 h
      refine z_iconst O dzX8_canMake_119 hcI1 ?_
      refine z_goto O dzX8_canMake_120 ?_
      exact z_zret O hr hlk rfl dzX8_canMake_124 (z_rf h)
def fX8_isSheet (a0 : Int32) : Option (Int32) :=
  (fX8_in (a0.toInt64) (0 : Int64) (3 : Int64)).bind (fun r1 => z_gd (z_bz r1) (some r1))
theorem kX8_isSheet {l : Launch} {Y : zY} (hi : z_inj ΛM Y) {σ : zS} {a0 : Int32} {fin : Int32} (h : fX8_isSheet a0 = some fin) : Met l yX8_isSheet (Cond.code yX8_isSheet cX8_isSheet 1 (some .boolean) :: z_TB) (z_rm 2) (z_Pc ΛM Y σ [.int a0]) (z_Qi ΛM Y (fin, σ)) 0 0 (z_A ΛM Y) := by
  unfold fX8_isSheet at h
  refine z_met [(0, .int a0)] rfl (Nat.le_of_ble_eq_true rfl) (plainFor_of_name (by decide)) hi ?_
  intro p e s m args below meth c O hr hlk
  refine z_iload_n O dzX8_isSheet_0 rfl 0 rfl ?_
  refine z_i2l O dzX8_isSheet_1 ?_
  refine z_lconst O dzX8_isSheet_2 (v := 0) rfl ?_
  refine z_ldc2 O tw_895 dzX8_isSheet_3 ?_
  obtain ⟨r1, hc1, h⟩ := z_bd_at h
  refine z_callSiR O (As := [.long (a0.toInt64), .long (0 : Int64), .long (3 : Int64)]) (rest := []) (kX8_in hi hc1) mX8_in tw_876 (Nat.le_of_ble_eq_true rfl) rfl rfl (Nat.le_of_ble_eq_true rfl) dzX8_isSheet_6 ?_
  obtain ⟨g1, h⟩ := z_gd_at h
  exact z_zret O hr hlk (z_bz_n g1) dzX8_isSheet_9 (z_rf h)
def fX8_wrong (σ : zS) (a1 : Int32) (a2 : Int32) : Option (Int32) :=
  (fX8_isSheet a1).bind (fun r1 => (if r1 = 0 then some (-2 : Int32) else z_gd (z_in a1 4) ((if 0 ≤ (σ.1 19 a1.toNatClampNeg) then z_gd (z_in a1 4) ((fX8_in (a2.toInt64) (0 : Int64) (((σ.1 20 a1.toNatClampNeg) - (1 : Int32)).toInt64)).bind (fun r2 => (if r2 = 0 then some (-12 : Int32) else some (0 : Int32)))) else some (-11 : Int32)))))
theorem kX8_wrong {l : Launch} {Y : zY} (hi : z_inj ΛM Y) {σ : zS} {a1 : Int32} {a2 : Int32} {fin : Int32} (h : fX8_wrong σ a1 a2 = some fin) : Met l yX8_wrong (Cond.code yX8_wrong cX8_wrong 3 (some .int) :: z_TB) (z_rm 3) (z_Pc ΛM Y σ [.ref (z_ad Y 0), .int a1, .int a2]) (z_Qi ΛM Y (fin, σ)) 0 0 (z_A ΛM Y) := by
  unfold fX8_wrong at h
  refine z_met [(0, .ref (z_ad Y 0)), (1, .int a1), (2, .int a2)] rfl (Nat.le_of_ble_eq_true rfl) (plainFor_of_name (by decide)) hi ?_
  intro p e s m args below meth c O hr hlk
  refine z_iload_n O dzX8_wrong_0 rfl 1 rfl ?_
  obtain ⟨r1, hc1, h⟩ := z_bd_at h
  refine z_callSiR O (As := [.int a1]) (rest := []) (kX8_isSheet hi hc1) mX8_isSheet tw_1144 (Nat.le_of_ble_eq_true rfl) rfl rfl (Nat.le_of_ble_eq_true rfl) dzX8_wrong_1 ?_
  refine z_if_ne O dzX8_wrong_4 (fun c3 => ?_) (fun c3 => ?_)
  · have h := z_if_f c3 h
    refine z_aload_n O dzX8_wrong_12 rfl 0 rfl ?_
    refine z_get O z_cb8 fm_obj (v := .ref (z_ad Y 19)) 30 (Nat.le_of_ble_eq_true rfl) tw_779 rfl dzX8_wrong_13 ?_
    refine z_iload_n O dzX8_wrong_16 rfl 1 rfl ?_
    obtain ⟨g1, h⟩ := z_gd_at h
    refine z_iald O fm_sorts g1 dzX8_wrong_17 ?_
    refine z_if_ge O dzX8_wrong_18 (fun c2 => ?_) (fun c2 => ?_)
    · have h := z_if_t c2 h
      refine z_iload_n O dzX8_wrong_26 rfl 2 rfl ?_
      refine z_i2l O dzX8_wrong_27 ?_
      refine z_lconst O dzX8_wrong_28 (v := 0) rfl ?_
      refine z_aload_n O dzX8_wrong_29 rfl 0 rfl ?_
      refine z_get O z_cb8 fm_obj (v := .ref (z_ad Y 20)) 31 (Nat.le_of_ble_eq_true rfl) tw_780 rfl dzX8_wrong_30 ?_
      refine z_iload_n O dzX8_wrong_33 rfl 1 rfl ?_
      obtain ⟨g2, h⟩ := z_gd_at h
      refine z_iald O fm_long0 g2 dzX8_wrong_34 ?_
      refine z_iconst O dzX8_wrong_35 hcI1 ?_
      refine z_isub O dzX8_wrong_36 ?_
      refine z_i2l O dzX8_wrong_37 ?_
      obtain ⟨r2, hc2, h⟩ := z_bd_at h
      refine z_callSiR O (As := [.long (a2.toInt64), .long (0 : Int64), .long (((σ.1 20 a1.toNatClampNeg) - (1 : Int32)).toInt64)]) (rest := []) (kX8_in hi hc2) mX8_in tw_876 (Nat.le_of_ble_eq_true rfl) rfl rfl (Nat.le_of_ble_eq_true rfl) dzX8_wrong_38 ?_
      refine z_if_eq O dzX8_wrong_41 (fun c1 => ?_) (fun c1 => ?_)
      · have h := z_if_t c1 h
        refine z_bipush O dzX8_wrong_48 hcBm12 ?_
        exact z_iret O hr hlk dzX8_wrong_50 (z_rf h)
      · have h := z_if_f c1 h
        refine z_iconst O dzX8_wrong_44 hcI0 ?_
        refine z_goto O dzX8_wrong_45 ?_
        exact z_iret O hr hlk dzX8_wrong_50 (z_rf h)
    · have h := z_if_f c2 h
      refine z_bipush O dzX8_wrong_21 hcBm11 ?_
      refine z_goto O dzX8_wrong_23 ?_
      exact z_iret O hr hlk dzX8_wrong_50 (z_rf h)
  · have h := z_if_t c3 h
    refine z_bipush O dzX8_wrong_7 hcBm2 ?_
    refine z_goto O dzX8_wrong_9 ?_
    exact z_iret O hr hlk dzX8_wrong_50 (z_rf h)
def fX8_cell (σ : zS) (a1 : Int32) (a2 : Int32) (a3 : Int64) : Option (Int32 × zS) :=
  (fX8_wrong σ a1 a2).bind (fun r1 => (if r1 = 0 then z_gd (z_in a1 4) ((if (σ.1 19 a1.toNatClampNeg) = 0 then z_gd (z_in (((40 : Int32) * a1) + a2) 160) (z_lt (z_sJ σ 21 (((40 : Int32) * a1) + a2).toNatClampNeg ((a3.toInt32).toInt64)) (fun (w2 : zS) => some ((1 : Int32), w2))) else z_gd (z_in (((40 : Int32) * a1) + a2) 160) (z_lt (z_sJ σ 21 (((40 : Int32) * a1) + a2).toNatClampNeg a3) (fun (w1 : zS) => some ((1 : Int32), w1))))) else some (r1, σ)))
theorem kX8_cell {l : Launch} {Y : zY} (hi : z_inj ΛM Y) {σ : zS} {a1 : Int32} {a2 : Int32} {a3 : Int64} {fin : Int32 × zS} (h : fX8_cell σ a1 a2 a3 = some fin) : Met l yX8_cell (Cond.code yX8_cell cX8_cell 6 (some .int) :: z_TB) (z_rm 4) (z_Pc ΛM Y σ [.ref (z_ad Y 0), .int a1, .int a2, .long a3]) (z_Qi ΛM Y fin) 0 0 (z_A ΛM Y) := by
  unfold fX8_cell at h
  refine z_met [(0, .ref (z_ad Y 0)), (1, .int a1), (2, .int a2), (3, .long a3)] rfl (Nat.le_of_ble_eq_true rfl) (plainFor_of_name (by decide)) hi ?_
  intro p e s m args below meth c O hr hlk
  refine z_aload_n O dzX8_cell_0 rfl 0 rfl ?_
  refine z_iload_n O dzX8_cell_1 rfl 1 rfl ?_
  refine z_iload_n O dzX8_cell_2 rfl 2 rfl ?_
  obtain ⟨r1, hc1, h⟩ := z_bd_at h
  refine z_callViR O (As := [.int a1, .int a2]) (rest := []) (kX8_wrong hi hc1) mX8_wrong tw_1152 (Nat.le_of_ble_eq_true rfl) fm_obj rfl rfl rfl rfl (Nat.le_of_ble_eq_true rfl) dzX8_cell_3 ?_
  refine z_istore O (lv' := [(5, .int r1), (0, .ref (z_ad Y 0)), (1, .int a1), (2, .int a2), (3, .long a3)]) dzX8_cell_6 (by decide) rfl ?_
  refine z_iload O dzX8_cell_8 0 rfl ?_
  refine z_if_eq O dzX8_cell_10 (fun c2 => ?_) (fun c2 => ?_)
  · have h := z_if_t c2 h
    refine z_aload_n O dzX8_cell_16 rfl 1 rfl ?_
    refine z_get O z_cb8 fm_obj (v := .ref (z_ad Y 21)) 32 (Nat.le_of_ble_eq_true rfl) tw_781 rfl dzX8_cell_17 ?_
    refine z_bipush O dzX8_cell_20 hcB40 ?_
    refine z_iload_n O dzX8_cell_22 rfl 2 rfl ?_
    refine z_imul O dzX8_cell_23 ?_
    refine z_iload_n O dzX8_cell_24 rfl 3 rfl ?_
    refine z_iadd O dzX8_cell_25 ?_
    refine z_aload_n O dzX8_cell_26 rfl 1 rfl ?_
    refine z_get O z_cb8 fm_obj (v := .ref (z_ad Y 19)) 30 (Nat.le_of_ble_eq_true rfl) tw_779 rfl dzX8_cell_27 ?_
    refine z_iload_n O dzX8_cell_30 rfl 2 rfl ?_
    obtain ⟨g1, h⟩ := z_gd_at h
    refine z_iald O fm_sorts g1 dzX8_cell_31 ?_
    refine z_if_ne O dzX8_cell_32 (fun c1 => ?_) (fun c1 => ?_)
    · have h := z_if_f c1 h
      refine z_lload_n O dzX8_cell_41 rfl 4 rfl ?_
      obtain ⟨g2, h⟩ := z_gd_at h
      refine z_last O fm_cells g2 dzX8_cell_42 ?_
      refine z_sig (fun w1 e1 => ?_)
      have h := z_lt_at e1 h
      refine z_iconst O dzX8_cell_43 hcI1 ?_
      exact z_iret O hr hlk dzX8_cell_44 h
    · have h := z_if_t c1 h
      refine z_lload_n O dzX8_cell_35 rfl 4 rfl ?_
      refine z_l2i O dzX8_cell_36 ?_
      refine z_i2l O dzX8_cell_37 ?_
      refine z_goto O dzX8_cell_38 ?_
      obtain ⟨g3, h⟩ := z_gd_at h
      refine z_last O fm_cells g3 dzX8_cell_42 ?_
      refine z_sig (fun w2 e2 => ?_)
      have h := z_lt_at e2 h
      refine z_iconst O dzX8_cell_43 hcI1 ?_
      exact z_iret O hr hlk dzX8_cell_44 h
  · have h := z_if_f c2 h
    refine z_iload O dzX8_cell_13 0 rfl ?_
    exact z_iret O hr hlk dzX8_cell_15 h
def fX8_copy_L19 (a1 : Int32) (a2 : Int32) (k : zS → Int32 → Option (Int32 × zS)) : Nat → zS → Int32 → Option (Int32 × zS)
  | 0, _, _ => none
  | n + 1, σ, v3 => (if (40 : Int32) ≤ v3 then k σ v3 else z_gd (z_in (((40 : Int32) * a1) + v3) 160) (z_gd (z_in (((40 : Int32) * a2) + v3) 160) (z_lt (z_sI σ 3 (((40 : Int32) * a2) + v3).toNatClampNeg (σ.1 3 (((40 : Int32) * a1) + v3).toNatClampNeg)) (fun (w1 : zS) => z_gd (z_in (((40 : Int32) * a1) + v3) 160) (z_gd (z_in (((40 : Int32) * a2) + v3) 160) (z_lt (z_sI w1 4 (((40 : Int32) * a2) + v3).toNatClampNeg (w1.1 4 (((40 : Int32) * a1) + v3).toNatClampNeg)) (fun (w2 : zS) => fX8_copy_L19 a1 a2 k n w2 (v3 + (1 : Int32)))))))))
theorem kX8_copy_L19 {l : Launch} {Y : zY} {fin : Int32 × zS} {p : Program} {e : Env} {s : State} {m : MethodId} {args : Array Value} {below : List Frame} {meth : Method} {c : Code} (O : z_ok ΛM Y p s m args c cX8_copy RX8 4) (hi : z_inj ΛM Y) (hr : meth.sig.returnType = (some .int)) (hlk : meth.locks = false) {a1 : Int32} {a2 : Int32} {k : zS → Int32 → Option (Int32 × zS)} (hk : ∀ (w : zS) (z3 : Int32), k w z3 = some fin → z_G p l e (z_rm 3) s m args below meth c (MQ below (z_Qi ΛM Y fin) args s 0 0 (z_A ΛM Y)) ΛM Y 4 w [(0, .ref (z_ad Y 0)), (1, .int a1), (2, .int a2), (3, .int z3)] 75 []) : ∀ (n : Nat) (σ : zS) (v3 : Int32), fX8_copy_L19 a1 a2 k n σ v3 = some fin → z_G p l e (z_rm 3) s m args below meth c (MQ below (z_Qi ΛM Y fin) args s 0 0 (z_A ΛM Y)) ΛM Y 4 σ [(0, .ref (z_ad Y 0)), (1, .int a1), (2, .int a2), (3, .int v3)] 19 [] := by
  intro n
  induction n with
  | zero =>
    intro _ _ h
    cases h
  | succ n ih =>
    intro σ v3 h
    rw [fX8_copy_L19.eq_2] at h
    refine z_iload_n O dzX8_copy_19 rfl 3 rfl ?_
    refine z_bipush O dzX8_copy_20 hcB40 ?_
    refine z_icmp_ge O dzX8_copy_22 (fun c1 => ?_) (fun c1 => ?_)
    · have h := z_if_t c1 h
      exact hk _ _ h
    · have h := z_if_f c1 h
      refine z_aload_n O dzX8_copy_25 rfl 0 rfl ?_
      refine z_get O z_cb8 fm_obj (v := .ref (z_ad Y 3)) 2 (Nat.le_of_ble_eq_true rfl) tw_751 rfl dzX8_copy_26 ?_
      refine z_bipush O dzX8_copy_29 hcB40 ?_
      refine z_iload_n O dzX8_copy_31 rfl 2 rfl ?_
      refine z_imul O dzX8_copy_32 ?_
      refine z_iload_n O dzX8_copy_33 rfl 3 rfl ?_
      refine z_iadd O dzX8_copy_34 ?_
      refine z_aload_n O dzX8_copy_35 rfl 0 rfl ?_
      refine z_get O z_cb8 fm_obj (v := .ref (z_ad Y 3)) 2 (Nat.le_of_ble_eq_true rfl) tw_751 rfl dzX8_copy_36 ?_
      refine z_bipush O dzX8_copy_39 hcB40 ?_
      refine z_iload_n O dzX8_copy_41 rfl 1 rfl ?_
      refine z_imul O dzX8_copy_42 ?_
      refine z_iload_n O dzX8_copy_43 rfl 3 rfl ?_
      refine z_iadd O dzX8_copy_44 ?_
      obtain ⟨g1, h⟩ := z_gd_at h
      refine z_iald O fm_sets g1 dzX8_copy_45 ?_
      obtain ⟨g2, h⟩ := z_gd_at h
      refine z_iast O fm_sets g2 dzX8_copy_46 ?_
      refine z_sig (fun w1 e1 => ?_)
      have h := z_lt_at e1 h
      refine z_aload_n O dzX8_copy_47 rfl 0 rfl ?_
      refine z_get O z_cb8 fm_obj (v := .ref (z_ad Y 4)) 3 (Nat.le_of_ble_eq_true rfl) tw_752 rfl dzX8_copy_48 ?_
      refine z_bipush O dzX8_copy_51 hcB40 ?_
      refine z_iload_n O dzX8_copy_53 rfl 2 rfl ?_
      refine z_imul O dzX8_copy_54 ?_
      refine z_iload_n O dzX8_copy_55 rfl 3 rfl ?_
      refine z_iadd O dzX8_copy_56 ?_
      refine z_aload_n O dzX8_copy_57 rfl 0 rfl ?_
      refine z_get O z_cb8 fm_obj (v := .ref (z_ad Y 4)) 3 (Nat.le_of_ble_eq_true rfl) tw_752 rfl dzX8_copy_58 ?_
      refine z_bipush O dzX8_copy_61 hcB40 ?_
      refine z_iload_n O dzX8_copy_63 rfl 1 rfl ?_
      refine z_imul O dzX8_copy_64 ?_
      refine z_iload_n O dzX8_copy_65 rfl 3 rfl ?_
      refine z_iadd O dzX8_copy_66 ?_
      obtain ⟨g3, h⟩ := z_gd_at h
      refine z_iald O fm_tallies g3 dzX8_copy_67 ?_
      obtain ⟨g4, h⟩ := z_gd_at h
      refine z_iast O fm_tallies g4 dzX8_copy_68 ?_
      refine z_sig (fun w2 e2 => ?_)
      have h := z_lt_at e2 h
      refine z_iinc O (lv' := [(3, .int (v3 + (1 : Int32))), (0, .ref (z_ad Y 0)), (1, .int a1), (2, .int a2)]) dzX8_copy_69 3 rfl (congrArg _ hcI1) (by decide) rfl ?_
      refine z_goto O dzX8_copy_72 ?_
      refine z_sub [1, 2, 3, 0] rfl ?_
      exact ih _ _ h
def fX8_copy (σ : zS) (a1 : Int32) (a2 : Int32) : Option (Int32 × zS) :=
  (fX8_isFamily a1).bind (fun r1 => (if r1 = 0 then some ((-2 : Int32), σ) else (fX8_isFamily a2).bind (fun r2 => (if r2 = 0 then some ((-2 : Int32), σ) else fX8_copy_L19 a1 a2 (fun (w1 : zS) (x1 : Int32) => z_gd (z_in a1 4) (z_gd (z_in a2 4) (z_lt (z_sI w1 2 a2.toNatClampNeg (w1.1 2 a1.toNatClampNeg)) (fun (w2 : zS) => z_lt (z_sI w2 0 10 (0 : Int32)) (fun (w3 : zS) => z_gd (z_in a2 4) (some ((w3.1 2 a2.toNatClampNeg), w3))))))) z_F σ (0 : Int32)))))
theorem kX8_copy {l : Launch} {Y : zY} (hi : z_inj ΛM Y) {σ : zS} {a1 : Int32} {a2 : Int32} {fin : Int32 × zS} (h : fX8_copy σ a1 a2 = some fin) : Met l yX8_copy (Cond.code yX8_copy cX8_copy 4 (some .int) :: z_TB) (z_rm 3) (z_Pc ΛM Y σ [.ref (z_ad Y 0), .int a1, .int a2]) (z_Qi ΛM Y fin) 0 0 (z_A ΛM Y) := by
  unfold fX8_copy at h
  refine z_met [(0, .ref (z_ad Y 0)), (1, .int a1), (2, .int a2)] rfl (Nat.le_of_ble_eq_true rfl) (plainFor_of_name (by decide)) hi ?_
  intro p e s m args below meth c O hr hlk
  refine z_iload_n O dzX8_copy_0 rfl 1 rfl ?_
  obtain ⟨r1, hc1, h⟩ := z_bd_at h
  refine z_callSiR O (As := [.int a1]) (rest := []) (kX8_isFamily hi hc1) mX8_isFamily tw_892 (Nat.le_of_ble_eq_true rfl) rfl rfl (Nat.le_of_ble_eq_true rfl) dzX8_copy_1 ?_
  refine z_if_eq O dzX8_copy_4 (fun c2 => ?_) (fun c2 => ?_)
  · have h := z_if_t c2 h
    refine z_bipush O dzX8_copy_14 hcBm2 ?_
    exact z_iret O hr hlk dzX8_copy_16 h
  · have h := z_if_f c2 h
    refine z_iload_n O dzX8_copy_7 rfl 2 rfl ?_
    obtain ⟨r2, hc2, h⟩ := z_bd_at h
    refine z_callSiR O (As := [.int a2]) (rest := []) (kX8_isFamily hi hc2) mX8_isFamily tw_892 (Nat.le_of_ble_eq_true rfl) rfl rfl (Nat.le_of_ble_eq_true rfl) dzX8_copy_8 ?_
    refine z_if_ne O dzX8_copy_11 (fun c1 => ?_) (fun c1 => ?_)
    · have h := z_if_f c1 h
      refine z_iconst O dzX8_copy_17 hcI0 ?_
      refine z_istore_n O (lv' := [(3, .int (0 : Int32)), (0, .ref (z_ad Y 0)), (1, .int a1), (2, .int a2)]) dzX8_copy_18 rfl (by decide) rfl ?_
      refine z_sub [1, 2, 3, 0] rfl ?_
      refine kX8_copy_L19 O hi hr hlk   (fun w1 x1 h => ?_) _ _ _ h
      refine z_aload_n O dzX8_copy_75 rfl 0 rfl ?_
      refine z_get O z_cb8 fm_obj (v := .ref (z_ad Y 2)) 1 (Nat.le_of_ble_eq_true rfl) tw_750 rfl dzX8_copy_76 ?_
      refine z_iload_n O dzX8_copy_79 rfl 2 rfl ?_
      refine z_aload_n O dzX8_copy_80 rfl 0 rfl ?_
      refine z_get O z_cb8 fm_obj (v := .ref (z_ad Y 2)) 1 (Nat.le_of_ble_eq_true rfl) tw_750 rfl dzX8_copy_81 ?_
      refine z_iload_n O dzX8_copy_84 rfl 1 rfl ?_
      obtain ⟨g1, h⟩ := z_gd_at h
      refine z_iald O fm_sizes g1 dzX8_copy_85 ?_
      obtain ⟨g2, h⟩ := z_gd_at h
      refine z_iast O fm_sizes g2 dzX8_copy_86 ?_
      refine z_sig (fun w2 e1 => ?_)
      have h := z_lt_at e1 h
      refine z_aload_n O dzX8_copy_87 rfl 0 rfl ?_
      refine z_iconst O dzX8_copy_88 hcI0 ?_
      refine z_put O z_cb8 fm_obj 10 (Nat.le_of_ble_eq_true rfl) tw_759 rfl rfl rfl fp_M10 dzX8_copy_89 ?_
      refine z_sig (fun w3 e2 => ?_)
      have h := z_lt_at e2 h
      refine z_aload_n O dzX8_copy_92 rfl 0 rfl ?_
      refine z_get O z_cb8 fm_obj (v := .ref (z_ad Y 2)) 1 (Nat.le_of_ble_eq_true rfl) tw_750 rfl dzX8_copy_93 ?_
      refine z_iload_n O dzX8_copy_96 rfl 2 rfl ?_
      obtain ⟨g3, h⟩ := z_gd_at h
      refine z_iald O fm_sizes g3 dzX8_copy_97 ?_
      exact z_iret O hr hlk dzX8_copy_98 h
    · have h := z_if_t c1 h
      refine z_bipush O dzX8_copy_14 hcBm2 ?_
      exact z_iret O hr hlk dzX8_copy_16 h
def fX8_count_L4 (σ : zS) (k : Int32 → Int32 → Option (Int32)) : Nat → Int32 → Int32 → Option (Int32)
  | 0, _, _ => none
  | n + 1, v2, v3 => (if (12 : Int32) ≤ v3 then k v2 v3 else z_gd (z_in v3 12) (z_lt (v2 + (σ.1 1 v3.toNatClampNeg)) (fun (x1 : Int32) => fX8_count_L4 σ k n x1 (v3 + (1 : Int32)))))
theorem kX8_count_L4 {l : Launch} {Y : zY} {fin : Int32} {p : Program} {e : Env} {s : State} {m : MethodId} {args : Array Value} {below : List Frame} {meth : Method} {c : Code} {σ : zS} (O : z_ok ΛM Y p s m args c cX8_count RX8 4) (hi : z_inj ΛM Y) (hr : meth.sig.returnType = (some .int)) (hlk : meth.locks = false) {b1 : Int32} {k : Int32 → Int32 → Option (Int32)} (hk : ∀ (z2 : Int32) (z3 : Int32), k z2 z3 = some fin → z_G p l e (z_rm 1) s m args below meth c (MQ below (z_Qi ΛM Y (fin, σ)) args s 0 0 (z_A ΛM Y)) ΛM Y 4 σ [(0, .ref (z_ad Y 0)), (1, .int b1), (2, .int z2), (3, .int z3)] 25 []) : ∀ (n : Nat) (v2 : Int32) (v3 : Int32), fX8_count_L4 σ k n v2 v3 = some fin → z_G p l e (z_rm 1) s m args below meth c (MQ below (z_Qi ΛM Y (fin, σ)) args s 0 0 (z_A ΛM Y)) ΛM Y 4 σ [(0, .ref (z_ad Y 0)), (1, .int b1), (2, .int v2), (3, .int v3)] 4 [] := by
  intro n
  induction n with
  | zero =>
    intro _ _ h
    cases h
  | succ n ih =>
    intro v2 v3 h
    rw [fX8_count_L4.eq_2] at h
    refine z_iload_n O dzX8_count_4 rfl 3 rfl ?_
    refine z_bipush O dzX8_count_5 hcB12 ?_
    refine z_icmp_ge O dzX8_count_7 (fun c1 => ?_) (fun c1 => ?_)
    · have h := z_if_t c1 h
      exact hk _ _ h
    · have h := z_if_f c1 h
      refine z_iload_n O dzX8_count_10 rfl 2 rfl ?_
      refine z_aload_n O dzX8_count_11 rfl 0 rfl ?_
      refine z_get O z_cb8 fm_obj (v := .ref (z_ad Y 1)) 0 (Nat.le_of_ble_eq_true rfl) tw_749 rfl dzX8_count_12 ?_
      refine z_iload_n O dzX8_count_15 rfl 3 rfl ?_
      obtain ⟨g1, h⟩ := z_gd_at h
      refine z_iald O fm_price g1 dzX8_count_16 ?_
      refine z_iadd O dzX8_count_17 ?_
      refine z_topi (fun x1 e1 => ?_)
      have h := z_lt_at e1 h
      refine z_istore_n O (lv' := [(2, .int x1), (0, .ref (z_ad Y 0)), (1, .int b1), (3, .int v3)]) dzX8_count_18 rfl (by decide) rfl ?_
      refine z_iinc O (lv' := [(3, .int (v3 + (1 : Int32))), (2, .int x1), (0, .ref (z_ad Y 0)), (1, .int b1)]) dzX8_count_19 3 rfl (congrArg _ hcI1) (by decide) rfl ?_
      refine z_goto O dzX8_count_22 ?_
      refine z_sub [2, 3, 1, 0] rfl ?_
      exact ih _ _ h
def fX8_count (σ : zS) (a1 : Int32) : Option (Int32) :=
  fX8_count_L4 σ (fun (x1 : Int32) (x2 : Int32) => (if a1 = 0 then some (σ.1 0 4) else (if a1 = (1 : Int32) then some (σ.1 0 10) else (if a1 = (2 : Int32) then some x1 else some (-2 : Int32))))) z_F (0 : Int32) (0 : Int32)
theorem kX8_count {l : Launch} {Y : zY} (hi : z_inj ΛM Y) {σ : zS} {a1 : Int32} {fin : Int32} (h : fX8_count σ a1 = some fin) : Met l yX8_count (Cond.code yX8_count cX8_count 4 (some .int) :: z_TB) (z_rm 1) (z_Pc ΛM Y σ [.ref (z_ad Y 0), .int a1]) (z_Qi ΛM Y (fin, σ)) 0 0 (z_A ΛM Y) := by
  unfold fX8_count at h
  refine z_met [(0, .ref (z_ad Y 0)), (1, .int a1)] rfl (Nat.le_of_ble_eq_true rfl) (plainFor_of_name (by decide)) hi ?_
  intro p e s m args below meth c O hr hlk
  refine z_iconst O dzX8_count_0 hcI0 ?_
  refine z_istore_n O (lv' := [(2, .int (0 : Int32)), (0, .ref (z_ad Y 0)), (1, .int a1)]) dzX8_count_1 rfl (by decide) rfl ?_
  refine z_iconst O dzX8_count_2 hcI0 ?_
  refine z_istore_n O (lv' := [(3, .int (0 : Int32)), (2, .int (0 : Int32)), (0, .ref (z_ad Y 0)), (1, .int a1)]) dzX8_count_3 rfl (by decide) rfl ?_
  refine z_sub [2, 3, 1, 0] rfl ?_
  refine kX8_count_L4 O hi hr hlk   (fun x1 x2 h => ?_) _ _ _ h
  refine z_iload_n O dzX8_count_25 rfl 1 rfl ?_
  refine z_if_ne O dzX8_count_26 (fun c3 => ?_) (fun c3 => ?_)
  · have h := z_if_f c3 h
    refine z_iload_n O dzX8_count_36 rfl 1 rfl ?_
    refine z_iconst O dzX8_count_37 hcI1 ?_
    refine z_icmp_ne O dzX8_count_38 (fun c2 => ?_) (fun c2 => ?_)
    · have h := z_if_f c2 h
      refine z_iload_n O dzX8_count_48 rfl 1 rfl ?_
      refine z_iconst O dzX8_count_49 hcI2 ?_
      refine z_icmp_ne O dzX8_count_50 (fun c1 => ?_) (fun c1 => ?_)
      · have h := z_if_f c1 h
        refine z_bipush O dzX8_count_57 hcBm2 ?_
        exact z_iret O hr hlk dzX8_count_59 (z_rf h)
      · have h := z_if_t c1 h
        refine z_iload_n O dzX8_count_53 rfl 2 rfl ?_
        refine z_goto O dzX8_count_54 ?_
        exact z_iret O hr hlk dzX8_count_59 (z_rf h)
    · have h := z_if_t c2 h
      refine z_aload_n O dzX8_count_41 rfl 0 rfl ?_
      refine z_get O z_cb8 fm_obj (v := .int (σ.1 0 10)) 10 (Nat.le_of_ble_eq_true rfl) tw_759 rfl dzX8_count_42 ?_
      refine z_goto O dzX8_count_45 ?_
      exact z_iret O hr hlk dzX8_count_59 (z_rf h)
  · have h := z_if_t c3 h
    refine z_aload_n O dzX8_count_29 rfl 0 rfl ?_
    refine z_get O z_cb8 fm_obj (v := .int (σ.1 0 4)) 4 (Nat.le_of_ble_eq_true rfl) tw_753 rfl dzX8_count_30 ?_
    refine z_goto O dzX8_count_33 ?_
    exact z_iret O hr hlk dzX8_count_59 (z_rf h)
def fX8_does_L45 (σ : zS) (a1 : Int32) (a2 : Int32) (a3 : Int32) (k : Int32 → Int32 → Option (Int32 × zS)) : Nat → Int32 → Int32 → Option (Int32 × zS)
  | 0, _, _ => none
  | n + 1, v4, v5 => z_gd (z_in a1 4) ((if (σ.1 2 a1.toNatClampNeg) ≤ v5 then k v4 v5 else (fX8_setOf σ a1 v5).bind (fun r1 => (if a2 = 2 then (fX8_isPart r1 a3).bind (fun r2 => (if r2 = 0 then z_lt (v4 &&& (1 : Int32)) (fun (x2 : Int32) => fX8_does_L45 σ a1 a2 a3 k n x2 (v5 + (1 : Int32))) else z_lt (v4 &&& (0 : Int32)) (fun (x1 : Int32) => fX8_does_L45 σ a1 a2 a3 k n x1 (v5 + (1 : Int32))))) else (if a2 = 3 then (fX8_isPart a3 r1).bind (fun r3 => z_lt (v4 ||| r3) (fun (x3 : Int32) => fX8_does_L45 σ a1 a2 a3 k n x3 (v5 + (1 : Int32)))) else (if a2 = 4 then (fX8_many (a3 &&& r1)).bind (fun r4 => z_gd (z_nz (2 : Int32)) ((if (r4 - r4 / (2 : Int32) * (2 : Int32)) = (1 : Int32) then z_lt (v4 &&& (1 : Int32)) (fun (x5 : Int32) => fX8_does_L45 σ a1 a2 a3 k n x5 (v5 + (1 : Int32))) else z_lt (v4 &&& (0 : Int32)) (fun (x4 : Int32) => fX8_does_L45 σ a1 a2 a3 k n x4 (v5 + (1 : Int32)))))) else (if r1 = a3 then z_lt (v4 ||| (1 : Int32)) (fun (x7 : Int32) => fX8_does_L45 σ a1 a2 a3 k n x7 (v5 + (1 : Int32))) else z_lt (v4 ||| (0 : Int32)) (fun (x6 : Int32) => fX8_does_L45 σ a1 a2 a3 k n x6 (v5 + (1 : Int32))))))))))
theorem kX8_does_L45 {l : Launch} {Y : zY} {fin : Int32 × zS} {p : Program} {e : Env} {s : State} {m : MethodId} {args : Array Value} {below : List Frame} {meth : Method} {c : Code} {σ : zS} (O : z_ok ΛM Y p s m args c cX8_does RX8 7) (hi : z_inj ΛM Y) (hr : meth.sig.returnType = (some .boolean)) (hlk : meth.locks = false) {a1 : Int32} {a2 : Int32} {a3 : Int32} {k : Int32 → Int32 → Option (Int32 × zS)} (hk : ∀ (z4 : Int32) (z5 : Int32), k z4 z5 = some fin → z_G p l e (z_rm 3) s m args below meth c (MQ below (z_Qi ΛM Y fin) args s 0 0 (z_A ΛM Y)) ΛM Y 7 σ [(0, .ref (z_ad Y 0)), (1, .int a1), (2, .int a2), (3, .int a3), (4, .int z4), (5, .int z5)] 176 []) : ∀ (n : Nat) (v4 : Int32) (v5 : Int32), fX8_does_L45 σ a1 a2 a3 k n v4 v5 = some fin → z_G p l e (z_rm 3) s m args below meth c (MQ below (z_Qi ΛM Y fin) args s 0 0 (z_A ΛM Y)) ΛM Y 7 σ [(0, .ref (z_ad Y 0)), (1, .int a1), (2, .int a2), (3, .int a3), (4, .int v4), (5, .int v5)] 45 [] := by
  intro n
  induction n with
  | zero =>
    intro _ _ h
    cases h
  | succ n ih =>
    intro v4 v5 h
    rw [fX8_does_L45.eq_2] at h
    refine z_iload O dzX8_does_45 5 rfl ?_
    refine z_aload_n O dzX8_does_47 rfl 0 rfl ?_
    refine z_get O z_cb8 fm_obj (v := .ref (z_ad Y 2)) 1 (Nat.le_of_ble_eq_true rfl) tw_750 rfl dzX8_does_48 ?_
    refine z_iload_n O dzX8_does_51 rfl 1 rfl ?_
    obtain ⟨g1, h⟩ := z_gd_at h
    refine z_iald O fm_sizes g1 dzX8_does_52 ?_
    refine z_icmp_ge O dzX8_does_53 (fun c7 => ?_) (fun c7 => ?_)
    · have h := z_if_t c7 h
      exact hk _ _ h
    · have h := z_if_f c7 h
      refine z_aload_n O dzX8_does_56 rfl 0 rfl ?_
      refine z_iload_n O dzX8_does_57 rfl 1 rfl ?_
      refine z_iload O dzX8_does_58 5 rfl ?_
      obtain ⟨r1, hc1, h⟩ := z_bd_at h
      refine z_callViR O (As := [.int a1, .int v5]) (rest := []) (kX8_setOf hi hc1) mX8_setOf tw_908 (Nat.le_of_ble_eq_true rfl) fm_obj rfl rfl rfl rfl (Nat.le_of_ble_eq_true rfl) dzX8_does_60 ?_
      refine z_istore O (lv' := [(6, .int r1), (0, .ref (z_ad Y 0)), (1, .int a1), (2, .int a2), (3, .int a3), (4, .int v4), (5, .int v5)]) dzX8_does_63 (by decide) rfl ?_
      refine z_iload_n O dzX8_does_65 rfl 3 rfl ?_
      by_cases c1 : a2 = 2
      · have h := z_if_t c1 h
        refine z_tabI O dzX8_does_66 (x := a2) (by rw [c1]; decide) (by rw [c1]; decide) (off := 26) (by rw [c1]; rfl) (tgt := 92) rfl ?_
        refine z_iload O dzX8_does_92 5 rfl ?_
        refine z_iload O dzX8_does_94 0 rfl ?_
        refine z_iload_n O dzX8_does_96 rfl 4 rfl ?_
        obtain ⟨r2, hc2, h⟩ := z_bd_at h
        refine z_callSiR O (As := [.int r1, .int a3]) (rest := [.int v4]) (kX8_isPart hi hc2) mX8_isPart tw_972 (Nat.le_of_ble_eq_true rfl) rfl rfl (Nat.le_of_ble_eq_true rfl) dzX8_does_97 ?_
        refine z_if_ne O dzX8_does_100 (fun c2 => ?_) (fun c2 => ?_)
        · have h := z_if_f c2 h
          refine z_iconst O dzX8_does_107 hcI0 ?_
          refine z_iand O dzX8_does_108 ?_
          refine z_topi (fun x1 e1 => ?_)
          have h := z_lt_at e1 h
          refine z_istore O (lv' := [(4, .int x1), (6, .int r1), (0, .ref (z_ad Y 0)), (1, .int a1), (2, .int a2), (3, .int a3), (5, .int v5)]) dzX8_does_109 (by decide) rfl ?_
          refine z_goto O dzX8_does_111 ?_
          refine z_iinc O (lv' := [(5, .int (v5 + (1 : Int32))), (4, .int x1), (6, .int r1), (0, .ref (z_ad Y 0)), (1, .int a1), (2, .int a2), (3, .int a3)]) dzX8_does_170 6 rfl (congrArg _ hcI1) (by decide) rfl ?_
          refine z_goto O dzX8_does_173 ?_
          refine z_sub [3, 4, 5, 6, 1, 0] rfl ?_
          exact ih _ _ h
        · have h := z_if_t c2 h
          refine z_iconst O dzX8_does_103 hcI1 ?_
          refine z_goto O dzX8_does_104 ?_
          refine z_iand O dzX8_does_108 ?_
          refine z_topi (fun x2 e2 => ?_)
          have h := z_lt_at e2 h
          refine z_istore O (lv' := [(4, .int x2), (6, .int r1), (0, .ref (z_ad Y 0)), (1, .int a1), (2, .int a2), (3, .int a3), (5, .int v5)]) dzX8_does_109 (by decide) rfl ?_
          refine z_goto O dzX8_does_111 ?_
          refine z_iinc O (lv' := [(5, .int (v5 + (1 : Int32))), (4, .int x2), (6, .int r1), (0, .ref (z_ad Y 0)), (1, .int a1), (2, .int a2), (3, .int a3)]) dzX8_does_170 6 rfl (congrArg _ hcI1) (by decide) rfl ?_
          refine z_goto O dzX8_does_173 ?_
          refine z_sub [3, 4, 5, 6, 1, 0] rfl ?_
          exact ih _ _ h
      have h := z_if_f c1 h
      by_cases c3 : a2 = 3
      · have h := z_if_t c3 h
        refine z_tabI O dzX8_does_66 (x := a2) (by rw [c3]; decide) (by rw [c3]; decide) (off := 48) (by rw [c3]; rfl) (tgt := 114) rfl ?_
        refine z_iload O dzX8_does_114 5 rfl ?_
        refine z_iload_n O dzX8_does_116 rfl 4 rfl ?_
        refine z_iload O dzX8_does_117 0 rfl ?_
        obtain ⟨r3, hc3, h⟩ := z_bd_at h
        refine z_callSiR O (As := [.int a3, .int r1]) (rest := [.int v4]) (kX8_isPart hi hc3) mX8_isPart tw_972 (Nat.le_of_ble_eq_true rfl) rfl rfl (Nat.le_of_ble_eq_true rfl) dzX8_does_119 ?_
        refine z_ior O dzX8_does_122 ?_
        refine z_topi (fun x3 e3 => ?_)
        have h := z_lt_at e3 h
        refine z_istore O (lv' := [(4, .int x3), (6, .int r1), (0, .ref (z_ad Y 0)), (1, .int a1), (2, .int a2), (3, .int a3), (5, .int v5)]) dzX8_does_123 (by decide) rfl ?_
        refine z_goto O dzX8_does_125 ?_
        refine z_iinc O (lv' := [(5, .int (v5 + (1 : Int32))), (4, .int x3), (6, .int r1), (0, .ref (z_ad Y 0)), (1, .int a1), (2, .int a2), (3, .int a3)]) dzX8_does_170 6 rfl (congrArg _ hcI1) (by decide) rfl ?_
        refine z_goto O dzX8_does_173 ?_
        refine z_sub [3, 4, 5, 6, 1, 0] rfl ?_
        exact ih _ _ h
      have h := z_if_f c3 h
      by_cases c4 : a2 = 4
      · have h := z_if_t c4 h
        refine z_tabI O dzX8_does_66 (x := a2) (by rw [c4]; decide) (by rw [c4]; decide) (off := 62) (by rw [c4]; rfl) (tgt := 128) rfl ?_
        refine z_iload O dzX8_does_128 5 rfl ?_
        refine z_iload_n O dzX8_does_130 rfl 4 rfl ?_
        refine z_iload O dzX8_does_131 0 rfl ?_
        refine z_iand O dzX8_does_133 ?_
        obtain ⟨r4, hc4, h⟩ := z_bd_at h
        refine z_callSiR O (As := [.int (a3 &&& r1)]) (rest := [.int v4]) (kX8_many hi hc4) mX8_many tw_999 (Nat.le_of_ble_eq_true rfl) rfl rfl (Nat.le_of_ble_eq_true rfl) dzX8_does_134 ?_
        refine z_iconst O dzX8_does_137 hcI2 ?_
        obtain ⟨g2, h⟩ := z_gd_at h
        refine z_irem O dzX8_does_138 (z_nz_n g2) ?_
        refine z_iconst O dzX8_does_139 hcI1 ?_
        refine z_icmp_ne O dzX8_does_140 (fun c5 => ?_) (fun c5 => ?_)
        · have h := z_if_f c5 h
          refine z_iconst O dzX8_does_147 hcI0 ?_
          refine z_iand O dzX8_does_148 ?_
          refine z_topi (fun x4 e4 => ?_)
          have h := z_lt_at e4 h
          refine z_istore O (lv' := [(4, .int x4), (6, .int r1), (0, .ref (z_ad Y 0)), (1, .int a1), (2, .int a2), (3, .int a3), (5, .int v5)]) dzX8_does_149 (by decide) rfl ?_
          refine z_goto O dzX8_does_151 ?_
          refine z_iinc O (lv' := [(5, .int (v5 + (1 : Int32))), (4, .int x4), (6, .int r1), (0, .ref (z_ad Y 0)), (1, .int a1), (2, .int a2), (3, .int a3)]) dzX8_does_170 6 rfl (congrArg _ hcI1) (by decide) rfl ?_
          refine z_goto O dzX8_does_173 ?_
          refine z_sub [3, 4, 5, 6, 1, 0] rfl ?_
          exact ih _ _ h
        · have h := z_if_t c5 h
          refine z_iconst O dzX8_does_143 hcI1 ?_
          refine z_goto O dzX8_does_144 ?_
          refine z_iand O dzX8_does_148 ?_
          refine z_topi (fun x5 e5 => ?_)
          have h := z_lt_at e5 h
          refine z_istore O (lv' := [(4, .int x5), (6, .int r1), (0, .ref (z_ad Y 0)), (1, .int a1), (2, .int a2), (3, .int a3), (5, .int v5)]) dzX8_does_149 (by decide) rfl ?_
          refine z_goto O dzX8_does_151 ?_
          refine z_iinc O (lv' := [(5, .int (v5 + (1 : Int32))), (4, .int x5), (6, .int r1), (0, .ref (z_ad Y 0)), (1, .int a1), (2, .int a2), (3, .int a3)]) dzX8_does_170 6 rfl (congrArg _ hcI1) (by decide) rfl ?_
          refine z_goto O dzX8_does_173 ?_
          refine z_sub [3, 4, 5, 6, 1, 0] rfl ?_
          exact ih _ _ h
      have h := z_if_f c4 h
      have qc1 := z_ne (z := 2) rfl c1
      have qc3 := z_ne (z := 3) rfl c3
      have qc4 := z_ne (z := 4) rfl c4
      refine z_tabO O dzX8_does_66 (by omega) (tgt := 154) rfl ?_
      refine z_iload O dzX8_does_154 5 rfl ?_
      refine z_iload O dzX8_does_156 0 rfl ?_
      refine z_iload_n O dzX8_does_158 rfl 4 rfl ?_
      refine z_icmp_ne O dzX8_does_159 (fun c6 => ?_) (fun c6 => ?_)
      · have h := z_if_f c6 h
        refine z_iconst O dzX8_does_166 hcI0 ?_
        refine z_ior O dzX8_does_167 ?_
        refine z_topi (fun x6 e6 => ?_)
        have h := z_lt_at e6 h
        refine z_istore O (lv' := [(4, .int x6), (6, .int r1), (0, .ref (z_ad Y 0)), (1, .int a1), (2, .int a2), (3, .int a3), (5, .int v5)]) dzX8_does_168 (by decide) rfl ?_
        refine z_iinc O (lv' := [(5, .int (v5 + (1 : Int32))), (4, .int x6), (6, .int r1), (0, .ref (z_ad Y 0)), (1, .int a1), (2, .int a2), (3, .int a3)]) dzX8_does_170 6 rfl (congrArg _ hcI1) (by decide) rfl ?_
        refine z_goto O dzX8_does_173 ?_
        refine z_sub [3, 4, 5, 6, 1, 0] rfl ?_
        exact ih _ _ h
      · have h := z_if_t c6 h
        refine z_iconst O dzX8_does_162 hcI1 ?_
        refine z_goto O dzX8_does_163 ?_
        refine z_ior O dzX8_does_167 ?_
        refine z_topi (fun x7 e7 => ?_)
        have h := z_lt_at e7 h
        refine z_istore O (lv' := [(4, .int x7), (6, .int r1), (0, .ref (z_ad Y 0)), (1, .int a1), (2, .int a2), (3, .int a3), (5, .int v5)]) dzX8_does_168 (by decide) rfl ?_
        refine z_iinc O (lv' := [(5, .int (v5 + (1 : Int32))), (4, .int x7), (6, .int r1), (0, .ref (z_ad Y 0)), (1, .int a1), (2, .int a2), (3, .int a3)]) dzX8_does_170 6 rfl (congrArg _ hcI1) (by decide) rfl ?_
        refine z_goto O dzX8_does_173 ?_
        refine z_sub [3, 4, 5, 6, 1, 0] rfl ?_
        exact ih _ _ h
def fX8_does (σ : zS) (a1 : Int32) (a2 : Int32) (a3 : Int32) : Option (Int32 × zS) :=
  (if (2 : Int32) ≤ a2 then z_jn (fun (x1 : Int32) => fX8_does_L45 σ a1 a2 a3 (fun (x2 : Int32) (x3 : Int32) => z_gd (z_bz x2) (some (x2, σ))) z_F x1 (0 : Int32)) (fun j1 => (if a2 = (2 : Int32) then j1 (1 : Int32) else (if a2 = (4 : Int32) then j1 (1 : Int32) else j1 (0 : Int32)))) else (fX8_wants σ a1).bind (fun r1 => (fX8_hits r1 a3).bind (fun r2 => (if r2 ≤ a2 then some ((0 : Int32), r1) else some ((1 : Int32), r1)))))
theorem kX8_does {l : Launch} {Y : zY} (hi : z_inj ΛM Y) {σ : zS} {a1 : Int32} {a2 : Int32} {a3 : Int32} {fin : Int32 × zS} (h : fX8_does σ a1 a2 a3 = some fin) : Met l yX8_does (Cond.code yX8_does cX8_does 7 (some .boolean) :: z_TB) (z_rm 3) (z_Pc ΛM Y σ [.ref (z_ad Y 0), .int a1, .int a2, .int a3]) (z_Qi ΛM Y fin) 0 0 (z_A ΛM Y) := by
  unfold fX8_does at h
  refine z_met [(0, .ref (z_ad Y 0)), (1, .int a1), (2, .int a2), (3, .int a3)] rfl (Nat.le_of_ble_eq_true rfl) (plainFor_of_name (by decide)) hi ?_
  intro p e s m args below meth c O hr hlk
  refine z_iload_n O dzX8_does_0 rfl 2 rfl ?_
  refine z_iconst O dzX8_does_1 hcI2 ?_
  refine z_icmp_ge O dzX8_does_2 (fun c4 => ?_) (fun c4 => ?_)
  · have h := z_if_t c4 h
    refine z_iload_n O dzX8_does_25 rfl 2 rfl ?_
    refine z_iconst O dzX8_does_26 hcI2 ?_
    refine z_jn_at (P := fun j1 => ∀ (x1 : Int32), j1 x1 = some fin → z_G p l e (z_rm 3) s m args below meth c (MQ below (z_Qi ΛM Y fin) args s 0 0 (z_A ΛM Y)) ΛM Y 7 σ [(0, .ref (z_ad Y 0)), (1, .int a1), (2, .int a2), (3, .int a3)] 40 [.int x1]) h ?_ (fun j1 J1 h => ?_)
    · intro x1 h
      refine z_istore O (lv' := [(4, .int x1), (0, .ref (z_ad Y 0)), (1, .int a1), (2, .int a2), (3, .int a3)]) dzX8_does_40 (by decide) rfl ?_
      refine z_iconst O dzX8_does_42 hcI0 ?_
      refine z_istore O (lv' := [(5, .int (0 : Int32)), (4, .int x1), (0, .ref (z_ad Y 0)), (1, .int a1), (2, .int a2), (3, .int a3)]) dzX8_does_43 (by decide) rfl ?_
      refine z_sub [2, 3, 4, 5, 1, 0] rfl ?_
      refine kX8_does_L45 O hi hr hlk   (fun x2 x3 h => ?_) _ _ _ h
      refine z_iload O dzX8_does_176 4 rfl ?_
      obtain ⟨g1, h⟩ := z_gd_at h
      exact z_zret O hr hlk (z_bz_n g1) dzX8_does_178 h
    · refine z_icmp_eq O dzX8_does_27 (fun c2 => ?_) (fun c2 => ?_)
      · have h := z_if_t c2 h
        refine z_iconst O dzX8_does_35 hcI1 ?_
        refine z_goto O dzX8_does_36 ?_
        exact J1 (1 : Int32) h
      · have h := z_if_f c2 h
        refine z_iload_n O dzX8_does_30 rfl 2 rfl ?_
        refine z_iconst O dzX8_does_31 hcI4 ?_
        refine z_icmp_ne O dzX8_does_32 (fun c1 => ?_) (fun c1 => ?_)
        · have h := z_if_f c1 h
          refine z_iconst O dzX8_does_39 hcI0 ?_
          exact J1 (0 : Int32) h
        · have h := z_if_t c1 h
          refine z_iconst O dzX8_does_35 hcI1 ?_
          refine z_goto O dzX8_does_36 ?_
          exact J1 (1 : Int32) h
  · have h := z_if_f c4 h
    refine z_aload_n O dzX8_does_5 rfl 0 rfl ?_
    refine z_iload_n O dzX8_does_6 rfl 1 rfl ?_
    obtain ⟨r1, hc1, h⟩ := z_bd_at h
    refine z_callVv O (As := [.int a1]) (rest := []) (kX8_wants hi hc1) mX8_wants tw_991 (Nat.le_of_ble_eq_true rfl) fm_obj rfl rfl rfl rfl (Nat.le_of_ble_eq_true rfl) dzX8_does_7 ?_
    refine z_aload_n O dzX8_does_10 rfl 0 rfl ?_
    refine z_iload_n O dzX8_does_11 rfl 3 rfl ?_
    obtain ⟨r2, hc2, h⟩ := z_bd_at h
    refine z_callViR O (As := [.int a3]) (rest := []) (kX8_hits hi hc2) mX8_hits tw_995 (Nat.le_of_ble_eq_true rfl) fm_obj rfl rfl rfl rfl (Nat.le_of_ble_eq_true rfl) dzX8_does_12 ?_
    refine z_iload_n O dzX8_does_15 rfl 2 rfl ?_
    refine z_icmp_le O dzX8_does_16 (fun c3 => ?_) (fun c3 => ?_)
    · have h := z_if_t c3 h
      refine z_iconst O dzX8_does_23 hcI0 ?_
      exact z_zret O hr hlk rfl dzX8_does_24 h
    · have h := z_if_f c3 h
      refine z_iconst O dzX8_does_19 hcI1 ?_
      refine z_goto O dzX8_does_20 ?_
      exact z_zret O hr hlk rfl dzX8_does_24 h
def fX8_isTest (a0 : Int32) : Option (Int32) :=
  (fX8_in (a0.toInt64) (0 : Int64) (5 : Int64)).bind (fun r1 => z_gd (z_bz r1) (some r1))
theorem kX8_isTest {l : Launch} {Y : zY} (hi : z_inj ΛM Y) {σ : zS} {a0 : Int32} {fin : Int32} (h : fX8_isTest a0 = some fin) : Met l yX8_isTest (Cond.code yX8_isTest cX8_isTest 1 (some .boolean) :: z_TB) (z_rm 2) (z_Pc ΛM Y σ [.int a0]) (z_Qi ΛM Y (fin, σ)) 0 0 (z_A ΛM Y) := by
  unfold fX8_isTest at h
  refine z_met [(0, .int a0)] rfl (Nat.le_of_ble_eq_true rfl) (plainFor_of_name (by decide)) hi ?_
  intro p e s m args below meth c O hr hlk
  refine z_iload_n O dzX8_isTest_0 rfl 0 rfl ?_
  refine z_i2l O dzX8_isTest_1 ?_
  refine z_lconst O dzX8_isTest_2 (v := 0) rfl ?_
  refine z_ldc2 O tw_986 dzX8_isTest_3 ?_
  obtain ⟨r1, hc1, h⟩ := z_bd_at h
  refine z_callSiR O (As := [.long (a0.toInt64), .long (0 : Int64), .long (5 : Int64)]) (rest := []) (kX8_in hi hc1) mX8_in tw_876 (Nat.le_of_ble_eq_true rfl) rfl rfl (Nat.le_of_ble_eq_true rfl) dzX8_isTest_6 ?_
  obtain ⟨g1, h⟩ := z_gd_at h
  exact z_zret O hr hlk (z_bz_n g1) dzX8_isTest_9 (z_rf h)
def fX8_counted_L46 (a1 : Int32) (a2 : Int32) (a3 : Int32) (a4 : Int32) (k : zS → Int32 → Int32 → Option (Int32 × zS)) : Nat → zS → Int32 → Int32 → Option (Int32 × zS)
  | 0, _, _, _ => none
  | n + 1, σ, v5, v6 => (if (4096 : Int32) ≤ v6 then k σ v5 v6 else (fX8_many v6).bind (fun r1 => (if r1 = a4 then (fX8_does σ a1 a2 v6).bind (fun r2 => (if a3 = 0 then (if r2.1 = (1 : Int32) then z_lt (v5 + (1 : Int32)) (fun (x5 : Int32) => fX8_counted_L46 a1 a2 a3 a4 k n r2.2 x5 (v6 + (1 : Int32))) else z_lt (v5 + (0 : Int32)) (fun (x4 : Int32) => fX8_counted_L46 a1 a2 a3 a4 k n r2.2 x4 (v6 + (1 : Int32)))) else (if r2.1 = (0 : Int32) then z_lt (v5 + (1 : Int32)) (fun (x3 : Int32) => fX8_counted_L46 a1 a2 a3 a4 k n r2.2 x3 (v6 + (1 : Int32))) else z_lt (v5 + (0 : Int32)) (fun (x2 : Int32) => fX8_counted_L46 a1 a2 a3 a4 k n r2.2 x2 (v6 + (1 : Int32)))))) else z_lt (v5 + (0 : Int32)) (fun (x1 : Int32) => fX8_counted_L46 a1 a2 a3 a4 k n σ x1 (v6 + (1 : Int32))))))
theorem kX8_counted_L46 {l : Launch} {Y : zY} {fin : Int32 × zS} {p : Program} {e : Env} {s : State} {m : MethodId} {args : Array Value} {below : List Frame} {meth : Method} {c : Code} (O : z_ok ΛM Y p s m args c cX8_counted RX8 7) (hi : z_inj ΛM Y) (hr : meth.sig.returnType = (some .int)) (hlk : meth.locks = false) {a1 : Int32} {a2 : Int32} {a3 : Int32} {a4 : Int32} {k : zS → Int32 → Int32 → Option (Int32 × zS)} (hk : ∀ (w : zS) (z5 : Int32) (z6 : Int32), k w z5 z6 = some fin → z_G p l e (z_rm 4) s m args below meth c (MQ below (z_Qi ΛM Y fin) args s 0 0 (z_A ΛM Y)) ΛM Y 7 w [(0, .ref (z_ad Y 0)), (1, .int a1), (2, .int a2), (3, .int a3), (4, .int a4), (5, .int z5), (6, .int z6)] 100 []) : ∀ (n : Nat) (σ : zS) (v5 : Int32) (v6 : Int32), fX8_counted_L46 a1 a2 a3 a4 k n σ v5 v6 = some fin → z_G p l e (z_rm 4) s m args below meth c (MQ below (z_Qi ΛM Y fin) args s 0 0 (z_A ΛM Y)) ΛM Y 7 σ [(0, .ref (z_ad Y 0)), (1, .int a1), (2, .int a2), (3, .int a3), (4, .int a4), (5, .int v5), (6, .int v6)] 46 [] := by
  intro n
  induction n with
  | zero =>
    intro _ _ _ h
    cases h
  | succ n ih =>
    intro σ v5 v6 h
    rw [fX8_counted_L46.eq_2] at h
    refine z_iload O dzX8_counted_46 6 rfl ?_
    refine z_sipush O dzX8_counted_48 hcS4096 ?_
    refine z_icmp_ge O dzX8_counted_51 (fun c5 => ?_) (fun c5 => ?_)
    · have h := z_if_t c5 h
      exact hk _ _ _ h
    · have h := z_if_f c5 h
      refine z_iload O dzX8_counted_54 5 rfl ?_
      refine z_iload O dzX8_counted_56 6 rfl ?_
      obtain ⟨r1, hc1, h⟩ := z_bd_at h
      refine z_callSiR O (As := [.int v6]) (rest := [.int v5]) (kX8_many hi hc1) mX8_many tw_999 (Nat.le_of_ble_eq_true rfl) rfl rfl (Nat.le_of_ble_eq_true rfl) dzX8_counted_58 ?_
      refine z_iload O dzX8_counted_61 4 rfl ?_
      refine z_icmp_ne O dzX8_counted_63 (fun c4 => ?_) (fun c4 => ?_)
      · have h := z_if_f c4 h
        refine z_iconst O dzX8_counted_90 hcI0 ?_
        refine z_iadd O dzX8_counted_91 ?_
        refine z_topi (fun x1 e1 => ?_)
        have h := z_lt_at e1 h
        refine z_istore O (lv' := [(5, .int x1), (0, .ref (z_ad Y 0)), (1, .int a1), (2, .int a2), (3, .int a3), (4, .int a4), (6, .int v6)]) dzX8_counted_92 (by decide) rfl ?_
        refine z_iinc O (lv' := [(6, .int (v6 + (1 : Int32))), (5, .int x1), (0, .ref (z_ad Y 0)), (1, .int a1), (2, .int a2), (3, .int a3), (4, .int a4)]) dzX8_counted_94 6 rfl (congrArg _ hcI1) (by decide) rfl ?_
        refine z_goto O dzX8_counted_97 ?_
        refine z_sub [2, 3, 4, 5, 6, 1, 0] rfl ?_
        exact ih _ _ _ h
      · have h := z_if_t c4 h
        refine z_aload_n O dzX8_counted_66 rfl 0 rfl ?_
        refine z_iload_n O dzX8_counted_67 rfl 1 rfl ?_
        refine z_iload_n O dzX8_counted_68 rfl 2 rfl ?_
        refine z_iload O dzX8_counted_69 6 rfl ?_
        obtain ⟨r2, hc2, h⟩ := z_bd_at h
        refine z_callVi O (As := [.int a1, .int a2, .int v6]) (rest := [.int v5]) (kX8_does hi hc2) mX8_does tw_987 (Nat.le_of_ble_eq_true rfl) fm_obj rfl rfl rfl rfl (Nat.le_of_ble_eq_true rfl) dzX8_counted_71 ?_
        refine z_iload_n O dzX8_counted_74 rfl 3 rfl ?_
        refine z_if_ne O dzX8_counted_75 (fun c3 => ?_) (fun c3 => ?_)
        · have h := z_if_f c3 h
          refine z_iconst O dzX8_counted_82 hcI0 ?_
          refine z_icmp_ne O dzX8_counted_83 (fun c1 => ?_) (fun c1 => ?_)
          · have h := z_if_f c1 h
            refine z_iconst O dzX8_counted_90 hcI0 ?_
            refine z_iadd O dzX8_counted_91 ?_
            refine z_topi (fun x2 e2 => ?_)
            have h := z_lt_at e2 h
            refine z_istore O (lv' := [(5, .int x2), (0, .ref (z_ad Y 0)), (1, .int a1), (2, .int a2), (3, .int a3), (4, .int a4), (6, .int v6)]) dzX8_counted_92 (by decide) rfl ?_
            refine z_iinc O (lv' := [(6, .int (v6 + (1 : Int32))), (5, .int x2), (0, .ref (z_ad Y 0)), (1, .int a1), (2, .int a2), (3, .int a3), (4, .int a4)]) dzX8_counted_94 6 rfl (congrArg _ hcI1) (by decide) rfl ?_
            refine z_goto O dzX8_counted_97 ?_
            refine z_sub [2, 3, 4, 5, 6, 1, 0] rfl ?_
            exact ih _ _ _ h
          · have h := z_if_t c1 h
            refine z_iconst O dzX8_counted_86 hcI1 ?_
            refine z_goto O dzX8_counted_87 ?_
            refine z_iadd O dzX8_counted_91 ?_
            refine z_topi (fun x3 e3 => ?_)
            have h := z_lt_at e3 h
            refine z_istore O (lv' := [(5, .int x3), (0, .ref (z_ad Y 0)), (1, .int a1), (2, .int a2), (3, .int a3), (4, .int a4), (6, .int v6)]) dzX8_counted_92 (by decide) rfl ?_
            refine z_iinc O (lv' := [(6, .int (v6 + (1 : Int32))), (5, .int x3), (0, .ref (z_ad Y 0)), (1, .int a1), (2, .int a2), (3, .int a3), (4, .int a4)]) dzX8_counted_94 6 rfl (congrArg _ hcI1) (by decide) rfl ?_
            refine z_goto O dzX8_counted_97 ?_
            refine z_sub [2, 3, 4, 5, 6, 1, 0] rfl ?_
            exact ih _ _ _ h
        · have h := z_if_t c3 h
          refine z_iconst O dzX8_counted_78 hcI1 ?_
          refine z_goto O dzX8_counted_79 ?_
          refine z_icmp_ne O dzX8_counted_83 (fun c2 => ?_) (fun c2 => ?_)
          · have h := z_if_f c2 h
            refine z_iconst O dzX8_counted_90 hcI0 ?_
            refine z_iadd O dzX8_counted_91 ?_
            refine z_topi (fun x4 e4 => ?_)
            have h := z_lt_at e4 h
            refine z_istore O (lv' := [(5, .int x4), (0, .ref (z_ad Y 0)), (1, .int a1), (2, .int a2), (3, .int a3), (4, .int a4), (6, .int v6)]) dzX8_counted_92 (by decide) rfl ?_
            refine z_iinc O (lv' := [(6, .int (v6 + (1 : Int32))), (5, .int x4), (0, .ref (z_ad Y 0)), (1, .int a1), (2, .int a2), (3, .int a3), (4, .int a4)]) dzX8_counted_94 6 rfl (congrArg _ hcI1) (by decide) rfl ?_
            refine z_goto O dzX8_counted_97 ?_
            refine z_sub [2, 3, 4, 5, 6, 1, 0] rfl ?_
            exact ih _ _ _ h
          · have h := z_if_t c2 h
            refine z_iconst O dzX8_counted_86 hcI1 ?_
            refine z_goto O dzX8_counted_87 ?_
            refine z_iadd O dzX8_counted_91 ?_
            refine z_topi (fun x5 e5 => ?_)
            have h := z_lt_at e5 h
            refine z_istore O (lv' := [(5, .int x5), (0, .ref (z_ad Y 0)), (1, .int a1), (2, .int a2), (3, .int a3), (4, .int a4), (6, .int v6)]) dzX8_counted_92 (by decide) rfl ?_
            refine z_iinc O (lv' := [(6, .int (v6 + (1 : Int32))), (5, .int x5), (0, .ref (z_ad Y 0)), (1, .int a1), (2, .int a2), (3, .int a3), (4, .int a4)]) dzX8_counted_94 6 rfl (congrArg _ hcI1) (by decide) rfl ?_
            refine z_goto O dzX8_counted_97 ?_
            refine z_sub [2, 3, 4, 5, 6, 1, 0] rfl ?_
            exact ih _ _ _ h
def fX8_counted (σ : zS) (a1 : Int32) (a2 : Int32) (a3 : Int32) (a4 : Int32) : Option (Int32 × zS) :=
  (fX8_isFamily a1).bind (fun r1 => (if r1 = 0 then some ((-2 : Int32), σ) else (fX8_isTest a2).bind (fun r2 => (if r2 = 0 then some ((-2 : Int32), σ) else (fX8_in (a3.toInt64) (0 : Int64) (1 : Int64)).bind (fun r3 => (if r3 = 0 then some ((-2 : Int32), σ) else (fX8_in (a4.toInt64) (0 : Int64) (12 : Int64)).bind (fun r4 => (if r4 = 0 then some ((-2 : Int32), σ) else fX8_counted_L46 a1 a2 a3 a4 (fun (w1 : zS) (x1 : Int32) (x2 : Int32) => some (x1, w1)) z_F σ (0 : Int32) (0 : Int32)))))))))
theorem kX8_counted {l : Launch} {Y : zY} (hi : z_inj ΛM Y) {σ : zS} {a1 : Int32} {a2 : Int32} {a3 : Int32} {a4 : Int32} {fin : Int32 × zS} (h : fX8_counted σ a1 a2 a3 a4 = some fin) : Met l yX8_counted (Cond.code yX8_counted cX8_counted 7 (some .int) :: z_TB) (z_rm 4) (z_Pc ΛM Y σ [.ref (z_ad Y 0), .int a1, .int a2, .int a3, .int a4]) (z_Qi ΛM Y fin) 0 0 (z_A ΛM Y) := by
  unfold fX8_counted at h
  refine z_met [(0, .ref (z_ad Y 0)), (1, .int a1), (2, .int a2), (3, .int a3), (4, .int a4)] rfl (Nat.le_of_ble_eq_true rfl) (plainFor_of_name (by decide)) hi ?_
  intro p e s m args below meth c O hr hlk
  refine z_iload_n O dzX8_counted_0 rfl 1 rfl ?_
  obtain ⟨r1, hc1, h⟩ := z_bd_at h
  refine z_callSiR O (As := [.int a1]) (rest := []) (kX8_isFamily hi hc1) mX8_isFamily tw_892 (Nat.le_of_ble_eq_true rfl) rfl rfl (Nat.le_of_ble_eq_true rfl) dzX8_counted_1 ?_
  refine z_if_eq O dzX8_counted_4 (fun c4 => ?_) (fun c4 => ?_)
  · have h := z_if_t c4 h
    refine z_bipush O dzX8_counted_37 hcBm2 ?_
    exact z_iret O hr hlk dzX8_counted_39 h
  · have h := z_if_f c4 h
    refine z_iload_n O dzX8_counted_7 rfl 2 rfl ?_
    obtain ⟨r2, hc2, h⟩ := z_bd_at h
    refine z_callSiR O (As := [.int a2]) (rest := []) (kX8_isTest hi hc2) mX8_isTest tw_983 (Nat.le_of_ble_eq_true rfl) rfl rfl (Nat.le_of_ble_eq_true rfl) dzX8_counted_8 ?_
    refine z_if_eq O dzX8_counted_11 (fun c3 => ?_) (fun c3 => ?_)
    · have h := z_if_t c3 h
      refine z_bipush O dzX8_counted_37 hcBm2 ?_
      exact z_iret O hr hlk dzX8_counted_39 h
    · have h := z_if_f c3 h
      refine z_iload_n O dzX8_counted_14 rfl 3 rfl ?_
      refine z_i2l O dzX8_counted_15 ?_
      refine z_lconst O dzX8_counted_16 (v := 0) rfl ?_
      refine z_lconst O dzX8_counted_17 (v := 1) rfl ?_
      obtain ⟨r3, hc3, h⟩ := z_bd_at h
      refine z_callSiR O (As := [.long (a3.toInt64), .long (0 : Int64), .long (1 : Int64)]) (rest := []) (kX8_in hi hc3) mX8_in tw_876 (Nat.le_of_ble_eq_true rfl) rfl rfl (Nat.le_of_ble_eq_true rfl) dzX8_counted_18 ?_
      refine z_if_eq O dzX8_counted_21 (fun c2 => ?_) (fun c2 => ?_)
      · have h := z_if_t c2 h
        refine z_bipush O dzX8_counted_37 hcBm2 ?_
        exact z_iret O hr hlk dzX8_counted_39 h
      · have h := z_if_f c2 h
        refine z_iload O dzX8_counted_24 4 rfl ?_
        refine z_i2l O dzX8_counted_26 ?_
        refine z_lconst O dzX8_counted_27 (v := 0) rfl ?_
        refine z_ldc2 O tw_1006 dzX8_counted_28 ?_
        obtain ⟨r4, hc4, h⟩ := z_bd_at h
        refine z_callSiR O (As := [.long (a4.toInt64), .long (0 : Int64), .long (12 : Int64)]) (rest := []) (kX8_in hi hc4) mX8_in tw_876 (Nat.le_of_ble_eq_true rfl) rfl rfl (Nat.le_of_ble_eq_true rfl) dzX8_counted_31 ?_
        refine z_if_ne O dzX8_counted_34 (fun c1 => ?_) (fun c1 => ?_)
        · have h := z_if_f c1 h
          refine z_iconst O dzX8_counted_40 hcI0 ?_
          refine z_istore O (lv' := [(5, .int (0 : Int32)), (0, .ref (z_ad Y 0)), (1, .int a1), (2, .int a2), (3, .int a3), (4, .int a4)]) dzX8_counted_41 (by decide) rfl ?_
          refine z_iconst O dzX8_counted_43 hcI0 ?_
          refine z_istore O (lv' := [(6, .int (0 : Int32)), (5, .int (0 : Int32)), (0, .ref (z_ad Y 0)), (1, .int a1), (2, .int a2), (3, .int a3), (4, .int a4)]) dzX8_counted_44 (by decide) rfl ?_
          refine z_sub [2, 3, 4, 5, 6, 1, 0] rfl ?_
          refine kX8_counted_L46 O hi hr hlk   (fun w1 x1 x2 h => ?_) _ _ _ _ h
          refine z_iload O dzX8_counted_100 5 rfl ?_
          exact z_iret O hr hlk dzX8_counted_102 h
        · have h := z_if_t c1 h
          refine z_bipush O dzX8_counted_37 hcBm2 ?_
          exact z_iret O hr hlk dzX8_counted_39 h
def fX8_drops_L12 (a1 : Int32) (k : zS → Int32 → Option (zS)) : Nat → zS → Int32 → Option (zS)
  | 0, _, _ => none
  | n + 1, σ, v3 => z_gd (z_in a1 4) ((if (σ.1 2 a1.toNatClampNeg) ≤ v3 then k σ v3 else z_gd (z_in ((((40 : Int32) * a1) + v3) + (1 : Int32)) 160) (z_gd (z_in (((40 : Int32) * a1) + v3) 160) (z_lt (z_sI σ 3 (((40 : Int32) * a1) + v3).toNatClampNeg (σ.1 3 ((((40 : Int32) * a1) + v3) + (1 : Int32)).toNatClampNeg)) (fun (w1 : zS) => z_gd (z_in ((((40 : Int32) * a1) + v3) + (1 : Int32)) 160) (z_gd (z_in (((40 : Int32) * a1) + v3) 160) (z_lt (z_sI w1 4 (((40 : Int32) * a1) + v3).toNatClampNeg (w1.1 4 ((((40 : Int32) * a1) + v3) + (1 : Int32)).toNatClampNeg)) (fun (w2 : zS) => fX8_drops_L12 a1 k n w2 (v3 + (1 : Int32))))))))))
theorem kX8_drops_L12 {l : Launch} {Y : zY} {fin : zS} {p : Program} {e : Env} {s : State} {m : MethodId} {args : Array Value} {below : List Frame} {meth : Method} {c : Code} (O : z_ok ΛM Y p s m args c cX8_drops RX8 4) (hi : z_inj ΛM Y) (hr : meth.sig.returnType = none) (hlk : meth.locks = false) {a1 : Int32} {k : zS → Int32 → Option (zS)} (hk : ∀ (w : zS) (z3 : Int32), k w z3 = some fin → z_G p l e (z_rm 1) s m args below meth c (MQ below (z_Qv ΛM Y fin) args s 0 0 (z_A ΛM Y)) ΛM Y 4 w [(0, .ref (z_ad Y 0)), (1, .int a1), (3, .int z3)] 76 []) : ∀ (n : Nat) (σ : zS) (v3 : Int32), fX8_drops_L12 a1 k n σ v3 = some fin → z_G p l e (z_rm 1) s m args below meth c (MQ below (z_Qv ΛM Y fin) args s 0 0 (z_A ΛM Y)) ΛM Y 4 σ [(0, .ref (z_ad Y 0)), (1, .int a1), (3, .int v3)] 12 [] := by
  intro n
  induction n with
  | zero =>
    intro _ _ h
    cases h
  | succ n ih =>
    intro σ v3 h
    rw [fX8_drops_L12.eq_2] at h
    refine z_iload_n O dzX8_drops_12 rfl 2 rfl ?_
    refine z_aload_n O dzX8_drops_13 rfl 0 rfl ?_
    refine z_get O z_cb8 fm_obj (v := .ref (z_ad Y 2)) 1 (Nat.le_of_ble_eq_true rfl) tw_750 rfl dzX8_drops_14 ?_
    refine z_iload_n O dzX8_drops_17 rfl 1 rfl ?_
    obtain ⟨g1, h⟩ := z_gd_at h
    refine z_iald O fm_sizes g1 dzX8_drops_18 ?_
    refine z_icmp_ge O dzX8_drops_19 (fun c1 => ?_) (fun c1 => ?_)
    · have h := z_if_t c1 h
      exact hk _ _ h
    · have h := z_if_f c1 h
      refine z_aload_n O dzX8_drops_22 rfl 0 rfl ?_
      refine z_get O z_cb8 fm_obj (v := .ref (z_ad Y 3)) 2 (Nat.le_of_ble_eq_true rfl) tw_751 rfl dzX8_drops_23 ?_
      refine z_bipush O dzX8_drops_26 hcB40 ?_
      refine z_iload_n O dzX8_drops_28 rfl 1 rfl ?_
      refine z_imul O dzX8_drops_29 ?_
      refine z_iload_n O dzX8_drops_30 rfl 2 rfl ?_
      refine z_iadd O dzX8_drops_31 ?_
      refine z_aload_n O dzX8_drops_32 rfl 0 rfl ?_
      refine z_get O z_cb8 fm_obj (v := .ref (z_ad Y 3)) 2 (Nat.le_of_ble_eq_true rfl) tw_751 rfl dzX8_drops_33 ?_
      refine z_bipush O dzX8_drops_36 hcB40 ?_
      refine z_iload_n O dzX8_drops_38 rfl 1 rfl ?_
      refine z_imul O dzX8_drops_39 ?_
      refine z_iload_n O dzX8_drops_40 rfl 2 rfl ?_
      refine z_iadd O dzX8_drops_41 ?_
      refine z_iconst O dzX8_drops_42 hcI1 ?_
      refine z_iadd O dzX8_drops_43 ?_
      obtain ⟨g2, h⟩ := z_gd_at h
      refine z_iald O fm_sets g2 dzX8_drops_44 ?_
      obtain ⟨g3, h⟩ := z_gd_at h
      refine z_iast O fm_sets g3 dzX8_drops_45 ?_
      refine z_sig (fun w1 e1 => ?_)
      have h := z_lt_at e1 h
      refine z_aload_n O dzX8_drops_46 rfl 0 rfl ?_
      refine z_get O z_cb8 fm_obj (v := .ref (z_ad Y 4)) 3 (Nat.le_of_ble_eq_true rfl) tw_752 rfl dzX8_drops_47 ?_
      refine z_bipush O dzX8_drops_50 hcB40 ?_
      refine z_iload_n O dzX8_drops_52 rfl 1 rfl ?_
      refine z_imul O dzX8_drops_53 ?_
      refine z_iload_n O dzX8_drops_54 rfl 2 rfl ?_
      refine z_iadd O dzX8_drops_55 ?_
      refine z_aload_n O dzX8_drops_56 rfl 0 rfl ?_
      refine z_get O z_cb8 fm_obj (v := .ref (z_ad Y 4)) 3 (Nat.le_of_ble_eq_true rfl) tw_752 rfl dzX8_drops_57 ?_
      refine z_bipush O dzX8_drops_60 hcB40 ?_
      refine z_iload_n O dzX8_drops_62 rfl 1 rfl ?_
      refine z_imul O dzX8_drops_63 ?_
      refine z_iload_n O dzX8_drops_64 rfl 2 rfl ?_
      refine z_iadd O dzX8_drops_65 ?_
      refine z_iconst O dzX8_drops_66 hcI1 ?_
      refine z_iadd O dzX8_drops_67 ?_
      obtain ⟨g4, h⟩ := z_gd_at h
      refine z_iald O fm_tallies g4 dzX8_drops_68 ?_
      obtain ⟨g5, h⟩ := z_gd_at h
      refine z_iast O fm_tallies g5 dzX8_drops_69 ?_
      refine z_sig (fun w2 e2 => ?_)
      have h := z_lt_at e2 h
      refine z_iinc O (lv' := [(3, .int (v3 + (1 : Int32))), (0, .ref (z_ad Y 0)), (1, .int a1)]) dzX8_drops_70 2 rfl (congrArg _ hcI1) (by decide) rfl ?_
      refine z_goto O dzX8_drops_73 ?_
      refine z_sub [1, 2, 0] rfl ?_
      exact ih _ _ h
def fX8_drops (σ : zS) (a1 : Int32) (a2 : Int32) : Option (zS) :=
  z_gd (z_in a1 4) (z_gd (z_in a1 4) (z_lt (z_sI σ 2 a1.toNatClampNeg ((σ.1 2 a1.toNatClampNeg) - (1 : Int32))) (fun (w1 : zS) => fX8_drops_L12 a1 (fun (w2 : zS) (x1 : Int32) => some w2) z_F w1 a2)))
theorem kX8_drops {l : Launch} {Y : zY} (hi : z_inj ΛM Y) {σ : zS} {a1 : Int32} {a2 : Int32} {fin : zS} (h : fX8_drops σ a1 a2 = some fin) : Met l yX8_drops (Cond.code yX8_drops cX8_drops 4 none :: z_TB) (z_rm 1) (z_Pc ΛM Y σ [.ref (z_ad Y 0), .int a1, .int a2]) (z_Qv ΛM Y fin) 0 0 (z_A ΛM Y) := by
  unfold fX8_drops at h
  refine z_met [(0, .ref (z_ad Y 0)), (1, .int a1), (2, .int a2)] rfl (Nat.le_of_ble_eq_true rfl) (plainFor_of_name (by decide)) hi ?_
  intro p e s m args below meth c O hr hlk
  refine z_aload_n O dzX8_drops_0 rfl 0 rfl ?_
  refine z_get O z_cb8 fm_obj (v := .ref (z_ad Y 2)) 1 (Nat.le_of_ble_eq_true rfl) tw_750 rfl dzX8_drops_1 ?_
  refine z_iload_n O dzX8_drops_4 rfl 1 rfl ?_
  refine z_dup2_11 O dzX8_drops_5 rfl rfl ?_
  obtain ⟨g1, h⟩ := z_gd_at h
  refine z_iald O fm_sizes g1 dzX8_drops_6 ?_
  refine z_iconst O dzX8_drops_7 hcI1 ?_
  refine z_isub O dzX8_drops_8 ?_
  obtain ⟨g2, h⟩ := z_gd_at h
  refine z_iast O fm_sizes g2 dzX8_drops_9 ?_
  refine z_sig (fun w1 e1 => ?_)
  have h := z_lt_at e1 h
  refine z_iload_n O dzX8_drops_10 rfl 2 rfl ?_
  refine z_istore_n O (lv' := [(3, .int a2), (0, .ref (z_ad Y 0)), (1, .int a1), (2, .int a2)]) dzX8_drops_11 rfl (by decide) rfl ?_
  refine z_sub [1, 2, 0] rfl ?_
  refine kX8_drops_L12 O hi hr hlk   (fun w2 x1 h => ?_) _ _ _ h
  exact z_vret O hr hlk dzX8_drops_76 h
def fX8_dual (σ : zS) (a1 : Int32) (a2 : Int32) : Option (Int32 × zS) :=
  (fX8_isFamily a1).bind (fun r1 => (if r1 = 0 then some ((-2 : Int32), σ) else (fX8_findsDual σ a1).bind (fun r2 => (fX8_leastAt r2 a2).bind (fun r3 => some (r3, r2)))))
theorem kX8_dual {l : Launch} {Y : zY} (hi : z_inj ΛM Y) {σ : zS} {a1 : Int32} {a2 : Int32} {fin : Int32 × zS} (h : fX8_dual σ a1 a2 = some fin) : Met l yX8_dual (Cond.code yX8_dual cX8_dual 3 (some .int) :: z_TB) (z_rm 4) (z_Pc ΛM Y σ [.ref (z_ad Y 0), .int a1, .int a2]) (z_Qi ΛM Y fin) 0 0 (z_A ΛM Y) := by
  unfold fX8_dual at h
  refine z_met [(0, .ref (z_ad Y 0)), (1, .int a1), (2, .int a2)] rfl (Nat.le_of_ble_eq_true rfl) (plainFor_of_name (by decide)) hi ?_
  intro p e s m args below meth c O hr hlk
  refine z_iload_n O dzX8_dual_0 rfl 1 rfl ?_
  obtain ⟨r1, hc1, h⟩ := z_bd_at h
  refine z_callSiR O (As := [.int a1]) (rest := []) (kX8_isFamily hi hc1) mX8_isFamily tw_892 (Nat.le_of_ble_eq_true rfl) rfl rfl (Nat.le_of_ble_eq_true rfl) dzX8_dual_1 ?_
  refine z_if_ne O dzX8_dual_4 (fun c1 => ?_) (fun c1 => ?_)
  · have h := z_if_f c1 h
    refine z_aload_n O dzX8_dual_10 rfl 0 rfl ?_
    refine z_iload_n O dzX8_dual_11 rfl 1 rfl ?_
    obtain ⟨r2, hc2, h⟩ := z_bd_at h
    refine z_callVv O (As := [.int a1]) (rest := []) (kX8_findsDual hi hc2) mX8_findsDual tw_1011 (Nat.le_of_ble_eq_true rfl) fm_obj rfl rfl rfl rfl (Nat.le_of_ble_eq_true rfl) dzX8_dual_12 ?_
    refine z_aload_n O dzX8_dual_15 rfl 0 rfl ?_
    refine z_iload_n O dzX8_dual_16 rfl 2 rfl ?_
    obtain ⟨r3, hc3, h⟩ := z_bd_at h
    refine z_callViR O (As := [.int a2]) (rest := []) (kX8_leastAt hi hc3) mX8_leastAt tw_1019 (Nat.le_of_ble_eq_true rfl) fm_obj rfl rfl rfl rfl (Nat.le_of_ble_eq_true rfl) dzX8_dual_17 ?_
    exact z_iret O hr hlk dzX8_dual_20 h
  · have h := z_if_t c1 h
    refine z_bipush O dzX8_dual_7 hcBm2 ?_
    exact z_iret O hr hlk dzX8_dual_9 h
def fX8_thins_L23 (σ : zS) (a2 : Int32) (a3 : Int32) (a5 : Int32) (k : Int32 → Int32 → Option (Int32 × zS)) : Nat → Int32 → Int32 → Option (Int32 × zS)
  | 0, _, _ => none
  | n + 1, v6, v7 => (if a2 ≤ v7 then k v6 v7 else (if v6 = 0 then k v6 v7 else z_gd (z_in (a3 + v7) 560) (z_gd (z_in (a3 + a5) 560) (z_jn (fun (x1 : Int32) => (if v7 = a5 then fX8_thins_L23 σ a2 a3 a5 k n (1 : Int32) (v7 + (1 : Int32)) else (if x1 = 0 then z_gd (z_in (a3 + v7) 560) (z_gd (z_in (a3 + a5) 560) ((fX8_isPart (σ.1 16 (a3 + v7).toNatClampNeg) (σ.1 16 (a3 + a5).toNatClampNeg)).bind (fun r1 => (if r1 = 0 then fX8_thins_L23 σ a2 a3 a5 k n (1 : Int32) (v7 + (1 : Int32)) else fX8_thins_L23 σ a2 a3 a5 k n (0 : Int32) (v7 + (1 : Int32)))))) else (if a5 < v7 then fX8_thins_L23 σ a2 a3 a5 k n (1 : Int32) (v7 + (1 : Int32)) else z_gd (z_in (a3 + v7) 560) (z_gd (z_in (a3 + a5) 560) ((fX8_isPart (σ.1 16 (a3 + v7).toNatClampNeg) (σ.1 16 (a3 + a5).toNatClampNeg)).bind (fun r2 => (if r2 = 0 then fX8_thins_L23 σ a2 a3 a5 k n (1 : Int32) (v7 + (1 : Int32)) else fX8_thins_L23 σ a2 a3 a5 k n (0 : Int32) (v7 + (1 : Int32)))))))))) (fun j1 => (if (σ.1 16 (a3 + v7).toNatClampNeg) = (σ.1 16 (a3 + a5).toNatClampNeg) then j1 (1 : Int32) else j1 (0 : Int32)))))))
theorem kX8_thins_L23 {l : Launch} {Y : zY} {fin : Int32 × zS} {p : Program} {e : Env} {s : State} {m : MethodId} {args : Array Value} {below : List Frame} {meth : Method} {c : Code} {σ : zS} (O : z_ok ΛM Y p s m args c cX8_thins RX8 9) (hi : z_inj ΛM Y) (hr : meth.sig.returnType = (some .int)) (hlk : meth.locks = false) {a2 : Int32} {a3 : Int32} {b4 : Int32} {a5 : Int32} {k : Int32 → Int32 → Option (Int32 × zS)} (hk : ∀ (z6 : Int32) (z7 : Int32), k z6 z7 = some fin → z_G p l e (z_rm 2) s m args below meth c (MQ below (z_Qi ΛM Y fin) args s 0 0 (z_A ΛM Y)) ΛM Y 9 σ [(0, .ref (z_ad Y 0)), (2, .int a2), (3, .int a3), (4, .int b4), (5, .int a5), (6, .int z6), (7, .int z7)] 118 []) : ∀ (n : Nat) (v6 : Int32) (v7 : Int32), fX8_thins_L23 σ a2 a3 a5 k n v6 v7 = some fin → z_G p l e (z_rm 2) s m args below meth c (MQ below (z_Qi ΛM Y fin) args s 0 0 (z_A ΛM Y)) ΛM Y 9 σ [(0, .ref (z_ad Y 0)), (2, .int a2), (3, .int a3), (4, .int b4), (5, .int a5), (6, .int v6), (7, .int v7)] 23 [] := by
  intro n
  induction n with
  | zero =>
    intro _ _ h
    cases h
  | succ n ih =>
    intro v6 v7 h
    rw [fX8_thins_L23.eq_2] at h
    refine z_iload O dzX8_thins_23 6 rfl ?_
    refine z_iload_n O dzX8_thins_25 rfl 1 rfl ?_
    refine z_icmp_ge O dzX8_thins_26 (fun c8 => ?_) (fun c8 => ?_)
    · have h := z_if_t c8 h
      exact hk _ _ h
    · have h := z_if_f c8 h
      refine z_iload O dzX8_thins_29 5 rfl ?_
      refine z_if_eq O dzX8_thins_31 (fun c7 => ?_) (fun c7 => ?_)
      · have h := z_if_t c7 h
        exact hk _ _ h
      · have h := z_if_f c7 h
        refine z_aload_n O dzX8_thins_34 rfl 0 rfl ?_
        refine z_get O z_cb8 fm_obj (v := .ref (z_ad Y 16)) 19 (Nat.le_of_ble_eq_true rfl) tw_768 rfl dzX8_thins_35 ?_
        refine z_iload_n O dzX8_thins_38 rfl 2 rfl ?_
        refine z_iload O dzX8_thins_39 6 rfl ?_
        refine z_iadd O dzX8_thins_41 ?_
        obtain ⟨g1, h⟩ := z_gd_at h
        refine z_iald O fm_row g1 dzX8_thins_42 ?_
        refine z_aload_n O dzX8_thins_43 rfl 0 rfl ?_
        refine z_get O z_cb8 fm_obj (v := .ref (z_ad Y 16)) 19 (Nat.le_of_ble_eq_true rfl) tw_768 rfl dzX8_thins_44 ?_
        refine z_iload_n O dzX8_thins_47 rfl 2 rfl ?_
        refine z_iload O dzX8_thins_48 4 rfl ?_
        refine z_iadd O dzX8_thins_50 ?_
        obtain ⟨g2, h⟩ := z_gd_at h
        refine z_iald O fm_row g2 dzX8_thins_51 ?_
        refine z_jn_at (P := fun j1 => ∀ (x1 : Int32), j1 x1 = some fin → z_G p l e (z_rm 2) s m args below meth c (MQ below (z_Qi ΛM Y fin) args s 0 0 (z_A ΛM Y)) ΛM Y 9 σ [(0, .ref (z_ad Y 0)), (2, .int a2), (3, .int a3), (4, .int b4), (5, .int a5), (7, .int v7)] 60 [.int x1]) h ?_ (fun j1 J1 h => ?_)
        · intro x1 h
          refine z_istore O (lv' := [(8, .int x1), (0, .ref (z_ad Y 0)), (2, .int a2), (3, .int a3), (4, .int b4), (5, .int a5), (7, .int v7)]) dzX8_thins_60 (by decide) rfl ?_
          refine z_iload O dzX8_thins_62 6 rfl ?_
          refine z_iload O dzX8_thins_64 5 rfl ?_
          refine z_icmp_eq O dzX8_thins_66 (fun c5 => ?_) (fun c5 => ?_)
          · have h := z_if_t c5 h
            refine z_iconst O dzX8_thins_105 hcI1 ?_
            refine z_goto O dzX8_thins_106 ?_
            refine z_istore O (lv' := [(6, .int (1 : Int32)), (8, .int x1), (0, .ref (z_ad Y 0)), (2, .int a2), (3, .int a3), (4, .int b4), (5, .int a5), (7, .int v7)]) dzX8_thins_110 (by decide) rfl ?_
            refine z_iinc O (lv' := [(7, .int (v7 + (1 : Int32))), (6, .int (1 : Int32)), (8, .int x1), (0, .ref (z_ad Y 0)), (2, .int a2), (3, .int a3), (4, .int b4), (5, .int a5)]) dzX8_thins_112 7 rfl (congrArg _ hcI1) (by decide) rfl ?_
            refine z_goto O dzX8_thins_115 ?_
            refine z_sub [3, 4, 5, 6, 7, 1, 0] rfl ?_
            exact ih _ _ h
          · have h := z_if_f c5 h
            refine z_iload O dzX8_thins_69 0 rfl ?_
            refine z_if_eq O dzX8_thins_71 (fun c4 => ?_) (fun c4 => ?_)
            · have h := z_if_t c4 h
              refine z_aload_n O dzX8_thins_81 rfl 1 rfl ?_
              refine z_get O z_cb8 fm_obj (v := .ref (z_ad Y 16)) 19 (Nat.le_of_ble_eq_true rfl) tw_768 rfl dzX8_thins_82 ?_
              refine z_iload_n O dzX8_thins_85 rfl 3 rfl ?_
              refine z_iload O dzX8_thins_86 6 rfl ?_
              refine z_iadd O dzX8_thins_88 ?_
              obtain ⟨g3, h⟩ := z_gd_at h
              refine z_iald O fm_row g3 dzX8_thins_89 ?_
              refine z_aload_n O dzX8_thins_90 rfl 1 rfl ?_
              refine z_get O z_cb8 fm_obj (v := .ref (z_ad Y 16)) 19 (Nat.le_of_ble_eq_true rfl) tw_768 rfl dzX8_thins_91 ?_
              refine z_iload_n O dzX8_thins_94 rfl 3 rfl ?_
              refine z_iload O dzX8_thins_95 5 rfl ?_
              refine z_iadd O dzX8_thins_97 ?_
              obtain ⟨g4, h⟩ := z_gd_at h
              refine z_iald O fm_row g4 dzX8_thins_98 ?_
              obtain ⟨r1, hc1, h⟩ := z_bd_at h
              refine z_callSiR O (As := [.int (σ.1 16 (a3 + v7).toNatClampNeg), .int (σ.1 16 (a3 + a5).toNatClampNeg)]) (rest := []) (kX8_isPart hi hc1) mX8_isPart tw_972 (Nat.le_of_ble_eq_true rfl) rfl rfl (Nat.le_of_ble_eq_true rfl) dzX8_thins_99 ?_
              refine z_if_ne O dzX8_thins_102 (fun c1 => ?_) (fun c1 => ?_)
              · have h := z_if_f c1 h
                refine z_iconst O dzX8_thins_109 hcI0 ?_
                refine z_istore O (lv' := [(6, .int (0 : Int32)), (8, .int x1), (0, .ref (z_ad Y 0)), (2, .int a2), (3, .int a3), (4, .int b4), (5, .int a5), (7, .int v7)]) dzX8_thins_110 (by decide) rfl ?_
                refine z_iinc O (lv' := [(7, .int (v7 + (1 : Int32))), (6, .int (0 : Int32)), (8, .int x1), (0, .ref (z_ad Y 0)), (2, .int a2), (3, .int a3), (4, .int b4), (5, .int a5)]) dzX8_thins_112 7 rfl (congrArg _ hcI1) (by decide) rfl ?_
                refine z_goto O dzX8_thins_115 ?_
                refine z_sub [3, 4, 5, 6, 7, 1, 0] rfl ?_
                exact ih _ _ h
              · have h := z_if_t c1 h
                refine z_iconst O dzX8_thins_105 hcI1 ?_
                refine z_goto O dzX8_thins_106 ?_
                refine z_istore O (lv' := [(6, .int (1 : Int32)), (8, .int x1), (0, .ref (z_ad Y 0)), (2, .int a2), (3, .int a3), (4, .int b4), (5, .int a5), (7, .int v7)]) dzX8_thins_110 (by decide) rfl ?_
                refine z_iinc O (lv' := [(7, .int (v7 + (1 : Int32))), (6, .int (1 : Int32)), (8, .int x1), (0, .ref (z_ad Y 0)), (2, .int a2), (3, .int a3), (4, .int b4), (5, .int a5)]) dzX8_thins_112 7 rfl (congrArg _ hcI1) (by decide) rfl ?_
                refine z_goto O dzX8_thins_115 ?_
                refine z_sub [3, 4, 5, 6, 7, 1, 0] rfl ?_
                exact ih _ _ h
            · have h := z_if_f c4 h
              refine z_iload O dzX8_thins_74 6 rfl ?_
              refine z_iload O dzX8_thins_76 5 rfl ?_
              refine z_icmp_gt O dzX8_thins_78 (fun c3 => ?_) (fun c3 => ?_)
              · have h := z_if_t c3 h
                refine z_iconst O dzX8_thins_105 hcI1 ?_
                refine z_goto O dzX8_thins_106 ?_
                refine z_istore O (lv' := [(6, .int (1 : Int32)), (8, .int x1), (0, .ref (z_ad Y 0)), (2, .int a2), (3, .int a3), (4, .int b4), (5, .int a5), (7, .int v7)]) dzX8_thins_110 (by decide) rfl ?_
                refine z_iinc O (lv' := [(7, .int (v7 + (1 : Int32))), (6, .int (1 : Int32)), (8, .int x1), (0, .ref (z_ad Y 0)), (2, .int a2), (3, .int a3), (4, .int b4), (5, .int a5)]) dzX8_thins_112 7 rfl (congrArg _ hcI1) (by decide) rfl ?_
                refine z_goto O dzX8_thins_115 ?_
                refine z_sub [3, 4, 5, 6, 7, 1, 0] rfl ?_
                exact ih _ _ h
              · have h := z_if_f c3 h
                refine z_aload_n O dzX8_thins_81 rfl 1 rfl ?_
                refine z_get O z_cb8 fm_obj (v := .ref (z_ad Y 16)) 19 (Nat.le_of_ble_eq_true rfl) tw_768 rfl dzX8_thins_82 ?_
                refine z_iload_n O dzX8_thins_85 rfl 3 rfl ?_
                refine z_iload O dzX8_thins_86 6 rfl ?_
                refine z_iadd O dzX8_thins_88 ?_
                obtain ⟨g5, h⟩ := z_gd_at h
                refine z_iald O fm_row g5 dzX8_thins_89 ?_
                refine z_aload_n O dzX8_thins_90 rfl 1 rfl ?_
                refine z_get O z_cb8 fm_obj (v := .ref (z_ad Y 16)) 19 (Nat.le_of_ble_eq_true rfl) tw_768 rfl dzX8_thins_91 ?_
                refine z_iload_n O dzX8_thins_94 rfl 3 rfl ?_
                refine z_iload O dzX8_thins_95 5 rfl ?_
                refine z_iadd O dzX8_thins_97 ?_
                obtain ⟨g6, h⟩ := z_gd_at h
                refine z_iald O fm_row g6 dzX8_thins_98 ?_
                obtain ⟨r2, hc2, h⟩ := z_bd_at h
                refine z_callSiR O (As := [.int (σ.1 16 (a3 + v7).toNatClampNeg), .int (σ.1 16 (a3 + a5).toNatClampNeg)]) (rest := []) (kX8_isPart hi hc2) mX8_isPart tw_972 (Nat.le_of_ble_eq_true rfl) rfl rfl (Nat.le_of_ble_eq_true rfl) dzX8_thins_99 ?_
                refine z_if_ne O dzX8_thins_102 (fun c2 => ?_) (fun c2 => ?_)
                · have h := z_if_f c2 h
                  refine z_iconst O dzX8_thins_109 hcI0 ?_
                  refine z_istore O (lv' := [(6, .int (0 : Int32)), (8, .int x1), (0, .ref (z_ad Y 0)), (2, .int a2), (3, .int a3), (4, .int b4), (5, .int a5), (7, .int v7)]) dzX8_thins_110 (by decide) rfl ?_
                  refine z_iinc O (lv' := [(7, .int (v7 + (1 : Int32))), (6, .int (0 : Int32)), (8, .int x1), (0, .ref (z_ad Y 0)), (2, .int a2), (3, .int a3), (4, .int b4), (5, .int a5)]) dzX8_thins_112 7 rfl (congrArg _ hcI1) (by decide) rfl ?_
                  refine z_goto O dzX8_thins_115 ?_
                  refine z_sub [3, 4, 5, 6, 7, 1, 0] rfl ?_
                  exact ih _ _ h
                · have h := z_if_t c2 h
                  refine z_iconst O dzX8_thins_105 hcI1 ?_
                  refine z_goto O dzX8_thins_106 ?_
                  refine z_istore O (lv' := [(6, .int (1 : Int32)), (8, .int x1), (0, .ref (z_ad Y 0)), (2, .int a2), (3, .int a3), (4, .int b4), (5, .int a5), (7, .int v7)]) dzX8_thins_110 (by decide) rfl ?_
                  refine z_iinc O (lv' := [(7, .int (v7 + (1 : Int32))), (6, .int (1 : Int32)), (8, .int x1), (0, .ref (z_ad Y 0)), (2, .int a2), (3, .int a3), (4, .int b4), (5, .int a5)]) dzX8_thins_112 7 rfl (congrArg _ hcI1) (by decide) rfl ?_
                  refine z_goto O dzX8_thins_115 ?_
                  refine z_sub [3, 4, 5, 6, 7, 1, 0] rfl ?_
                  exact ih _ _ h
        · refine z_icmp_ne O dzX8_thins_52 (fun c6 => ?_) (fun c6 => ?_)
          · have h := z_if_f c6 h
            refine z_iconst O dzX8_thins_59 hcI0 ?_
            refine z_sub [0, 1, 2, 3, 4, 6] rfl ?_
            exact J1 (0 : Int32) h
          · have h := z_if_t c6 h
            refine z_iconst O dzX8_thins_55 hcI1 ?_
            refine z_goto O dzX8_thins_56 ?_
            refine z_sub [0, 1, 2, 3, 4, 6] rfl ?_
            exact J1 (1 : Int32) h
def fX8_thins_L11 (a2 : Int32) (a3 : Int32) (k : zS → Int32 → Option (Int32 × zS)) : Nat → zS → Int32 → Option (Int32 × zS)
  | 0, _, _ => none
  | n + 1, σ, v5 => (if a2 ≤ v5 then k σ v5 else fX8_thins_L23 σ a2 a3 v5 (fun (x1 : Int32) (x2 : Int32) => (if x1 = 0 then z_gd (z_in v5 40) (z_gd (z_bz (1 : Int32)) (z_lt (z_sI σ 13 v5.toNatClampNeg (1 : Int32)) (fun (w2 : zS) => fX8_thins_L11 a2 a3 k n w2 (v5 + (1 : Int32))))) else z_gd (z_in v5 40) (z_gd (z_bz (0 : Int32)) (z_lt (z_sI σ 13 v5.toNatClampNeg (0 : Int32)) (fun (w1 : zS) => fX8_thins_L11 a2 a3 k n w1 (v5 + (1 : Int32))))))) z_F (1 : Int32) (0 : Int32))
theorem kX8_thins_L11 {l : Launch} {Y : zY} {fin : Int32 × zS} {p : Program} {e : Env} {s : State} {m : MethodId} {args : Array Value} {below : List Frame} {meth : Method} {c : Code} (O : z_ok ΛM Y p s m args c cX8_thins RX8 9) (hi : z_inj ΛM Y) (hr : meth.sig.returnType = (some .int)) (hlk : meth.locks = false) {a2 : Int32} {a3 : Int32} {b4 : Int32} {k : zS → Int32 → Option (Int32 × zS)} (hk : ∀ (w : zS) (z5 : Int32), k w z5 = some fin → z_G p l e (z_rm 2) s m args below meth c (MQ below (z_Qi ΛM Y fin) args s 0 0 (z_A ΛM Y)) ΛM Y 9 w [(0, .ref (z_ad Y 0)), (2, .int a2), (3, .int a3), (4, .int b4), (5, .int z5)] 141 []) : ∀ (n : Nat) (σ : zS) (v5 : Int32), fX8_thins_L11 a2 a3 k n σ v5 = some fin → z_G p l e (z_rm 2) s m args below meth c (MQ below (z_Qi ΛM Y fin) args s 0 0 (z_A ΛM Y)) ΛM Y 9 σ [(0, .ref (z_ad Y 0)), (2, .int a2), (3, .int a3), (4, .int b4), (5, .int v5)] 11 [] := by
  intro n
  induction n with
  | zero =>
    intro _ _ h
    cases h
  | succ n ih =>
    intro σ v5 h
    rw [fX8_thins_L11.eq_2] at h
    refine z_iload O dzX8_thins_11 4 rfl ?_
    refine z_iload_n O dzX8_thins_13 rfl 1 rfl ?_
    refine z_icmp_ge O dzX8_thins_14 (fun c2 => ?_) (fun c2 => ?_)
    · have h := z_if_t c2 h
      exact hk _ _ h
    · have h := z_if_f c2 h
      refine z_iconst O dzX8_thins_17 hcI1 ?_
      refine z_istore O (lv' := [(6, .int (1 : Int32)), (0, .ref (z_ad Y 0)), (2, .int a2), (3, .int a3), (4, .int b4), (5, .int v5)]) dzX8_thins_18 (by decide) rfl ?_
      refine z_iconst O dzX8_thins_20 hcI0 ?_
      refine z_istore O (lv' := [(7, .int (0 : Int32)), (6, .int (1 : Int32)), (0, .ref (z_ad Y 0)), (2, .int a2), (3, .int a3), (4, .int b4), (5, .int v5)]) dzX8_thins_21 (by decide) rfl ?_
      refine z_sub [2, 3, 4, 5, 6, 1, 0] rfl ?_
      refine kX8_thins_L23 O hi hr hlk   (fun x1 x2 h => ?_) _ _ _ h
      refine z_aload_n O dzX8_thins_118 rfl 0 rfl ?_
      refine z_get O z_cb8 fm_obj (v := .ref (z_ad Y 13)) 14 (Nat.le_of_ble_eq_true rfl) tw_763 rfl dzX8_thins_119 ?_
      refine z_iload O dzX8_thins_122 4 rfl ?_
      refine z_iload O dzX8_thins_124 5 rfl ?_
      refine z_if_ne O dzX8_thins_126 (fun c1 => ?_) (fun c1 => ?_)
      · have h := z_if_f c1 h
        refine z_iconst O dzX8_thins_133 hcI0 ?_
        obtain ⟨g1, h⟩ := z_gd_at h
        obtain ⟨g2, h⟩ := z_gd_at h
        refine z_zast O fm_goes g1 g2 dzX8_thins_134 ?_
        refine z_sig (fun w1 e1 => ?_)
        have h := z_lt_at e1 h
        refine z_iinc O (lv' := [(5, .int (v5 + (1 : Int32))), (0, .ref (z_ad Y 0)), (2, .int a2), (3, .int a3), (4, .int b4), (6, .int x1), (7, .int x2)]) dzX8_thins_135 4 rfl (congrArg _ hcI1) (by decide) rfl ?_
        refine z_goto O dzX8_thins_138 ?_
        refine z_sub [1, 2, 3, 4, 0] rfl ?_
        exact ih _ _ h
      · have h := z_if_t c1 h
        refine z_iconst O dzX8_thins_129 hcI1 ?_
        refine z_goto O dzX8_thins_130 ?_
        obtain ⟨g3, h⟩ := z_gd_at h
        obtain ⟨g4, h⟩ := z_gd_at h
        refine z_zast O fm_goes g3 g4 dzX8_thins_134 ?_
        refine z_sig (fun w2 e2 => ?_)
        have h := z_lt_at e2 h
        refine z_iinc O (lv' := [(5, .int (v5 + (1 : Int32))), (0, .ref (z_ad Y 0)), (2, .int a2), (3, .int a3), (4, .int b4), (6, .int x1), (7, .int x2)]) dzX8_thins_135 4 rfl (congrArg _ hcI1) (by decide) rfl ?_
        refine z_goto O dzX8_thins_138 ?_
        refine z_sub [1, 2, 3, 4, 0] rfl ?_
        exact ih _ _ h
def fX8_thins_L144 (a2 : Int32) (a3 : Int32) (k : zS → Int32 → Int32 → Option (Int32 × zS)) : Nat → zS → Int32 → Int32 → Option (Int32 × zS)
  | 0, _, _, _ => none
  | n + 1, σ, v4, v5 => (if a2 ≤ v5 then k σ v4 v5 else z_gd (z_in v5 40) ((if (σ.1 13 v5.toNatClampNeg) = 0 then z_gd (z_in (a3 + v5) 560) (z_gd (z_in (a3 + v4) 560) (z_lt (z_sI σ 16 (a3 + v4).toNatClampNeg (σ.1 16 (a3 + v5).toNatClampNeg)) (fun (w1 : zS) => fX8_thins_L144 a2 a3 k n w1 (v4 + (1 : Int32)) (v5 + (1 : Int32))))) else fX8_thins_L144 a2 a3 k n σ v4 (v5 + (1 : Int32)))))
theorem kX8_thins_L144 {l : Launch} {Y : zY} {fin : Int32 × zS} {p : Program} {e : Env} {s : State} {m : MethodId} {args : Array Value} {below : List Frame} {meth : Method} {c : Code} (O : z_ok ΛM Y p s m args c cX8_thins RX8 9) (hi : z_inj ΛM Y) (hr : meth.sig.returnType = (some .int)) (hlk : meth.locks = false) {a2 : Int32} {a3 : Int32} {k : zS → Int32 → Int32 → Option (Int32 × zS)} (hk : ∀ (w : zS) (z4 : Int32) (z5 : Int32), k w z4 z5 = some fin → z_G p l e (z_rm 2) s m args below meth c (MQ below (z_Qi ΛM Y fin) args s 0 0 (z_A ΛM Y)) ΛM Y 9 w [(0, .ref (z_ad Y 0)), (2, .int a2), (3, .int a3), (4, .int z4), (5, .int z5)] 187 []) : ∀ (n : Nat) (σ : zS) (v4 : Int32) (v5 : Int32), fX8_thins_L144 a2 a3 k n σ v4 v5 = some fin → z_G p l e (z_rm 2) s m args below meth c (MQ below (z_Qi ΛM Y fin) args s 0 0 (z_A ΛM Y)) ΛM Y 9 σ [(0, .ref (z_ad Y 0)), (2, .int a2), (3, .int a3), (4, .int v4), (5, .int v5)] 144 [] := by
  intro n
  induction n with
  | zero =>
    intro _ _ _ h
    cases h
  | succ n ih =>
    intro σ v4 v5 h
    rw [fX8_thins_L144.eq_2] at h
    refine z_iload O dzX8_thins_144 4 rfl ?_
    refine z_iload_n O dzX8_thins_146 rfl 1 rfl ?_
    refine z_icmp_ge O dzX8_thins_147 (fun c2 => ?_) (fun c2 => ?_)
    · have h := z_if_t c2 h
      exact hk _ _ _ h
    · have h := z_if_f c2 h
      refine z_aload_n O dzX8_thins_150 rfl 0 rfl ?_
      refine z_get O z_cb8 fm_obj (v := .ref (z_ad Y 13)) 14 (Nat.le_of_ble_eq_true rfl) tw_763 rfl dzX8_thins_151 ?_
      refine z_iload O dzX8_thins_154 4 rfl ?_
      obtain ⟨g1, h⟩ := z_gd_at h
      refine z_zald O fm_goes g1 dzX8_thins_156 ?_
      refine z_if_ne O dzX8_thins_157 (fun c1 => ?_) (fun c1 => ?_)
      · have h := z_if_f c1 h
        refine z_iinc O (lv' := [(5, .int (v5 + (1 : Int32))), (0, .ref (z_ad Y 0)), (2, .int a2), (3, .int a3), (4, .int v4)]) dzX8_thins_181 4 rfl (congrArg _ hcI1) (by decide) rfl ?_
        refine z_goto O dzX8_thins_184 ?_
        refine z_sub [1, 2, 3, 4, 0] rfl ?_
        exact ih _ _ _ h
      · have h := z_if_t c1 h
        refine z_aload_n O dzX8_thins_160 rfl 0 rfl ?_
        refine z_get O z_cb8 fm_obj (v := .ref (z_ad Y 16)) 19 (Nat.le_of_ble_eq_true rfl) tw_768 rfl dzX8_thins_161 ?_
        refine z_iload_n O dzX8_thins_164 rfl 2 rfl ?_
        refine z_iload O dzX8_thins_165 3 rfl ?_
        refine z_iadd O dzX8_thins_167 ?_
        refine z_aload_n O dzX8_thins_168 rfl 0 rfl ?_
        refine z_get O z_cb8 fm_obj (v := .ref (z_ad Y 16)) 19 (Nat.le_of_ble_eq_true rfl) tw_768 rfl dzX8_thins_169 ?_
        refine z_iload_n O dzX8_thins_172 rfl 2 rfl ?_
        refine z_iload O dzX8_thins_173 4 rfl ?_
        refine z_iadd O dzX8_thins_175 ?_
        obtain ⟨g2, h⟩ := z_gd_at h
        refine z_iald O fm_row g2 dzX8_thins_176 ?_
        obtain ⟨g3, h⟩ := z_gd_at h
        refine z_iast O fm_row g3 dzX8_thins_177 ?_
        refine z_sig (fun w1 e1 => ?_)
        have h := z_lt_at e1 h
        refine z_iinc O (lv' := [(4, .int (v4 + (1 : Int32))), (0, .ref (z_ad Y 0)), (2, .int a2), (3, .int a3), (5, .int v5)]) dzX8_thins_178 3 rfl (congrArg _ hcI1) (by decide) rfl ?_
        refine z_iinc O (lv' := [(5, .int (v5 + (1 : Int32))), (4, .int (v4 + (1 : Int32))), (0, .ref (z_ad Y 0)), (2, .int a2), (3, .int a3)]) dzX8_thins_181 4 rfl (congrArg _ hcI1) (by decide) rfl ?_
        refine z_goto O dzX8_thins_184 ?_
        refine z_sub [2, 3, 4, 1, 0] rfl ?_
        exact ih _ _ _ h
def fX8_thins (σ : zS) (a1 : Int32) (a2 : Int32) : Option (Int32 × zS) :=
  z_lt ((40 : Int32) * a1) (fun (x1 : Int32) => fX8_thins_L11 a2 x1 (fun (w1 : zS) (x2 : Int32) => fX8_thins_L144 a2 x1 (fun (w2 : zS) (x3 : Int32) (x4 : Int32) => some (x3, w2)) z_F w1 (0 : Int32) (0 : Int32)) z_F σ (0 : Int32))
theorem kX8_thins {l : Launch} {Y : zY} (hi : z_inj ΛM Y) {σ : zS} {a1 : Int32} {a2 : Int32} {fin : Int32 × zS} (h : fX8_thins σ a1 a2 = some fin) : Met l yX8_thins (Cond.code yX8_thins cX8_thins 9 (some .int) :: z_TB) (z_rm 2) (z_Pc ΛM Y σ [.ref (z_ad Y 0), .int a1, .int a2]) (z_Qi ΛM Y fin) 0 0 (z_A ΛM Y) := by
  unfold fX8_thins at h
  refine z_met [(0, .ref (z_ad Y 0)), (1, .int a1), (2, .int a2)] rfl (Nat.le_of_ble_eq_true rfl) (plainFor_of_name (by decide)) hi ?_
  intro p e s m args below meth c O hr hlk
  refine z_bipush O dzX8_thins_0 hcB40 ?_
  refine z_iload_n O dzX8_thins_2 rfl 1 rfl ?_
  refine z_imul O dzX8_thins_3 ?_
  refine z_topi (fun x1 e1 => ?_)
  have h := z_lt_at e1 h
  refine z_istore_n O (lv' := [(3, .int x1), (0, .ref (z_ad Y 0)), (1, .int a1), (2, .int a2)]) dzX8_thins_4 rfl (by decide) rfl ?_
  refine z_iconst O dzX8_thins_5 hcI0 ?_
  refine z_istore O (lv' := [(4, .int (0 : Int32)), (3, .int x1), (0, .ref (z_ad Y 0)), (1, .int a1), (2, .int a2)]) dzX8_thins_6 (by decide) rfl ?_
  refine z_iconst O dzX8_thins_8 hcI0 ?_
  refine z_istore O (lv' := [(5, .int (0 : Int32)), (4, .int (0 : Int32)), (3, .int x1), (0, .ref (z_ad Y 0)), (1, .int a1), (2, .int a2)]) dzX8_thins_9 (by decide) rfl ?_
  refine z_sub [3, 5, 2, 1, 0] rfl ?_
  refine kX8_thins_L11 O hi hr hlk   (fun w1 x2 h => ?_) _ _ _ h
  refine z_iconst O dzX8_thins_141 hcI0 ?_
  refine z_istore O (lv' := [(5, .int (0 : Int32)), (0, .ref (z_ad Y 0)), (2, .int a2), (3, .int x1), (4, .int (0 : Int32))]) dzX8_thins_142 (by decide) rfl ?_
  refine z_sub [1, 2, 3, 4, 0] rfl ?_
  refine kX8_thins_L144 O hi hr hlk   (fun w2 x3 x4 h => ?_) _ _ _ _ h
  refine z_iload O dzX8_thins_187 3 rfl ?_
  exact z_iret O hr hlk dzX8_thins_189 h
def fX8_topOf_L21 (σ : zS) (a1 : Int32) (a2 : Int32) (a5 : Int32) (k : Int32 → Int32 → Option (Int32)) : Nat → Int32 → Int32 → Option (Int32)
  | 0, _, _ => none
  | n + 1, v6, v7 => (if a2 ≤ v7 then k v6 v7 else z_gd (z_in (((40 : Int32) * a1) + v7) 560) (z_lt (v6 + (((σ.1 16 (((40 : Int32) * a1) + v7).toNatClampNeg) >>> (a5 &&& 31)) &&& (1 : Int32))) (fun (x1 : Int32) => fX8_topOf_L21 σ a1 a2 a5 k n x1 (v7 + (1 : Int32)))))
theorem kX8_topOf_L21 {l : Launch} {Y : zY} {fin : Int32} {p : Program} {e : Env} {s : State} {m : MethodId} {args : Array Value} {below : List Frame} {meth : Method} {c : Code} {σ : zS} (O : z_ok ΛM Y p s m args c cX8_topOf RX8 8) (hi : z_inj ΛM Y) (hr : meth.sig.returnType = (some .int)) (hlk : meth.locks = false) {a1 : Int32} {a2 : Int32} {b3 : Int32} {b4 : Int32} {a5 : Int32} {k : Int32 → Int32 → Option (Int32)} (hk : ∀ (z6 : Int32) (z7 : Int32), k z6 z7 = some fin → z_G p l e (z_rm 1) s m args below meth c (MQ below (z_Qi ΛM Y (fin, σ)) args s 0 0 (z_A ΛM Y)) ΛM Y 8 σ [(0, .ref (z_ad Y 0)), (1, .int a1), (2, .int a2), (3, .int b3), (4, .int b4), (5, .int a5), (6, .int z6), (7, .int z7)] 55 []) : ∀ (n : Nat) (v6 : Int32) (v7 : Int32), fX8_topOf_L21 σ a1 a2 a5 k n v6 v7 = some fin → z_G p l e (z_rm 1) s m args below meth c (MQ below (z_Qi ΛM Y (fin, σ)) args s 0 0 (z_A ΛM Y)) ΛM Y 8 σ [(0, .ref (z_ad Y 0)), (1, .int a1), (2, .int a2), (3, .int b3), (4, .int b4), (5, .int a5), (6, .int v6), (7, .int v7)] 21 [] := by
  intro n
  induction n with
  | zero =>
    intro _ _ h
    cases h
  | succ n ih =>
    intro v6 v7 h
    rw [fX8_topOf_L21.eq_2] at h
    refine z_iload O dzX8_topOf_21 7 rfl ?_
    refine z_iload_n O dzX8_topOf_23 rfl 2 rfl ?_
    refine z_icmp_ge O dzX8_topOf_24 (fun c1 => ?_) (fun c1 => ?_)
    · have h := z_if_t c1 h
      exact hk _ _ h
    · have h := z_if_f c1 h
      refine z_iload O dzX8_topOf_27 6 rfl ?_
      refine z_aload_n O dzX8_topOf_29 rfl 0 rfl ?_
      refine z_get O z_cb8 fm_obj (v := .ref (z_ad Y 16)) 19 (Nat.le_of_ble_eq_true rfl) tw_768 rfl dzX8_topOf_30 ?_
      refine z_bipush O dzX8_topOf_33 hcB40 ?_
      refine z_iload_n O dzX8_topOf_35 rfl 1 rfl ?_
      refine z_imul O dzX8_topOf_36 ?_
      refine z_iload O dzX8_topOf_37 7 rfl ?_
      refine z_iadd O dzX8_topOf_39 ?_
      obtain ⟨g1, h⟩ := z_gd_at h
      refine z_iald O fm_row g1 dzX8_topOf_40 ?_
      refine z_iload O dzX8_topOf_41 5 rfl ?_
      refine z_ishr O dzX8_topOf_43 ?_
      refine z_iconst O dzX8_topOf_44 hcI1 ?_
      refine z_iand O dzX8_topOf_45 ?_
      refine z_iadd O dzX8_topOf_46 ?_
      refine z_topi (fun x1 e1 => ?_)
      have h := z_lt_at e1 h
      refine z_istore O (lv' := [(6, .int x1), (0, .ref (z_ad Y 0)), (1, .int a1), (2, .int a2), (3, .int b3), (4, .int b4), (5, .int a5), (7, .int v7)]) dzX8_topOf_47 (by decide) rfl ?_
      refine z_iinc O (lv' := [(7, .int (v7 + (1 : Int32))), (6, .int x1), (0, .ref (z_ad Y 0)), (1, .int a1), (2, .int a2), (3, .int b3), (4, .int b4), (5, .int a5)]) dzX8_topOf_49 7 rfl (congrArg _ hcI1) (by decide) rfl ?_
      refine z_goto O dzX8_topOf_52 ?_
      refine z_sub [2, 3, 4, 5, 6, 7, 1, 0] rfl ?_
      exact ih _ _ h
def fX8_topOf_L8 (σ : zS) (a1 : Int32) (a2 : Int32) (k : Int32 → Int32 → Int32 → Option (Int32)) : Nat → Int32 → Int32 → Int32 → Option (Int32)
  | 0, _, _, _ => none
  | n + 1, v3, v4, v5 => (if (12 : Int32) ≤ v5 then k v3 v4 v5 else fX8_topOf_L21 σ a1 a2 v5 (fun (x1 : Int32) (x2 : Int32) => (if x1 ≤ v4 then (if x1 ≤ v4 then fX8_topOf_L8 σ a1 a2 k n v3 v4 (v5 + (1 : Int32)) else fX8_topOf_L8 σ a1 a2 k n v3 x1 (v5 + (1 : Int32))) else (if x1 ≤ v4 then fX8_topOf_L8 σ a1 a2 k n v5 v4 (v5 + (1 : Int32)) else fX8_topOf_L8 σ a1 a2 k n v5 x1 (v5 + (1 : Int32))))) z_F (0 : Int32) (0 : Int32))
theorem kX8_topOf_L8 {l : Launch} {Y : zY} {fin : Int32} {p : Program} {e : Env} {s : State} {m : MethodId} {args : Array Value} {below : List Frame} {meth : Method} {c : Code} {σ : zS} (O : z_ok ΛM Y p s m args c cX8_topOf RX8 8) (hi : z_inj ΛM Y) (hr : meth.sig.returnType = (some .int)) (hlk : meth.locks = false) {a1 : Int32} {a2 : Int32} {k : Int32 → Int32 → Int32 → Option (Int32)} (hk : ∀ (z3 : Int32) (z4 : Int32) (z5 : Int32), k z3 z4 z5 = some fin → z_G p l e (z_rm 1) s m args below meth c (MQ below (z_Qi ΛM Y (fin, σ)) args s 0 0 (z_A ΛM Y)) ΛM Y 8 σ [(0, .ref (z_ad Y 0)), (1, .int a1), (2, .int a2), (3, .int z3), (4, .int z4), (5, .int z5)] 91 []) : ∀ (n : Nat) (v3 : Int32) (v4 : Int32) (v5 : Int32), fX8_topOf_L8 σ a1 a2 k n v3 v4 v5 = some fin → z_G p l e (z_rm 1) s m args below meth c (MQ below (z_Qi ΛM Y (fin, σ)) args s 0 0 (z_A ΛM Y)) ΛM Y 8 σ [(0, .ref (z_ad Y 0)), (1, .int a1), (2, .int a2), (3, .int v3), (4, .int v4), (5, .int v5)] 8 [] := by
  intro n
  induction n with
  | zero =>
    intro _ _ _ h
    cases h
  | succ n ih =>
    intro v3 v4 v5 h
    rw [fX8_topOf_L8.eq_2] at h
    refine z_iload O dzX8_topOf_8 5 rfl ?_
    refine z_bipush O dzX8_topOf_10 hcB12 ?_
    refine z_icmp_ge O dzX8_topOf_12 (fun c4 => ?_) (fun c4 => ?_)
    · have h := z_if_t c4 h
      exact hk _ _ _ h
    · have h := z_if_f c4 h
      refine z_iconst O dzX8_topOf_15 hcI0 ?_
      refine z_istore O (lv' := [(6, .int (0 : Int32)), (0, .ref (z_ad Y 0)), (1, .int a1), (2, .int a2), (3, .int v3), (4, .int v4), (5, .int v5)]) dzX8_topOf_16 (by decide) rfl ?_
      refine z_iconst O dzX8_topOf_18 hcI0 ?_
      refine z_istore O (lv' := [(7, .int (0 : Int32)), (6, .int (0 : Int32)), (0, .ref (z_ad Y 0)), (1, .int a1), (2, .int a2), (3, .int v3), (4, .int v4), (5, .int v5)]) dzX8_topOf_19 (by decide) rfl ?_
      refine z_sub [2, 3, 4, 5, 6, 7, 1, 0] rfl ?_
      refine kX8_topOf_L21 O hi hr hlk   (fun x1 x2 h => ?_) _ _ _ h
      refine z_iload O dzX8_topOf_55 6 rfl ?_
      refine z_iload O dzX8_topOf_57 4 rfl ?_
      refine z_icmp_le O dzX8_topOf_59 (fun c3 => ?_) (fun c3 => ?_)
      · have h := z_if_t c3 h
        refine z_iload_n O dzX8_topOf_67 rfl 3 rfl ?_
        refine z_istore_n O (lv' := [(3, .int v3), (0, .ref (z_ad Y 0)), (1, .int a1), (2, .int a2), (4, .int v4), (5, .int v5), (6, .int x1), (7, .int x2)]) dzX8_topOf_68 rfl (by decide) rfl ?_
        refine z_iload O dzX8_topOf_69 6 rfl ?_
        refine z_iload O dzX8_topOf_71 4 rfl ?_
        refine z_icmp_le O dzX8_topOf_73 (fun c1 => ?_) (fun c1 => ?_)
        · have h := z_if_t c1 h
          refine z_iload O dzX8_topOf_81 4 rfl ?_
          refine z_istore O (lv' := [(4, .int v4), (3, .int v3), (0, .ref (z_ad Y 0)), (1, .int a1), (2, .int a2), (5, .int v5), (6, .int x1), (7, .int x2)]) dzX8_topOf_83 (by decide) rfl ?_
          refine z_iinc O (lv' := [(5, .int (v5 + (1 : Int32))), (4, .int v4), (3, .int v3), (0, .ref (z_ad Y 0)), (1, .int a1), (2, .int a2), (6, .int x1), (7, .int x2)]) dzX8_topOf_85 5 rfl (congrArg _ hcI1) (by decide) rfl ?_
          refine z_goto O dzX8_topOf_88 ?_
          refine z_sub [3, 4, 5, 2, 1, 0] rfl ?_
          exact ih _ _ _ h
        · have h := z_if_f c1 h
          refine z_iload O dzX8_topOf_76 6 rfl ?_
          refine z_goto O dzX8_topOf_78 ?_
          refine z_istore O (lv' := [(4, .int x1), (3, .int v3), (0, .ref (z_ad Y 0)), (1, .int a1), (2, .int a2), (5, .int v5), (6, .int x1), (7, .int x2)]) dzX8_topOf_83 (by decide) rfl ?_
          refine z_iinc O (lv' := [(5, .int (v5 + (1 : Int32))), (4, .int x1), (3, .int v3), (0, .ref (z_ad Y 0)), (1, .int a1), (2, .int a2), (6, .int x1), (7, .int x2)]) dzX8_topOf_85 5 rfl (congrArg _ hcI1) (by decide) rfl ?_
          refine z_goto O dzX8_topOf_88 ?_
          refine z_sub [3, 4, 5, 2, 1, 0] rfl ?_
          exact ih _ _ _ h
      · have h := z_if_f c3 h
        refine z_iload O dzX8_topOf_62 5 rfl ?_
        refine z_goto O dzX8_topOf_64 ?_
        refine z_istore_n O (lv' := [(3, .int v5), (0, .ref (z_ad Y 0)), (1, .int a1), (2, .int a2), (4, .int v4), (5, .int v5), (6, .int x1), (7, .int x2)]) dzX8_topOf_68 rfl (by decide) rfl ?_
        refine z_iload O dzX8_topOf_69 6 rfl ?_
        refine z_iload O dzX8_topOf_71 4 rfl ?_
        refine z_icmp_le O dzX8_topOf_73 (fun c2 => ?_) (fun c2 => ?_)
        · have h := z_if_t c2 h
          refine z_iload O dzX8_topOf_81 4 rfl ?_
          refine z_istore O (lv' := [(4, .int v4), (3, .int v5), (0, .ref (z_ad Y 0)), (1, .int a1), (2, .int a2), (5, .int v5), (6, .int x1), (7, .int x2)]) dzX8_topOf_83 (by decide) rfl ?_
          refine z_iinc O (lv' := [(5, .int (v5 + (1 : Int32))), (4, .int v4), (3, .int v5), (0, .ref (z_ad Y 0)), (1, .int a1), (2, .int a2), (6, .int x1), (7, .int x2)]) dzX8_topOf_85 5 rfl (congrArg _ hcI1) (by decide) rfl ?_
          refine z_goto O dzX8_topOf_88 ?_
          refine z_sub [3, 4, 5, 2, 1, 0] rfl ?_
          exact ih _ _ _ h
        · have h := z_if_f c2 h
          refine z_iload O dzX8_topOf_76 6 rfl ?_
          refine z_goto O dzX8_topOf_78 ?_
          refine z_istore O (lv' := [(4, .int x1), (3, .int v5), (0, .ref (z_ad Y 0)), (1, .int a1), (2, .int a2), (5, .int v5), (6, .int x1), (7, .int x2)]) dzX8_topOf_83 (by decide) rfl ?_
          refine z_iinc O (lv' := [(5, .int (v5 + (1 : Int32))), (4, .int x1), (3, .int v5), (0, .ref (z_ad Y 0)), (1, .int a1), (2, .int a2), (6, .int x1), (7, .int x2)]) dzX8_topOf_85 5 rfl (congrArg _ hcI1) (by decide) rfl ?_
          refine z_goto O dzX8_topOf_88 ?_
          refine z_sub [3, 4, 5, 2, 1, 0] rfl ?_
          exact ih _ _ _ h
def fX8_topOf (σ : zS) (a1 : Int32) (a2 : Int32) : Option (Int32) :=
  fX8_topOf_L8 σ a1 a2 (fun (x1 : Int32) (x2 : Int32) (x3 : Int32) => some x1) z_F (-1 : Int32) (0 : Int32) (0 : Int32)
theorem kX8_topOf {l : Launch} {Y : zY} (hi : z_inj ΛM Y) {σ : zS} {a1 : Int32} {a2 : Int32} {fin : Int32} (h : fX8_topOf σ a1 a2 = some fin) : Met l yX8_topOf (Cond.code yX8_topOf cX8_topOf 8 (some .int) :: z_TB) (z_rm 1) (z_Pc ΛM Y σ [.ref (z_ad Y 0), .int a1, .int a2]) (z_Qi ΛM Y (fin, σ)) 0 0 (z_A ΛM Y) := by
  unfold fX8_topOf at h
  refine z_met [(0, .ref (z_ad Y 0)), (1, .int a1), (2, .int a2)] rfl (Nat.le_of_ble_eq_true rfl) (plainFor_of_name (by decide)) hi ?_
  intro p e s m args below meth c O hr hlk
  refine z_iconst O dzX8_topOf_0 hcIm1 ?_
  refine z_istore_n O (lv' := [(3, .int (-1 : Int32)), (0, .ref (z_ad Y 0)), (1, .int a1), (2, .int a2)]) dzX8_topOf_1 rfl (by decide) rfl ?_
  refine z_iconst O dzX8_topOf_2 hcI0 ?_
  refine z_istore O (lv' := [(4, .int (0 : Int32)), (3, .int (-1 : Int32)), (0, .ref (z_ad Y 0)), (1, .int a1), (2, .int a2)]) dzX8_topOf_3 (by decide) rfl ?_
  refine z_iconst O dzX8_topOf_5 hcI0 ?_
  refine z_istore O (lv' := [(5, .int (0 : Int32)), (4, .int (0 : Int32)), (3, .int (-1 : Int32)), (0, .ref (z_ad Y 0)), (1, .int a1), (2, .int a2)]) dzX8_topOf_6 (by decide) rfl ?_
  refine z_sub [3, 4, 5, 2, 1, 0] rfl ?_
  refine kX8_topOf_L8 O hi hr hlk   (fun x1 x2 x3 h => ?_) _ _ _ _ h
  refine z_iload_n O dzX8_topOf_91 rfl 3 rfl ?_
  exact z_iret O hr hlk dzX8_topOf_92 (z_rf h)
def fX8_grows_L138 (a1 : Int32) (a2 : Int32) (a4 : Int32) (k : zS → Int32 → Int32 → Option (zS)) : Nat → zS → Int32 → Int32 → Option (zS)
  | 0, _, _, _ => none
  | n + 1, σ, v6, v7 => (if a2 ≤ v7 then k σ v6 v7 else z_gd (z_in (((40 : Int32) * a1) + v7) 560) (z_lt (σ.1 16 (((40 : Int32) * a1) + v7).toNatClampNeg) (fun (x1 : Int32) => z_gd (z_in (((40 : Int32) * (a1 + (1 : Int32))) + v6) 560) (z_lt (z_sI σ 16 (((40 : Int32) * (a1 + (1 : Int32))) + v6).toNatClampNeg x1) (fun (w1 : zS) => (fX8_has x1 a4).bind (fun r1 => (if r1 = 0 then z_lt (v6 + (1 : Int32)) (fun (x2 : Int32) => fX8_grows_L138 a1 a2 a4 k n w1 x2 (v7 + (1 : Int32))) else z_lt (v6 + (0 : Int32)) (fun (x3 : Int32) => fX8_grows_L138 a1 a2 a4 k n w1 x3 (v7 + (1 : Int32))))))))))
theorem kX8_grows_L138 {l : Launch} {Y : zY} {fin : zS} {p : Program} {e : Env} {s : State} {m : MethodId} {args : Array Value} {below : List Frame} {meth : Method} {c : Code} {d : Nat} (O : z_ok ΛM Y p s m args c cX8_grows RX8 9) (hi : z_inj ΛM Y) (hr : meth.sig.returnType = none) (hlk : meth.locks = false) {a1 : Int32} {a2 : Int32} {b3 : Int32} {a4 : Int32} {k : zS → Int32 → Int32 → Option (zS)} (hk : ∀ (w : zS) (z6 : Int32) (z7 : Int32), k w z6 z7 = some fin → z_G p l e (z_rm (3 + d + 1)) s m args below meth c (MQ below (z_Qv ΛM Y fin) args s 0 0 (z_A ΛM Y)) ΛM Y 9 w [(0, .ref (z_ad Y 0)), (1, .int a1), (2, .int a2), (3, .int b3), (4, .int a4), (6, .int z6), (7, .int z7)] 200 []) : ∀ (n : Nat) (σ : zS) (v6 : Int32) (v7 : Int32), fX8_grows_L138 a1 a2 a4 k n σ v6 v7 = some fin → z_G p l e (z_rm (3 + d + 1)) s m args below meth c (MQ below (z_Qv ΛM Y fin) args s 0 0 (z_A ΛM Y)) ΛM Y 9 σ [(0, .ref (z_ad Y 0)), (1, .int a1), (2, .int a2), (3, .int b3), (4, .int a4), (6, .int v6), (7, .int v7)] 138 [] := by
  intro n
  induction n with
  | zero =>
    intro _ _ _ h
    cases h
  | succ n ih =>
    intro σ v6 v7 h
    rw [fX8_grows_L138.eq_2] at h
    refine z_iload O dzX8_grows_138 6 rfl ?_
    refine z_iload_n O dzX8_grows_140 rfl 2 rfl ?_
    refine z_icmp_ge O dzX8_grows_141 (fun c2 => ?_) (fun c2 => ?_)
    · have h := z_if_t c2 h
      exact hk _ _ _ h
    · have h := z_if_f c2 h
      refine z_aload_n O dzX8_grows_144 rfl 0 rfl ?_
      refine z_get O z_cb8 fm_obj (v := .ref (z_ad Y 16)) 19 (Nat.le_of_ble_eq_true rfl) tw_768 rfl dzX8_grows_145 ?_
      refine z_bipush O dzX8_grows_148 hcB40 ?_
      refine z_iload_n O dzX8_grows_150 rfl 1 rfl ?_
      refine z_imul O dzX8_grows_151 ?_
      refine z_iload O dzX8_grows_152 6 rfl ?_
      refine z_iadd O dzX8_grows_154 ?_
      obtain ⟨g1, h⟩ := z_gd_at h
      refine z_iald O fm_row g1 dzX8_grows_155 ?_
      refine z_topi (fun x1 e1 => ?_)
      have h := z_lt_at e1 h
      refine z_istore O (lv' := [(8, .int x1), (0, .ref (z_ad Y 0)), (1, .int a1), (2, .int a2), (3, .int b3), (4, .int a4), (6, .int v6), (7, .int v7)]) dzX8_grows_156 (by decide) rfl ?_
      refine z_aload_n O dzX8_grows_158 rfl 1 rfl ?_
      refine z_get O z_cb8 fm_obj (v := .ref (z_ad Y 16)) 19 (Nat.le_of_ble_eq_true rfl) tw_768 rfl dzX8_grows_159 ?_
      refine z_bipush O dzX8_grows_162 hcB40 ?_
      refine z_iload_n O dzX8_grows_164 rfl 2 rfl ?_
      refine z_iconst O dzX8_grows_165 hcI1 ?_
      refine z_iadd O dzX8_grows_166 ?_
      refine z_imul O dzX8_grows_167 ?_
      refine z_iload O dzX8_grows_168 6 rfl ?_
      refine z_iadd O dzX8_grows_170 ?_
      refine z_iload O dzX8_grows_171 0 rfl ?_
      obtain ⟨g2, h⟩ := z_gd_at h
      refine z_iast O fm_row g2 dzX8_grows_173 ?_
      refine z_sig (fun w1 e2 => ?_)
      have h := z_lt_at e2 h
      refine z_iload O dzX8_grows_174 6 rfl ?_
      refine z_iload O dzX8_grows_176 0 rfl ?_
      refine z_iload O dzX8_grows_178 5 rfl ?_
      obtain ⟨r1, hc1, h⟩ := z_bd_at h
      refine z_callSiR O (As := [.int x1, .int a4]) (rest := [.int v6]) (kX8_has hi hc1) mX8_has tw_1052 (by omega) rfl rfl (Nat.le_of_ble_eq_true rfl) dzX8_grows_180 ?_
      refine z_if_eq O dzX8_grows_183 (fun c1 => ?_) (fun c1 => ?_)
      · have h := z_if_t c1 h
        refine z_iconst O dzX8_grows_190 hcI1 ?_
        refine z_iadd O dzX8_grows_191 ?_
        refine z_topi (fun x2 e3 => ?_)
        have h := z_lt_at e3 h
        refine z_istore O (lv' := [(6, .int x2), (8, .int x1), (0, .ref (z_ad Y 0)), (1, .int a1), (2, .int a2), (3, .int b3), (4, .int a4), (7, .int v7)]) dzX8_grows_192 (by decide) rfl ?_
        refine z_iinc O (lv' := [(7, .int (v7 + (1 : Int32))), (6, .int x2), (8, .int x1), (0, .ref (z_ad Y 0)), (1, .int a1), (2, .int a2), (3, .int b3), (4, .int a4)]) dzX8_grows_194 7 rfl (congrArg _ hcI1) (by decide) rfl ?_
        refine z_goto O dzX8_grows_197 ?_
        refine z_sub [3, 4, 5, 6, 7, 1, 0] rfl ?_
        exact ih _ _ _ h
      · have h := z_if_f c1 h
        refine z_iconst O dzX8_grows_186 hcI0 ?_
        refine z_goto O dzX8_grows_187 ?_
        refine z_iadd O dzX8_grows_191 ?_
        refine z_topi (fun x3 e4 => ?_)
        have h := z_lt_at e4 h
        refine z_istore O (lv' := [(6, .int x3), (8, .int x1), (0, .ref (z_ad Y 0)), (1, .int a1), (2, .int a2), (3, .int b3), (4, .int a4), (7, .int v7)]) dzX8_grows_192 (by decide) rfl ?_
        refine z_iinc O (lv' := [(7, .int (v7 + (1 : Int32))), (6, .int x3), (8, .int x1), (0, .ref (z_ad Y 0)), (1, .int a1), (2, .int a2), (3, .int b3), (4, .int a4)]) dzX8_grows_194 7 rfl (congrArg _ hcI1) (by decide) rfl ?_
        refine z_goto O dzX8_grows_197 ?_
        refine z_sub [3, 4, 5, 6, 7, 1, 0] rfl ?_
        exact ih _ _ _ h
def fX8_grows_L218 (a1 : Int32) (a2 : Int32) (a4 : Int32) (k : zS → Int32 → Option (zS)) : Nat → zS → Int32 → Option (zS)
  | 0, _, _ => none
  | n + 1, σ, v7 => (if a2 ≤ v7 then k σ v7 else z_gd (z_in (((40 : Int32) * a1) + v7) 560) (z_gd (z_in (((40 : Int32) * (a1 + (1 : Int32))) + v7) 560) (z_lt (z_sI σ 16 (((40 : Int32) * (a1 + (1 : Int32))) + v7).toNatClampNeg ((σ.1 16 (((40 : Int32) * a1) + v7).toNatClampNeg) &&& (((1 : Int32) <<< (a4 &&& 31)) ^^^ (-1 : Int32)))) (fun (w1 : zS) => fX8_grows_L218 a1 a2 a4 k n w1 (v7 + (1 : Int32))))))
theorem kX8_grows_L218 {l : Launch} {Y : zY} {fin : zS} {p : Program} {e : Env} {s : State} {m : MethodId} {args : Array Value} {below : List Frame} {meth : Method} {c : Code} {d : Nat} (O : z_ok ΛM Y p s m args c cX8_grows RX8 9) (hi : z_inj ΛM Y) (hr : meth.sig.returnType = none) (hlk : meth.locks = false) {a1 : Int32} {a2 : Int32} {b3 : Int32} {a4 : Int32} {k : zS → Int32 → Option (zS)} (hk : ∀ (w : zS) (z7 : Int32), k w z7 = some fin → z_G p l e (z_rm (3 + d + 1)) s m args below meth c (MQ below (z_Qv ΛM Y fin) args s 0 0 (z_A ΛM Y)) ΛM Y 9 w [(0, .ref (z_ad Y 0)), (1, .int a1), (2, .int a2), (3, .int b3), (4, .int a4), (7, .int z7)] 263 []) : ∀ (n : Nat) (σ : zS) (v7 : Int32), fX8_grows_L218 a1 a2 a4 k n σ v7 = some fin → z_G p l e (z_rm (3 + d + 1)) s m args below meth c (MQ below (z_Qv ΛM Y fin) args s 0 0 (z_A ΛM Y)) ΛM Y 9 σ [(0, .ref (z_ad Y 0)), (1, .int a1), (2, .int a2), (3, .int b3), (4, .int a4), (7, .int v7)] 218 [] := by
  intro n
  induction n with
  | zero =>
    intro _ _ h
    cases h
  | succ n ih =>
    intro σ v7 h
    rw [fX8_grows_L218.eq_2] at h
    refine z_iload O dzX8_grows_218 5 rfl ?_
    refine z_iload_n O dzX8_grows_220 rfl 2 rfl ?_
    refine z_icmp_ge O dzX8_grows_221 (fun c1 => ?_) (fun c1 => ?_)
    · have h := z_if_t c1 h
      exact hk _ _ h
    · have h := z_if_f c1 h
      refine z_aload_n O dzX8_grows_224 rfl 0 rfl ?_
      refine z_get O z_cb8 fm_obj (v := .ref (z_ad Y 16)) 19 (Nat.le_of_ble_eq_true rfl) tw_768 rfl dzX8_grows_225 ?_
      refine z_bipush O dzX8_grows_228 hcB40 ?_
      refine z_iload_n O dzX8_grows_230 rfl 1 rfl ?_
      refine z_iconst O dzX8_grows_231 hcI1 ?_
      refine z_iadd O dzX8_grows_232 ?_
      refine z_imul O dzX8_grows_233 ?_
      refine z_iload O dzX8_grows_234 5 rfl ?_
      refine z_iadd O dzX8_grows_236 ?_
      refine z_aload_n O dzX8_grows_237 rfl 0 rfl ?_
      refine z_get O z_cb8 fm_obj (v := .ref (z_ad Y 16)) 19 (Nat.le_of_ble_eq_true rfl) tw_768 rfl dzX8_grows_238 ?_
      refine z_bipush O dzX8_grows_241 hcB40 ?_
      refine z_iload_n O dzX8_grows_243 rfl 1 rfl ?_
      refine z_imul O dzX8_grows_244 ?_
      refine z_iload O dzX8_grows_245 5 rfl ?_
      refine z_iadd O dzX8_grows_247 ?_
      obtain ⟨g1, h⟩ := z_gd_at h
      refine z_iald O fm_row g1 dzX8_grows_248 ?_
      refine z_iconst O dzX8_grows_249 hcI1 ?_
      refine z_iload O dzX8_grows_250 4 rfl ?_
      refine z_ishl O dzX8_grows_252 ?_
      refine z_iconst O dzX8_grows_253 hcIm1 ?_
      refine z_ixor O dzX8_grows_254 ?_
      refine z_iand O dzX8_grows_255 ?_
      obtain ⟨g2, h⟩ := z_gd_at h
      refine z_iast O fm_row g2 dzX8_grows_256 ?_
      refine z_sig (fun w1 e1 => ?_)
      have h := z_lt_at e1 h
      refine z_iinc O (lv' := [(7, .int (v7 + (1 : Int32))), (0, .ref (z_ad Y 0)), (1, .int a1), (2, .int a2), (3, .int b3), (4, .int a4)]) dzX8_grows_257 5 rfl (congrArg _ hcI1) (by decide) rfl ?_
      refine z_goto O dzX8_grows_260 ?_
      refine z_sub [1, 2, 3, 4, 5, 0] rfl ?_
      exact ih _ _ h
def fX8_grows : Nat → zS → Int32 → Int32 → Int32 → Option (zS)
  | 0, _, _, _, _ => none
  | d + 1, σ, a1, a2, a3 => (fX8_topOf σ a1 a2).bind (fun r1 => z_jn (fun (x1 : Int32) => z_jn (fun (w1 : zS) => z_lt (z_sI w1 0 20 ((w1.1 0 20) + (1 : Int32))) (fun (w2 : zS) => z_jn (fun (x2 : Int32) => z_lt (z_sI w2 0 21 x2) (fun (w3 : zS) => z_jn (fun (x3 : Int32) => z_lt (z_sI w3 0 22 ((w3.1 0 22) + x3)) (fun (w4 : zS) => (if x1 = 0 then fX8_grows_L138 a1 a2 r1 (fun (w5 : zS) (x4 : Int32) (x5 : Int32) => (fX8_grows d w5 (a1 + (1 : Int32)) x4 (a3 ||| ((1 : Int32) <<< (r1 &&& 31)))).bind (fun r2 => fX8_grows_L218 a1 a2 r1 (fun (w6 : zS) (x6 : Int32) => (fX8_thins w6 (a1 + (1 : Int32)) a2).bind (fun r3 => (fX8_grows d r3.2 (a1 + (1 : Int32)) r3.1 a3).bind (fun r4 => some r4))) z_F r2 (0 : Int32))) z_F w4 (0 : Int32) (0 : Int32) else some w4))) (fun j1 => (if a2 = 0 then j1 (1 : Int32) else j1 (0 : Int32))))) (fun j2 => (if a1 ≤ (w2.1 0 21) then j2 (w2.1 0 21) else j2 a1)))) (fun j3 => (if (σ.1 0 20) = (σ.1 0 23) then (if x1 = 0 then z_lt (z_sI σ 0 24 r1) (fun (w7 : zS) => z_lt (z_sI w7 0 25 a2) (fun (w8 : zS) => z_lt (z_sI w8 0 26 a1) (fun (w9 : zS) => z_lt (z_sI w9 0 27 a3) (fun (w10 : zS) => j3 w10)))) else z_lt (z_sI σ 0 24 (-1 : Int32)) (fun (w11 : zS) => z_lt (z_sI w11 0 25 a2) (fun (w12 : zS) => z_lt (z_sI w12 0 26 a1) (fun (w13 : zS) => z_lt (z_sI w13 0 27 a3) (fun (w14 : zS) => j3 w14))))) else j3 σ))) (fun j4 => (if a2 = 0 then j4 (1 : Int32) else (if r1 = (-1 : Int32) then j4 (1 : Int32) else z_gd (z_in ((40 : Int32) * a1) 560) ((if (σ.1 16 ((40 : Int32) * a1).toNatClampNeg) = 0 then j4 (1 : Int32) else j4 (0 : Int32)))))))
theorem kX8_grows {l : Launch} {Y : zY} (hi : z_inj ΛM Y) : ∀ (d : Nat) {σ : zS} {a1 : Int32} {a2 : Int32} {a3 : Int32} {fin : zS} (h : fX8_grows d σ a1 a2 a3 = some fin), Met l yX8_grows (Cond.code yX8_grows cX8_grows 9 none :: z_TB) (z_rm (3 + d)) (z_Pc ΛM Y σ [.ref (z_ad Y 0), .int a1, .int a2, .int a3]) (z_Qv ΛM Y fin) 0 0 (z_A ΛM Y) := by
  intro d
  induction d with
  | zero =>
    intro σ a1 a2 a3 fin h
    cases h
  | succ d ih =>
    intro σ a1 a2 a3 fin h
    rw [fX8_grows.eq_2] at h
    refine z_met [(0, .ref (z_ad Y 0)), (1, .int a1), (2, .int a2), (3, .int a3)] rfl (Nat.le_of_ble_eq_true rfl) (plainFor_of_name (by decide)) hi ?_
    intro p e s m args below meth c O hr hlk
    refine z_aload_n O dzX8_grows_0 rfl 0 rfl ?_
    refine z_iload_n O dzX8_grows_1 rfl 1 rfl ?_
    refine z_iload_n O dzX8_grows_2 rfl 2 rfl ?_
    obtain ⟨r1, hc1, h⟩ := z_bd_at h
    refine z_callViR O (As := [.int a1, .int a2]) (rest := []) (kX8_topOf hi hc1) mX8_topOf tw_1048 (by omega) fm_obj rfl rfl rfl rfl (Nat.le_of_ble_eq_true rfl) dzX8_grows_3 ?_
    refine z_istore O (lv' := [(4, .int r1), (0, .ref (z_ad Y 0)), (1, .int a1), (2, .int a2), (3, .int a3)]) dzX8_grows_6 (by decide) rfl ?_
    refine z_iload_n O dzX8_grows_8 rfl 3 rfl ?_
    refine z_jn_at (P := fun j4 => ∀ (x1 : Int32), j4 x1 = some fin → z_G p l e (z_rm (3 + d + 1)) s m args below meth c (MQ below (z_Qv ΛM Y fin) args s 0 0 (z_A ΛM Y)) ΛM Y 9 σ [(4, .int r1), (0, .ref (z_ad Y 0)), (1, .int a1), (2, .int a2), (3, .int a3)] 35 [.int x1]) h ?_ (fun j4 J4 h => ?_)
    · intro x1 h
      refine z_istore O (lv' := [(5, .int x1), (4, .int r1), (0, .ref (z_ad Y 0)), (1, .int a1), (2, .int a2), (3, .int a3)]) dzX8_grows_35 (by decide) rfl ?_
      refine z_aload_n O dzX8_grows_37 rfl 2 rfl ?_
      refine z_get O z_cb8 fm_obj (v := .int (σ.1 0 20)) 20 (Nat.le_of_ble_eq_true rfl) tw_769 rfl dzX8_grows_38 ?_
      refine z_aload_n O dzX8_grows_41 rfl 2 rfl ?_
      refine z_get O z_cb8 fm_obj (v := .int (σ.1 0 23)) 23 (Nat.le_of_ble_eq_true rfl) tw_772 rfl dzX8_grows_42 ?_
      refine z_jn_at (P := fun j3 => ∀ (w1 : zS), j3 w1 = some fin → z_G p l e (z_rm (3 + d + 1)) s m args below meth c (MQ below (z_Qv ΛM Y fin) args s 0 0 (z_A ΛM Y)) ΛM Y 9 w1 [(5, .int x1), (4, .int r1), (0, .ref (z_ad Y 0)), (1, .int a1), (2, .int a2), (3, .int a3)] 78 []) h ?_ (fun j3 J3 h => ?_)
      · intro w1 h
        refine z_aload_n O dzX8_grows_78 rfl 2 rfl ?_
        refine z_dup O dzX8_grows_79 rfl ?_
        refine z_get O z_cb8 fm_obj (v := .int (w1.1 0 20)) 20 (Nat.le_of_ble_eq_true rfl) tw_769 rfl dzX8_grows_80 ?_
        refine z_iconst O dzX8_grows_83 hcI1 ?_
        refine z_iadd O dzX8_grows_84 ?_
        refine z_put O z_cb8 fm_obj 20 (Nat.le_of_ble_eq_true rfl) tw_769 rfl rfl rfl fp_M20 dzX8_grows_85 ?_
        refine z_sig (fun w2 e1 => ?_)
        have h := z_lt_at e1 h
        refine z_aload_n O dzX8_grows_88 rfl 2 rfl ?_
        refine z_iload_n O dzX8_grows_89 rfl 3 rfl ?_
        refine z_aload_n O dzX8_grows_90 rfl 2 rfl ?_
        refine z_get O z_cb8 fm_obj (v := .int (w2.1 0 21)) 21 (Nat.le_of_ble_eq_true rfl) tw_770 rfl dzX8_grows_91 ?_
        refine z_jn_at (P := fun j2 => ∀ (x2 : Int32), j2 x2 = some fin → z_G p l e (z_rm (3 + d + 1)) s m args below meth c (MQ below (z_Qv ΛM Y fin) args s 0 0 (z_A ΛM Y)) ΛM Y 9 w2 [(5, .int x1), (4, .int r1), (0, .ref (z_ad Y 0)), (1, .int a1), (2, .int a2), (3, .int a3)] 105 [.int x2, .ref (z_ad Y 0)]) h ?_ (fun j2 J2 h => ?_)
        · intro x2 h
          refine z_put O z_cb8 fm_obj 21 (Nat.le_of_ble_eq_true rfl) tw_770 rfl rfl rfl fp_M21 dzX8_grows_105 ?_
          refine z_sig (fun w3 e2 => ?_)
          have h := z_lt_at e2 h
          refine z_aload_n O dzX8_grows_108 rfl 2 rfl ?_
          refine z_dup O dzX8_grows_109 rfl ?_
          refine z_get O z_cb8 fm_obj (v := .int (w3.1 0 22)) 22 (Nat.le_of_ble_eq_true rfl) tw_771 rfl dzX8_grows_110 ?_
          refine z_iload_n O dzX8_grows_113 rfl 4 rfl ?_
          refine z_jn_at (P := fun j1 => ∀ (x3 : Int32), j1 x3 = some fin → z_G p l e (z_rm (3 + d + 1)) s m args below meth c (MQ below (z_Qv ΛM Y fin) args s 0 0 (z_A ΛM Y)) ΛM Y 9 w3 [(5, .int x1), (4, .int r1), (0, .ref (z_ad Y 0)), (1, .int a1), (2, .int a2), (3, .int a3)] 122 [.int x3, .int (w3.1 0 22), .ref (z_ad Y 0)]) h ?_ (fun j1 J1 h => ?_)
          · intro x3 h
            refine z_iadd O dzX8_grows_122 ?_
            refine z_put O z_cb8 fm_obj 22 (Nat.le_of_ble_eq_true rfl) tw_771 rfl rfl rfl fp_M22 dzX8_grows_123 ?_
            refine z_sig (fun w4 e3 => ?_)
            have h := z_lt_at e3 h
            refine z_iload O dzX8_grows_126 0 rfl ?_
            refine z_if_eq O dzX8_grows_128 (fun c1 => ?_) (fun c1 => ?_)
            · have h := z_if_t c1 h
              refine z_iconst O dzX8_grows_132 hcI0 ?_
              refine z_istore O (lv' := [(6, .int (0 : Int32)), (5, .int x1), (4, .int r1), (0, .ref (z_ad Y 0)), (1, .int a1), (2, .int a2), (3, .int a3)]) dzX8_grows_133 (by decide) rfl ?_
              refine z_iconst O dzX8_grows_135 hcI0 ?_
              refine z_istore O (lv' := [(7, .int (0 : Int32)), (6, .int (0 : Int32)), (5, .int x1), (4, .int r1), (0, .ref (z_ad Y 0)), (1, .int a1), (2, .int a2), (3, .int a3)]) dzX8_grows_136 (by decide) rfl ?_
              refine z_sub [4, 5, 6, 7, 3, 1, 0] rfl ?_
              refine kX8_grows_L138 O hi hr hlk   (fun w5 x4 x5 h => ?_) _ _ _ _ h
              refine z_aload_n O dzX8_grows_200 rfl 0 rfl ?_
              refine z_iload_n O dzX8_grows_201 rfl 1 rfl ?_
              refine z_iconst O dzX8_grows_202 hcI1 ?_
              refine z_iadd O dzX8_grows_203 ?_
              refine z_iload O dzX8_grows_204 5 rfl ?_
              refine z_iload_n O dzX8_grows_206 rfl 3 rfl ?_
              refine z_iconst O dzX8_grows_207 hcI1 ?_
              refine z_iload O dzX8_grows_208 4 rfl ?_
              refine z_ishl O dzX8_grows_210 ?_
              refine z_ior O dzX8_grows_211 ?_
              obtain ⟨r2, hc2, h⟩ := z_bd_at h
              refine z_callVv O (As := [.int (a1 + (1 : Int32)), .int x4, .int (a3 ||| ((1 : Int32) <<< (r1 &&& 31)))]) (rest := []) (ih hc2) mX8_grows tw_1044 (by omega) fm_obj rfl rfl rfl rfl (Nat.le_of_ble_eq_true rfl) dzX8_grows_212 ?_
              refine z_iconst O dzX8_grows_215 hcI0 ?_
              refine z_istore O (lv' := [(7, .int (0 : Int32)), (0, .ref (z_ad Y 0)), (1, .int a1), (2, .int a2), (3, .int a3), (4, .int r1), (6, .int x4)]) dzX8_grows_216 (by decide) rfl ?_
              refine z_sub [1, 2, 3, 4, 5, 0] rfl ?_
              refine kX8_grows_L218 O hi hr hlk   (fun w6 x6 h => ?_) _ _ _ h
              refine z_aload_n O dzX8_grows_263 rfl 0 rfl ?_
              refine z_iload_n O dzX8_grows_264 rfl 1 rfl ?_
              refine z_iconst O dzX8_grows_265 hcI1 ?_
              refine z_iadd O dzX8_grows_266 ?_
              refine z_aload_n O dzX8_grows_267 rfl 0 rfl ?_
              refine z_iload_n O dzX8_grows_268 rfl 1 rfl ?_
              refine z_iconst O dzX8_grows_269 hcI1 ?_
              refine z_iadd O dzX8_grows_270 ?_
              refine z_iload_n O dzX8_grows_271 rfl 2 rfl ?_
              obtain ⟨r3, hc3, h⟩ := z_bd_at h
              refine z_callVi O (As := [.int (a1 + (1 : Int32)), .int a2]) (rest := [.int (a1 + (1 : Int32)), .ref (z_ad Y 0)]) (kX8_thins hi hc3) mX8_thins tw_1040 (by omega) fm_obj rfl rfl rfl rfl (Nat.le_of_ble_eq_true rfl) dzX8_grows_272 ?_
              refine z_iload_n O dzX8_grows_275 rfl 3 rfl ?_
              obtain ⟨r4, hc4, h⟩ := z_bd_at h
              refine z_callVv O (As := [.int (a1 + (1 : Int32)), .int r3.1, .int a3]) (rest := []) (ih hc4) mX8_grows tw_1044 (by omega) fm_obj rfl rfl rfl rfl (Nat.le_of_ble_eq_true rfl) dzX8_grows_276 ?_
              exact z_vret O hr hlk dzX8_grows_279 h
            · have h := z_if_f c1 h
              exact z_vret O hr hlk dzX8_grows_131 h
          · refine z_if_ne O dzX8_grows_114 (fun c2 => ?_) (fun c2 => ?_)
            · have h := z_if_f c2 h
              refine z_iconst O dzX8_grows_121 hcI0 ?_
              exact J1 (0 : Int32) h
            · have h := z_if_t c2 h
              refine z_iconst O dzX8_grows_117 hcI1 ?_
              refine z_goto O dzX8_grows_118 ?_
              exact J1 (1 : Int32) h
        · refine z_icmp_le O dzX8_grows_94 (fun c3 => ?_) (fun c3 => ?_)
          · have h := z_if_t c3 h
            refine z_aload_n O dzX8_grows_101 rfl 2 rfl ?_
            refine z_get O z_cb8 fm_obj (v := .int (w2.1 0 21)) 21 (Nat.le_of_ble_eq_true rfl) tw_770 rfl dzX8_grows_102 ?_
            exact J2 (w2.1 0 21) h
          · have h := z_if_f c3 h
            refine z_iload_n O dzX8_grows_97 rfl 3 rfl ?_
            refine z_goto O dzX8_grows_98 ?_
            exact J2 a1 h
      · refine z_icmp_ne O dzX8_grows_45 (fun c5 => ?_) (fun c5 => ?_)
        · have h := z_if_f c5 h
          exact J3 σ h
        · have h := z_if_t c5 h
          refine z_aload_n O dzX8_grows_48 rfl 2 rfl ?_
          refine z_iload O dzX8_grows_49 0 rfl ?_
          refine z_if_eq O dzX8_grows_51 (fun c4 => ?_) (fun c4 => ?_)
          · have h := z_if_t c4 h
            refine z_iload O dzX8_grows_58 1 rfl ?_
            refine z_put O z_cb8 fm_obj 24 (Nat.le_of_ble_eq_true rfl) tw_773 rfl rfl rfl fp_M24 dzX8_grows_60 ?_
            refine z_sig (fun w7 e4 => ?_)
            have h := z_lt_at e4 h
            refine z_aload_n O dzX8_grows_63 rfl 2 rfl ?_
            refine z_iload_n O dzX8_grows_64 rfl 4 rfl ?_
            refine z_put O z_cb8 fm_obj 25 (Nat.le_of_ble_eq_true rfl) tw_774 rfl rfl rfl fp_M25 dzX8_grows_65 ?_
            refine z_sig (fun w8 e5 => ?_)
            have h := z_lt_at e5 h
            refine z_aload_n O dzX8_grows_68 rfl 2 rfl ?_
            refine z_iload_n O dzX8_grows_69 rfl 3 rfl ?_
            refine z_put O z_cb8 fm_obj 26 (Nat.le_of_ble_eq_true rfl) tw_775 rfl rfl rfl fp_M26 dzX8_grows_70 ?_
            refine z_sig (fun w9 e6 => ?_)
            have h := z_lt_at e6 h
            refine z_aload_n O dzX8_grows_73 rfl 2 rfl ?_
            refine z_iload_n O dzX8_grows_74 rfl 5 rfl ?_
            refine z_put O z_cb8 fm_obj 27 (Nat.le_of_ble_eq_true rfl) tw_776 rfl rfl rfl fp_M27 dzX8_grows_75 ?_
            refine z_sig (fun w10 e7 => ?_)
            have h := z_lt_at e7 h
            exact J3 w10 h
          · have h := z_if_f c4 h
            refine z_iconst O dzX8_grows_54 hcIm1 ?_
            refine z_goto O dzX8_grows_55 ?_
            refine z_put O z_cb8 fm_obj 24 (Nat.le_of_ble_eq_true rfl) tw_773 rfl rfl rfl fp_M24 dzX8_grows_60 ?_
            refine z_sig (fun w11 e8 => ?_)
            have h := z_lt_at e8 h
            refine z_aload_n O dzX8_grows_63 rfl 2 rfl ?_
            refine z_iload_n O dzX8_grows_64 rfl 4 rfl ?_
            refine z_put O z_cb8 fm_obj 25 (Nat.le_of_ble_eq_true rfl) tw_774 rfl rfl rfl fp_M25 dzX8_grows_65 ?_
            refine z_sig (fun w12 e9 => ?_)
            have h := z_lt_at e9 h
            refine z_aload_n O dzX8_grows_68 rfl 2 rfl ?_
            refine z_iload_n O dzX8_grows_69 rfl 3 rfl ?_
            refine z_put O z_cb8 fm_obj 26 (Nat.le_of_ble_eq_true rfl) tw_775 rfl rfl rfl fp_M26 dzX8_grows_70 ?_
            refine z_sig (fun w13 e10 => ?_)
            have h := z_lt_at e10 h
            refine z_aload_n O dzX8_grows_73 rfl 2 rfl ?_
            refine z_iload_n O dzX8_grows_74 rfl 5 rfl ?_
            refine z_put O z_cb8 fm_obj 27 (Nat.le_of_ble_eq_true rfl) tw_776 rfl rfl rfl fp_M27 dzX8_grows_75 ?_
            refine z_sig (fun w14 e11 => ?_)
            have h := z_lt_at e11 h
            exact J3 w14 h
    · refine z_if_eq O dzX8_grows_9 (fun c8 => ?_) (fun c8 => ?_)
      · have h := z_if_t c8 h
        refine z_iconst O dzX8_grows_30 hcI1 ?_
        refine z_goto O dzX8_grows_31 ?_
        exact J4 (1 : Int32) h
      · have h := z_if_f c8 h
        refine z_iload O dzX8_grows_12 0 rfl ?_
        refine z_iconst O dzX8_grows_14 hcIm1 ?_
        refine z_icmp_eq O dzX8_grows_15 (fun c7 => ?_) (fun c7 => ?_)
        · have h := z_if_t c7 h
          refine z_iconst O dzX8_grows_30 hcI1 ?_
          refine z_goto O dzX8_grows_31 ?_
          exact J4 (1 : Int32) h
        · have h := z_if_f c7 h
          refine z_aload_n O dzX8_grows_18 rfl 1 rfl ?_
          refine z_get O z_cb8 fm_obj (v := .ref (z_ad Y 16)) 19 (Nat.le_of_ble_eq_true rfl) tw_768 rfl dzX8_grows_19 ?_
          refine z_bipush O dzX8_grows_22 hcB40 ?_
          refine z_iload_n O dzX8_grows_24 rfl 2 rfl ?_
          refine z_imul O dzX8_grows_25 ?_
          obtain ⟨g1, h⟩ := z_gd_at h
          refine z_iald O fm_row g1 dzX8_grows_26 ?_
          refine z_if_ne O dzX8_grows_27 (fun c6 => ?_) (fun c6 => ?_)
          · have h := z_if_f c6 h
            refine z_iconst O dzX8_grows_34 hcI0 ?_
            exact J4 (0 : Int32) h
          · have h := z_if_t c6 h
            refine z_iconst O dzX8_grows_30 hcI1 ?_
            refine z_goto O dzX8_grows_31 ?_
            exact J4 (1 : Int32) h
def fX8_findsTree_L22 (a1 : Int32) (k : zS → Int32 → Option (zS)) : Nat → zS → Int32 → Option (zS)
  | 0, _, _ => none
  | n + 1, σ, v3 => z_gd (z_in a1 4) ((if (σ.1 2 a1.toNatClampNeg) ≤ v3 then k σ v3 else (fX8_setOf σ a1 v3).bind (fun r1 => z_gd (z_in v3 560) (z_lt (z_sI σ 16 v3.toNatClampNeg r1) (fun (w1 : zS) => fX8_findsTree_L22 a1 k n w1 (v3 + (1 : Int32)))))))
theorem kX8_findsTree_L22 {l : Launch} {Y : zY} {fin : zS} {p : Program} {e : Env} {s : State} {m : MethodId} {args : Array Value} {below : List Frame} {meth : Method} {c : Code} (O : z_ok ΛM Y p s m args c cX8_findsTree RX8 4) (hi : z_inj ΛM Y) (hr : meth.sig.returnType = none) (hlk : meth.locks = false) {a1 : Int32} {k : zS → Int32 → Option (zS)} (hk : ∀ (w : zS) (z3 : Int32), k w z3 = some fin → z_G p l e (z_rm 19) s m args below meth c (MQ below (z_Qv ΛM Y fin) args s 0 0 (z_A ΛM Y)) ΛM Y 4 w [(0, .ref (z_ad Y 0)), (1, .int a1), (3, .int z3)] 50 []) : ∀ (n : Nat) (σ : zS) (v3 : Int32), fX8_findsTree_L22 a1 k n σ v3 = some fin → z_G p l e (z_rm 19) s m args below meth c (MQ below (z_Qv ΛM Y fin) args s 0 0 (z_A ΛM Y)) ΛM Y 4 σ [(0, .ref (z_ad Y 0)), (1, .int a1), (3, .int v3)] 22 [] := by
  intro n
  induction n with
  | zero =>
    intro _ _ h
    cases h
  | succ n ih =>
    intro σ v3 h
    rw [fX8_findsTree_L22.eq_2] at h
    refine z_iload_n O dzX8_findsTree_22 rfl 2 rfl ?_
    refine z_aload_n O dzX8_findsTree_23 rfl 0 rfl ?_
    refine z_get O z_cb8 fm_obj (v := .ref (z_ad Y 2)) 1 (Nat.le_of_ble_eq_true rfl) tw_750 rfl dzX8_findsTree_24 ?_
    refine z_iload_n O dzX8_findsTree_27 rfl 1 rfl ?_
    obtain ⟨g1, h⟩ := z_gd_at h
    refine z_iald O fm_sizes g1 dzX8_findsTree_28 ?_
    refine z_icmp_ge O dzX8_findsTree_29 (fun c1 => ?_) (fun c1 => ?_)
    · have h := z_if_t c1 h
      exact hk _ _ h
    · have h := z_if_f c1 h
      refine z_aload_n O dzX8_findsTree_32 rfl 0 rfl ?_
      refine z_get O z_cb8 fm_obj (v := .ref (z_ad Y 16)) 19 (Nat.le_of_ble_eq_true rfl) tw_768 rfl dzX8_findsTree_33 ?_
      refine z_iload_n O dzX8_findsTree_36 rfl 2 rfl ?_
      refine z_aload_n O dzX8_findsTree_37 rfl 0 rfl ?_
      refine z_iload_n O dzX8_findsTree_38 rfl 1 rfl ?_
      refine z_iload_n O dzX8_findsTree_39 rfl 2 rfl ?_
      obtain ⟨r1, hc1, h⟩ := z_bd_at h
      refine z_callViR O (As := [.int a1, .int v3]) (rest := [.int v3, .ref (z_ad Y 16)]) (kX8_setOf hi hc1) mX8_setOf tw_908 (Nat.le_of_ble_eq_true rfl) fm_obj rfl rfl rfl rfl (Nat.le_of_ble_eq_true rfl) dzX8_findsTree_40 ?_
      obtain ⟨g2, h⟩ := z_gd_at h
      refine z_iast O fm_row g2 dzX8_findsTree_43 ?_
      refine z_sig (fun w1 e1 => ?_)
      have h := z_lt_at e1 h
      refine z_iinc O (lv' := [(3, .int (v3 + (1 : Int32))), (0, .ref (z_ad Y 0)), (1, .int a1)]) dzX8_findsTree_44 2 rfl (congrArg _ hcI1) (by decide) rfl ?_
      refine z_goto O dzX8_findsTree_47 ?_
      refine z_sub [1, 2, 0] rfl ?_
      exact ih _ _ h
def fX8_findsTree (σ : zS) (a1 : Int32) (a2 : Int32) : Option (zS) :=
  z_lt (z_sI σ 0 20 (0 : Int32)) (fun (w1 : zS) => z_lt (z_sI w1 0 21 (0 : Int32)) (fun (w2 : zS) => z_lt (z_sI w2 0 22 (0 : Int32)) (fun (w3 : zS) => z_lt (z_sI w3 0 23 a2) (fun (w4 : zS) => fX8_findsTree_L22 a1 (fun (w5 : zS) (x1 : Int32) => z_gd (z_in a1 4) ((fX8_thins w5 (0 : Int32) (w5.1 2 a1.toNatClampNeg)).bind (fun r1 => (fX8_grows 15 r1.2 (0 : Int32) r1.1 (0 : Int32)).bind (fun r2 => some r2)))) z_F w4 (0 : Int32)))))
theorem kX8_findsTree {l : Launch} {Y : zY} (hi : z_inj ΛM Y) {σ : zS} {a1 : Int32} {a2 : Int32} {fin : zS} (h : fX8_findsTree σ a1 a2 = some fin) : Met l yX8_findsTree (Cond.code yX8_findsTree cX8_findsTree 4 none :: z_TB) (z_rm 19) (z_Pc ΛM Y σ [.ref (z_ad Y 0), .int a1, .int a2]) (z_Qv ΛM Y fin) 0 0 (z_A ΛM Y) := by
  unfold fX8_findsTree at h
  refine z_met [(0, .ref (z_ad Y 0)), (1, .int a1), (2, .int a2)] rfl (Nat.le_of_ble_eq_true rfl) (plainFor_of_name (by decide)) hi ?_
  intro p e s m args below meth c O hr hlk
  refine z_aload_n O dzX8_findsTree_0 rfl 0 rfl ?_
  refine z_iconst O dzX8_findsTree_1 hcI0 ?_
  refine z_put O z_cb8 fm_obj 20 (Nat.le_of_ble_eq_true rfl) tw_769 rfl rfl rfl fp_M20 dzX8_findsTree_2 ?_
  refine z_sig (fun w1 e1 => ?_)
  have h := z_lt_at e1 h
  refine z_aload_n O dzX8_findsTree_5 rfl 0 rfl ?_
  refine z_iconst O dzX8_findsTree_6 hcI0 ?_
  refine z_put O z_cb8 fm_obj 21 (Nat.le_of_ble_eq_true rfl) tw_770 rfl rfl rfl fp_M21 dzX8_findsTree_7 ?_
  refine z_sig (fun w2 e2 => ?_)
  have h := z_lt_at e2 h
  refine z_aload_n O dzX8_findsTree_10 rfl 0 rfl ?_
  refine z_iconst O dzX8_findsTree_11 hcI0 ?_
  refine z_put O z_cb8 fm_obj 22 (Nat.le_of_ble_eq_true rfl) tw_771 rfl rfl rfl fp_M22 dzX8_findsTree_12 ?_
  refine z_sig (fun w3 e3 => ?_)
  have h := z_lt_at e3 h
  refine z_aload_n O dzX8_findsTree_15 rfl 0 rfl ?_
  refine z_iload_n O dzX8_findsTree_16 rfl 2 rfl ?_
  refine z_put O z_cb8 fm_obj 23 (Nat.le_of_ble_eq_true rfl) tw_772 rfl rfl rfl fp_M23 dzX8_findsTree_17 ?_
  refine z_sig (fun w4 e4 => ?_)
  have h := z_lt_at e4 h
  refine z_iconst O dzX8_findsTree_20 hcI0 ?_
  refine z_istore_n O (lv' := [(3, .int (0 : Int32)), (0, .ref (z_ad Y 0)), (1, .int a1), (2, .int a2)]) dzX8_findsTree_21 rfl (by decide) rfl ?_
  refine z_sub [1, 2, 0] rfl ?_
  refine kX8_findsTree_L22 O hi hr hlk   (fun w5 x1 h => ?_) _ _ _ h
  refine z_aload_n O dzX8_findsTree_50 rfl 0 rfl ?_
  refine z_iconst O dzX8_findsTree_51 hcI0 ?_
  refine z_aload_n O dzX8_findsTree_52 rfl 0 rfl ?_
  refine z_iconst O dzX8_findsTree_53 hcI0 ?_
  refine z_aload_n O dzX8_findsTree_54 rfl 0 rfl ?_
  refine z_get O z_cb8 fm_obj (v := .ref (z_ad Y 2)) 1 (Nat.le_of_ble_eq_true rfl) tw_750 rfl dzX8_findsTree_55 ?_
  refine z_iload_n O dzX8_findsTree_58 rfl 1 rfl ?_
  obtain ⟨g1, h⟩ := z_gd_at h
  refine z_iald O fm_sizes g1 dzX8_findsTree_59 ?_
  obtain ⟨r1, hc1, h⟩ := z_bd_at h
  refine z_callVi O (As := [.int (0 : Int32), .int (w5.1 2 a1.toNatClampNeg)]) (rest := [.int (0 : Int32), .ref (z_ad Y 0)]) (kX8_thins hi hc1) mX8_thins tw_1040 (Nat.le_of_ble_eq_true rfl) fm_obj rfl rfl rfl rfl (Nat.le_of_ble_eq_true rfl) dzX8_findsTree_60 ?_
  refine z_iconst O dzX8_findsTree_63 hcI0 ?_
  obtain ⟨r2, hc2, h⟩ := z_bd_at h
  refine z_callVv O (As := [.int (0 : Int32), .int r1.1, .int (0 : Int32)]) (rest := []) (kX8_grows hi 15 hc2) mX8_grows tw_1044 (Nat.le_of_ble_eq_true rfl) fm_obj rfl rfl rfl rfl (Nat.le_of_ble_eq_true rfl) dzX8_findsTree_64 ?_
  exact z_vret O hr hlk dzX8_findsTree_67 h
def fX8_oftenIn_L5 (σ : zS) (a1 : Int32) (a2 : Int32) (k : Int32 → Int32 → Option (Int32)) : Nat → Int32 → Int32 → Option (Int32)
  | 0, _, _ => none
  | n + 1, v3, v4 => z_gd (z_in a1 4) ((if (σ.1 2 a1.toNatClampNeg) ≤ v4 then k v3 v4 else (fX8_setOf σ a1 v4).bind (fun r1 => z_lt (v3 + ((r1 >>> (a2 &&& 31)) &&& (1 : Int32))) (fun (x1 : Int32) => fX8_oftenIn_L5 σ a1 a2 k n x1 (v4 + (1 : Int32))))))
theorem kX8_oftenIn_L5 {l : Launch} {Y : zY} {fin : Int32} {p : Program} {e : Env} {s : State} {m : MethodId} {args : Array Value} {below : List Frame} {meth : Method} {c : Code} {σ : zS} (O : z_ok ΛM Y p s m args c cX8_oftenIn RX8 5) (hi : z_inj ΛM Y) (hr : meth.sig.returnType = (some .int)) (hlk : meth.locks = false) {a1 : Int32} {a2 : Int32} {k : Int32 → Int32 → Option (Int32)} (hk : ∀ (z3 : Int32) (z4 : Int32), k z3 z4 = some fin → z_G p l e (z_rm 2) s m args below meth c (MQ below (z_Qi ΛM Y (fin, σ)) args s 0 0 (z_A ΛM Y)) ΛM Y 5 σ [(0, .ref (z_ad Y 0)), (1, .int a1), (2, .int a2), (3, .int z3), (4, .int z4)] 36 []) : ∀ (n : Nat) (v3 : Int32) (v4 : Int32), fX8_oftenIn_L5 σ a1 a2 k n v3 v4 = some fin → z_G p l e (z_rm 2) s m args below meth c (MQ below (z_Qi ΛM Y (fin, σ)) args s 0 0 (z_A ΛM Y)) ΛM Y 5 σ [(0, .ref (z_ad Y 0)), (1, .int a1), (2, .int a2), (3, .int v3), (4, .int v4)] 5 [] := by
  intro n
  induction n with
  | zero =>
    intro _ _ h
    cases h
  | succ n ih =>
    intro v3 v4 h
    rw [fX8_oftenIn_L5.eq_2] at h
    refine z_iload O dzX8_oftenIn_5 4 rfl ?_
    refine z_aload_n O dzX8_oftenIn_7 rfl 0 rfl ?_
    refine z_get O z_cb8 fm_obj (v := .ref (z_ad Y 2)) 1 (Nat.le_of_ble_eq_true rfl) tw_750 rfl dzX8_oftenIn_8 ?_
    refine z_iload_n O dzX8_oftenIn_11 rfl 1 rfl ?_
    obtain ⟨g1, h⟩ := z_gd_at h
    refine z_iald O fm_sizes g1 dzX8_oftenIn_12 ?_
    refine z_icmp_ge O dzX8_oftenIn_13 (fun c1 => ?_) (fun c1 => ?_)
    · have h := z_if_t c1 h
      exact hk _ _ h
    · have h := z_if_f c1 h
      refine z_iload_n O dzX8_oftenIn_16 rfl 3 rfl ?_
      refine z_aload_n O dzX8_oftenIn_17 rfl 0 rfl ?_
      refine z_iload_n O dzX8_oftenIn_18 rfl 1 rfl ?_
      refine z_iload O dzX8_oftenIn_19 4 rfl ?_
      obtain ⟨r1, hc1, h⟩ := z_bd_at h
      refine z_callViR O (As := [.int a1, .int v4]) (rest := [.int v3]) (kX8_setOf hi hc1) mX8_setOf tw_908 (Nat.le_of_ble_eq_true rfl) fm_obj rfl rfl rfl rfl (Nat.le_of_ble_eq_true rfl) dzX8_oftenIn_21 ?_
      refine z_iload_n O dzX8_oftenIn_24 rfl 2 rfl ?_
      refine z_ishr O dzX8_oftenIn_25 ?_
      refine z_iconst O dzX8_oftenIn_26 hcI1 ?_
      refine z_iand O dzX8_oftenIn_27 ?_
      refine z_iadd O dzX8_oftenIn_28 ?_
      refine z_topi (fun x1 e1 => ?_)
      have h := z_lt_at e1 h
      refine z_istore_n O (lv' := [(3, .int x1), (0, .ref (z_ad Y 0)), (1, .int a1), (2, .int a2), (4, .int v4)]) dzX8_oftenIn_29 rfl (by decide) rfl ?_
      refine z_iinc O (lv' := [(4, .int (v4 + (1 : Int32))), (3, .int x1), (0, .ref (z_ad Y 0)), (1, .int a1), (2, .int a2)]) dzX8_oftenIn_30 4 rfl (congrArg _ hcI1) (by decide) rfl ?_
      refine z_goto O dzX8_oftenIn_33 ?_
      refine z_sub [2, 3, 4, 1, 0] rfl ?_
      exact ih _ _ h
def fX8_oftenIn (σ : zS) (a1 : Int32) (a2 : Int32) : Option (Int32) :=
  fX8_oftenIn_L5 σ a1 a2 (fun (x1 : Int32) (x2 : Int32) => some x1) z_F (0 : Int32) (0 : Int32)
theorem kX8_oftenIn {l : Launch} {Y : zY} (hi : z_inj ΛM Y) {σ : zS} {a1 : Int32} {a2 : Int32} {fin : Int32} (h : fX8_oftenIn σ a1 a2 = some fin) : Met l yX8_oftenIn (Cond.code yX8_oftenIn cX8_oftenIn 5 (some .int) :: z_TB) (z_rm 2) (z_Pc ΛM Y σ [.ref (z_ad Y 0), .int a1, .int a2]) (z_Qi ΛM Y (fin, σ)) 0 0 (z_A ΛM Y) := by
  unfold fX8_oftenIn at h
  refine z_met [(0, .ref (z_ad Y 0)), (1, .int a1), (2, .int a2)] rfl (Nat.le_of_ble_eq_true rfl) (plainFor_of_name (by decide)) hi ?_
  intro p e s m args below meth c O hr hlk
  refine z_iconst O dzX8_oftenIn_0 hcI0 ?_
  refine z_istore_n O (lv' := [(3, .int (0 : Int32)), (0, .ref (z_ad Y 0)), (1, .int a1), (2, .int a2)]) dzX8_oftenIn_1 rfl (by decide) rfl ?_
  refine z_iconst O dzX8_oftenIn_2 hcI0 ?_
  refine z_istore O (lv' := [(4, .int (0 : Int32)), (3, .int (0 : Int32)), (0, .ref (z_ad Y 0)), (1, .int a1), (2, .int a2)]) dzX8_oftenIn_3 (by decide) rfl ?_
  refine z_sub [2, 3, 4, 1, 0] rfl ?_
  refine kX8_oftenIn_L5 O hi hr hlk   (fun x1 x2 h => ?_) _ _ _ h
  refine z_iload_n O dzX8_oftenIn_36 rfl 3 rfl ?_
  exact z_iret O hr hlk dzX8_oftenIn_37 (z_rf h)
def fX8_freqs_L19 (a1 : Int32) (a2 : Int32) (k : zS → Int32 → Option (Int32 × zS)) : Nat → zS → Int32 → Option (Int32 × zS)
  | 0, _, _ => none
  | n + 1, σ, v3 => (if (12 : Int32) ≤ v3 then k σ v3 else (fX8_oftenIn σ a2 v3).bind (fun r1 => (fX8_cell σ a1 v3 (r1.toInt64)).bind (fun r2 => (if 0 ≤ r2.1 then fX8_freqs_L19 a1 a2 k n r2.2 (v3 + (1 : Int32)) else some (r2.1, r2.2)))))
theorem kX8_freqs_L19 {l : Launch} {Y : zY} {fin : Int32 × zS} {p : Program} {e : Env} {s : State} {m : MethodId} {args : Array Value} {below : List Frame} {meth : Method} {c : Code} (O : z_ok ΛM Y p s m args c cX8_freqs RX8 5) (hi : z_inj ΛM Y) (hr : meth.sig.returnType = (some .int)) (hlk : meth.locks = false) {a1 : Int32} {a2 : Int32} {k : zS → Int32 → Option (Int32 × zS)} (hk : ∀ (w : zS) (z3 : Int32), k w z3 = some fin → z_G p l e (z_rm 5) s m args below meth c (MQ below (z_Qi ΛM Y fin) args s 0 0 (z_A ΛM Y)) ΛM Y 5 w [(0, .ref (z_ad Y 0)), (1, .int a1), (2, .int a2), (3, .int z3)] 54 []) : ∀ (n : Nat) (σ : zS) (v3 : Int32), fX8_freqs_L19 a1 a2 k n σ v3 = some fin → z_G p l e (z_rm 5) s m args below meth c (MQ below (z_Qi ΛM Y fin) args s 0 0 (z_A ΛM Y)) ΛM Y 5 σ [(0, .ref (z_ad Y 0)), (1, .int a1), (2, .int a2), (3, .int v3)] 19 [] := by
  intro n
  induction n with
  | zero =>
    intro _ _ h
    cases h
  | succ n ih =>
    intro σ v3 h
    rw [fX8_freqs_L19.eq_2] at h
    refine z_iload_n O dzX8_freqs_19 rfl 3 rfl ?_
    refine z_bipush O dzX8_freqs_20 hcB12 ?_
    refine z_icmp_ge O dzX8_freqs_22 (fun c2 => ?_) (fun c2 => ?_)
    · have h := z_if_t c2 h
      exact hk _ _ h
    · have h := z_if_f c2 h
      refine z_aload_n O dzX8_freqs_25 rfl 0 rfl ?_
      refine z_iload_n O dzX8_freqs_26 rfl 1 rfl ?_
      refine z_iload_n O dzX8_freqs_27 rfl 3 rfl ?_
      refine z_aload_n O dzX8_freqs_28 rfl 0 rfl ?_
      refine z_iload_n O dzX8_freqs_29 rfl 2 rfl ?_
      refine z_iload_n O dzX8_freqs_30 rfl 3 rfl ?_
      obtain ⟨r1, hc1, h⟩ := z_bd_at h
      refine z_callViR O (As := [.int a2, .int v3]) (rest := [.int v3, .int a1, .ref (z_ad Y 0)]) (kX8_oftenIn hi hc1) mX8_oftenIn tw_956 (Nat.le_of_ble_eq_true rfl) fm_obj rfl rfl rfl rfl (Nat.le_of_ble_eq_true rfl) dzX8_freqs_31 ?_
      refine z_i2l O dzX8_freqs_34 ?_
      obtain ⟨r2, hc2, h⟩ := z_bd_at h
      refine z_callVi O (As := [.int a1, .int v3, .long (r1.toInt64)]) (rest := []) (kX8_cell hi hc2) mX8_cell tw_1169 (Nat.le_of_ble_eq_true rfl) fm_obj rfl rfl rfl rfl (Nat.le_of_ble_eq_true rfl) dzX8_freqs_35 ?_
      refine z_istore O (lv' := [(4, .int r2.1), (0, .ref (z_ad Y 0)), (1, .int a1), (2, .int a2), (3, .int v3)]) dzX8_freqs_38 (by decide) rfl ?_
      refine z_iload O dzX8_freqs_40 0 rfl ?_
      refine z_if_ge O dzX8_freqs_42 (fun c1 => ?_) (fun c1 => ?_)
      · have h := z_if_t c1 h
        refine z_iinc O (lv' := [(3, .int (v3 + (1 : Int32))), (4, .int r2.1), (0, .ref (z_ad Y 0)), (1, .int a1), (2, .int a2)]) dzX8_freqs_48 4 rfl (congrArg _ hcI1) (by decide) rfl ?_
        refine z_goto O dzX8_freqs_51 ?_
        refine z_sub [2, 3, 4, 0] rfl ?_
        exact ih _ _ h
      · have h := z_if_f c1 h
        refine z_iload O dzX8_freqs_45 0 rfl ?_
        exact z_iret O hr hlk dzX8_freqs_47 h
def fX8_freqs (σ : zS) (a1 : Int32) (a2 : Int32) : Option (Int32 × zS) :=
  (fX8_isSheet a1).bind (fun r1 => (if r1 = 0 then some ((-2 : Int32), σ) else (fX8_isFamily a2).bind (fun r2 => (if r2 = 0 then some ((-2 : Int32), σ) else fX8_freqs_L19 a1 a2 (fun (w1 : zS) (x1 : Int32) => some ((12 : Int32), w1)) z_F σ (0 : Int32)))))
theorem kX8_freqs {l : Launch} {Y : zY} (hi : z_inj ΛM Y) {σ : zS} {a1 : Int32} {a2 : Int32} {fin : Int32 × zS} (h : fX8_freqs σ a1 a2 = some fin) : Met l yX8_freqs (Cond.code yX8_freqs cX8_freqs 5 (some .int) :: z_TB) (z_rm 5) (z_Pc ΛM Y σ [.ref (z_ad Y 0), .int a1, .int a2]) (z_Qi ΛM Y fin) 0 0 (z_A ΛM Y) := by
  unfold fX8_freqs at h
  refine z_met [(0, .ref (z_ad Y 0)), (1, .int a1), (2, .int a2)] rfl (Nat.le_of_ble_eq_true rfl) (plainFor_of_name (by decide)) hi ?_
  intro p e s m args below meth c O hr hlk
  refine z_iload_n O dzX8_freqs_0 rfl 1 rfl ?_
  obtain ⟨r1, hc1, h⟩ := z_bd_at h
  refine z_callSiR O (As := [.int a1]) (rest := []) (kX8_isSheet hi hc1) mX8_isSheet tw_1144 (Nat.le_of_ble_eq_true rfl) rfl rfl (Nat.le_of_ble_eq_true rfl) dzX8_freqs_1 ?_
  refine z_if_eq O dzX8_freqs_4 (fun c2 => ?_) (fun c2 => ?_)
  · have h := z_if_t c2 h
    refine z_bipush O dzX8_freqs_14 hcBm2 ?_
    exact z_iret O hr hlk dzX8_freqs_16 h
  · have h := z_if_f c2 h
    refine z_iload_n O dzX8_freqs_7 rfl 2 rfl ?_
    obtain ⟨r2, hc2, h⟩ := z_bd_at h
    refine z_callSiR O (As := [.int a2]) (rest := []) (kX8_isFamily hi hc2) mX8_isFamily tw_892 (Nat.le_of_ble_eq_true rfl) rfl rfl (Nat.le_of_ble_eq_true rfl) dzX8_freqs_8 ?_
    refine z_if_ne O dzX8_freqs_11 (fun c1 => ?_) (fun c1 => ?_)
    · have h := z_if_f c1 h
      refine z_iconst O dzX8_freqs_17 hcI0 ?_
      refine z_istore_n O (lv' := [(3, .int (0 : Int32)), (0, .ref (z_ad Y 0)), (1, .int a1), (2, .int a2)]) dzX8_freqs_18 rfl (by decide) rfl ?_
      refine z_sub [1, 2, 3, 0] rfl ?_
      refine kX8_freqs_L19 O hi hr hlk   (fun w1 x1 h => ?_) _ _ _ h
      refine z_bipush O dzX8_freqs_54 hcB12 ?_
      exact z_iret O hr hlk dzX8_freqs_56 h
    · have h := z_if_t c1 h
      refine z_bipush O dzX8_freqs_14 hcBm2 ?_
      exact z_iret O hr hlk dzX8_freqs_16 h
def fX8_hasPart_L2 (σ : zS) (a1 : Int32) (a2 : Int32) (k : Int32 → Option (Int32)) : Nat → Int32 → Option (Int32)
  | 0, _ => none
  | n + 1, v3 => z_gd (z_in a1 4) ((if (σ.1 2 a1.toNatClampNeg) ≤ v3 then k v3 else (if v3 = a2 then fX8_hasPart_L2 σ a1 a2 k n (v3 + (1 : Int32)) else (fX8_setOf σ a1 v3).bind (fun r1 => (fX8_setOf σ a1 a2).bind (fun r2 => (fX8_isPart r1 r2).bind (fun r3 => (if r3 = 0 then fX8_hasPart_L2 σ a1 a2 k n (v3 + (1 : Int32)) else some (1 : Int32))))))))
theorem kX8_hasPart_L2 {l : Launch} {Y : zY} {fin : Int32} {p : Program} {e : Env} {s : State} {m : MethodId} {args : Array Value} {below : List Frame} {meth : Method} {c : Code} {σ : zS} (O : z_ok ΛM Y p s m args c cX8_hasPart RX8 4) (hi : z_inj ΛM Y) (hr : meth.sig.returnType = (some .boolean)) (hlk : meth.locks = false) {a1 : Int32} {a2 : Int32} {k : Int32 → Option (Int32)} (hk : ∀ (z3 : Int32), k z3 = some fin → z_G p l e (z_rm 2) s m args below meth c (MQ below (z_Qi ΛM Y (fin, σ)) args s 0 0 (z_A ΛM Y)) ΛM Y 4 σ [(0, .ref (z_ad Y 0)), (1, .int a1), (2, .int a2), (3, .int z3)] 43 []) : ∀ (n : Nat) (v3 : Int32), fX8_hasPart_L2 σ a1 a2 k n v3 = some fin → z_G p l e (z_rm 2) s m args below meth c (MQ below (z_Qi ΛM Y (fin, σ)) args s 0 0 (z_A ΛM Y)) ΛM Y 4 σ [(0, .ref (z_ad Y 0)), (1, .int a1), (2, .int a2), (3, .int v3)] 2 [] := by
  intro n
  induction n with
  | zero =>
    intro _ h
    cases h
  | succ n ih =>
    intro v3 h
    rw [fX8_hasPart_L2.eq_2] at h
    refine z_iload_n O dzX8_hasPart_2 rfl 3 rfl ?_
    refine z_aload_n O dzX8_hasPart_3 rfl 0 rfl ?_
    refine z_get O z_cb8 fm_obj (v := .ref (z_ad Y 2)) 1 (Nat.le_of_ble_eq_true rfl) tw_750 rfl dzX8_hasPart_4 ?_
    refine z_iload_n O dzX8_hasPart_7 rfl 1 rfl ?_
    obtain ⟨g1, h⟩ := z_gd_at h
    refine z_iald O fm_sizes g1 dzX8_hasPart_8 ?_
    refine z_icmp_ge O dzX8_hasPart_9 (fun c3 => ?_) (fun c3 => ?_)
    · have h := z_if_t c3 h
      exact hk _ h
    · have h := z_if_f c3 h
      refine z_iload_n O dzX8_hasPart_12 rfl 3 rfl ?_
      refine z_iload_n O dzX8_hasPart_13 rfl 2 rfl ?_
      refine z_icmp_eq O dzX8_hasPart_14 (fun c2 => ?_) (fun c2 => ?_)
      · have h := z_if_t c2 h
        refine z_iinc O (lv' := [(3, .int (v3 + (1 : Int32))), (0, .ref (z_ad Y 0)), (1, .int a1), (2, .int a2)]) dzX8_hasPart_37 3 rfl (congrArg _ hcI1) (by decide) rfl ?_
        refine z_goto O dzX8_hasPart_40 ?_
        refine z_sub [1, 2, 3, 0] rfl ?_
        exact ih _ h
      · have h := z_if_f c2 h
        refine z_aload_n O dzX8_hasPart_17 rfl 0 rfl ?_
        refine z_iload_n O dzX8_hasPart_18 rfl 1 rfl ?_
        refine z_iload_n O dzX8_hasPart_19 rfl 3 rfl ?_
        obtain ⟨r1, hc1, h⟩ := z_bd_at h
        refine z_callViR O (As := [.int a1, .int v3]) (rest := []) (kX8_setOf hi hc1) mX8_setOf tw_908 (Nat.le_of_ble_eq_true rfl) fm_obj rfl rfl rfl rfl (Nat.le_of_ble_eq_true rfl) dzX8_hasPart_20 ?_
        refine z_aload_n O dzX8_hasPart_23 rfl 0 rfl ?_
        refine z_iload_n O dzX8_hasPart_24 rfl 1 rfl ?_
        refine z_iload_n O dzX8_hasPart_25 rfl 2 rfl ?_
        obtain ⟨r2, hc2, h⟩ := z_bd_at h
        refine z_callViR O (As := [.int a1, .int a2]) (rest := [.int r1]) (kX8_setOf hi hc2) mX8_setOf tw_908 (Nat.le_of_ble_eq_true rfl) fm_obj rfl rfl rfl rfl (Nat.le_of_ble_eq_true rfl) dzX8_hasPart_26 ?_
        obtain ⟨r3, hc3, h⟩ := z_bd_at h
        refine z_callSiR O (As := [.int r1, .int r2]) (rest := []) (kX8_isPart hi hc3) mX8_isPart tw_972 (Nat.le_of_ble_eq_true rfl) rfl rfl (Nat.le_of_ble_eq_true rfl) dzX8_hasPart_29 ?_
        refine z_if_eq O dzX8_hasPart_32 (fun c1 => ?_) (fun c1 => ?_)
        · have h := z_if_t c1 h
          refine z_iinc O (lv' := [(3, .int (v3 + (1 : Int32))), (0, .ref (z_ad Y 0)), (1, .int a1), (2, .int a2)]) dzX8_hasPart_37 3 rfl (congrArg _ hcI1) (by decide) rfl ?_
          refine z_goto O dzX8_hasPart_40 ?_
          refine z_sub [1, 2, 3, 0] rfl ?_
          exact ih _ h
        · have h := z_if_f c1 h
          refine z_iconst O dzX8_hasPart_35 hcI1 ?_
          exact z_zret O hr hlk rfl dzX8_hasPart_36 (z_rf h)
def fX8_hasPart (σ : zS) (a1 : Int32) (a2 : Int32) : Option (Int32) :=
  fX8_hasPart_L2 σ a1 a2 (fun (x1 : Int32) => some (0 : Int32)) z_F (0 : Int32)
theorem kX8_hasPart {l : Launch} {Y : zY} (hi : z_inj ΛM Y) {σ : zS} {a1 : Int32} {a2 : Int32} {fin : Int32} (h : fX8_hasPart σ a1 a2 = some fin) : Met l yX8_hasPart (Cond.code yX8_hasPart cX8_hasPart 4 (some .boolean) :: z_TB) (z_rm 2) (z_Pc ΛM Y σ [.ref (z_ad Y 0), .int a1, .int a2]) (z_Qi ΛM Y (fin, σ)) 0 0 (z_A ΛM Y) := by
  unfold fX8_hasPart at h
  refine z_met [(0, .ref (z_ad Y 0)), (1, .int a1), (2, .int a2)] rfl (Nat.le_of_ble_eq_true rfl) (plainFor_of_name (by decide)) hi ?_
  intro p e s m args below meth c O hr hlk
  refine z_iconst O dzX8_hasPart_0 hcI0 ?_
  refine z_istore_n O (lv' := [(3, .int (0 : Int32)), (0, .ref (z_ad Y 0)), (1, .int a1), (2, .int a2)]) dzX8_hasPart_1 rfl (by decide) rfl ?_
  refine z_sub [1, 2, 3, 0] rfl ?_
  refine kX8_hasPart_L2 O hi hr hlk   (fun x1 h => ?_) _ _ h
  refine z_iconst O dzX8_hasPart_43 hcI0 ?_
  exact z_zret O hr hlk rfl dzX8_hasPart_44 (z_rf h)
def fX8_image (σ : zS) : Option (Int32 × zS) :=
  z_lt (z_sI σ 0 33 (1 : Int32)) (fun (w1 : zS) => (fX8_copies w1 1 12 22 12).bind (fun r1 => (fX8_copies r1 2 4 23 4).bind (fun r2 => (fX8_copies r2 3 160 24 160).bind (fun r3 => (fX8_copies r3 4 160 25 160).bind (fun r4 => z_lt (z_sI r4 0 38 (r4.1 0 4)) (fun (w2 : zS) => (fX8_allHeld w2).bind (fun r5 => some (r5, w2))))))))
theorem kX8_image {l : Launch} {Y : zY} (hi : z_inj ΛM Y) {σ : zS}  {fin : Int32 × zS} (h : fX8_image σ = some fin) : Met l yX8_image (Cond.code yX8_image cX8_image 1 (some .int) :: z_TB) (z_rm 2) (z_Pc ΛM Y σ [.ref (z_ad Y 0)]) (z_Qi ΛM Y fin) 0 0 (z_A ΛM Y) := by
  unfold fX8_image at h
  refine z_met [(0, .ref (z_ad Y 0))] rfl (Nat.le_of_ble_eq_true rfl) (plainFor_of_name (by decide)) hi ?_
  intro p e s m args below meth c O hr hlk
  refine z_aload_n O dzX8_image_0 rfl 0 rfl ?_
  refine z_iconst O dzX8_image_1 hcI1 ?_
  refine z_put O z_cb8 fm_obj 33 (Nat.le_of_ble_eq_true rfl) tw_782 rfl rfl rfl fp_M33 dzX8_image_2 ?_
  refine z_sig (fun w1 e1 => ?_)
  have h := z_lt_at e1 h
  refine z_aload_n O dzX8_image_5 rfl 0 rfl ?_
  refine z_get O z_cb8 fm_obj (v := .ref (z_ad Y 1)) 0 (Nat.le_of_ble_eq_true rfl) tw_749 rfl dzX8_image_6 ?_
  refine z_aload_n O dzX8_image_9 rfl 0 rfl ?_
  refine z_get O z_cb8 fm_obj (v := .ref (z_ad Y 22)) 34 (Nat.le_of_ble_eq_true rfl) tw_783 rfl dzX8_image_10 ?_
  obtain ⟨r1, hc1, h⟩ := z_bd_at h
  refine z_callSv O (As := [.ref (z_ad Y 1), .ref (z_ad Y 22)]) (rest := []) (kX8_copies hi fm_price fm_keptPrice hc1) mX8_copies tw_1183 (Nat.le_of_ble_eq_true rfl) rfl rfl (Nat.le_of_ble_eq_true rfl) dzX8_image_13 ?_
  refine z_aload_n O dzX8_image_16 rfl 0 rfl ?_
  refine z_get O z_cb8 fm_obj (v := .ref (z_ad Y 2)) 1 (Nat.le_of_ble_eq_true rfl) tw_750 rfl dzX8_image_17 ?_
  refine z_aload_n O dzX8_image_20 rfl 0 rfl ?_
  refine z_get O z_cb8 fm_obj (v := .ref (z_ad Y 23)) 35 (Nat.le_of_ble_eq_true rfl) tw_784 rfl dzX8_image_21 ?_
  obtain ⟨r2, hc2, h⟩ := z_bd_at h
  refine z_callSv O (As := [.ref (z_ad Y 2), .ref (z_ad Y 23)]) (rest := []) (kX8_copies hi fm_sizes fm_keptSizes hc2) mX8_copies tw_1183 (Nat.le_of_ble_eq_true rfl) rfl rfl (Nat.le_of_ble_eq_true rfl) dzX8_image_24 ?_
  refine z_aload_n O dzX8_image_27 rfl 0 rfl ?_
  refine z_get O z_cb8 fm_obj (v := .ref (z_ad Y 3)) 2 (Nat.le_of_ble_eq_true rfl) tw_751 rfl dzX8_image_28 ?_
  refine z_aload_n O dzX8_image_31 rfl 0 rfl ?_
  refine z_get O z_cb8 fm_obj (v := .ref (z_ad Y 24)) 36 (Nat.le_of_ble_eq_true rfl) tw_785 rfl dzX8_image_32 ?_
  obtain ⟨r3, hc3, h⟩ := z_bd_at h
  refine z_callSv O (As := [.ref (z_ad Y 3), .ref (z_ad Y 24)]) (rest := []) (kX8_copies hi fm_sets fm_keptSets hc3) mX8_copies tw_1183 (Nat.le_of_ble_eq_true rfl) rfl rfl (Nat.le_of_ble_eq_true rfl) dzX8_image_35 ?_
  refine z_aload_n O dzX8_image_38 rfl 0 rfl ?_
  refine z_get O z_cb8 fm_obj (v := .ref (z_ad Y 4)) 3 (Nat.le_of_ble_eq_true rfl) tw_752 rfl dzX8_image_39 ?_
  refine z_aload_n O dzX8_image_42 rfl 0 rfl ?_
  refine z_get O z_cb8 fm_obj (v := .ref (z_ad Y 25)) 37 (Nat.le_of_ble_eq_true rfl) tw_786 rfl dzX8_image_43 ?_
  obtain ⟨r4, hc4, h⟩ := z_bd_at h
  refine z_callSv O (As := [.ref (z_ad Y 4), .ref (z_ad Y 25)]) (rest := []) (kX8_copies hi fm_tallies fm_keptTallies hc4) mX8_copies tw_1183 (Nat.le_of_ble_eq_true rfl) rfl rfl (Nat.le_of_ble_eq_true rfl) dzX8_image_46 ?_
  refine z_aload_n O dzX8_image_49 rfl 0 rfl ?_
  refine z_aload_n O dzX8_image_50 rfl 0 rfl ?_
  refine z_get O z_cb8 fm_obj (v := .int (r4.1 0 4)) 4 (Nat.le_of_ble_eq_true rfl) tw_753 rfl dzX8_image_51 ?_
  refine z_put O z_cb8 fm_obj 38 (Nat.le_of_ble_eq_true rfl) tw_787 rfl rfl rfl fp_M38 dzX8_image_54 ?_
  refine z_sig (fun w2 e2 => ?_)
  have h := z_lt_at e2 h
  refine z_aload_n O dzX8_image_57 rfl 0 rfl ?_
  obtain ⟨r5, hc5, h⟩ := z_bd_at h
  refine z_callViR O (As := []) (rest := []) (kX8_allHeld hi hc5) mX8_allHeld tw_1186 (Nat.le_of_ble_eq_true rfl) fm_obj rfl rfl rfl rfl (Nat.le_of_ble_eq_true rfl) dzX8_image_58 ?_
  exact z_iret O hr hlk dzX8_image_61 h
def fX8_placeOf_L2 (σ : zS) (a1 : Int32) (a2 : Int32) (k : Int32 → Option (Int32)) : Nat → Int32 → Option (Int32)
  | 0, _ => none
  | n + 1, v3 => z_gd (z_in a1 4) ((if (σ.1 2 a1.toNatClampNeg) ≤ v3 then k v3 else (fX8_setOf σ a1 v3).bind (fun r1 => (if r1 = a2 then some v3 else fX8_placeOf_L2 σ a1 a2 k n (v3 + (1 : Int32))))))
theorem kX8_placeOf_L2 {l : Launch} {Y : zY} {fin : Int32} {p : Program} {e : Env} {s : State} {m : MethodId} {args : Array Value} {below : List Frame} {meth : Method} {c : Code} {σ : zS} (O : z_ok ΛM Y p s m args c cX8_placeOf RX8 4) (hi : z_inj ΛM Y) (hr : meth.sig.returnType = (some .int)) (hlk : meth.locks = false) {a1 : Int32} {a2 : Int32} {k : Int32 → Option (Int32)} (hk : ∀ (z3 : Int32), k z3 = some fin → z_G p l e (z_rm 2) s m args below meth c (MQ below (z_Qi ΛM Y (fin, σ)) args s 0 0 (z_A ΛM Y)) ΛM Y 4 σ [(0, .ref (z_ad Y 0)), (1, .int a1), (2, .int a2), (3, .int z3)] 30 []) : ∀ (n : Nat) (v3 : Int32), fX8_placeOf_L2 σ a1 a2 k n v3 = some fin → z_G p l e (z_rm 2) s m args below meth c (MQ below (z_Qi ΛM Y (fin, σ)) args s 0 0 (z_A ΛM Y)) ΛM Y 4 σ [(0, .ref (z_ad Y 0)), (1, .int a1), (2, .int a2), (3, .int v3)] 2 [] := by
  intro n
  induction n with
  | zero =>
    intro _ h
    cases h
  | succ n ih =>
    intro v3 h
    rw [fX8_placeOf_L2.eq_2] at h
    refine z_iload_n O dzX8_placeOf_2 rfl 3 rfl ?_
    refine z_aload_n O dzX8_placeOf_3 rfl 0 rfl ?_
    refine z_get O z_cb8 fm_obj (v := .ref (z_ad Y 2)) 1 (Nat.le_of_ble_eq_true rfl) tw_750 rfl dzX8_placeOf_4 ?_
    refine z_iload_n O dzX8_placeOf_7 rfl 1 rfl ?_
    obtain ⟨g1, h⟩ := z_gd_at h
    refine z_iald O fm_sizes g1 dzX8_placeOf_8 ?_
    refine z_icmp_ge O dzX8_placeOf_9 (fun c2 => ?_) (fun c2 => ?_)
    · have h := z_if_t c2 h
      exact hk _ h
    · have h := z_if_f c2 h
      refine z_aload_n O dzX8_placeOf_12 rfl 0 rfl ?_
      refine z_iload_n O dzX8_placeOf_13 rfl 1 rfl ?_
      refine z_iload_n O dzX8_placeOf_14 rfl 3 rfl ?_
      obtain ⟨r1, hc1, h⟩ := z_bd_at h
      refine z_callViR O (As := [.int a1, .int v3]) (rest := []) (kX8_setOf hi hc1) mX8_setOf tw_908 (Nat.le_of_ble_eq_true rfl) fm_obj rfl rfl rfl rfl (Nat.le_of_ble_eq_true rfl) dzX8_placeOf_15 ?_
      refine z_iload_n O dzX8_placeOf_18 rfl 2 rfl ?_
      refine z_icmp_ne O dzX8_placeOf_19 (fun c1 => ?_) (fun c1 => ?_)
      · have h := z_if_f c1 h
        refine z_iinc O (lv' := [(3, .int (v3 + (1 : Int32))), (0, .ref (z_ad Y 0)), (1, .int a1), (2, .int a2)]) dzX8_placeOf_24 3 rfl (congrArg _ hcI1) (by decide) rfl ?_
        refine z_goto O dzX8_placeOf_27 ?_
        refine z_sub [1, 2, 3, 0] rfl ?_
        exact ih _ h
      · have h := z_if_t c1 h
        refine z_iload_n O dzX8_placeOf_22 rfl 3 rfl ?_
        exact z_iret O hr hlk dzX8_placeOf_23 (z_rf h)
def fX8_placeOf (σ : zS) (a1 : Int32) (a2 : Int32) : Option (Int32) :=
  fX8_placeOf_L2 σ a1 a2 (fun (x1 : Int32) => some (-1 : Int32)) z_F (0 : Int32)
theorem kX8_placeOf {l : Launch} {Y : zY} (hi : z_inj ΛM Y) {σ : zS} {a1 : Int32} {a2 : Int32} {fin : Int32} (h : fX8_placeOf σ a1 a2 = some fin) : Met l yX8_placeOf (Cond.code yX8_placeOf cX8_placeOf 4 (some .int) :: z_TB) (z_rm 2) (z_Pc ΛM Y σ [.ref (z_ad Y 0), .int a1, .int a2]) (z_Qi ΛM Y (fin, σ)) 0 0 (z_A ΛM Y) := by
  unfold fX8_placeOf at h
  refine z_met [(0, .ref (z_ad Y 0)), (1, .int a1), (2, .int a2)] rfl (Nat.le_of_ble_eq_true rfl) (plainFor_of_name (by decide)) hi ?_
  intro p e s m args below meth c O hr hlk
  refine z_iconst O dzX8_placeOf_0 hcI0 ?_
  refine z_istore_n O (lv' := [(3, .int (0 : Int32)), (0, .ref (z_ad Y 0)), (1, .int a1), (2, .int a2)]) dzX8_placeOf_1 rfl (by decide) rfl ?_
  refine z_sub [1, 2, 3, 0] rfl ?_
  refine kX8_placeOf_L2 O hi hr hlk   (fun x1 h => ?_) _ _ h
  refine z_iconst O dzX8_placeOf_30 hcIm1 ?_
  exact z_iret O hr hlk dzX8_placeOf_31 (z_rf h)
def fX8_tells (σ : zS) (a1 : Int32) (a2 : Int32) : Option (Int32 × zS) :=
  (fX8_placeOf σ a1 a2).bind (fun r1 => (if r1 = (-1 : Int32) then z_gd (z_in a1 4) ((if (σ.1 2 a1.toNatClampNeg) = (40 : Int32) then some ((-4 : Int32), σ) else z_gd (z_in a1 4) (z_lt (σ.1 2 a1.toNatClampNeg) (fun (x1 : Int32) => z_gd (z_in (((40 : Int32) * a1) + x1) 160) (z_lt (z_sI σ 3 (((40 : Int32) * a1) + x1).toNatClampNeg a2) (fun (w3 : zS) => z_gd (z_in (((40 : Int32) * a1) + x1) 160) (z_lt (z_sI w3 4 (((40 : Int32) * a1) + x1).toNatClampNeg (0 : Int32)) (fun (w4 : zS) => z_gd (z_in a1 4) (z_gd (z_in a1 4) (z_lt (z_sI w4 2 a1.toNatClampNeg ((w4.1 2 a1.toNatClampNeg) + (1 : Int32))) (fun (w5 : zS) => z_gd (z_in (((40 : Int32) * a1) + x1) 160) (z_gd (z_in (((40 : Int32) * a1) + x1) 160) ((if (99 : Int32) ≤ (w5.1 4 (((40 : Int32) * a1) + x1).toNatClampNeg) then z_gd (z_in (((40 : Int32) * a1) + x1) 160) (z_lt (z_sI w5 4 (((40 : Int32) * a1) + x1).toNatClampNeg ((w5.1 4 (((40 : Int32) * a1) + x1).toNatClampNeg) + (0 : Int32))) (fun (w6 : zS) => z_gd (z_in (((40 : Int32) * a1) + x1) 160) (some ((w6.1 4 (((40 : Int32) * a1) + x1).toNatClampNeg), w6)))) else z_gd (z_in (((40 : Int32) * a1) + x1) 160) (z_lt (z_sI w5 4 (((40 : Int32) * a1) + x1).toNatClampNeg ((w5.1 4 (((40 : Int32) * a1) + x1).toNatClampNeg) + (1 : Int32))) (fun (w7 : zS) => z_gd (z_in (((40 : Int32) * a1) + x1) 160) (some ((w7.1 4 (((40 : Int32) * a1) + x1).toNatClampNeg), w7)))))))))))))))))) else z_gd (z_in (((40 : Int32) * a1) + r1) 160) (z_gd (z_in (((40 : Int32) * a1) + r1) 160) ((if (99 : Int32) ≤ (σ.1 4 (((40 : Int32) * a1) + r1).toNatClampNeg) then z_gd (z_in (((40 : Int32) * a1) + r1) 160) (z_lt (z_sI σ 4 (((40 : Int32) * a1) + r1).toNatClampNeg ((σ.1 4 (((40 : Int32) * a1) + r1).toNatClampNeg) + (0 : Int32))) (fun (w1 : zS) => z_gd (z_in (((40 : Int32) * a1) + r1) 160) (some ((w1.1 4 (((40 : Int32) * a1) + r1).toNatClampNeg), w1)))) else z_gd (z_in (((40 : Int32) * a1) + r1) 160) (z_lt (z_sI σ 4 (((40 : Int32) * a1) + r1).toNatClampNeg ((σ.1 4 (((40 : Int32) * a1) + r1).toNatClampNeg) + (1 : Int32))) (fun (w2 : zS) => z_gd (z_in (((40 : Int32) * a1) + r1) 160) (some ((w2.1 4 (((40 : Int32) * a1) + r1).toNatClampNeg), w2)))))))))
theorem kX8_tells {l : Launch} {Y : zY} (hi : z_inj ΛM Y) {σ : zS} {a1 : Int32} {a2 : Int32} {fin : Int32 × zS} (h : fX8_tells σ a1 a2 = some fin) : Met l yX8_tells (Cond.code yX8_tells cX8_tells 4 (some .int) :: z_TB) (z_rm 3) (z_Pc ΛM Y σ [.ref (z_ad Y 0), .int a1, .int a2]) (z_Qi ΛM Y fin) 0 0 (z_A ΛM Y) := by
  unfold fX8_tells at h
  refine z_met [(0, .ref (z_ad Y 0)), (1, .int a1), (2, .int a2)] rfl (Nat.le_of_ble_eq_true rfl) (plainFor_of_name (by decide)) hi ?_
  intro p e s m args below meth c O hr hlk
  refine z_aload_n O dzX8_tells_0 rfl 0 rfl ?_
  refine z_iload_n O dzX8_tells_1 rfl 1 rfl ?_
  refine z_iload_n O dzX8_tells_2 rfl 2 rfl ?_
  obtain ⟨r1, hc1, h⟩ := z_bd_at h
  refine z_callViR O (As := [.int a1, .int a2]) (rest := []) (kX8_placeOf hi hc1) mX8_placeOf tw_904 (Nat.le_of_ble_eq_true rfl) fm_obj rfl rfl rfl rfl (Nat.le_of_ble_eq_true rfl) dzX8_tells_3 ?_
  refine z_istore_n O (lv' := [(3, .int r1), (0, .ref (z_ad Y 0)), (1, .int a1), (2, .int a2)]) dzX8_tells_6 rfl (by decide) rfl ?_
  refine z_iload_n O dzX8_tells_7 rfl 0 rfl ?_
  refine z_iconst O dzX8_tells_8 hcIm1 ?_
  refine z_icmp_ne O dzX8_tells_9 (fun c4 => ?_) (fun c4 => ?_)
  · have h := z_if_f c4 h
    refine z_aload_n O dzX8_tells_67 rfl 1 rfl ?_
    refine z_get O z_cb8 fm_obj (v := .ref (z_ad Y 4)) 3 (Nat.le_of_ble_eq_true rfl) tw_752 rfl dzX8_tells_68 ?_
    refine z_bipush O dzX8_tells_71 hcB40 ?_
    refine z_iload_n O dzX8_tells_73 rfl 2 rfl ?_
    refine z_imul O dzX8_tells_74 ?_
    refine z_iload_n O dzX8_tells_75 rfl 0 rfl ?_
    refine z_iadd O dzX8_tells_76 ?_
    refine z_dup2_11 O dzX8_tells_77 rfl rfl ?_
    obtain ⟨g1, h⟩ := z_gd_at h
    refine z_iald O fm_tallies g1 dzX8_tells_78 ?_
    refine z_aload_n O dzX8_tells_79 rfl 1 rfl ?_
    refine z_get O z_cb8 fm_obj (v := .ref (z_ad Y 4)) 3 (Nat.le_of_ble_eq_true rfl) tw_752 rfl dzX8_tells_80 ?_
    refine z_bipush O dzX8_tells_83 hcB40 ?_
    refine z_iload_n O dzX8_tells_85 rfl 2 rfl ?_
    refine z_imul O dzX8_tells_86 ?_
    refine z_iload_n O dzX8_tells_87 rfl 0 rfl ?_
    refine z_iadd O dzX8_tells_88 ?_
    obtain ⟨g2, h⟩ := z_gd_at h
    refine z_iald O fm_tallies g2 dzX8_tells_89 ?_
    refine z_bipush O dzX8_tells_90 hcB99 ?_
    refine z_icmp_ge O dzX8_tells_92 (fun c1 => ?_) (fun c1 => ?_)
    · have h := z_if_t c1 h
      refine z_iconst O dzX8_tells_99 hcI0 ?_
      refine z_iadd O dzX8_tells_100 ?_
      obtain ⟨g3, h⟩ := z_gd_at h
      refine z_iast O fm_tallies g3 dzX8_tells_101 ?_
      refine z_sig (fun w1 e1 => ?_)
      have h := z_lt_at e1 h
      refine z_aload_n O dzX8_tells_102 rfl 1 rfl ?_
      refine z_get O z_cb8 fm_obj (v := .ref (z_ad Y 4)) 3 (Nat.le_of_ble_eq_true rfl) tw_752 rfl dzX8_tells_103 ?_
      refine z_bipush O dzX8_tells_106 hcB40 ?_
      refine z_iload_n O dzX8_tells_108 rfl 2 rfl ?_
      refine z_imul O dzX8_tells_109 ?_
      refine z_iload_n O dzX8_tells_110 rfl 0 rfl ?_
      refine z_iadd O dzX8_tells_111 ?_
      obtain ⟨g4, h⟩ := z_gd_at h
      refine z_iald O fm_tallies g4 dzX8_tells_112 ?_
      exact z_iret O hr hlk dzX8_tells_113 h
    · have h := z_if_f c1 h
      refine z_iconst O dzX8_tells_95 hcI1 ?_
      refine z_goto O dzX8_tells_96 ?_
      refine z_iadd O dzX8_tells_100 ?_
      obtain ⟨g5, h⟩ := z_gd_at h
      refine z_iast O fm_tallies g5 dzX8_tells_101 ?_
      refine z_sig (fun w2 e2 => ?_)
      have h := z_lt_at e2 h
      refine z_aload_n O dzX8_tells_102 rfl 1 rfl ?_
      refine z_get O z_cb8 fm_obj (v := .ref (z_ad Y 4)) 3 (Nat.le_of_ble_eq_true rfl) tw_752 rfl dzX8_tells_103 ?_
      refine z_bipush O dzX8_tells_106 hcB40 ?_
      refine z_iload_n O dzX8_tells_108 rfl 2 rfl ?_
      refine z_imul O dzX8_tells_109 ?_
      refine z_iload_n O dzX8_tells_110 rfl 0 rfl ?_
      refine z_iadd O dzX8_tells_111 ?_
      obtain ⟨g6, h⟩ := z_gd_at h
      refine z_iald O fm_tallies g6 dzX8_tells_112 ?_
      exact z_iret O hr hlk dzX8_tells_113 h
  · have h := z_if_t c4 h
    refine z_aload_n O dzX8_tells_12 rfl 1 rfl ?_
    refine z_get O z_cb8 fm_obj (v := .ref (z_ad Y 2)) 1 (Nat.le_of_ble_eq_true rfl) tw_750 rfl dzX8_tells_13 ?_
    refine z_iload_n O dzX8_tells_16 rfl 2 rfl ?_
    obtain ⟨g7, h⟩ := z_gd_at h
    refine z_iald O fm_sizes g7 dzX8_tells_17 ?_
    refine z_bipush O dzX8_tells_18 hcB40 ?_
    refine z_icmp_ne O dzX8_tells_20 (fun c3 => ?_) (fun c3 => ?_)
    · have h := z_if_f c3 h
      refine z_aload_n O dzX8_tells_26 rfl 1 rfl ?_
      refine z_get O z_cb8 fm_obj (v := .ref (z_ad Y 2)) 1 (Nat.le_of_ble_eq_true rfl) tw_750 rfl dzX8_tells_27 ?_
      refine z_iload_n O dzX8_tells_30 rfl 2 rfl ?_
      obtain ⟨g8, h⟩ := z_gd_at h
      refine z_iald O fm_sizes g8 dzX8_tells_31 ?_
      refine z_topi (fun x1 e3 => ?_)
      have h := z_lt_at e3 h
      refine z_istore_n O (lv' := [(3, .int x1), (0, .ref (z_ad Y 0)), (1, .int a1), (2, .int a2)]) dzX8_tells_32 rfl (by decide) rfl ?_
      refine z_aload_n O dzX8_tells_33 rfl 1 rfl ?_
      refine z_get O z_cb8 fm_obj (v := .ref (z_ad Y 3)) 2 (Nat.le_of_ble_eq_true rfl) tw_751 rfl dzX8_tells_34 ?_
      refine z_bipush O dzX8_tells_37 hcB40 ?_
      refine z_iload_n O dzX8_tells_39 rfl 2 rfl ?_
      refine z_imul O dzX8_tells_40 ?_
      refine z_iload_n O dzX8_tells_41 rfl 0 rfl ?_
      refine z_iadd O dzX8_tells_42 ?_
      refine z_iload_n O dzX8_tells_43 rfl 3 rfl ?_
      obtain ⟨g9, h⟩ := z_gd_at h
      refine z_iast O fm_sets g9 dzX8_tells_44 ?_
      refine z_sig (fun w3 e4 => ?_)
      have h := z_lt_at e4 h
      refine z_aload_n O dzX8_tells_45 rfl 1 rfl ?_
      refine z_get O z_cb8 fm_obj (v := .ref (z_ad Y 4)) 3 (Nat.le_of_ble_eq_true rfl) tw_752 rfl dzX8_tells_46 ?_
      refine z_bipush O dzX8_tells_49 hcB40 ?_
      refine z_iload_n O dzX8_tells_51 rfl 2 rfl ?_
      refine z_imul O dzX8_tells_52 ?_
      refine z_iload_n O dzX8_tells_53 rfl 0 rfl ?_
      refine z_iadd O dzX8_tells_54 ?_
      refine z_iconst O dzX8_tells_55 hcI0 ?_
      obtain ⟨g10, h⟩ := z_gd_at h
      refine z_iast O fm_tallies g10 dzX8_tells_56 ?_
      refine z_sig (fun w4 e5 => ?_)
      have h := z_lt_at e5 h
      refine z_aload_n O dzX8_tells_57 rfl 1 rfl ?_
      refine z_get O z_cb8 fm_obj (v := .ref (z_ad Y 2)) 1 (Nat.le_of_ble_eq_true rfl) tw_750 rfl dzX8_tells_58 ?_
      refine z_iload_n O dzX8_tells_61 rfl 2 rfl ?_
      refine z_dup2_11 O dzX8_tells_62 rfl rfl ?_
      obtain ⟨g11, h⟩ := z_gd_at h
      refine z_iald O fm_sizes g11 dzX8_tells_63 ?_
      refine z_iconst O dzX8_tells_64 hcI1 ?_
      refine z_iadd O dzX8_tells_65 ?_
      obtain ⟨g12, h⟩ := z_gd_at h
      refine z_iast O fm_sizes g12 dzX8_tells_66 ?_
      refine z_sig (fun w5 e6 => ?_)
      have h := z_lt_at e6 h
      refine z_aload_n O dzX8_tells_67 rfl 1 rfl ?_
      refine z_get O z_cb8 fm_obj (v := .ref (z_ad Y 4)) 3 (Nat.le_of_ble_eq_true rfl) tw_752 rfl dzX8_tells_68 ?_
      refine z_bipush O dzX8_tells_71 hcB40 ?_
      refine z_iload_n O dzX8_tells_73 rfl 2 rfl ?_
      refine z_imul O dzX8_tells_74 ?_
      refine z_iload_n O dzX8_tells_75 rfl 0 rfl ?_
      refine z_iadd O dzX8_tells_76 ?_
      refine z_dup2_11 O dzX8_tells_77 rfl rfl ?_
      obtain ⟨g13, h⟩ := z_gd_at h
      refine z_iald O fm_tallies g13 dzX8_tells_78 ?_
      refine z_aload_n O dzX8_tells_79 rfl 1 rfl ?_
      refine z_get O z_cb8 fm_obj (v := .ref (z_ad Y 4)) 3 (Nat.le_of_ble_eq_true rfl) tw_752 rfl dzX8_tells_80 ?_
      refine z_bipush O dzX8_tells_83 hcB40 ?_
      refine z_iload_n O dzX8_tells_85 rfl 2 rfl ?_
      refine z_imul O dzX8_tells_86 ?_
      refine z_iload_n O dzX8_tells_87 rfl 0 rfl ?_
      refine z_iadd O dzX8_tells_88 ?_
      obtain ⟨g14, h⟩ := z_gd_at h
      refine z_iald O fm_tallies g14 dzX8_tells_89 ?_
      refine z_bipush O dzX8_tells_90 hcB99 ?_
      refine z_icmp_ge O dzX8_tells_92 (fun c2 => ?_) (fun c2 => ?_)
      · have h := z_if_t c2 h
        refine z_iconst O dzX8_tells_99 hcI0 ?_
        refine z_iadd O dzX8_tells_100 ?_
        obtain ⟨g15, h⟩ := z_gd_at h
        refine z_iast O fm_tallies g15 dzX8_tells_101 ?_
        refine z_sig (fun w6 e7 => ?_)
        have h := z_lt_at e7 h
        refine z_aload_n O dzX8_tells_102 rfl 1 rfl ?_
        refine z_get O z_cb8 fm_obj (v := .ref (z_ad Y 4)) 3 (Nat.le_of_ble_eq_true rfl) tw_752 rfl dzX8_tells_103 ?_
        refine z_bipush O dzX8_tells_106 hcB40 ?_
        refine z_iload_n O dzX8_tells_108 rfl 2 rfl ?_
        refine z_imul O dzX8_tells_109 ?_
        refine z_iload_n O dzX8_tells_110 rfl 0 rfl ?_
        refine z_iadd O dzX8_tells_111 ?_
        obtain ⟨g16, h⟩ := z_gd_at h
        refine z_iald O fm_tallies g16 dzX8_tells_112 ?_
        exact z_iret O hr hlk dzX8_tells_113 h
      · have h := z_if_f c2 h
        refine z_iconst O dzX8_tells_95 hcI1 ?_
        refine z_goto O dzX8_tells_96 ?_
        refine z_iadd O dzX8_tells_100 ?_
        obtain ⟨g17, h⟩ := z_gd_at h
        refine z_iast O fm_tallies g17 dzX8_tells_101 ?_
        refine z_sig (fun w7 e8 => ?_)
        have h := z_lt_at e8 h
        refine z_aload_n O dzX8_tells_102 rfl 1 rfl ?_
        refine z_get O z_cb8 fm_obj (v := .ref (z_ad Y 4)) 3 (Nat.le_of_ble_eq_true rfl) tw_752 rfl dzX8_tells_103 ?_
        refine z_bipush O dzX8_tells_106 hcB40 ?_
        refine z_iload_n O dzX8_tells_108 rfl 2 rfl ?_
        refine z_imul O dzX8_tells_109 ?_
        refine z_iload_n O dzX8_tells_110 rfl 0 rfl ?_
        refine z_iadd O dzX8_tells_111 ?_
        obtain ⟨g18, h⟩ := z_gd_at h
        refine z_iald O fm_tallies g18 dzX8_tells_112 ?_
        exact z_iret O hr hlk dzX8_tells_113 h
    · have h := z_if_t c3 h
      refine z_bipush O dzX8_tells_23 hcBm4 ?_
      exact z_iret O hr hlk dzX8_tells_25 h
def fX8_into_L43 (a2 : Int32) (k : zS → Int32 → Option (Int32 × zS)) : Nat → zS → Int32 → Option (Int32 × zS)
  | 0, _, _ => none
  | n + 1, σ, v3 => (if (σ.1 0 18) ≤ v3 then k σ v3 else z_gd (z_in v3 4096) ((fX8_tells σ a2 (σ.1 15 v3.toNatClampNeg)).bind (fun r1 => fX8_into_L43 a2 k n r1.2 (v3 + (1 : Int32)))))
theorem kX8_into_L43 {l : Launch} {Y : zY} {fin : Int32 × zS} {p : Program} {e : Env} {s : State} {m : MethodId} {args : Array Value} {below : List Frame} {meth : Method} {c : Code} (O : z_ok ΛM Y p s m args c cX8_into RX8 4) (hi : z_inj ΛM Y) (hr : meth.sig.returnType = (some .int)) (hlk : meth.locks = false) {a2 : Int32} {k : zS → Int32 → Option (Int32 × zS)} (hk : ∀ (w : zS) (z3 : Int32), k w z3 = some fin → z_G p l e (z_rm 4) s m args below meth c (MQ below (z_Qi ΛM Y fin) args s 0 0 (z_A ΛM Y)) ΛM Y 4 w [(0, .ref (z_ad Y 0)), (2, .int a2), (3, .int z3)] 69 []) : ∀ (n : Nat) (σ : zS) (v3 : Int32), fX8_into_L43 a2 k n σ v3 = some fin → z_G p l e (z_rm 4) s m args below meth c (MQ below (z_Qi ΛM Y fin) args s 0 0 (z_A ΛM Y)) ΛM Y 4 σ [(0, .ref (z_ad Y 0)), (2, .int a2), (3, .int v3)] 43 [] := by
  intro n
  induction n with
  | zero =>
    intro _ _ h
    cases h
  | succ n ih =>
    intro σ v3 h
    rw [fX8_into_L43.eq_2] at h
    refine z_iload_n O dzX8_into_43 rfl 2 rfl ?_
    refine z_aload_n O dzX8_into_44 rfl 0 rfl ?_
    refine z_get O z_cb8 fm_obj (v := .int (σ.1 0 18)) 18 (Nat.le_of_ble_eq_true rfl) tw_767 rfl dzX8_into_45 ?_
    refine z_icmp_ge O dzX8_into_48 (fun c1 => ?_) (fun c1 => ?_)
    · have h := z_if_t c1 h
      exact hk _ _ h
    · have h := z_if_f c1 h
      refine z_aload_n O dzX8_into_51 rfl 0 rfl ?_
      refine z_iload_n O dzX8_into_52 rfl 1 rfl ?_
      refine z_aload_n O dzX8_into_53 rfl 0 rfl ?_
      refine z_get O z_cb8 fm_obj (v := .ref (z_ad Y 15)) 17 (Nat.le_of_ble_eq_true rfl) tw_766 rfl dzX8_into_54 ?_
      refine z_iload_n O dzX8_into_57 rfl 2 rfl ?_
      obtain ⟨g1, h⟩ := z_gd_at h
      refine z_iald O fm_least g1 dzX8_into_58 ?_
      obtain ⟨r1, hc1, h⟩ := z_bd_at h
      refine z_callVi O (As := [.int a2, .int (σ.1 15 v3.toNatClampNeg)]) (rest := []) (kX8_tells hi hc1) mX8_tells tw_912 (Nat.le_of_ble_eq_true rfl) fm_obj rfl rfl rfl rfl (Nat.le_of_ble_eq_true rfl) dzX8_into_59 ?_
      refine z_pop O dzX8_into_62 rfl ?_
      refine z_iinc O (lv' := [(3, .int (v3 + (1 : Int32))), (0, .ref (z_ad Y 0)), (2, .int a2)]) dzX8_into_63 2 rfl (congrArg _ hcI1) (by decide) rfl ?_
      refine z_goto O dzX8_into_66 ?_
      refine z_sub [1, 2, 0] rfl ?_
      exact ih _ _ h
def fX8_into (σ : zS) (a1 : Int32) (a2 : Int32) : Option (Int32 × zS) :=
  (fX8_isFamily a1).bind (fun r1 => (if r1 = 0 then some ((-2 : Int32), σ) else (fX8_isFamily a2).bind (fun r2 => (if r2 = 0 then some ((-2 : Int32), σ) else (fX8_findsDual σ a1).bind (fun r3 => (if (r3.1 0 18) ≤ (40 : Int32) then z_gd (z_in a2 4) (z_lt (z_sI r3 2 a2.toNatClampNeg (0 : Int32)) (fun (w1 : zS) => fX8_into_L43 a2 (fun (w2 : zS) (x1 : Int32) => z_lt (z_sI w2 0 10 (0 : Int32)) (fun (w3 : zS) => some ((w3.1 0 18), w3))) z_F w1 (0 : Int32))) else some ((-4 : Int32), r3)))))))
theorem kX8_into {l : Launch} {Y : zY} (hi : z_inj ΛM Y) {σ : zS} {a1 : Int32} {a2 : Int32} {fin : Int32 × zS} (h : fX8_into σ a1 a2 = some fin) : Met l yX8_into (Cond.code yX8_into cX8_into 4 (some .int) :: z_TB) (z_rm 4) (z_Pc ΛM Y σ [.ref (z_ad Y 0), .int a1, .int a2]) (z_Qi ΛM Y fin) 0 0 (z_A ΛM Y) := by
  unfold fX8_into at h
  refine z_met [(0, .ref (z_ad Y 0)), (1, .int a1), (2, .int a2)] rfl (Nat.le_of_ble_eq_true rfl) (plainFor_of_name (by decide)) hi ?_
  intro p e s m args below meth c O hr hlk
  refine z_iload_n O dzX8_into_0 rfl 1 rfl ?_
  obtain ⟨r1, hc1, h⟩ := z_bd_at h
  refine z_callSiR O (As := [.int a1]) (rest := []) (kX8_isFamily hi hc1) mX8_isFamily tw_892 (Nat.le_of_ble_eq_true rfl) rfl rfl (Nat.le_of_ble_eq_true rfl) dzX8_into_1 ?_
  refine z_if_eq O dzX8_into_4 (fun c3 => ?_) (fun c3 => ?_)
  · have h := z_if_t c3 h
    refine z_bipush O dzX8_into_14 hcBm2 ?_
    exact z_iret O hr hlk dzX8_into_16 h
  · have h := z_if_f c3 h
    refine z_iload_n O dzX8_into_7 rfl 2 rfl ?_
    obtain ⟨r2, hc2, h⟩ := z_bd_at h
    refine z_callSiR O (As := [.int a2]) (rest := []) (kX8_isFamily hi hc2) mX8_isFamily tw_892 (Nat.le_of_ble_eq_true rfl) rfl rfl (Nat.le_of_ble_eq_true rfl) dzX8_into_8 ?_
    refine z_if_ne O dzX8_into_11 (fun c2 => ?_) (fun c2 => ?_)
    · have h := z_if_f c2 h
      refine z_aload_n O dzX8_into_17 rfl 0 rfl ?_
      refine z_iload_n O dzX8_into_18 rfl 1 rfl ?_
      obtain ⟨r3, hc3, h⟩ := z_bd_at h
      refine z_callVv O (As := [.int a1]) (rest := []) (kX8_findsDual hi hc3) mX8_findsDual tw_1011 (Nat.le_of_ble_eq_true rfl) fm_obj rfl rfl rfl rfl (Nat.le_of_ble_eq_true rfl) dzX8_into_19 ?_
      refine z_aload_n O dzX8_into_22 rfl 0 rfl ?_
      refine z_get O z_cb8 fm_obj (v := .int (r3.1 0 18)) 18 (Nat.le_of_ble_eq_true rfl) tw_767 rfl dzX8_into_23 ?_
      refine z_bipush O dzX8_into_26 hcB40 ?_
      refine z_icmp_le O dzX8_into_28 (fun c1 => ?_) (fun c1 => ?_)
      · have h := z_if_t c1 h
        refine z_aload_n O dzX8_into_34 rfl 0 rfl ?_
        refine z_get O z_cb8 fm_obj (v := .ref (z_ad Y 2)) 1 (Nat.le_of_ble_eq_true rfl) tw_750 rfl dzX8_into_35 ?_
        refine z_iload_n O dzX8_into_38 rfl 2 rfl ?_
        refine z_iconst O dzX8_into_39 hcI0 ?_
        obtain ⟨g1, h⟩ := z_gd_at h
        refine z_iast O fm_sizes g1 dzX8_into_40 ?_
        refine z_sig (fun w1 e1 => ?_)
        have h := z_lt_at e1 h
        refine z_iconst O dzX8_into_41 hcI0 ?_
        refine z_istore_n O (lv' := [(3, .int (0 : Int32)), (0, .ref (z_ad Y 0)), (1, .int a1), (2, .int a2)]) dzX8_into_42 rfl (by decide) rfl ?_
        refine z_sub [1, 3, 0] rfl ?_
        refine kX8_into_L43 O hi hr hlk   (fun w2 x1 h => ?_) _ _ _ h
        refine z_aload_n O dzX8_into_69 rfl 0 rfl ?_
        refine z_iconst O dzX8_into_70 hcI0 ?_
        refine z_put O z_cb8 fm_obj 10 (Nat.le_of_ble_eq_true rfl) tw_759 rfl rfl rfl fp_M10 dzX8_into_71 ?_
        refine z_sig (fun w3 e2 => ?_)
        have h := z_lt_at e2 h
        refine z_aload_n O dzX8_into_74 rfl 0 rfl ?_
        refine z_get O z_cb8 fm_obj (v := .int (w3.1 0 18)) 18 (Nat.le_of_ble_eq_true rfl) tw_767 rfl dzX8_into_75 ?_
        exact z_iret O hr hlk dzX8_into_78 h
      · have h := z_if_f c1 h
        refine z_bipush O dzX8_into_31 hcBm4 ?_
        exact z_iret O hr hlk dzX8_into_33 h
    · have h := z_if_t c2 h
      refine z_bipush O dzX8_into_14 hcBm2 ?_
      exact z_iret O hr hlk dzX8_into_16 h
def fX8_isPoint (a0 : Int32) : Option (Int32) :=
  (fX8_in (a0.toInt64) (0 : Int64) (11 : Int64)).bind (fun r1 => z_gd (z_bz r1) (some r1))
theorem kX8_isPoint {l : Launch} {Y : zY} (hi : z_inj ΛM Y) {σ : zS} {a0 : Int32} {fin : Int32} (h : fX8_isPoint a0 = some fin) : Met l yX8_isPoint (Cond.code yX8_isPoint cX8_isPoint 1 (some .boolean) :: z_TB) (z_rm 2) (z_Pc ΛM Y σ [.int a0]) (z_Qi ΛM Y (fin, σ)) 0 0 (z_A ΛM Y) := by
  unfold fX8_isPoint at h
  refine z_met [(0, .int a0)] rfl (Nat.le_of_ble_eq_true rfl) (plainFor_of_name (by decide)) hi ?_
  intro p e s m args below meth c O hr hlk
  refine z_iload_n O dzX8_isPoint_0 rfl 0 rfl ?_
  refine z_i2l O dzX8_isPoint_1 ?_
  refine z_lconst O dzX8_isPoint_2 (v := 0) rfl ?_
  refine z_ldc2 O tw_875 dzX8_isPoint_3 ?_
  obtain ⟨r1, hc1, h⟩ := z_bd_at h
  refine z_callSiR O (As := [.long (a0.toInt64), .long (0 : Int64), .long (11 : Int64)]) (rest := []) (kX8_in hi hc1) mX8_in tw_876 (Nat.le_of_ble_eq_true rfl) rfl rfl (Nat.le_of_ble_eq_true rfl) dzX8_isPoint_6 ?_
  obtain ⟨g1, h⟩ := z_gd_at h
  exact z_zret O hr hlk (z_bz_n g1) dzX8_isPoint_9 (z_rf h)
def fX8_isC (a0 : Int32) (a1 : Int32) : Option (Int32) :=
  (if a0 = 2 then (fX8_in (a1.toInt64) (-9 : Int64) (9 : Int64)).bind (fun r1 => z_gd (z_bz r1) (some r1)) else (if a0 = 3 then (fX8_isPoint a1).bind (fun r2 => z_gd (z_bz r2) (some r2)) else (if a0 = 4 then (fX8_in (a1.toInt64) (-11 : Int64) (11 : Int64)).bind (fun r3 => z_gd (z_bz r3) (some r3)) else (if a0 = 5 then (fX8_isPoint a1).bind (fun r4 => z_gd (z_bz r4) (some r4)) else (if a0 = 6 then some (1 : Int32) else (if a0 = 7 then (fX8_isFamily a1).bind (fun r5 => z_gd (z_bz r5) (some r5)) else some (1 : Int32)))))))
theorem kX8_isC {l : Launch} {Y : zY} (hi : z_inj ΛM Y) {σ : zS} {a0 : Int32} {a1 : Int32} {fin : Int32} (h : fX8_isC a0 a1 = some fin) : Met l yX8_isC (Cond.code yX8_isC cX8_isC 2 (some .boolean) :: z_TB) (z_rm 3) (z_Pc ΛM Y σ [.int a0, .int a1]) (z_Qi ΛM Y (fin, σ)) 0 0 (z_A ΛM Y) := by
  unfold fX8_isC at h
  refine z_met [(0, .int a0), (1, .int a1)] rfl (Nat.le_of_ble_eq_true rfl) (plainFor_of_name (by decide)) hi ?_
  intro p e s m args below meth c O hr hlk
  refine z_iload_n O dzX8_isC_0 rfl 0 rfl ?_
  by_cases c1 : a0 = 2
  · have h := z_if_t c1 h
    refine z_tabI O dzX8_isC_1 (x := a0) (by rw [c1]; decide) (by rw [c1]; decide) (off := 39) (by rw [c1]; rfl) (tgt := 40) rfl ?_
    refine z_iload_n O dzX8_isC_40 rfl 1 rfl ?_
    refine z_i2l O dzX8_isC_41 ?_
    refine z_ldc2 O tw_1109 dzX8_isC_42 ?_
    refine z_ldc2 O tw_1110 dzX8_isC_45 ?_
    obtain ⟨r1, hc1, h⟩ := z_bd_at h
    refine z_callSiR O (As := [.long (a1.toInt64), .long (-9 : Int64), .long (9 : Int64)]) (rest := []) (kX8_in hi hc1) mX8_in tw_876 (Nat.le_of_ble_eq_true rfl) rfl rfl (Nat.le_of_ble_eq_true rfl) dzX8_isC_48 ?_
    obtain ⟨g1, h⟩ := z_gd_at h
    exact z_zret O hr hlk (z_bz_n g1) dzX8_isC_51 (z_rf h)
  have h := z_if_f c1 h
  by_cases c2 : a0 = 3
  · have h := z_if_t c2 h
    refine z_tabI O dzX8_isC_1 (x := a0) (by rw [c2]; decide) (by rw [c2]; decide) (off := 51) (by rw [c2]; rfl) (tgt := 52) rfl ?_
    refine z_iload_n O dzX8_isC_52 rfl 1 rfl ?_
    obtain ⟨r2, hc2, h⟩ := z_bd_at h
    refine z_callSiR O (As := [.int a1]) (rest := []) (kX8_isPoint hi hc2) mX8_isPoint tw_872 (Nat.le_of_ble_eq_true rfl) rfl rfl (Nat.le_of_ble_eq_true rfl) dzX8_isC_53 ?_
    obtain ⟨g2, h⟩ := z_gd_at h
    exact z_zret O hr hlk (z_bz_n g2) dzX8_isC_56 (z_rf h)
  have h := z_if_f c2 h
  by_cases c3 : a0 = 4
  · have h := z_if_t c3 h
    refine z_tabI O dzX8_isC_1 (x := a0) (by rw [c3]; decide) (by rw [c3]; decide) (off := 56) (by rw [c3]; rfl) (tgt := 57) rfl ?_
    refine z_iload_n O dzX8_isC_57 rfl 1 rfl ?_
    refine z_i2l O dzX8_isC_58 ?_
    refine z_ldc2 O tw_1111 dzX8_isC_59 ?_
    refine z_ldc2 O tw_875 dzX8_isC_62 ?_
    obtain ⟨r3, hc3, h⟩ := z_bd_at h
    refine z_callSiR O (As := [.long (a1.toInt64), .long (-11 : Int64), .long (11 : Int64)]) (rest := []) (kX8_in hi hc3) mX8_in tw_876 (Nat.le_of_ble_eq_true rfl) rfl rfl (Nat.le_of_ble_eq_true rfl) dzX8_isC_65 ?_
    obtain ⟨g3, h⟩ := z_gd_at h
    exact z_zret O hr hlk (z_bz_n g3) dzX8_isC_68 (z_rf h)
  have h := z_if_f c3 h
  by_cases c4 : a0 = 5
  · have h := z_if_t c4 h
    refine z_tabI O dzX8_isC_1 (x := a0) (by rw [c4]; decide) (by rw [c4]; decide) (off := 51) (by rw [c4]; rfl) (tgt := 52) rfl ?_
    refine z_iload_n O dzX8_isC_52 rfl 1 rfl ?_
    obtain ⟨r4, hc4, h⟩ := z_bd_at h
    refine z_callSiR O (As := [.int a1]) (rest := []) (kX8_isPoint hi hc4) mX8_isPoint tw_872 (Nat.le_of_ble_eq_true rfl) rfl rfl (Nat.le_of_ble_eq_true rfl) dzX8_isC_53 ?_
    obtain ⟨g4, h⟩ := z_gd_at h
    exact z_zret O hr hlk (z_bz_n g4) dzX8_isC_56 (z_rf h)
  have h := z_if_f c4 h
  by_cases c5 : a0 = 6
  · have h := z_if_t c5 h
    refine z_tabI O dzX8_isC_1 (x := a0) (by rw [c5]; decide) (by rw [c5]; decide) (off := 73) (by rw [c5]; rfl) (tgt := 74) rfl ?_
    refine z_iconst O dzX8_isC_74 hcI1 ?_
    exact z_zret O hr hlk rfl dzX8_isC_75 (z_rf h)
  have h := z_if_f c5 h
  by_cases c6 : a0 = 7
  · have h := z_if_t c6 h
    refine z_tabI O dzX8_isC_1 (x := a0) (by rw [c6]; decide) (by rw [c6]; decide) (off := 68) (by rw [c6]; rfl) (tgt := 69) rfl ?_
    refine z_iload_n O dzX8_isC_69 rfl 1 rfl ?_
    obtain ⟨r5, hc5, h⟩ := z_bd_at h
    refine z_callSiR O (As := [.int a1]) (rest := []) (kX8_isFamily hi hc5) mX8_isFamily tw_892 (Nat.le_of_ble_eq_true rfl) rfl rfl (Nat.le_of_ble_eq_true rfl) dzX8_isC_70 ?_
    obtain ⟨g5, h⟩ := z_gd_at h
    exact z_zret O hr hlk (z_bz_n g5) dzX8_isC_73 (z_rf h)
  have h := z_if_f c6 h
  have qc1 := z_ne (z := 2) rfl c1
  have qc2 := z_ne (z := 3) rfl c2
  have qc3 := z_ne (z := 4) rfl c3
  have qc4 := z_ne (z := 5) rfl c4
  have qc5 := z_ne (z := 6) rfl c5
  have qc6 := z_ne (z := 7) rfl c6
  refine z_tabO O dzX8_isC_1 (by omega) (tgt := 74) rfl ?_
  refine z_iconst O dzX8_isC_74 hcI1 ?_
  exact z_zret O hr hlk rfl dzX8_isC_75 (z_rf h)
def fX8_isOfA (a0 : Int32) : Option (Int32) :=
  (if a0 < (6 : Int32) then some (1 : Int32) else (if a0 = (8 : Int32) then some (1 : Int32) else some (0 : Int32)))
theorem kX8_isOfA {l : Launch} {Y : zY} (hi : z_inj ΛM Y) {σ : zS} {a0 : Int32} {fin : Int32} (h : fX8_isOfA a0 = some fin) : Met l yX8_isOfA (Cond.code yX8_isOfA cX8_isOfA 1 (some .boolean) :: z_TB) (z_rm 1) (z_Pc ΛM Y σ [.int a0]) (z_Qi ΛM Y (fin, σ)) 0 0 (z_A ΛM Y) := by
  unfold fX8_isOfA at h
  refine z_met [(0, .int a0)] rfl (Nat.le_of_ble_eq_true rfl) (plainFor_of_name (by decide)) hi ?_
  intro p e s m args below meth c O hr hlk
  refine z_iload_n O dzX8_isOfA_0 rfl 0 rfl ?_
  refine z_bipush O dzX8_isOfA_1 hcB6 ?_
  refine z_icmp_lt O dzX8_isOfA_3 (fun c2 => ?_) (fun c2 => ?_)
  · have h := z_if_t c2 h
    refine z_iconst O dzX8_isOfA_12 hcI1 ?_
    refine z_goto O dzX8_isOfA_13 ?_
    exact z_zret O hr hlk rfl dzX8_isOfA_17 (z_rf h)
  · have h := z_if_f c2 h
    refine z_iload_n O dzX8_isOfA_6 rfl 0 rfl ?_
    refine z_bipush O dzX8_isOfA_7 hcB8 ?_
    refine z_icmp_ne O dzX8_isOfA_9 (fun c1 => ?_) (fun c1 => ?_)
    · have h := z_if_f c1 h
      refine z_iconst O dzX8_isOfA_16 hcI0 ?_
      exact z_zret O hr hlk rfl dzX8_isOfA_17 (z_rf h)
    · have h := z_if_t c1 h
      refine z_iconst O dzX8_isOfA_12 hcI1 ?_
      refine z_goto O dzX8_isOfA_13 ?_
      exact z_zret O hr hlk rfl dzX8_isOfA_17 (z_rf h)
def fX8_isSet (a0 : Int32) : Option (Int32) :=
  (fX8_in (a0.toInt64) (0 : Int64) (4095 : Int64)).bind (fun r1 => z_gd (z_bz r1) (some r1))
theorem kX8_isSet {l : Launch} {Y : zY} (hi : z_inj ΛM Y) {σ : zS} {a0 : Int32} {fin : Int32} (h : fX8_isSet a0 = some fin) : Met l yX8_isSet (Cond.code yX8_isSet cX8_isSet 1 (some .boolean) :: z_TB) (z_rm 2) (z_Pc ΛM Y σ [.int a0]) (z_Qi ΛM Y (fin, σ)) 0 0 (z_A ΛM Y) := by
  unfold fX8_isSet at h
  refine z_met [(0, .int a0)] rfl (Nat.le_of_ble_eq_true rfl) (plainFor_of_name (by decide)) hi ?_
  intro p e s m args below meth c O hr hlk
  refine z_iload_n O dzX8_isSet_0 rfl 0 rfl ?_
  refine z_i2l O dzX8_isSet_1 ?_
  refine z_lconst O dzX8_isSet_2 (v := 0) rfl ?_
  refine z_ldc2 O tw_899 dzX8_isSet_3 ?_
  obtain ⟨r1, hc1, h⟩ := z_bd_at h
  refine z_callSiR O (As := [.long (a0.toInt64), .long (0 : Int64), .long (4095 : Int64)]) (rest := []) (kX8_in hi hc1) mX8_in tw_876 (Nat.le_of_ble_eq_true rfl) rfl rfl (Nat.le_of_ble_eq_true rfl) dzX8_isSet_6 ?_
  obtain ⟨g1, h⟩ := z_gd_at h
  exact z_zret O hr hlk (z_bz_n g1) dzX8_isSet_9 (z_rf h)
def fX8_isSimple_L12 (σ : zS) (a1 : Int32) (k : Int32 → Option (Int32)) : Nat → Int32 → Option (Int32)
  | 0, _ => none
  | n + 1, v2 => z_gd (z_in a1 4) ((if (σ.1 2 a1.toNatClampNeg) ≤ v2 then k v2 else (fX8_hasPart σ a1 v2).bind (fun r1 => (if r1 = 0 then fX8_isSimple_L12 σ a1 k n (v2 + (1 : Int32)) else some (0 : Int32)))))
theorem kX8_isSimple_L12 {l : Launch} {Y : zY} {fin : Int32} {p : Program} {e : Env} {s : State} {m : MethodId} {args : Array Value} {below : List Frame} {meth : Method} {c : Code} {σ : zS} (O : z_ok ΛM Y p s m args c cX8_isSimple RX8 3) (hi : z_inj ΛM Y) (hr : meth.sig.returnType = (some .int)) (hlk : meth.locks = false) {a1 : Int32} {k : Int32 → Option (Int32)} (hk : ∀ (z2 : Int32), k z2 = some fin → z_G p l e (z_rm 3) s m args below meth c (MQ below (z_Qi ΛM Y (fin, σ)) args s 0 0 (z_A ΛM Y)) ΛM Y 3 σ [(0, .ref (z_ad Y 0)), (1, .int a1), (2, .int z2)] 39 []) : ∀ (n : Nat) (v2 : Int32), fX8_isSimple_L12 σ a1 k n v2 = some fin → z_G p l e (z_rm 3) s m args below meth c (MQ below (z_Qi ΛM Y (fin, σ)) args s 0 0 (z_A ΛM Y)) ΛM Y 3 σ [(0, .ref (z_ad Y 0)), (1, .int a1), (2, .int v2)] 12 [] := by
  intro n
  induction n with
  | zero =>
    intro _ h
    cases h
  | succ n ih =>
    intro v2 h
    rw [fX8_isSimple_L12.eq_2] at h
    refine z_iload_n O dzX8_isSimple_12 rfl 2 rfl ?_
    refine z_aload_n O dzX8_isSimple_13 rfl 0 rfl ?_
    refine z_get O z_cb8 fm_obj (v := .ref (z_ad Y 2)) 1 (Nat.le_of_ble_eq_true rfl) tw_750 rfl dzX8_isSimple_14 ?_
    refine z_iload_n O dzX8_isSimple_17 rfl 1 rfl ?_
    obtain ⟨g1, h⟩ := z_gd_at h
    refine z_iald O fm_sizes g1 dzX8_isSimple_18 ?_
    refine z_icmp_ge O dzX8_isSimple_19 (fun c2 => ?_) (fun c2 => ?_)
    · have h := z_if_t c2 h
      exact hk _ h
    · have h := z_if_f c2 h
      refine z_aload_n O dzX8_isSimple_22 rfl 0 rfl ?_
      refine z_iload_n O dzX8_isSimple_23 rfl 1 rfl ?_
      refine z_iload_n O dzX8_isSimple_24 rfl 2 rfl ?_
      obtain ⟨r1, hc1, h⟩ := z_bd_at h
      refine z_callViR O (As := [.int a1, .int v2]) (rest := []) (kX8_hasPart hi hc1) mX8_hasPart tw_968 (Nat.le_of_ble_eq_true rfl) fm_obj rfl rfl rfl rfl (Nat.le_of_ble_eq_true rfl) dzX8_isSimple_25 ?_
      refine z_if_eq O dzX8_isSimple_28 (fun c1 => ?_) (fun c1 => ?_)
      · have h := z_if_t c1 h
        refine z_iinc O (lv' := [(2, .int (v2 + (1 : Int32))), (0, .ref (z_ad Y 0)), (1, .int a1)]) dzX8_isSimple_33 2 rfl (congrArg _ hcI1) (by decide) rfl ?_
        refine z_goto O dzX8_isSimple_36 ?_
        refine z_sub [1, 2, 0] rfl ?_
        exact ih _ h
      · have h := z_if_f c1 h
        refine z_iconst O dzX8_isSimple_31 hcI0 ?_
        exact z_iret O hr hlk dzX8_isSimple_32 (z_rf h)
def fX8_isSimple (σ : zS) (a1 : Int32) : Option (Int32) :=
  (fX8_isFamily a1).bind (fun r1 => (if r1 = 0 then some (-2 : Int32) else fX8_isSimple_L12 σ a1 (fun (x1 : Int32) => some (1 : Int32)) z_F (0 : Int32)))
theorem kX8_isSimple {l : Launch} {Y : zY} (hi : z_inj ΛM Y) {σ : zS} {a1 : Int32} {fin : Int32} (h : fX8_isSimple σ a1 = some fin) : Met l yX8_isSimple (Cond.code yX8_isSimple cX8_isSimple 3 (some .int) :: z_TB) (z_rm 3) (z_Pc ΛM Y σ [.ref (z_ad Y 0), .int a1]) (z_Qi ΛM Y (fin, σ)) 0 0 (z_A ΛM Y) := by
  unfold fX8_isSimple at h
  refine z_met [(0, .ref (z_ad Y 0)), (1, .int a1)] rfl (Nat.le_of_ble_eq_true rfl) (plainFor_of_name (by decide)) hi ?_
  intro p e s m args below meth c O hr hlk
  refine z_iload_n O dzX8_isSimple_0 rfl 1 rfl ?_
  obtain ⟨r1, hc1, h⟩ := z_bd_at h
  refine z_callSiR O (As := [.int a1]) (rest := []) (kX8_isFamily hi hc1) mX8_isFamily tw_892 (Nat.le_of_ble_eq_true rfl) rfl rfl (Nat.le_of_ble_eq_true rfl) dzX8_isSimple_1 ?_
  refine z_if_ne O dzX8_isSimple_4 (fun c1 => ?_) (fun c1 => ?_)
  · have h := z_if_f c1 h
    refine z_iconst O dzX8_isSimple_10 hcI0 ?_
    refine z_istore_n O (lv' := [(2, .int (0 : Int32)), (0, .ref (z_ad Y 0)), (1, .int a1)]) dzX8_isSimple_11 rfl (by decide) rfl ?_
    refine z_sub [1, 2, 0] rfl ?_
    refine kX8_isSimple_L12 O hi hr hlk   (fun x1 h => ?_) _ _ h
    refine z_iconst O dzX8_isSimple_39 hcI1 ?_
    exact z_iret O hr hlk dzX8_isSimple_40 (z_rf h)
  · have h := z_if_t c1 h
    refine z_bipush O dzX8_isSimple_7 hcBm2 ?_
    exact z_iret O hr hlk dzX8_isSimple_9 (z_rf h)
def fX8_keys_L30 (a1 : Int32) (a3 : Int32) (k : zS → Int32 → Option (Int32 × zS)) : Nat → zS → Int32 → Option (Int32 × zS)
  | 0, _, _ => none
  | n + 1, σ, v4 => (if a3 ≤ v4 then k σ v4 else (fX8_setOf σ a1 a3).bind (fun r1 => (fX8_setOf σ a1 v4).bind (fun r2 => z_gd (z_in (σ.1 0 16) 780) (z_lt (z_sI σ 14 (σ.1 0 16).toNatClampNeg (r1 ^^^ r2)) (fun (w1 : zS) => z_lt (z_sI w1 0 16 ((w1.1 0 16) + (1 : Int32))) (fun (w2 : zS) => fX8_keys_L30 a1 a3 k n w2 (v4 + (1 : Int32))))))))
theorem kX8_keys_L30 {l : Launch} {Y : zY} {fin : Int32 × zS} {p : Program} {e : Env} {s : State} {m : MethodId} {args : Array Value} {below : List Frame} {meth : Method} {c : Code} (O : z_ok ΛM Y p s m args c cX8_keys RX8 5) (hi : z_inj ΛM Y) (hr : meth.sig.returnType = (some .int)) (hlk : meth.locks = false) {a1 : Int32} {b2 : Int32} {a3 : Int32} {k : zS → Int32 → Option (Int32 × zS)} (hk : ∀ (w : zS) (z4 : Int32), k w z4 = some fin → z_G p l e (z_rm 3) s m args below meth c (MQ below (z_Qi ΛM Y fin) args s 0 0 (z_A ΛM Y)) ΛM Y 5 w [(0, .ref (z_ad Y 0)), (1, .int a1), (2, .int b2), (3, .int a3), (4, .int z4)] 75 []) : ∀ (n : Nat) (σ : zS) (v4 : Int32), fX8_keys_L30 a1 a3 k n σ v4 = some fin → z_G p l e (z_rm 3) s m args below meth c (MQ below (z_Qi ΛM Y fin) args s 0 0 (z_A ΛM Y)) ΛM Y 5 σ [(0, .ref (z_ad Y 0)), (1, .int a1), (2, .int b2), (3, .int a3), (4, .int v4)] 30 [] := by
  intro n
  induction n with
  | zero =>
    intro _ _ h
    cases h
  | succ n ih =>
    intro σ v4 h
    rw [fX8_keys_L30.eq_2] at h
    refine z_iload O dzX8_keys_30 4 rfl ?_
    refine z_iload_n O dzX8_keys_32 rfl 3 rfl ?_
    refine z_icmp_ge O dzX8_keys_33 (fun c1 => ?_) (fun c1 => ?_)
    · have h := z_if_t c1 h
      exact hk _ _ h
    · have h := z_if_f c1 h
      refine z_aload_n O dzX8_keys_36 rfl 0 rfl ?_
      refine z_get O z_cb8 fm_obj (v := .ref (z_ad Y 14)) 15 (Nat.le_of_ble_eq_true rfl) tw_764 rfl dzX8_keys_37 ?_
      refine z_aload_n O dzX8_keys_40 rfl 0 rfl ?_
      refine z_get O z_cb8 fm_obj (v := .int (σ.1 0 16)) 16 (Nat.le_of_ble_eq_true rfl) tw_765 rfl dzX8_keys_41 ?_
      refine z_aload_n O dzX8_keys_44 rfl 0 rfl ?_
      refine z_iload_n O dzX8_keys_45 rfl 1 rfl ?_
      refine z_iload_n O dzX8_keys_46 rfl 3 rfl ?_
      obtain ⟨r1, hc1, h⟩ := z_bd_at h
      refine z_callViR O (As := [.int a1, .int a3]) (rest := [.int (σ.1 0 16), .ref (z_ad Y 14)]) (kX8_setOf hi hc1) mX8_setOf tw_908 (Nat.le_of_ble_eq_true rfl) fm_obj rfl rfl rfl rfl (Nat.le_of_ble_eq_true rfl) dzX8_keys_47 ?_
      refine z_aload_n O dzX8_keys_50 rfl 0 rfl ?_
      refine z_iload_n O dzX8_keys_51 rfl 1 rfl ?_
      refine z_iload O dzX8_keys_52 4 rfl ?_
      obtain ⟨r2, hc2, h⟩ := z_bd_at h
      refine z_callViR O (As := [.int a1, .int v4]) (rest := [.int r1, .int (σ.1 0 16), .ref (z_ad Y 14)]) (kX8_setOf hi hc2) mX8_setOf tw_908 (Nat.le_of_ble_eq_true rfl) fm_obj rfl rfl rfl rfl (Nat.le_of_ble_eq_true rfl) dzX8_keys_54 ?_
      refine z_ixor O dzX8_keys_57 ?_
      obtain ⟨g1, h⟩ := z_gd_at h
      refine z_iast O fm_wanted g1 dzX8_keys_58 ?_
      refine z_sig (fun w1 e1 => ?_)
      have h := z_lt_at e1 h
      refine z_aload_n O dzX8_keys_59 rfl 0 rfl ?_
      refine z_dup O dzX8_keys_60 rfl ?_
      refine z_get O z_cb8 fm_obj (v := .int (w1.1 0 16)) 16 (Nat.le_of_ble_eq_true rfl) tw_765 rfl dzX8_keys_61 ?_
      refine z_iconst O dzX8_keys_64 hcI1 ?_
      refine z_iadd O dzX8_keys_65 ?_
      refine z_put O z_cb8 fm_obj 16 (Nat.le_of_ble_eq_true rfl) tw_765 rfl rfl rfl fp_M16 dzX8_keys_66 ?_
      refine z_sig (fun w2 e2 => ?_)
      have h := z_lt_at e2 h
      refine z_iinc O (lv' := [(4, .int (v4 + (1 : Int32))), (0, .ref (z_ad Y 0)), (1, .int a1), (2, .int b2), (3, .int a3)]) dzX8_keys_69 4 rfl (congrArg _ hcI1) (by decide) rfl ?_
      refine z_goto O dzX8_keys_72 ?_
      refine z_sub [1, 2, 3, 4, 0] rfl ?_
      exact ih _ _ h
def fX8_keys_L17 (a1 : Int32) (k : zS → Int32 → Option (Int32 × zS)) : Nat → zS → Int32 → Option (Int32 × zS)
  | 0, _, _ => none
  | n + 1, σ, v3 => z_gd (z_in a1 4) ((if (σ.1 2 a1.toNatClampNeg) ≤ v3 then k σ v3 else fX8_keys_L30 a1 v3 (fun (w1 : zS) (x1 : Int32) => fX8_keys_L17 a1 k n w1 (v3 + (1 : Int32))) z_F σ (0 : Int32)))
theorem kX8_keys_L17 {l : Launch} {Y : zY} {fin : Int32 × zS} {p : Program} {e : Env} {s : State} {m : MethodId} {args : Array Value} {below : List Frame} {meth : Method} {c : Code} (O : z_ok ΛM Y p s m args c cX8_keys RX8 5) (hi : z_inj ΛM Y) (hr : meth.sig.returnType = (some .int)) (hlk : meth.locks = false) {a1 : Int32} {b2 : Int32} {k : zS → Int32 → Option (Int32 × zS)} (hk : ∀ (w : zS) (z3 : Int32), k w z3 = some fin → z_G p l e (z_rm 3) s m args below meth c (MQ below (z_Qi ΛM Y fin) args s 0 0 (z_A ΛM Y)) ΛM Y 5 w [(0, .ref (z_ad Y 0)), (1, .int a1), (2, .int b2), (3, .int z3)] 81 []) : ∀ (n : Nat) (σ : zS) (v3 : Int32), fX8_keys_L17 a1 k n σ v3 = some fin → z_G p l e (z_rm 3) s m args below meth c (MQ below (z_Qi ΛM Y fin) args s 0 0 (z_A ΛM Y)) ΛM Y 5 σ [(0, .ref (z_ad Y 0)), (1, .int a1), (2, .int b2), (3, .int v3)] 17 [] := by
  intro n
  induction n with
  | zero =>
    intro _ _ h
    cases h
  | succ n ih =>
    intro σ v3 h
    rw [fX8_keys_L17.eq_2] at h
    refine z_iload_n O dzX8_keys_17 rfl 3 rfl ?_
    refine z_aload_n O dzX8_keys_18 rfl 0 rfl ?_
    refine z_get O z_cb8 fm_obj (v := .ref (z_ad Y 2)) 1 (Nat.le_of_ble_eq_true rfl) tw_750 rfl dzX8_keys_19 ?_
    refine z_iload_n O dzX8_keys_22 rfl 1 rfl ?_
    obtain ⟨g1, h⟩ := z_gd_at h
    refine z_iald O fm_sizes g1 dzX8_keys_23 ?_
    refine z_icmp_ge O dzX8_keys_24 (fun c1 => ?_) (fun c1 => ?_)
    · have h := z_if_t c1 h
      exact hk _ _ h
    · have h := z_if_f c1 h
      refine z_iconst O dzX8_keys_27 hcI0 ?_
      refine z_istore O (lv' := [(4, .int (0 : Int32)), (0, .ref (z_ad Y 0)), (1, .int a1), (2, .int b2), (3, .int v3)]) dzX8_keys_28 (by decide) rfl ?_
      refine z_sub [1, 2, 3, 4, 0] rfl ?_
      refine kX8_keys_L30 O hi hr hlk   (fun w1 x1 h => ?_) _ _ _ h
      refine z_iinc O (lv' := [(3, .int (v3 + (1 : Int32))), (0, .ref (z_ad Y 0)), (1, .int a1), (2, .int b2), (4, .int x1)]) dzX8_keys_75 3 rfl (congrArg _ hcI1) (by decide) rfl ?_
      refine z_goto O dzX8_keys_78 ?_
      refine z_sub [1, 2, 3, 0] rfl ?_
      exact ih _ _ h
def fX8_keys (σ : zS) (a1 : Int32) (a2 : Int32) : Option (Int32 × zS) :=
  (fX8_isFamily a1).bind (fun r1 => (if r1 = 0 then some ((-2 : Int32), σ) else z_lt (z_sI σ 0 16 (0 : Int32)) (fun (w1 : zS) => fX8_keys_L17 a1 (fun (w2 : zS) (x1 : Int32) => (fX8_findsLeast w2).bind (fun r2 => (fX8_leastAt r2 a2).bind (fun r3 => some (r3, r2)))) z_F w1 (0 : Int32))))
theorem kX8_keys {l : Launch} {Y : zY} (hi : z_inj ΛM Y) {σ : zS} {a1 : Int32} {a2 : Int32} {fin : Int32 × zS} (h : fX8_keys σ a1 a2 = some fin) : Met l yX8_keys (Cond.code yX8_keys cX8_keys 5 (some .int) :: z_TB) (z_rm 3) (z_Pc ΛM Y σ [.ref (z_ad Y 0), .int a1, .int a2]) (z_Qi ΛM Y fin) 0 0 (z_A ΛM Y) := by
  unfold fX8_keys at h
  refine z_met [(0, .ref (z_ad Y 0)), (1, .int a1), (2, .int a2)] rfl (Nat.le_of_ble_eq_true rfl) (plainFor_of_name (by decide)) hi ?_
  intro p e s m args below meth c O hr hlk
  refine z_iload_n O dzX8_keys_0 rfl 1 rfl ?_
  obtain ⟨r1, hc1, h⟩ := z_bd_at h
  refine z_callSiR O (As := [.int a1]) (rest := []) (kX8_isFamily hi hc1) mX8_isFamily tw_892 (Nat.le_of_ble_eq_true rfl) rfl rfl (Nat.le_of_ble_eq_true rfl) dzX8_keys_1 ?_
  refine z_if_ne O dzX8_keys_4 (fun c1 => ?_) (fun c1 => ?_)
  · have h := z_if_f c1 h
    refine z_aload_n O dzX8_keys_10 rfl 0 rfl ?_
    refine z_iconst O dzX8_keys_11 hcI0 ?_
    refine z_put O z_cb8 fm_obj 16 (Nat.le_of_ble_eq_true rfl) tw_765 rfl rfl rfl fp_M16 dzX8_keys_12 ?_
    refine z_sig (fun w1 e1 => ?_)
    have h := z_lt_at e1 h
    refine z_iconst O dzX8_keys_15 hcI0 ?_
    refine z_istore_n O (lv' := [(3, .int (0 : Int32)), (0, .ref (z_ad Y 0)), (1, .int a1), (2, .int a2)]) dzX8_keys_16 rfl (by decide) rfl ?_
    refine z_sub [1, 2, 3, 0] rfl ?_
    refine kX8_keys_L17 O hi hr hlk   (fun w2 x1 h => ?_) _ _ _ h
    refine z_aload_n O dzX8_keys_81 rfl 0 rfl ?_
    obtain ⟨r2, hc2, h⟩ := z_bd_at h
    refine z_callVv O (As := []) (rest := []) (kX8_findsLeast hi hc2) mX8_findsLeast tw_1015 (Nat.le_of_ble_eq_true rfl) fm_obj rfl rfl rfl rfl (Nat.le_of_ble_eq_true rfl) dzX8_keys_82 ?_
    refine z_aload_n O dzX8_keys_85 rfl 0 rfl ?_
    refine z_iload_n O dzX8_keys_86 rfl 2 rfl ?_
    obtain ⟨r3, hc3, h⟩ := z_bd_at h
    refine z_callViR O (As := [.int a2]) (rest := []) (kX8_leastAt hi hc3) mX8_leastAt tw_1019 (Nat.le_of_ble_eq_true rfl) fm_obj rfl rfl rfl rfl (Nat.le_of_ble_eq_true rfl) dzX8_keys_87 ?_
    exact z_iret O hr hlk dzX8_keys_90 h
  · have h := z_if_t c1 h
    refine z_bipush O dzX8_keys_7 hcBm2 ?_
    exact z_iret O hr hlk dzX8_keys_9 h
def fX8_lean_L14 (a1 : Int32) (k : zS → Int32 → Int32 → Option (Int32 × zS)) : Nat → zS → Int32 → Int32 → Option (Int32 × zS)
  | 0, _, _, _ => none
  | n + 1, σ, v2, v3 => z_gd (z_in a1 4) ((if (σ.1 2 a1.toNatClampNeg) ≤ v3 then k σ v2 v3 else (fX8_hasPart σ a1 v3).bind (fun r1 => z_gd (z_in v3 40) (z_gd (z_bz r1) (z_lt (z_sI σ 13 v3.toNatClampNeg r1) (fun (w1 : zS) => z_gd (z_in v3 40) ((if (w1.1 13 v3.toNatClampNeg) = 0 then z_lt (v2 + (0 : Int32)) (fun (x1 : Int32) => fX8_lean_L14 a1 k n w1 x1 (v3 + (1 : Int32))) else z_lt (v2 + (1 : Int32)) (fun (x2 : Int32) => fX8_lean_L14 a1 k n w1 x2 (v3 + (1 : Int32)))))))))))
theorem kX8_lean_L14 {l : Launch} {Y : zY} {fin : Int32 × zS} {p : Program} {e : Env} {s : State} {m : MethodId} {args : Array Value} {below : List Frame} {meth : Method} {c : Code} (O : z_ok ΛM Y p s m args c cX8_lean RX8 4) (hi : z_inj ΛM Y) (hr : meth.sig.returnType = (some .int)) (hlk : meth.locks = false) {a1 : Int32} {k : zS → Int32 → Int32 → Option (Int32 × zS)} (hk : ∀ (w : zS) (z2 : Int32) (z3 : Int32), k w z2 z3 = some fin → z_G p l e (z_rm 3) s m args below meth c (MQ below (z_Qi ΛM Y fin) args s 0 0 (z_A ΛM Y)) ΛM Y 4 w [(0, .ref (z_ad Y 0)), (1, .int a1), (2, .int z2), (3, .int z3)] 59 []) : ∀ (n : Nat) (σ : zS) (v2 : Int32) (v3 : Int32), fX8_lean_L14 a1 k n σ v2 v3 = some fin → z_G p l e (z_rm 3) s m args below meth c (MQ below (z_Qi ΛM Y fin) args s 0 0 (z_A ΛM Y)) ΛM Y 4 σ [(0, .ref (z_ad Y 0)), (1, .int a1), (2, .int v2), (3, .int v3)] 14 [] := by
  intro n
  induction n with
  | zero =>
    intro _ _ _ h
    cases h
  | succ n ih =>
    intro σ v2 v3 h
    rw [fX8_lean_L14.eq_2] at h
    refine z_iload_n O dzX8_lean_14 rfl 3 rfl ?_
    refine z_aload_n O dzX8_lean_15 rfl 0 rfl ?_
    refine z_get O z_cb8 fm_obj (v := .ref (z_ad Y 2)) 1 (Nat.le_of_ble_eq_true rfl) tw_750 rfl dzX8_lean_16 ?_
    refine z_iload_n O dzX8_lean_19 rfl 1 rfl ?_
    obtain ⟨g1, h⟩ := z_gd_at h
    refine z_iald O fm_sizes g1 dzX8_lean_20 ?_
    refine z_icmp_ge O dzX8_lean_21 (fun c2 => ?_) (fun c2 => ?_)
    · have h := z_if_t c2 h
      exact hk _ _ _ h
    · have h := z_if_f c2 h
      refine z_aload_n O dzX8_lean_24 rfl 0 rfl ?_
      refine z_get O z_cb8 fm_obj (v := .ref (z_ad Y 13)) 14 (Nat.le_of_ble_eq_true rfl) tw_763 rfl dzX8_lean_25 ?_
      refine z_iload_n O dzX8_lean_28 rfl 3 rfl ?_
      refine z_aload_n O dzX8_lean_29 rfl 0 rfl ?_
      refine z_iload_n O dzX8_lean_30 rfl 1 rfl ?_
      refine z_iload_n O dzX8_lean_31 rfl 3 rfl ?_
      obtain ⟨r1, hc1, h⟩ := z_bd_at h
      refine z_callViR O (As := [.int a1, .int v3]) (rest := [.int v3, .ref (z_ad Y 13)]) (kX8_hasPart hi hc1) mX8_hasPart tw_968 (Nat.le_of_ble_eq_true rfl) fm_obj rfl rfl rfl rfl (Nat.le_of_ble_eq_true rfl) dzX8_lean_32 ?_
      obtain ⟨g2, h⟩ := z_gd_at h
      obtain ⟨g3, h⟩ := z_gd_at h
      refine z_zast O fm_goes g2 g3 dzX8_lean_35 ?_
      refine z_sig (fun w1 e1 => ?_)
      have h := z_lt_at e1 h
      refine z_iload_n O dzX8_lean_36 rfl 2 rfl ?_
      refine z_aload_n O dzX8_lean_37 rfl 0 rfl ?_
      refine z_get O z_cb8 fm_obj (v := .ref (z_ad Y 13)) 14 (Nat.le_of_ble_eq_true rfl) tw_763 rfl dzX8_lean_38 ?_
      refine z_iload_n O dzX8_lean_41 rfl 3 rfl ?_
      obtain ⟨g4, h⟩ := z_gd_at h
      refine z_zald O fm_goes g4 dzX8_lean_42 ?_
      refine z_if_eq O dzX8_lean_43 (fun c1 => ?_) (fun c1 => ?_)
      · have h := z_if_t c1 h
        refine z_iconst O dzX8_lean_50 hcI0 ?_
        refine z_iadd O dzX8_lean_51 ?_
        refine z_topi (fun x1 e2 => ?_)
        have h := z_lt_at e2 h
        refine z_istore_n O (lv' := [(2, .int x1), (0, .ref (z_ad Y 0)), (1, .int a1), (3, .int v3)]) dzX8_lean_52 rfl (by decide) rfl ?_
        refine z_iinc O (lv' := [(3, .int (v3 + (1 : Int32))), (2, .int x1), (0, .ref (z_ad Y 0)), (1, .int a1)]) dzX8_lean_53 3 rfl (congrArg _ hcI1) (by decide) rfl ?_
        refine z_goto O dzX8_lean_56 ?_
        refine z_sub [2, 3, 1, 0] rfl ?_
        exact ih _ _ _ h
      · have h := z_if_f c1 h
        refine z_iconst O dzX8_lean_46 hcI1 ?_
        refine z_goto O dzX8_lean_47 ?_
        refine z_iadd O dzX8_lean_51 ?_
        refine z_topi (fun x2 e3 => ?_)
        have h := z_lt_at e3 h
        refine z_istore_n O (lv' := [(2, .int x2), (0, .ref (z_ad Y 0)), (1, .int a1), (3, .int v3)]) dzX8_lean_52 rfl (by decide) rfl ?_
        refine z_iinc O (lv' := [(3, .int (v3 + (1 : Int32))), (2, .int x2), (0, .ref (z_ad Y 0)), (1, .int a1)]) dzX8_lean_53 3 rfl (congrArg _ hcI1) (by decide) rfl ?_
        refine z_goto O dzX8_lean_56 ?_
        refine z_sub [2, 3, 1, 0] rfl ?_
        exact ih _ _ _ h
def fX8_lean_L68 (a1 : Int32) (k : zS → Int32 → Option (Int32 × zS)) : Nat → zS → Int32 → Option (Int32 × zS)
  | 0, _, _ => none
  | n + 1, σ, v3 => (if v3 < 0 then k σ v3 else z_gd (z_in v3 40) ((if (σ.1 13 v3.toNatClampNeg) = 0 then fX8_lean_L68 a1 k n σ (v3 + (-1 : Int32)) else (fX8_drops σ a1 v3).bind (fun r1 => fX8_lean_L68 a1 k n r1 (v3 + (-1 : Int32))))))
theorem kX8_lean_L68 {l : Launch} {Y : zY} {fin : Int32 × zS} {p : Program} {e : Env} {s : State} {m : MethodId} {args : Array Value} {below : List Frame} {meth : Method} {c : Code} (O : z_ok ΛM Y p s m args c cX8_lean RX8 4) (hi : z_inj ΛM Y) (hr : meth.sig.returnType = (some .int)) (hlk : meth.locks = false) {a1 : Int32} {b2 : Int32} {k : zS → Int32 → Option (Int32 × zS)} (hk : ∀ (w : zS) (z3 : Int32), k w z3 = some fin → z_G p l e (z_rm 3) s m args below meth c (MQ below (z_Qi ΛM Y fin) args s 0 0 (z_A ΛM Y)) ΛM Y 4 w [(0, .ref (z_ad Y 0)), (1, .int a1), (2, .int b2), (3, .int z3)] 93 []) : ∀ (n : Nat) (σ : zS) (v3 : Int32), fX8_lean_L68 a1 k n σ v3 = some fin → z_G p l e (z_rm 3) s m args below meth c (MQ below (z_Qi ΛM Y fin) args s 0 0 (z_A ΛM Y)) ΛM Y 4 σ [(0, .ref (z_ad Y 0)), (1, .int a1), (2, .int b2), (3, .int v3)] 68 [] := by
  intro n
  induction n with
  | zero =>
    intro _ _ h
    cases h
  | succ n ih =>
    intro σ v3 h
    rw [fX8_lean_L68.eq_2] at h
    refine z_iload_n O dzX8_lean_68 rfl 3 rfl ?_
    refine z_if_lt O dzX8_lean_69 (fun c2 => ?_) (fun c2 => ?_)
    · have h := z_if_t c2 h
      exact hk _ _ h
    · have h := z_if_f c2 h
      refine z_aload_n O dzX8_lean_72 rfl 0 rfl ?_
      refine z_get O z_cb8 fm_obj (v := .ref (z_ad Y 13)) 14 (Nat.le_of_ble_eq_true rfl) tw_763 rfl dzX8_lean_73 ?_
      refine z_iload_n O dzX8_lean_76 rfl 3 rfl ?_
      obtain ⟨g1, h⟩ := z_gd_at h
      refine z_zald O fm_goes g1 dzX8_lean_77 ?_
      refine z_if_eq O dzX8_lean_78 (fun c1 => ?_) (fun c1 => ?_)
      · have h := z_if_t c1 h
        refine z_iinc O (lv' := [(3, .int (v3 + (-1 : Int32))), (0, .ref (z_ad Y 0)), (1, .int a1), (2, .int b2)]) dzX8_lean_87 3 rfl (congrArg _ hcIm1) (by decide) rfl ?_
        refine z_goto O dzX8_lean_90 ?_
        refine z_sub [1, 2, 3, 0] rfl ?_
        exact ih _ _ h
      · have h := z_if_f c1 h
        refine z_aload_n O dzX8_lean_81 rfl 0 rfl ?_
        refine z_iload_n O dzX8_lean_82 rfl 1 rfl ?_
        refine z_iload_n O dzX8_lean_83 rfl 3 rfl ?_
        obtain ⟨r1, hc1, h⟩ := z_bd_at h
        refine z_callVv O (As := [.int a1, .int v3]) (rest := []) (kX8_drops hi hc1) mX8_drops tw_924 (Nat.le_of_ble_eq_true rfl) fm_obj rfl rfl rfl rfl (Nat.le_of_ble_eq_true rfl) dzX8_lean_84 ?_
        refine z_iinc O (lv' := [(3, .int (v3 + (-1 : Int32))), (0, .ref (z_ad Y 0)), (1, .int a1), (2, .int b2)]) dzX8_lean_87 3 rfl (congrArg _ hcIm1) (by decide) rfl ?_
        refine z_goto O dzX8_lean_90 ?_
        refine z_sub [1, 2, 3, 0] rfl ?_
        exact ih _ _ h
def fX8_lean (σ : zS) (a1 : Int32) : Option (Int32 × zS) :=
  (fX8_isFamily a1).bind (fun r1 => (if r1 = 0 then some ((-2 : Int32), σ) else fX8_lean_L14 a1 (fun (w1 : zS) (x1 : Int32) (x2 : Int32) => z_gd (z_in a1 4) (z_lt ((w1.1 2 a1.toNatClampNeg) - (1 : Int32)) (fun (x3 : Int32) => fX8_lean_L68 a1 (fun (w2 : zS) (x4 : Int32) => z_lt (z_sI w2 0 10 (0 : Int32)) (fun (w3 : zS) => some (x1, w3))) z_F w1 x3))) z_F σ (0 : Int32) (0 : Int32)))
theorem kX8_lean {l : Launch} {Y : zY} (hi : z_inj ΛM Y) {σ : zS} {a1 : Int32} {fin : Int32 × zS} (h : fX8_lean σ a1 = some fin) : Met l yX8_lean (Cond.code yX8_lean cX8_lean 4 (some .int) :: z_TB) (z_rm 3) (z_Pc ΛM Y σ [.ref (z_ad Y 0), .int a1]) (z_Qi ΛM Y fin) 0 0 (z_A ΛM Y) := by
  unfold fX8_lean at h
  refine z_met [(0, .ref (z_ad Y 0)), (1, .int a1)] rfl (Nat.le_of_ble_eq_true rfl) (plainFor_of_name (by decide)) hi ?_
  intro p e s m args below meth c O hr hlk
  refine z_iload_n O dzX8_lean_0 rfl 1 rfl ?_
  obtain ⟨r1, hc1, h⟩ := z_bd_at h
  refine z_callSiR O (As := [.int a1]) (rest := []) (kX8_isFamily hi hc1) mX8_isFamily tw_892 (Nat.le_of_ble_eq_true rfl) rfl rfl (Nat.le_of_ble_eq_true rfl) dzX8_lean_1 ?_
  refine z_if_ne O dzX8_lean_4 (fun c1 => ?_) (fun c1 => ?_)
  · have h := z_if_f c1 h
    refine z_iconst O dzX8_lean_10 hcI0 ?_
    refine z_istore_n O (lv' := [(2, .int (0 : Int32)), (0, .ref (z_ad Y 0)), (1, .int a1)]) dzX8_lean_11 rfl (by decide) rfl ?_
    refine z_iconst O dzX8_lean_12 hcI0 ?_
    refine z_istore_n O (lv' := [(3, .int (0 : Int32)), (2, .int (0 : Int32)), (0, .ref (z_ad Y 0)), (1, .int a1)]) dzX8_lean_13 rfl (by decide) rfl ?_
    refine z_sub [2, 3, 1, 0] rfl ?_
    refine kX8_lean_L14 O hi hr hlk   (fun w1 x1 x2 h => ?_) _ _ _ _ h
    refine z_aload_n O dzX8_lean_59 rfl 0 rfl ?_
    refine z_get O z_cb8 fm_obj (v := .ref (z_ad Y 2)) 1 (Nat.le_of_ble_eq_true rfl) tw_750 rfl dzX8_lean_60 ?_
    refine z_iload_n O dzX8_lean_63 rfl 1 rfl ?_
    obtain ⟨g1, h⟩ := z_gd_at h
    refine z_iald O fm_sizes g1 dzX8_lean_64 ?_
    refine z_iconst O dzX8_lean_65 hcI1 ?_
    refine z_isub O dzX8_lean_66 ?_
    refine z_topi (fun x3 e1 => ?_)
    have h := z_lt_at e1 h
    refine z_istore_n O (lv' := [(3, .int x3), (0, .ref (z_ad Y 0)), (1, .int a1), (2, .int x1)]) dzX8_lean_67 rfl (by decide) rfl ?_
    refine z_sub [1, 2, 3, 0] rfl ?_
    refine kX8_lean_L68 O hi hr hlk   (fun w2 x4 h => ?_) _ _ _ h
    refine z_aload_n O dzX8_lean_93 rfl 0 rfl ?_
    refine z_iconst O dzX8_lean_94 hcI0 ?_
    refine z_put O z_cb8 fm_obj 10 (Nat.le_of_ble_eq_true rfl) tw_759 rfl rfl rfl fp_M10 dzX8_lean_95 ?_
    refine z_sig (fun w3 e2 => ?_)
    have h := z_lt_at e2 h
    refine z_iload_n O dzX8_lean_98 rfl 2 rfl ?_
    exact z_iret O hr hlk dzX8_lean_99 h
  · have h := z_if_t c1 h
    refine z_bipush O dzX8_lean_7 hcBm2 ?_
    exact z_iret O hr hlk dzX8_lean_9 h
def fX8_rest_L4 (a0 : Int32) (k : Int32 → Int32 → Option (Int32)) : Nat → Int32 → Int32 → Option (Int32)
  | 0, _, _ => none
  | n + 1, v2, v3 => (if (12 : Int32) ≤ v3 then k v2 v3 else z_lt (v2 ||| ((1 : Int32) <<< (v3 &&& 31))) (fun (x1 : Int32) => z_lt (v3 + a0) (fun (x2 : Int32) => fX8_rest_L4 a0 k n x1 x2)))
theorem kX8_rest_L4 {l : Launch} {Y : zY} {fin : Int32} {p : Program} {e : Env} {s : State} {m : MethodId} {args : Array Value} {below : List Frame} {meth : Method} {c : Code} {σ : zS} (O : z_ok ΛM Y p s m args c cX8_rest RX8 4) (hi : z_inj ΛM Y) (hr : meth.sig.returnType = (some .int)) (hlk : meth.locks = false) {a0 : Int32} {k : Int32 → Int32 → Option (Int32)} (hk : ∀ (z2 : Int32) (z3 : Int32), k z2 z3 = some fin → z_G p l e (z_rm 1) s m args below meth c (MQ below (z_Qi ΛM Y (fin, σ)) args s 0 0 (z_A ΛM Y)) ΛM Y 4 σ [(0, .int a0), (2, .int z2), (3, .int z3)] 23 []) : ∀ (n : Nat) (v2 : Int32) (v3 : Int32), fX8_rest_L4 a0 k n v2 v3 = some fin → z_G p l e (z_rm 1) s m args below meth c (MQ below (z_Qi ΛM Y (fin, σ)) args s 0 0 (z_A ΛM Y)) ΛM Y 4 σ [(0, .int a0), (2, .int v2), (3, .int v3)] 4 [] := by
  intro n
  induction n with
  | zero =>
    intro _ _ h
    cases h
  | succ n ih =>
    intro v2 v3 h
    rw [fX8_rest_L4.eq_2] at h
    refine z_iload_n O dzX8_rest_4 rfl 2 rfl ?_
    refine z_bipush O dzX8_rest_5 hcB12 ?_
    refine z_icmp_ge O dzX8_rest_7 (fun c1 => ?_) (fun c1 => ?_)
    · have h := z_if_t c1 h
      exact hk _ _ h
    · have h := z_if_f c1 h
      refine z_iload_n O dzX8_rest_10 rfl 1 rfl ?_
      refine z_iconst O dzX8_rest_11 hcI1 ?_
      refine z_iload_n O dzX8_rest_12 rfl 2 rfl ?_
      refine z_ishl O dzX8_rest_13 ?_
      refine z_ior O dzX8_rest_14 ?_
      refine z_topi (fun x1 e1 => ?_)
      have h := z_lt_at e1 h
      refine z_istore_n O (lv' := [(2, .int x1), (0, .int a0), (3, .int v3)]) dzX8_rest_15 rfl (by decide) rfl ?_
      refine z_iload_n O dzX8_rest_16 rfl 2 rfl ?_
      refine z_iload_n O dzX8_rest_17 rfl 1 rfl ?_
      refine z_iadd O dzX8_rest_18 ?_
      refine z_topi (fun x2 e2 => ?_)
      have h := z_lt_at e2 h
      refine z_istore_n O (lv' := [(3, .int x2), (2, .int x1), (0, .int a0)]) dzX8_rest_19 rfl (by decide) rfl ?_
      refine z_goto O dzX8_rest_20 ?_
      refine z_sub [2, 1, 0] rfl ?_
      exact ih _ _ h
def fX8_rest (a0 : Int32) (a1 : Int32) : Option (Int32) :=
  fX8_rest_L4 a0 (fun (x1 : Int32) (x2 : Int32) => some x1) z_F (0 : Int32) a1
theorem kX8_rest {l : Launch} {Y : zY} (hi : z_inj ΛM Y) {σ : zS} {a0 : Int32} {a1 : Int32} {fin : Int32} (h : fX8_rest a0 a1 = some fin) : Met l yX8_rest (Cond.code yX8_rest cX8_rest 4 (some .int) :: z_TB) (z_rm 1) (z_Pc ΛM Y σ [.int a0, .int a1]) (z_Qi ΛM Y (fin, σ)) 0 0 (z_A ΛM Y) := by
  unfold fX8_rest at h
  refine z_met [(0, .int a0), (1, .int a1)] rfl (Nat.le_of_ble_eq_true rfl) (plainFor_of_name (by decide)) hi ?_
  intro p e s m args below meth c O hr hlk
  refine z_iconst O dzX8_rest_0 hcI0 ?_
  refine z_istore_n O (lv' := [(2, .int (0 : Int32)), (0, .int a0), (1, .int a1)]) dzX8_rest_1 rfl (by decide) rfl ?_
  refine z_iload_n O dzX8_rest_2 rfl 2 rfl ?_
  refine z_istore_n O (lv' := [(3, .int a1), (2, .int (0 : Int32)), (0, .int a0), (1, .int a1)]) dzX8_rest_3 rfl (by decide) rfl ?_
  refine z_sub [2, 1, 0] rfl ?_
  refine kX8_rest_L4 O hi hr hlk   (fun x1 x2 h => ?_) _ _ _ h
  refine z_iload_n O dzX8_rest_23 rfl 1 rfl ?_
  exact z_iret O hr hlk dzX8_rest_24 (z_rf h)
def fX8_run_L5 (a0 : Int32) (a1 : Int32) (a2 : Int32) (k : Int32 → Int32 → Option (Int32)) : Nat → Int32 → Int32 → Option (Int32)
  | 0, _, _ => none
  | n + 1, v3, v4 => (if a1 ≤ v4 then k v3 v4 else (if a2 = 0 then z_lt (v3 ||| ((1 : Int32) <<< ((a0 + v4) &&& 31))) (fun (x2 : Int32) => fX8_run_L5 a0 a1 a2 k n x2 (v4 + (1 : Int32))) else z_gd (z_nz a2) (z_lt (v3 ||| ((1 : Int32) <<< (((a0 + v4) - (a0 + v4) / a2 * a2) &&& 31))) (fun (x1 : Int32) => fX8_run_L5 a0 a1 a2 k n x1 (v4 + (1 : Int32))))))
theorem kX8_run_L5 {l : Launch} {Y : zY} {fin : Int32} {p : Program} {e : Env} {s : State} {m : MethodId} {args : Array Value} {below : List Frame} {meth : Method} {c : Code} {σ : zS} (O : z_ok ΛM Y p s m args c cX8_run RX8 5) (hi : z_inj ΛM Y) (hr : meth.sig.returnType = (some .int)) (hlk : meth.locks = false) {a0 : Int32} {a1 : Int32} {a2 : Int32} {k : Int32 → Int32 → Option (Int32)} (hk : ∀ (z3 : Int32) (z4 : Int32), k z3 z4 = some fin → z_G p l e (z_rm 1) s m args below meth c (MQ below (z_Qi ΛM Y (fin, σ)) args s 0 0 (z_A ΛM Y)) ΛM Y 5 σ [(0, .int a0), (1, .int a1), (2, .int a2), (3, .int z3), (4, .int z4)] 39 []) : ∀ (n : Nat) (v3 : Int32) (v4 : Int32), fX8_run_L5 a0 a1 a2 k n v3 v4 = some fin → z_G p l e (z_rm 1) s m args below meth c (MQ below (z_Qi ΛM Y (fin, σ)) args s 0 0 (z_A ΛM Y)) ΛM Y 5 σ [(0, .int a0), (1, .int a1), (2, .int a2), (3, .int v3), (4, .int v4)] 5 [] := by
  intro n
  induction n with
  | zero =>
    intro _ _ h
    cases h
  | succ n ih =>
    intro v3 v4 h
    rw [fX8_run_L5.eq_2] at h
    refine z_iload O dzX8_run_5 4 rfl ?_
    refine z_iload_n O dzX8_run_7 rfl 1 rfl ?_
    refine z_icmp_ge O dzX8_run_8 (fun c2 => ?_) (fun c2 => ?_)
    · have h := z_if_t c2 h
      exact hk _ _ h
    · have h := z_if_f c2 h
      refine z_iload_n O dzX8_run_11 rfl 3 rfl ?_
      refine z_iconst O dzX8_run_12 hcI1 ?_
      refine z_iload_n O dzX8_run_13 rfl 2 rfl ?_
      refine z_if_ne O dzX8_run_14 (fun c1 => ?_) (fun c1 => ?_)
      · have h := z_if_f c1 h
        refine z_iload_n O dzX8_run_24 rfl 0 rfl ?_
        refine z_iload O dzX8_run_25 4 rfl ?_
        refine z_iadd O dzX8_run_27 ?_
        refine z_iload_n O dzX8_run_28 rfl 2 rfl ?_
        obtain ⟨g1, h⟩ := z_gd_at h
        refine z_irem O dzX8_run_29 (z_nz_n g1) ?_
        refine z_ishl O dzX8_run_30 ?_
        refine z_ior O dzX8_run_31 ?_
        refine z_topi (fun x1 e1 => ?_)
        have h := z_lt_at e1 h
        refine z_istore_n O (lv' := [(3, .int x1), (0, .int a0), (1, .int a1), (2, .int a2), (4, .int v4)]) dzX8_run_32 rfl (by decide) rfl ?_
        refine z_iinc O (lv' := [(4, .int (v4 + (1 : Int32))), (3, .int x1), (0, .int a0), (1, .int a1), (2, .int a2)]) dzX8_run_33 4 rfl (congrArg _ hcI1) (by decide) rfl ?_
        refine z_goto O dzX8_run_36 ?_
        refine z_sub [2, 3, 4, 1, 0] rfl ?_
        exact ih _ _ h
      · have h := z_if_t c1 h
        refine z_iload_n O dzX8_run_17 rfl 0 rfl ?_
        refine z_iload O dzX8_run_18 4 rfl ?_
        refine z_iadd O dzX8_run_20 ?_
        refine z_goto O dzX8_run_21 ?_
        refine z_ishl O dzX8_run_30 ?_
        refine z_ior O dzX8_run_31 ?_
        refine z_topi (fun x2 e2 => ?_)
        have h := z_lt_at e2 h
        refine z_istore_n O (lv' := [(3, .int x2), (0, .int a0), (1, .int a1), (2, .int a2), (4, .int v4)]) dzX8_run_32 rfl (by decide) rfl ?_
        refine z_iinc O (lv' := [(4, .int (v4 + (1 : Int32))), (3, .int x2), (0, .int a0), (1, .int a1), (2, .int a2)]) dzX8_run_33 4 rfl (congrArg _ hcI1) (by decide) rfl ?_
        refine z_goto O dzX8_run_36 ?_
        refine z_sub [2, 3, 4, 1, 0] rfl ?_
        exact ih _ _ h
def fX8_run (a0 : Int32) (a1 : Int32) (a2 : Int32) : Option (Int32) :=
  fX8_run_L5 a0 a1 a2 (fun (x1 : Int32) (x2 : Int32) => some x1) z_F (0 : Int32) (0 : Int32)
theorem kX8_run {l : Launch} {Y : zY} (hi : z_inj ΛM Y) {σ : zS} {a0 : Int32} {a1 : Int32} {a2 : Int32} {fin : Int32} (h : fX8_run a0 a1 a2 = some fin) : Met l yX8_run (Cond.code yX8_run cX8_run 5 (some .int) :: z_TB) (z_rm 1) (z_Pc ΛM Y σ [.int a0, .int a1, .int a2]) (z_Qi ΛM Y (fin, σ)) 0 0 (z_A ΛM Y) := by
  unfold fX8_run at h
  refine z_met [(0, .int a0), (1, .int a1), (2, .int a2)] rfl (Nat.le_of_ble_eq_true rfl) (plainFor_of_name (by decide)) hi ?_
  intro p e s m args below meth c O hr hlk
  refine z_iconst O dzX8_run_0 hcI0 ?_
  refine z_istore_n O (lv' := [(3, .int (0 : Int32)), (0, .int a0), (1, .int a1), (2, .int a2)]) dzX8_run_1 rfl (by decide) rfl ?_
  refine z_iconst O dzX8_run_2 hcI0 ?_
  refine z_istore O (lv' := [(4, .int (0 : Int32)), (3, .int (0 : Int32)), (0, .int a0), (1, .int a1), (2, .int a2)]) dzX8_run_3 (by decide) rfl ?_
  refine z_sub [2, 3, 4, 1, 0] rfl ?_
  refine kX8_run_L5 O hi hr hlk   (fun x1 x2 h => ?_) _ _ _ h
  refine z_iload_n O dzX8_run_39 rfl 3 rfl ?_
  exact z_iret O hr hlk dzX8_run_40 (z_rf h)
def fX8_make_L69 (a2 : Int32) (a3 : Int32) (a4 : Int32) (k : zS → Int32 → Int32 → Option (Int32 × zS)) : Nat → zS → Int32 → Int32 → Option (Int32 × zS)
  | 0, _, _, _ => none
  | n + 1, σ, v5, v6 => z_jn (fun (x1 : Int32) => (if x1 ≤ v6 then k σ v5 v6 else (if a2 ≤ 0 then k σ v5 v6 else (if a2 = (1 : Int32) then z_gd (z_in v5 4096) (z_lt (z_sI σ 15 v5.toNatClampNeg ((3 : Int32) <<< (((2 : Int32) * v6) &&& 31))) (fun (w4 : zS) => fX8_make_L69 a2 a3 a4 k n w4 (v5 + (1 : Int32)) (v6 + (1 : Int32)))) else (if a2 = (2 : Int32) then (fX8_run v6 a4 (0 : Int32)).bind (fun r3 => z_gd (z_in v5 4096) (z_lt (z_sI σ 15 v5.toNatClampNeg r3) (fun (w3 : zS) => fX8_make_L69 a2 a3 a4 k n w3 (v5 + (1 : Int32)) (v6 + (1 : Int32))))) else (if a2 = (3 : Int32) then (fX8_run v6 a4 a3).bind (fun r2 => z_gd (z_in v5 4096) (z_lt (z_sI σ 15 v5.toNatClampNeg r2) (fun (w2 : zS) => fX8_make_L69 a2 a3 a4 k n w2 (v5 + (1 : Int32)) (v6 + (1 : Int32))))) else (fX8_rest a3 v6).bind (fun r1 => z_gd (z_in v5 4096) (z_lt (z_sI σ 15 v5.toNatClampNeg r1) (fun (w1 : zS) => fX8_make_L69 a2 a3 a4 k n w1 (v5 + (1 : Int32)) (v6 + (1 : Int32))))))))))) (fun j1 => (if a2 = (2 : Int32) then j1 ((a3 - a4) + (1 : Int32)) else j1 a3))
theorem kX8_make_L69 {l : Launch} {Y : zY} {fin : Int32 × zS} {p : Program} {e : Env} {s : State} {m : MethodId} {args : Array Value} {below : List Frame} {meth : Method} {c : Code} (O : z_ok ΛM Y p s m args c cX8_make RX8 7) (hi : z_inj ΛM Y) (hr : meth.sig.returnType = (some .int)) (hlk : meth.locks = false) {b1 : Int32} {a2 : Int32} {a3 : Int32} {a4 : Int32} {k : zS → Int32 → Int32 → Option (Int32 × zS)} (hk : ∀ (w : zS) (z5 : Int32) (z6 : Int32), k w z5 z6 = some fin → z_G p l e (z_rm 4) s m args below meth c (MQ below (z_Qi ΛM Y fin) args s 0 0 (z_A ΛM Y)) ΛM Y 7 w [(0, .ref (z_ad Y 0)), (1, .int b1), (2, .int a2), (3, .int a3), (4, .int a4), (5, .int z5), (6, .int z6)] 161 []) : ∀ (n : Nat) (σ : zS) (v5 : Int32) (v6 : Int32), fX8_make_L69 a2 a3 a4 k n σ v5 v6 = some fin → z_G p l e (z_rm 4) s m args below meth c (MQ below (z_Qi ΛM Y fin) args s 0 0 (z_A ΛM Y)) ΛM Y 7 σ [(0, .ref (z_ad Y 0)), (1, .int b1), (2, .int a2), (3, .int a3), (4, .int a4), (5, .int v5), (6, .int v6)] 69 [] := by
  intro n
  induction n with
  | zero =>
    intro _ _ _ h
    cases h
  | succ n ih =>
    intro σ v5 v6 h
    rw [fX8_make_L69.eq_2] at h
    refine z_iload O dzX8_make_69 6 rfl ?_
    refine z_iload_n O dzX8_make_71 rfl 2 rfl ?_
    refine z_iconst O dzX8_make_72 hcI2 ?_
    refine z_jn_at (P := fun j1 => ∀ (x1 : Int32), j1 x1 = some fin → z_G p l e (z_rm 4) s m args below meth c (MQ below (z_Qi ΛM Y fin) args s 0 0 (z_A ΛM Y)) ΛM Y 7 σ [(0, .ref (z_ad Y 0)), (1, .int b1), (2, .int a2), (3, .int a3), (4, .int a4), (5, .int v5), (6, .int v6)] 86 [.int x1, .int v6]) h ?_ (fun j1 J1 h => ?_)
    · intro x1 h
      refine z_icmp_ge O dzX8_make_86 (fun c5 => ?_) (fun c5 => ?_)
      · have h := z_if_t c5 h
        exact hk _ _ _ h
      · have h := z_if_f c5 h
        refine z_iload_n O dzX8_make_89 rfl 2 rfl ?_
        refine z_if_le O dzX8_make_90 (fun c4 => ?_) (fun c4 => ?_)
        · have h := z_if_t c4 h
          exact hk _ _ _ h
        · have h := z_if_f c4 h
          refine z_aload_n O dzX8_make_93 rfl 0 rfl ?_
          refine z_get O z_cb8 fm_obj (v := .ref (z_ad Y 15)) 17 (Nat.le_of_ble_eq_true rfl) tw_766 rfl dzX8_make_94 ?_
          refine z_iload O dzX8_make_97 5 rfl ?_
          refine z_iload_n O dzX8_make_99 rfl 2 rfl ?_
          refine z_iconst O dzX8_make_100 hcI1 ?_
          refine z_icmp_ne O dzX8_make_101 (fun c3 => ?_) (fun c3 => ?_)
          · have h := z_if_f c3 h
            refine z_iload_n O dzX8_make_113 rfl 2 rfl ?_
            refine z_iconst O dzX8_make_114 hcI2 ?_
            refine z_icmp_ne O dzX8_make_115 (fun c2 => ?_) (fun c2 => ?_)
            · have h := z_if_f c2 h
              refine z_iload_n O dzX8_make_129 rfl 2 rfl ?_
              refine z_iconst O dzX8_make_130 hcI3 ?_
              refine z_icmp_ne O dzX8_make_131 (fun c1 => ?_) (fun c1 => ?_)
              · have h := z_if_f c1 h
                refine z_iload_n O dzX8_make_145 rfl 3 rfl ?_
                refine z_iload O dzX8_make_146 6 rfl ?_
                obtain ⟨r1, hc1, h⟩ := z_bd_at h
                refine z_callSiR O (As := [.int a3, .int v6]) (rest := [.int v5, .ref (z_ad Y 15)]) (kX8_rest hi hc1) mX8_rest tw_1091 (Nat.le_of_ble_eq_true rfl) rfl rfl (Nat.le_of_ble_eq_true rfl) dzX8_make_148 ?_
                obtain ⟨g1, h⟩ := z_gd_at h
                refine z_iast O fm_least g1 dzX8_make_151 ?_
                refine z_sig (fun w1 e1 => ?_)
                have h := z_lt_at e1 h
                refine z_iinc O (lv' := [(5, .int (v5 + (1 : Int32))), (0, .ref (z_ad Y 0)), (1, .int b1), (2, .int a2), (3, .int a3), (4, .int a4), (6, .int v6)]) dzX8_make_152 5 rfl (congrArg _ hcI1) (by decide) rfl ?_
                refine z_iinc O (lv' := [(6, .int (v6 + (1 : Int32))), (5, .int (v5 + (1 : Int32))), (0, .ref (z_ad Y 0)), (1, .int b1), (2, .int a2), (3, .int a3), (4, .int a4)]) dzX8_make_155 6 rfl (congrArg _ hcI1) (by decide) rfl ?_
                refine z_goto O dzX8_make_158 ?_
                refine z_sub [2, 3, 4, 5, 6, 1, 0] rfl ?_
                exact ih _ _ _ h
              · have h := z_if_t c1 h
                refine z_iload O dzX8_make_134 6 rfl ?_
                refine z_iload O dzX8_make_136 4 rfl ?_
                refine z_iload_n O dzX8_make_138 rfl 3 rfl ?_
                obtain ⟨r2, hc2, h⟩ := z_bd_at h
                refine z_callSiR O (As := [.int v6, .int a4, .int a3]) (rest := [.int v5, .ref (z_ad Y 15)]) (kX8_run hi hc2) mX8_run tw_1088 (Nat.le_of_ble_eq_true rfl) rfl rfl (Nat.le_of_ble_eq_true rfl) dzX8_make_139 ?_
                refine z_goto O dzX8_make_142 ?_
                obtain ⟨g2, h⟩ := z_gd_at h
                refine z_iast O fm_least g2 dzX8_make_151 ?_
                refine z_sig (fun w2 e2 => ?_)
                have h := z_lt_at e2 h
                refine z_iinc O (lv' := [(5, .int (v5 + (1 : Int32))), (0, .ref (z_ad Y 0)), (1, .int b1), (2, .int a2), (3, .int a3), (4, .int a4), (6, .int v6)]) dzX8_make_152 5 rfl (congrArg _ hcI1) (by decide) rfl ?_
                refine z_iinc O (lv' := [(6, .int (v6 + (1 : Int32))), (5, .int (v5 + (1 : Int32))), (0, .ref (z_ad Y 0)), (1, .int b1), (2, .int a2), (3, .int a3), (4, .int a4)]) dzX8_make_155 6 rfl (congrArg _ hcI1) (by decide) rfl ?_
                refine z_goto O dzX8_make_158 ?_
                refine z_sub [2, 3, 4, 5, 6, 1, 0] rfl ?_
                exact ih _ _ _ h
            · have h := z_if_t c2 h
              refine z_iload O dzX8_make_118 6 rfl ?_
              refine z_iload O dzX8_make_120 4 rfl ?_
              refine z_iconst O dzX8_make_122 hcI0 ?_
              obtain ⟨r3, hc3, h⟩ := z_bd_at h
              refine z_callSiR O (As := [.int v6, .int a4, .int (0 : Int32)]) (rest := [.int v5, .ref (z_ad Y 15)]) (kX8_run hi hc3) mX8_run tw_1088 (Nat.le_of_ble_eq_true rfl) rfl rfl (Nat.le_of_ble_eq_true rfl) dzX8_make_123 ?_
              refine z_goto O dzX8_make_126 ?_
              obtain ⟨g3, h⟩ := z_gd_at h
              refine z_iast O fm_least g3 dzX8_make_151 ?_
              refine z_sig (fun w3 e3 => ?_)
              have h := z_lt_at e3 h
              refine z_iinc O (lv' := [(5, .int (v5 + (1 : Int32))), (0, .ref (z_ad Y 0)), (1, .int b1), (2, .int a2), (3, .int a3), (4, .int a4), (6, .int v6)]) dzX8_make_152 5 rfl (congrArg _ hcI1) (by decide) rfl ?_
              refine z_iinc O (lv' := [(6, .int (v6 + (1 : Int32))), (5, .int (v5 + (1 : Int32))), (0, .ref (z_ad Y 0)), (1, .int b1), (2, .int a2), (3, .int a3), (4, .int a4)]) dzX8_make_155 6 rfl (congrArg _ hcI1) (by decide) rfl ?_
              refine z_goto O dzX8_make_158 ?_
              refine z_sub [2, 3, 4, 5, 6, 1, 0] rfl ?_
              exact ih _ _ _ h
          · have h := z_if_t c3 h
            refine z_iconst O dzX8_make_104 hcI3 ?_
            refine z_iconst O dzX8_make_105 hcI2 ?_
            refine z_iload O dzX8_make_106 6 rfl ?_
            refine z_imul O dzX8_make_108 ?_
            refine z_ishl O dzX8_make_109 ?_
            refine z_goto O dzX8_make_110 ?_
            obtain ⟨g4, h⟩ := z_gd_at h
            refine z_iast O fm_least g4 dzX8_make_151 ?_
            refine z_sig (fun w4 e4 => ?_)
            have h := z_lt_at e4 h
            refine z_iinc O (lv' := [(5, .int (v5 + (1 : Int32))), (0, .ref (z_ad Y 0)), (1, .int b1), (2, .int a2), (3, .int a3), (4, .int a4), (6, .int v6)]) dzX8_make_152 5 rfl (congrArg _ hcI1) (by decide) rfl ?_
            refine z_iinc O (lv' := [(6, .int (v6 + (1 : Int32))), (5, .int (v5 + (1 : Int32))), (0, .ref (z_ad Y 0)), (1, .int b1), (2, .int a2), (3, .int a3), (4, .int a4)]) dzX8_make_155 6 rfl (congrArg _ hcI1) (by decide) rfl ?_
            refine z_goto O dzX8_make_158 ?_
            refine z_sub [2, 3, 4, 5, 6, 1, 0] rfl ?_
            exact ih _ _ _ h
    · refine z_icmp_ne O dzX8_make_73 (fun c6 => ?_) (fun c6 => ?_)
      · have h := z_if_f c6 h
        refine z_iload_n O dzX8_make_85 rfl 3 rfl ?_
        exact J1 a3 h
      · have h := z_if_t c6 h
        refine z_iload_n O dzX8_make_76 rfl 3 rfl ?_
        refine z_iload O dzX8_make_77 4 rfl ?_
        refine z_isub O dzX8_make_79 ?_
        refine z_iconst O dzX8_make_80 hcI1 ?_
        refine z_iadd O dzX8_make_81 ?_
        refine z_goto O dzX8_make_82 ?_
        exact J1 ((a3 - a4) + (1 : Int32)) h
def fX8_make_L185 (a1 : Int32) (a5 : Int32) (k : zS → Int32 → Option (Int32 × zS)) : Nat → zS → Int32 → Option (Int32 × zS)
  | 0, _, _ => none
  | n + 1, σ, v6 => (if a5 ≤ v6 then k σ v6 else z_gd (z_in v6 4096) ((fX8_tells σ a1 (σ.1 15 v6.toNatClampNeg)).bind (fun r1 => fX8_make_L185 a1 a5 k n r1.2 (v6 + (1 : Int32)))))
theorem kX8_make_L185 {l : Launch} {Y : zY} {fin : Int32 × zS} {p : Program} {e : Env} {s : State} {m : MethodId} {args : Array Value} {below : List Frame} {meth : Method} {c : Code} (O : z_ok ΛM Y p s m args c cX8_make RX8 7) (hi : z_inj ΛM Y) (hr : meth.sig.returnType = (some .int)) (hlk : meth.locks = false) {a1 : Int32} {a5 : Int32} {k : zS → Int32 → Option (Int32 × zS)} (hk : ∀ (w : zS) (z6 : Int32), k w z6 = some fin → z_G p l e (z_rm 4) s m args below meth c (MQ below (z_Qi ΛM Y fin) args s 0 0 (z_A ΛM Y)) ΛM Y 7 w [(0, .ref (z_ad Y 0)), (1, .int a1), (5, .int a5), (6, .int z6)] 211 []) : ∀ (n : Nat) (σ : zS) (v6 : Int32), fX8_make_L185 a1 a5 k n σ v6 = some fin → z_G p l e (z_rm 4) s m args below meth c (MQ below (z_Qi ΛM Y fin) args s 0 0 (z_A ΛM Y)) ΛM Y 7 σ [(0, .ref (z_ad Y 0)), (1, .int a1), (5, .int a5), (6, .int v6)] 185 [] := by
  intro n
  induction n with
  | zero =>
    intro _ _ h
    cases h
  | succ n ih =>
    intro σ v6 h
    rw [fX8_make_L185.eq_2] at h
    refine z_iload O dzX8_make_185 3 rfl ?_
    refine z_iload O dzX8_make_187 2 rfl ?_
    refine z_icmp_ge O dzX8_make_189 (fun c1 => ?_) (fun c1 => ?_)
    · have h := z_if_t c1 h
      exact hk _ _ h
    · have h := z_if_f c1 h
      refine z_aload_n O dzX8_make_192 rfl 0 rfl ?_
      refine z_iload_n O dzX8_make_193 rfl 1 rfl ?_
      refine z_aload_n O dzX8_make_194 rfl 0 rfl ?_
      refine z_get O z_cb8 fm_obj (v := .ref (z_ad Y 15)) 17 (Nat.le_of_ble_eq_true rfl) tw_766 rfl dzX8_make_195 ?_
      refine z_iload O dzX8_make_198 3 rfl ?_
      obtain ⟨g1, h⟩ := z_gd_at h
      refine z_iald O fm_least g1 dzX8_make_200 ?_
      obtain ⟨r1, hc1, h⟩ := z_bd_at h
      refine z_callVi O (As := [.int a1, .int (σ.1 15 v6.toNatClampNeg)]) (rest := []) (kX8_tells hi hc1) mX8_tells tw_912 (Nat.le_of_ble_eq_true rfl) fm_obj rfl rfl rfl rfl (Nat.le_of_ble_eq_true rfl) dzX8_make_201 ?_
      refine z_pop O dzX8_make_204 rfl ?_
      refine z_iinc O (lv' := [(6, .int (v6 + (1 : Int32))), (0, .ref (z_ad Y 0)), (1, .int a1), (5, .int a5)]) dzX8_make_205 3 rfl (congrArg _ hcI1) (by decide) rfl ?_
      refine z_goto O dzX8_make_208 ?_
      refine z_sub [1, 2, 3, 0] rfl ?_
      exact ih _ _ h
def fX8_make_L30 (a3 : Int32) (a4 : Int32) (k : zS → Int32 → Int32 → Option (Int32 × zS)) : Nat → zS → Int32 → Int32 → Option (Int32 × zS)
  | 0, _, _, _ => none
  | n + 1, σ, v5, v6 => (if ((1 : Int32) <<< (a3 &&& 31)) ≤ v6 then k σ v5 v6 else (fX8_many v6).bind (fun r1 => (if r1 = a4 then z_gd (z_in v5 4096) (z_lt (z_sI σ 15 v5.toNatClampNeg v6) (fun (w1 : zS) => fX8_make_L30 a3 a4 k n w1 (v5 + (1 : Int32)) (v6 + (1 : Int32)))) else fX8_make_L30 a3 a4 k n σ v5 (v6 + (1 : Int32)))))
theorem kX8_make_L30 {l : Launch} {Y : zY} {fin : Int32 × zS} {p : Program} {e : Env} {s : State} {m : MethodId} {args : Array Value} {below : List Frame} {meth : Method} {c : Code} (O : z_ok ΛM Y p s m args c cX8_make RX8 7) (hi : z_inj ΛM Y) (hr : meth.sig.returnType = (some .int)) (hlk : meth.locks = false) {b1 : Int32} {b2 : Int32} {a3 : Int32} {a4 : Int32} {k : zS → Int32 → Int32 → Option (Int32 × zS)} (hk : ∀ (w : zS) (z5 : Int32) (z6 : Int32), k w z5 z6 = some fin → z_G p l e (z_rm 4) s m args below meth c (MQ below (z_Qi ΛM Y fin) args s 0 0 (z_A ΛM Y)) ΛM Y 7 w [(0, .ref (z_ad Y 0)), (1, .int b1), (2, .int b2), (3, .int a3), (4, .int a4), (5, .int z5), (6, .int z6)] 66 []) : ∀ (n : Nat) (σ : zS) (v5 : Int32) (v6 : Int32), fX8_make_L30 a3 a4 k n σ v5 v6 = some fin → z_G p l e (z_rm 4) s m args below meth c (MQ below (z_Qi ΛM Y fin) args s 0 0 (z_A ΛM Y)) ΛM Y 7 σ [(0, .ref (z_ad Y 0)), (1, .int b1), (2, .int b2), (3, .int a3), (4, .int a4), (5, .int v5), (6, .int v6)] 30 [] := by
  intro n
  induction n with
  | zero =>
    intro _ _ _ h
    cases h
  | succ n ih =>
    intro σ v5 v6 h
    rw [fX8_make_L30.eq_2] at h
    refine z_iload O dzX8_make_30 6 rfl ?_
    refine z_iconst O dzX8_make_32 hcI1 ?_
    refine z_iload_n O dzX8_make_33 rfl 3 rfl ?_
    refine z_ishl O dzX8_make_34 ?_
    refine z_icmp_ge O dzX8_make_35 (fun c2 => ?_) (fun c2 => ?_)
    · have h := z_if_t c2 h
      exact hk _ _ _ h
    · have h := z_if_f c2 h
      refine z_iload O dzX8_make_38 6 rfl ?_
      obtain ⟨r1, hc1, h⟩ := z_bd_at h
      refine z_callSiR O (As := [.int v6]) (rest := []) (kX8_many hi hc1) mX8_many tw_999 (Nat.le_of_ble_eq_true rfl) rfl rfl (Nat.le_of_ble_eq_true rfl) dzX8_make_40 ?_
      refine z_iload O dzX8_make_43 4 rfl ?_
      refine z_icmp_ne O dzX8_make_45 (fun c1 => ?_) (fun c1 => ?_)
      · have h := z_if_f c1 h
        refine z_iinc O (lv' := [(6, .int (v6 + (1 : Int32))), (0, .ref (z_ad Y 0)), (1, .int b1), (2, .int b2), (3, .int a3), (4, .int a4), (5, .int v5)]) dzX8_make_60 6 rfl (congrArg _ hcI1) (by decide) rfl ?_
        refine z_goto O dzX8_make_63 ?_
        refine z_sub [1, 2, 3, 4, 5, 6, 0] rfl ?_
        exact ih _ _ _ h
      · have h := z_if_t c1 h
        refine z_aload_n O dzX8_make_48 rfl 0 rfl ?_
        refine z_get O z_cb8 fm_obj (v := .ref (z_ad Y 15)) 17 (Nat.le_of_ble_eq_true rfl) tw_766 rfl dzX8_make_49 ?_
        refine z_iload O dzX8_make_52 5 rfl ?_
        refine z_iload O dzX8_make_54 6 rfl ?_
        obtain ⟨g1, h⟩ := z_gd_at h
        refine z_iast O fm_least g1 dzX8_make_56 ?_
        refine z_sig (fun w1 e1 => ?_)
        have h := z_lt_at e1 h
        refine z_iinc O (lv' := [(5, .int (v5 + (1 : Int32))), (0, .ref (z_ad Y 0)), (1, .int b1), (2, .int b2), (3, .int a3), (4, .int a4), (6, .int v6)]) dzX8_make_57 5 rfl (congrArg _ hcI1) (by decide) rfl ?_
        refine z_iinc O (lv' := [(6, .int (v6 + (1 : Int32))), (5, .int (v5 + (1 : Int32))), (0, .ref (z_ad Y 0)), (1, .int b1), (2, .int b2), (3, .int a3), (4, .int a4)]) dzX8_make_60 6 rfl (congrArg _ hcI1) (by decide) rfl ?_
        refine z_goto O dzX8_make_63 ?_
        refine z_sub [2, 3, 4, 5, 6, 1, 0] rfl ?_
        exact ih _ _ _ h
def fX8_make (σ : zS) (a1 : Int32) (a2 : Int32) (a3 : Int32) (a4 : Int32) : Option (Int32 × zS) :=
  (fX8_isFamily a1).bind (fun r1 => (if r1 = 0 then some ((-2 : Int32), σ) else (fX8_canMake a2 a3 a4).bind (fun r2 => (if r2 = 0 then some ((-2 : Int32), σ) else z_jn (fun (w1 : zS) (x1 : Int32) => fX8_make_L69 a2 a3 a4 (fun (w2 : zS) (x2 : Int32) (x3 : Int32) => (if a2 = 0 then (if x2 ≤ (40 : Int32) then z_gd (z_in a1 4) (z_lt (z_sI w2 2 a1.toNatClampNeg (0 : Int32)) (fun (w6 : zS) => fX8_make_L185 a1 x2 (fun (w7 : zS) (x5 : Int32) => z_lt (z_sI w7 0 10 (0 : Int32)) (fun (w8 : zS) => z_gd (z_in a1 4) (some ((w8.1 2 a1.toNatClampNeg), w8)))) z_F w6 (0 : Int32))) else some ((-4 : Int32), w2)) else z_gd (z_in a1 4) (z_lt (z_sI w2 2 a1.toNatClampNeg (0 : Int32)) (fun (w3 : zS) => fX8_make_L185 a1 x2 (fun (w4 : zS) (x4 : Int32) => z_lt (z_sI w4 0 10 (0 : Int32)) (fun (w5 : zS) => z_gd (z_in a1 4) (some ((w5.1 2 a1.toNatClampNeg), w5)))) z_F w3 (0 : Int32))))) z_F w1 x1 (0 : Int32)) (fun j1 => (if a2 = 0 then fX8_make_L30 a3 a4 (fun (w9 : zS) (x6 : Int32) (x7 : Int32) => j1 w9 x6) z_F σ (0 : Int32) (0 : Int32) else j1 σ (0 : Int32)))))))
theorem kX8_make {l : Launch} {Y : zY} (hi : z_inj ΛM Y) {σ : zS} {a1 : Int32} {a2 : Int32} {a3 : Int32} {a4 : Int32} {fin : Int32 × zS} (h : fX8_make σ a1 a2 a3 a4 = some fin) : Met l yX8_make (Cond.code yX8_make cX8_make 7 (some .int) :: z_TB) (z_rm 4) (z_Pc ΛM Y σ [.ref (z_ad Y 0), .int a1, .int a2, .int a3, .int a4]) (z_Qi ΛM Y fin) 0 0 (z_A ΛM Y) := by
  unfold fX8_make at h
  refine z_met [(0, .ref (z_ad Y 0)), (1, .int a1), (2, .int a2), (3, .int a3), (4, .int a4)] rfl (Nat.le_of_ble_eq_true rfl) (plainFor_of_name (by decide)) hi ?_
  intro p e s m args below meth c O hr hlk
  refine z_iload_n O dzX8_make_0 rfl 1 rfl ?_
  obtain ⟨r1, hc1, h⟩ := z_bd_at h
  refine z_callSiR O (As := [.int a1]) (rest := []) (kX8_isFamily hi hc1) mX8_isFamily tw_892 (Nat.le_of_ble_eq_true rfl) rfl rfl (Nat.le_of_ble_eq_true rfl) dzX8_make_1 ?_
  refine z_if_eq O dzX8_make_4 (fun c5 => ?_) (fun c5 => ?_)
  · have h := z_if_t c5 h
    refine z_bipush O dzX8_make_17 hcBm2 ?_
    exact z_iret O hr hlk dzX8_make_19 h
  · have h := z_if_f c5 h
    refine z_iload_n O dzX8_make_7 rfl 2 rfl ?_
    refine z_iload_n O dzX8_make_8 rfl 3 rfl ?_
    refine z_iload O dzX8_make_9 4 rfl ?_
    obtain ⟨r2, hc2, h⟩ := z_bd_at h
    refine z_callSiR O (As := [.int a2, .int a3, .int a4]) (rest := []) (kX8_canMake hi hc2) mX8_canMake tw_1084 (Nat.le_of_ble_eq_true rfl) rfl rfl (Nat.le_of_ble_eq_true rfl) dzX8_make_11 ?_
    refine z_if_ne O dzX8_make_14 (fun c4 => ?_) (fun c4 => ?_)
    · have h := z_if_f c4 h
      refine z_iconst O dzX8_make_20 hcI0 ?_
      refine z_istore O (lv' := [(5, .int (0 : Int32)), (0, .ref (z_ad Y 0)), (1, .int a1), (2, .int a2), (3, .int a3), (4, .int a4)]) dzX8_make_21 (by decide) rfl ?_
      refine z_iload_n O dzX8_make_23 rfl 3 rfl ?_
      refine z_jn_at (P := fun j1 => ∀ (w1 : zS) (x1 : Int32), j1 w1 x1 = some fin → z_G p l e (z_rm 4) s m args below meth c (MQ below (z_Qi ΛM Y fin) args s 0 0 (z_A ΛM Y)) ΛM Y 7 w1 [(5, .int x1), (0, .ref (z_ad Y 0)), (1, .int a1), (2, .int a2), (3, .int a3), (4, .int a4)] 66 []) h ?_ (fun j1 J1 h => ?_)
      · intro w1 x1 h
        refine z_iconst O dzX8_make_66 hcI0 ?_
        refine z_istore O (lv' := [(6, .int (0 : Int32)), (5, .int x1), (0, .ref (z_ad Y 0)), (1, .int a1), (2, .int a2), (3, .int a3), (4, .int a4)]) dzX8_make_67 (by decide) rfl ?_
        refine z_sub [2, 3, 4, 5, 6, 1, 0] rfl ?_
        refine kX8_make_L69 O hi hr hlk   (fun w2 x2 x3 h => ?_) _ _ _ _ h
        refine z_iload_n O dzX8_make_161 rfl 2 rfl ?_
        refine z_if_ne O dzX8_make_162 (fun c2 => ?_) (fun c2 => ?_)
        · have h := z_if_f c2 h
          refine z_aload_n O dzX8_make_175 rfl 0 rfl ?_
          refine z_get O z_cb8 fm_obj (v := .ref (z_ad Y 2)) 1 (Nat.le_of_ble_eq_true rfl) tw_750 rfl dzX8_make_176 ?_
          refine z_iload_n O dzX8_make_179 rfl 1 rfl ?_
          refine z_iconst O dzX8_make_180 hcI0 ?_
          obtain ⟨g1, h⟩ := z_gd_at h
          refine z_iast O fm_sizes g1 dzX8_make_181 ?_
          refine z_sig (fun w3 e1 => ?_)
          have h := z_lt_at e1 h
          refine z_iconst O dzX8_make_182 hcI0 ?_
          refine z_istore O (lv' := [(6, .int (0 : Int32)), (0, .ref (z_ad Y 0)), (1, .int a1), (2, .int a2), (3, .int a3), (4, .int a4), (5, .int x2)]) dzX8_make_183 (by decide) rfl ?_
          refine z_sub [1, 2, 6, 0] rfl ?_
          refine kX8_make_L185 O hi hr hlk   (fun w4 x4 h => ?_) _ _ _ h
          refine z_aload_n O dzX8_make_211 rfl 0 rfl ?_
          refine z_iconst O dzX8_make_212 hcI0 ?_
          refine z_put O z_cb8 fm_obj 10 (Nat.le_of_ble_eq_true rfl) tw_759 rfl rfl rfl fp_M10 dzX8_make_213 ?_
          refine z_sig (fun w5 e2 => ?_)
          have h := z_lt_at e2 h
          refine z_aload_n O dzX8_make_216 rfl 0 rfl ?_
          refine z_get O z_cb8 fm_obj (v := .ref (z_ad Y 2)) 1 (Nat.le_of_ble_eq_true rfl) tw_750 rfl dzX8_make_217 ?_
          refine z_iload_n O dzX8_make_220 rfl 1 rfl ?_
          obtain ⟨g2, h⟩ := z_gd_at h
          refine z_iald O fm_sizes g2 dzX8_make_221 ?_
          exact z_iret O hr hlk dzX8_make_222 h
        · have h := z_if_t c2 h
          refine z_iload O dzX8_make_165 5 rfl ?_
          refine z_bipush O dzX8_make_167 hcB40 ?_
          refine z_icmp_le O dzX8_make_169 (fun c1 => ?_) (fun c1 => ?_)
          · have h := z_if_t c1 h
            refine z_aload_n O dzX8_make_175 rfl 0 rfl ?_
            refine z_get O z_cb8 fm_obj (v := .ref (z_ad Y 2)) 1 (Nat.le_of_ble_eq_true rfl) tw_750 rfl dzX8_make_176 ?_
            refine z_iload_n O dzX8_make_179 rfl 1 rfl ?_
            refine z_iconst O dzX8_make_180 hcI0 ?_
            obtain ⟨g3, h⟩ := z_gd_at h
            refine z_iast O fm_sizes g3 dzX8_make_181 ?_
            refine z_sig (fun w6 e3 => ?_)
            have h := z_lt_at e3 h
            refine z_iconst O dzX8_make_182 hcI0 ?_
            refine z_istore O (lv' := [(6, .int (0 : Int32)), (0, .ref (z_ad Y 0)), (1, .int a1), (2, .int a2), (3, .int a3), (4, .int a4), (5, .int x2)]) dzX8_make_183 (by decide) rfl ?_
            refine z_sub [1, 2, 6, 0] rfl ?_
            refine kX8_make_L185 O hi hr hlk   (fun w7 x5 h => ?_) _ _ _ h
            refine z_aload_n O dzX8_make_211 rfl 0 rfl ?_
            refine z_iconst O dzX8_make_212 hcI0 ?_
            refine z_put O z_cb8 fm_obj 10 (Nat.le_of_ble_eq_true rfl) tw_759 rfl rfl rfl fp_M10 dzX8_make_213 ?_
            refine z_sig (fun w8 e4 => ?_)
            have h := z_lt_at e4 h
            refine z_aload_n O dzX8_make_216 rfl 0 rfl ?_
            refine z_get O z_cb8 fm_obj (v := .ref (z_ad Y 2)) 1 (Nat.le_of_ble_eq_true rfl) tw_750 rfl dzX8_make_217 ?_
            refine z_iload_n O dzX8_make_220 rfl 1 rfl ?_
            obtain ⟨g4, h⟩ := z_gd_at h
            refine z_iald O fm_sizes g4 dzX8_make_221 ?_
            exact z_iret O hr hlk dzX8_make_222 h
          · have h := z_if_f c1 h
            refine z_bipush O dzX8_make_172 hcBm4 ?_
            exact z_iret O hr hlk dzX8_make_174 h
      · refine z_if_ne O dzX8_make_24 (fun c3 => ?_) (fun c3 => ?_)
        · have h := z_if_f c3 h
          exact J1 σ (0 : Int32) h
        · have h := z_if_t c3 h
          refine z_iconst O dzX8_make_27 hcI0 ?_
          refine z_istore O (lv' := [(6, .int (0 : Int32)), (5, .int (0 : Int32)), (0, .ref (z_ad Y 0)), (1, .int a1), (2, .int a2), (3, .int a3), (4, .int a4)]) dzX8_make_28 (by decide) rfl ?_
          refine z_sub [2, 3, 4, 5, 6, 1, 0] rfl ?_
          refine kX8_make_L30 O hi hr hlk   (fun w9 x6 x7 h => ?_) _ _ _ _ h
          refine z_sub [5, 0, 1, 2, 3, 4] rfl ?_
          exact J1 w9 x6 h
    · have h := z_if_t c4 h
      refine z_bipush O dzX8_make_17 hcBm2 ?_
      exact z_iret O hr hlk dzX8_make_19 h
def fX8_noLongs (σ : zS) (a1 : Int32) : Option (Int32) :=
  z_gd (z_in a1 4) ((if 0 ≤ (σ.1 19 a1.toNatClampNeg) then z_gd (z_in a1 4) ((if (σ.1 19 a1.toNatClampNeg) = (1 : Int32) then some (0 : Int32) else some (-13 : Int32))) else some (-11 : Int32)))
theorem kX8_noLongs {l : Launch} {Y : zY} (hi : z_inj ΛM Y) {σ : zS} {a1 : Int32} {fin : Int32} (h : fX8_noLongs σ a1 = some fin) : Met l yX8_noLongs (Cond.code yX8_noLongs cX8_noLongs 2 (some .int) :: z_TB) (z_rm 1) (z_Pc ΛM Y σ [.ref (z_ad Y 0), .int a1]) (z_Qi ΛM Y (fin, σ)) 0 0 (z_A ΛM Y) := by
  unfold fX8_noLongs at h
  refine z_met [(0, .ref (z_ad Y 0)), (1, .int a1)] rfl (Nat.le_of_ble_eq_true rfl) (plainFor_of_name (by decide)) hi ?_
  intro p e s m args below meth c O hr hlk
  refine z_aload_n O dzX8_noLongs_0 rfl 0 rfl ?_
  refine z_get O z_cb8 fm_obj (v := .ref (z_ad Y 19)) 30 (Nat.le_of_ble_eq_true rfl) tw_779 rfl dzX8_noLongs_1 ?_
  refine z_iload_n O dzX8_noLongs_4 rfl 1 rfl ?_
  obtain ⟨g1, h⟩ := z_gd_at h
  refine z_iald O fm_sorts g1 dzX8_noLongs_5 ?_
  refine z_if_ge O dzX8_noLongs_6 (fun c2 => ?_) (fun c2 => ?_)
  · have h := z_if_t c2 h
    refine z_aload_n O dzX8_noLongs_14 rfl 0 rfl ?_
    refine z_get O z_cb8 fm_obj (v := .ref (z_ad Y 19)) 30 (Nat.le_of_ble_eq_true rfl) tw_779 rfl dzX8_noLongs_15 ?_
    refine z_iload_n O dzX8_noLongs_18 rfl 1 rfl ?_
    obtain ⟨g2, h⟩ := z_gd_at h
    refine z_iald O fm_sorts g2 dzX8_noLongs_19 ?_
    refine z_iconst O dzX8_noLongs_20 hcI1 ?_
    refine z_icmp_ne O dzX8_noLongs_21 (fun c1 => ?_) (fun c1 => ?_)
    · have h := z_if_f c1 h
      refine z_bipush O dzX8_noLongs_28 hcBm13 ?_
      exact z_iret O hr hlk dzX8_noLongs_30 (z_rf h)
    · have h := z_if_t c1 h
      refine z_iconst O dzX8_noLongs_24 hcI0 ?_
      refine z_goto O dzX8_noLongs_25 ?_
      exact z_iret O hr hlk dzX8_noLongs_30 (z_rf h)
  · have h := z_if_f c2 h
    refine z_bipush O dzX8_noLongs_9 hcBm11 ?_
    refine z_goto O dzX8_noLongs_11 ?_
    exact z_iret O hr hlk dzX8_noLongs_30 (z_rf h)
def fX8_node (σ : zS) (a1 : Int32) (a2 : Int32) (a3 : Int32) : Option (Int32 × zS) :=
  (fX8_isFamily a1).bind (fun r1 => (if r1 = 0 then some ((-2 : Int32), σ) else (fX8_in (a3.toInt64) (0 : Int64) (3 : Int64)).bind (fun r2 => (if r2 = 0 then some ((-2 : Int32), σ) else (fX8_findsTree σ a1 a2).bind (fun r3 => (fX8_in (a2.toInt64) (0 : Int64) (((r3.1 0 20) - (1 : Int32)).toInt64)).bind (fun r4 => (if r4 = 0 then some ((-12 : Int32), r3) else (if a3 = 0 then some ((r3.1 0 24), r3) else (if a3 = (1 : Int32) then some ((r3.1 0 25), r3) else (if a3 = (2 : Int32) then some ((r3.1 0 26), r3) else some ((r3.1 0 27), r3)))))))))))
theorem kX8_node {l : Launch} {Y : zY} (hi : z_inj ΛM Y) {σ : zS} {a1 : Int32} {a2 : Int32} {a3 : Int32} {fin : Int32 × zS} (h : fX8_node σ a1 a2 a3 = some fin) : Met l yX8_node (Cond.code yX8_node cX8_node 4 (some .int) :: z_TB) (z_rm 20) (z_Pc ΛM Y σ [.ref (z_ad Y 0), .int a1, .int a2, .int a3]) (z_Qi ΛM Y fin) 0 0 (z_A ΛM Y) := by
  unfold fX8_node at h
  refine z_met [(0, .ref (z_ad Y 0)), (1, .int a1), (2, .int a2), (3, .int a3)] rfl (Nat.le_of_ble_eq_true rfl) (plainFor_of_name (by decide)) hi ?_
  intro p e s m args below meth c O hr hlk
  refine z_iload_n O dzX8_node_0 rfl 1 rfl ?_
  obtain ⟨r1, hc1, h⟩ := z_bd_at h
  refine z_callSiR O (As := [.int a1]) (rest := []) (kX8_isFamily hi hc1) mX8_isFamily tw_892 (Nat.le_of_ble_eq_true rfl) rfl rfl (Nat.le_of_ble_eq_true rfl) dzX8_node_1 ?_
  refine z_if_eq O dzX8_node_4 (fun c6 => ?_) (fun c6 => ?_)
  · have h := z_if_t c6 h
    refine z_bipush O dzX8_node_19 hcBm2 ?_
    exact z_iret O hr hlk dzX8_node_21 h
  · have h := z_if_f c6 h
    refine z_iload_n O dzX8_node_7 rfl 3 rfl ?_
    refine z_i2l O dzX8_node_8 ?_
    refine z_lconst O dzX8_node_9 (v := 0) rfl ?_
    refine z_ldc2 O tw_895 dzX8_node_10 ?_
    obtain ⟨r2, hc2, h⟩ := z_bd_at h
    refine z_callSiR O (As := [.long (a3.toInt64), .long (0 : Int64), .long (3 : Int64)]) (rest := []) (kX8_in hi hc2) mX8_in tw_876 (Nat.le_of_ble_eq_true rfl) rfl rfl (Nat.le_of_ble_eq_true rfl) dzX8_node_13 ?_
    refine z_if_ne O dzX8_node_16 (fun c5 => ?_) (fun c5 => ?_)
    · have h := z_if_f c5 h
      refine z_aload_n O dzX8_node_22 rfl 0 rfl ?_
      refine z_iload_n O dzX8_node_23 rfl 1 rfl ?_
      refine z_iload_n O dzX8_node_24 rfl 2 rfl ?_
      obtain ⟨r3, hc3, h⟩ := z_bd_at h
      refine z_callVv O (As := [.int a1, .int a2]) (rest := []) (kX8_findsTree hi hc3) mX8_findsTree tw_1036 (Nat.le_of_ble_eq_true rfl) fm_obj rfl rfl rfl rfl (Nat.le_of_ble_eq_true rfl) dzX8_node_25 ?_
      refine z_iload_n O dzX8_node_28 rfl 2 rfl ?_
      refine z_i2l O dzX8_node_29 ?_
      refine z_lconst O dzX8_node_30 (v := 0) rfl ?_
      refine z_aload_n O dzX8_node_31 rfl 0 rfl ?_
      refine z_get O z_cb8 fm_obj (v := .int (r3.1 0 20)) 20 (Nat.le_of_ble_eq_true rfl) tw_769 rfl dzX8_node_32 ?_
      refine z_iconst O dzX8_node_35 hcI1 ?_
      refine z_isub O dzX8_node_36 ?_
      refine z_i2l O dzX8_node_37 ?_
      obtain ⟨r4, hc4, h⟩ := z_bd_at h
      refine z_callSiR O (As := [.long (a2.toInt64), .long (0 : Int64), .long (((r3.1 0 20) - (1 : Int32)).toInt64)]) (rest := []) (kX8_in hi hc4) mX8_in tw_876 (Nat.le_of_ble_eq_true rfl) rfl rfl (Nat.le_of_ble_eq_true rfl) dzX8_node_38 ?_
      refine z_if_ne O dzX8_node_41 (fun c4 => ?_) (fun c4 => ?_)
      · have h := z_if_f c4 h
        refine z_iload_n O dzX8_node_47 rfl 3 rfl ?_
        refine z_if_ne O dzX8_node_48 (fun c3 => ?_) (fun c3 => ?_)
        · have h := z_if_f c3 h
          refine z_iload_n O dzX8_node_58 rfl 3 rfl ?_
          refine z_iconst O dzX8_node_59 hcI1 ?_
          refine z_icmp_ne O dzX8_node_60 (fun c2 => ?_) (fun c2 => ?_)
          · have h := z_if_f c2 h
            refine z_iload_n O dzX8_node_70 rfl 3 rfl ?_
            refine z_iconst O dzX8_node_71 hcI2 ?_
            refine z_icmp_ne O dzX8_node_72 (fun c1 => ?_) (fun c1 => ?_)
            · have h := z_if_f c1 h
              refine z_aload_n O dzX8_node_82 rfl 0 rfl ?_
              refine z_get O z_cb8 fm_obj (v := .int (r3.1 0 27)) 27 (Nat.le_of_ble_eq_true rfl) tw_776 rfl dzX8_node_83 ?_
              exact z_iret O hr hlk dzX8_node_86 h
            · have h := z_if_t c1 h
              refine z_aload_n O dzX8_node_75 rfl 0 rfl ?_
              refine z_get O z_cb8 fm_obj (v := .int (r3.1 0 26)) 26 (Nat.le_of_ble_eq_true rfl) tw_775 rfl dzX8_node_76 ?_
              refine z_goto O dzX8_node_79 ?_
              exact z_iret O hr hlk dzX8_node_86 h
          · have h := z_if_t c2 h
            refine z_aload_n O dzX8_node_63 rfl 0 rfl ?_
            refine z_get O z_cb8 fm_obj (v := .int (r3.1 0 25)) 25 (Nat.le_of_ble_eq_true rfl) tw_774 rfl dzX8_node_64 ?_
            refine z_goto O dzX8_node_67 ?_
            exact z_iret O hr hlk dzX8_node_86 h
        · have h := z_if_t c3 h
          refine z_aload_n O dzX8_node_51 rfl 0 rfl ?_
          refine z_get O z_cb8 fm_obj (v := .int (r3.1 0 24)) 24 (Nat.le_of_ble_eq_true rfl) tw_773 rfl dzX8_node_52 ?_
          refine z_goto O dzX8_node_55 ?_
          exact z_iret O hr hlk dzX8_node_86 h
      · have h := z_if_t c4 h
        refine z_bipush O dzX8_node_44 hcBm12 ?_
        exact z_iret O hr hlk dzX8_node_46 h
    · have h := z_if_t c5 h
      refine z_bipush O dzX8_node_19 hcBm2 ?_
      exact z_iret O hr hlk dzX8_node_21 h
def fX8_often (σ : zS) (a1 : Int32) (a2 : Int32) : Option (Int32) :=
  (fX8_isFamily a1).bind (fun r1 => (if r1 = 0 then some (-2 : Int32) else (fX8_isPoint a2).bind (fun r2 => (if r2 = 0 then some (-2 : Int32) else (fX8_oftenIn σ a1 a2).bind (fun r3 => some r3)))))
theorem kX8_often {l : Launch} {Y : zY} (hi : z_inj ΛM Y) {σ : zS} {a1 : Int32} {a2 : Int32} {fin : Int32} (h : fX8_often σ a1 a2 = some fin) : Met l yX8_often (Cond.code yX8_often cX8_often 3 (some .int) :: z_TB) (z_rm 3) (z_Pc ΛM Y σ [.ref (z_ad Y 0), .int a1, .int a2]) (z_Qi ΛM Y (fin, σ)) 0 0 (z_A ΛM Y) := by
  unfold fX8_often at h
  refine z_met [(0, .ref (z_ad Y 0)), (1, .int a1), (2, .int a2)] rfl (Nat.le_of_ble_eq_true rfl) (plainFor_of_name (by decide)) hi ?_
  intro p e s m args below meth c O hr hlk
  refine z_iload_n O dzX8_often_0 rfl 1 rfl ?_
  obtain ⟨r1, hc1, h⟩ := z_bd_at h
  refine z_callSiR O (As := [.int a1]) (rest := []) (kX8_isFamily hi hc1) mX8_isFamily tw_892 (Nat.le_of_ble_eq_true rfl) rfl rfl (Nat.le_of_ble_eq_true rfl) dzX8_often_1 ?_
  refine z_if_eq O dzX8_often_4 (fun c2 => ?_) (fun c2 => ?_)
  · have h := z_if_t c2 h
    refine z_bipush O dzX8_often_23 hcBm2 ?_
    exact z_iret O hr hlk dzX8_often_25 (z_rf h)
  · have h := z_if_f c2 h
    refine z_iload_n O dzX8_often_7 rfl 2 rfl ?_
    obtain ⟨r2, hc2, h⟩ := z_bd_at h
    refine z_callSiR O (As := [.int a2]) (rest := []) (kX8_isPoint hi hc2) mX8_isPoint tw_872 (Nat.le_of_ble_eq_true rfl) rfl rfl (Nat.le_of_ble_eq_true rfl) dzX8_often_8 ?_
    refine z_if_eq O dzX8_often_11 (fun c1 => ?_) (fun c1 => ?_)
    · have h := z_if_t c1 h
      refine z_bipush O dzX8_often_23 hcBm2 ?_
      exact z_iret O hr hlk dzX8_often_25 (z_rf h)
    · have h := z_if_f c1 h
      refine z_aload_n O dzX8_often_14 rfl 0 rfl ?_
      refine z_iload_n O dzX8_often_15 rfl 1 rfl ?_
      refine z_iload_n O dzX8_often_16 rfl 2 rfl ?_
      obtain ⟨r3, hc3, h⟩ := z_bd_at h
      refine z_callViR O (As := [.int a1, .int a2]) (rest := []) (kX8_oftenIn hi hc3) mX8_oftenIn tw_956 (Nat.le_of_ble_eq_true rfl) fm_obj rfl rfl rfl rfl (Nat.le_of_ble_eq_true rfl) dzX8_often_17 ?_
      refine z_goto O dzX8_often_20 ?_
      exact z_iret O hr hlk dzX8_often_25 (z_rf h)
def fX8_packs_L57 (σ : zS) (a2 : Int32) (a5 : Int32) (k : Int64 → Int32 → Option (Int32 × zS)) : Nat → Int64 → Int32 → Option (Int32 × zS)
  | 0, _, _ => none
  | n + 1, v6, v8 => (if v8 < 0 then k v6 v8 else z_gd (z_in a2 4) ((if (σ.1 2 a2.toNatClampNeg) ≤ (((5 : Int32) * a5) + v8) then z_lt ((v6 * (4096 : Int64)) + (0 : Int32).toInt64) (fun (x1 : Int64) => fX8_packs_L57 σ a2 a5 k n x1 (v8 + (-1 : Int32))) else (fX8_setOf σ a2 (((5 : Int32) * a5) + v8)).bind (fun r1 => z_lt ((v6 * (4096 : Int64)) + r1.toInt64) (fun (x2 : Int64) => fX8_packs_L57 σ a2 a5 k n x2 (v8 + (-1 : Int32)))))))
theorem kX8_packs_L57 {l : Launch} {Y : zY} {fin : Int32 × zS} {p : Program} {e : Env} {s : State} {m : MethodId} {args : Array Value} {below : List Frame} {meth : Method} {c : Code} {σ : zS} (O : z_ok ΛM Y p s m args c cX8_packs RX8 9) (hi : z_inj ΛM Y) (hr : meth.sig.returnType = (some .int)) (hlk : meth.locks = false) {b1 : Int32} {a2 : Int32} {b4 : Int32} {a5 : Int32} {k : Int64 → Int32 → Option (Int32 × zS)} (hk : ∀ (z6 : Int64) (z8 : Int32), k z6 z8 = some fin → z_G p l e (z_rm 5) s m args below meth c (MQ below (z_Qi ΛM Y fin) args s 0 0 (z_A ΛM Y)) ΛM Y 9 σ [(0, .ref (z_ad Y 0)), (1, .int b1), (2, .int a2), (4, .int b4), (5, .int a5), (6, .long z6), (8, .int z8)] 110 []) : ∀ (n : Nat) (v6 : Int64) (v8 : Int32), fX8_packs_L57 σ a2 a5 k n v6 v8 = some fin → z_G p l e (z_rm 5) s m args below meth c (MQ below (z_Qi ΛM Y fin) args s 0 0 (z_A ΛM Y)) ΛM Y 9 σ [(0, .ref (z_ad Y 0)), (1, .int b1), (2, .int a2), (4, .int b4), (5, .int a5), (6, .long v6), (8, .int v8)] 57 [] := by
  intro n
  induction n with
  | zero =>
    intro _ _ h
    cases h
  | succ n ih =>
    intro v6 v8 h
    rw [fX8_packs_L57.eq_2] at h
    refine z_iload O dzX8_packs_57 6 rfl ?_
    refine z_if_lt O dzX8_packs_59 (fun c2 => ?_) (fun c2 => ?_)
    · have h := z_if_t c2 h
      exact hk _ _ h
    · have h := z_if_f c2 h
      refine z_lload O dzX8_packs_62 5 rfl ?_
      refine z_ldc2 O tw_1168 dzX8_packs_64 ?_
      refine z_lmul O dzX8_packs_67 ?_
      refine z_iconst O dzX8_packs_68 hcI5 ?_
      refine z_iload O dzX8_packs_69 4 rfl ?_
      refine z_imul O dzX8_packs_71 ?_
      refine z_iload O dzX8_packs_72 6 rfl ?_
      refine z_iadd O dzX8_packs_74 ?_
      refine z_aload_n O dzX8_packs_75 rfl 0 rfl ?_
      refine z_get O z_cb8 fm_obj (v := .ref (z_ad Y 2)) 1 (Nat.le_of_ble_eq_true rfl) tw_750 rfl dzX8_packs_76 ?_
      refine z_iload_n O dzX8_packs_79 rfl 2 rfl ?_
      obtain ⟨g1, h⟩ := z_gd_at h
      refine z_iald O fm_sizes g1 dzX8_packs_80 ?_
      refine z_icmp_ge O dzX8_packs_81 (fun c1 => ?_) (fun c1 => ?_)
      · have h := z_if_t c1 h
        refine z_iconst O dzX8_packs_99 hcI0 ?_
        refine z_i2l O dzX8_packs_100 ?_
        refine z_ladd O dzX8_packs_101 ?_
        refine z_topl (fun x1 e1 => ?_)
        have h := z_lt_at e1 h
        refine z_lstore O (lv' := [(6, .long x1), (0, .ref (z_ad Y 0)), (1, .int b1), (2, .int a2), (4, .int b4), (5, .int a5), (8, .int v8)]) dzX8_packs_102 (by decide) rfl ?_
        refine z_iinc O (lv' := [(8, .int (v8 + (-1 : Int32))), (6, .long x1), (0, .ref (z_ad Y 0)), (1, .int b1), (2, .int a2), (4, .int b4), (5, .int a5)]) dzX8_packs_104 6 rfl (congrArg _ hcIm1) (by decide) rfl ?_
        refine z_goto O dzX8_packs_107 ?_
        refine z_sub [2, 3, 4, 5, 6, 1, 0] rfl ?_
        exact ih _ _ h
      · have h := z_if_f c1 h
        refine z_aload_n O dzX8_packs_84 rfl 0 rfl ?_
        refine z_iload_n O dzX8_packs_85 rfl 2 rfl ?_
        refine z_iconst O dzX8_packs_86 hcI5 ?_
        refine z_iload O dzX8_packs_87 4 rfl ?_
        refine z_imul O dzX8_packs_89 ?_
        refine z_iload O dzX8_packs_90 6 rfl ?_
        refine z_iadd O dzX8_packs_92 ?_
        obtain ⟨r1, hc1, h⟩ := z_bd_at h
        refine z_callViR O (As := [.int a2, .int (((5 : Int32) * a5) + v8)]) (rest := [.long (v6 * (4096 : Int64))]) (kX8_setOf hi hc1) mX8_setOf tw_908 (Nat.le_of_ble_eq_true rfl) fm_obj rfl rfl rfl rfl (Nat.le_of_ble_eq_true rfl) dzX8_packs_93 ?_
        refine z_goto O dzX8_packs_96 ?_
        refine z_i2l O dzX8_packs_100 ?_
        refine z_ladd O dzX8_packs_101 ?_
        refine z_topl (fun x2 e2 => ?_)
        have h := z_lt_at e2 h
        refine z_lstore O (lv' := [(6, .long x2), (0, .ref (z_ad Y 0)), (1, .int b1), (2, .int a2), (4, .int b4), (5, .int a5), (8, .int v8)]) dzX8_packs_102 (by decide) rfl ?_
        refine z_iinc O (lv' := [(8, .int (v8 + (-1 : Int32))), (6, .long x2), (0, .ref (z_ad Y 0)), (1, .int b1), (2, .int a2), (4, .int b4), (5, .int a5)]) dzX8_packs_104 6 rfl (congrArg _ hcIm1) (by decide) rfl ?_
        refine z_goto O dzX8_packs_107 ?_
        refine z_sub [2, 3, 4, 5, 6, 1, 0] rfl ?_
        exact ih _ _ h
def fX8_packs_L44 (a1 : Int32) (a2 : Int32) (a4 : Int32) (k : zS → Int32 → Option (Int32 × zS)) : Nat → zS → Int32 → Option (Int32 × zS)
  | 0, _, _ => none
  | n + 1, σ, v5 => (if a4 ≤ v5 then k σ v5 else fX8_packs_L57 σ a2 v5 (fun (x1 : Int64) (x2 : Int32) => (fX8_cell σ a1 v5 x1).bind (fun r1 => (if 0 ≤ r1.1 then fX8_packs_L44 a1 a2 a4 k n r1.2 (v5 + (1 : Int32)) else some (r1.1, r1.2)))) z_F (0 : Int64) (4 : Int32))
theorem kX8_packs_L44 {l : Launch} {Y : zY} {fin : Int32 × zS} {p : Program} {e : Env} {s : State} {m : MethodId} {args : Array Value} {below : List Frame} {meth : Method} {c : Code} (O : z_ok ΛM Y p s m args c cX8_packs RX8 9) (hi : z_inj ΛM Y) (hr : meth.sig.returnType = (some .int)) (hlk : meth.locks = false) {a1 : Int32} {a2 : Int32} {a4 : Int32} {k : zS → Int32 → Option (Int32 × zS)} (hk : ∀ (w : zS) (z5 : Int32), k w z5 = some fin → z_G p l e (z_rm 5) s m args below meth c (MQ below (z_Qi ΛM Y fin) args s 0 0 (z_A ΛM Y)) ΛM Y 9 w [(0, .ref (z_ad Y 0)), (1, .int a1), (2, .int a2), (4, .int a4), (5, .int z5)] 135 []) : ∀ (n : Nat) (σ : zS) (v5 : Int32), fX8_packs_L44 a1 a2 a4 k n σ v5 = some fin → z_G p l e (z_rm 5) s m args below meth c (MQ below (z_Qi ΛM Y fin) args s 0 0 (z_A ΛM Y)) ΛM Y 9 σ [(0, .ref (z_ad Y 0)), (1, .int a1), (2, .int a2), (4, .int a4), (5, .int v5)] 44 [] := by
  intro n
  induction n with
  | zero =>
    intro _ _ h
    cases h
  | succ n ih =>
    intro σ v5 h
    rw [fX8_packs_L44.eq_2] at h
    refine z_iload O dzX8_packs_44 4 rfl ?_
    refine z_iload O dzX8_packs_46 3 rfl ?_
    refine z_icmp_ge O dzX8_packs_48 (fun c2 => ?_) (fun c2 => ?_)
    · have h := z_if_t c2 h
      exact hk _ _ h
    · have h := z_if_f c2 h
      refine z_lconst O dzX8_packs_51 (v := 0) rfl ?_
      refine z_lstore O (lv' := [(6, .long (0 : Int64)), (0, .ref (z_ad Y 0)), (1, .int a1), (2, .int a2), (4, .int a4), (5, .int v5)]) dzX8_packs_52 (by decide) rfl ?_
      refine z_iconst O dzX8_packs_54 hcI4 ?_
      refine z_istore O (lv' := [(8, .int (4 : Int32)), (6, .long (0 : Int64)), (0, .ref (z_ad Y 0)), (1, .int a1), (2, .int a2), (4, .int a4), (5, .int v5)]) dzX8_packs_55 (by decide) rfl ?_
      refine z_sub [2, 3, 4, 5, 6, 1, 0] rfl ?_
      refine kX8_packs_L57 O hi hr hlk   (fun x1 x2 h => ?_) _ _ _ h
      refine z_aload_n O dzX8_packs_110 rfl 0 rfl ?_
      refine z_iload_n O dzX8_packs_111 rfl 1 rfl ?_
      refine z_iload O dzX8_packs_112 4 rfl ?_
      refine z_lload O dzX8_packs_114 5 rfl ?_
      obtain ⟨r1, hc1, h⟩ := z_bd_at h
      refine z_callVi O (As := [.int a1, .int v5, .long x1]) (rest := []) (kX8_cell hi hc1) mX8_cell tw_1169 (Nat.le_of_ble_eq_true rfl) fm_obj rfl rfl rfl rfl (Nat.le_of_ble_eq_true rfl) dzX8_packs_116 ?_
      refine z_istore O (lv' := [(8, .int r1.1), (0, .ref (z_ad Y 0)), (1, .int a1), (2, .int a2), (4, .int a4), (5, .int v5), (6, .long x1)]) dzX8_packs_119 (by decide) rfl ?_
      refine z_iload O dzX8_packs_121 0 rfl ?_
      refine z_if_ge O dzX8_packs_123 (fun c1 => ?_) (fun c1 => ?_)
      · have h := z_if_t c1 h
        refine z_iinc O (lv' := [(5, .int (v5 + (1 : Int32))), (8, .int r1.1), (0, .ref (z_ad Y 0)), (1, .int a1), (2, .int a2), (4, .int a4), (6, .long x1)]) dzX8_packs_129 5 rfl (congrArg _ hcI1) (by decide) rfl ?_
        refine z_goto O dzX8_packs_132 ?_
        refine z_sub [2, 3, 4, 5, 0] rfl ?_
        exact ih _ _ h
      · have h := z_if_f c1 h
        refine z_iload O dzX8_packs_126 0 rfl ?_
        exact z_iret O hr hlk dzX8_packs_128 h
def fX8_packs (σ : zS) (a1 : Int32) (a2 : Int32) : Option (Int32 × zS) :=
  (fX8_isSheet a1).bind (fun r1 => (if r1 = 0 then some ((-2 : Int32), σ) else (fX8_isFamily a2).bind (fun r2 => (if r2 = 0 then some ((-2 : Int32), σ) else (fX8_noLongs σ a1).bind (fun r3 => (if r3 = 0 then z_gd (z_in a2 4) (z_gd (z_nz (5 : Int32)) (z_lt (((σ.1 2 a2.toNatClampNeg) + (4 : Int32)) / (5 : Int32)) (fun (x1 : Int32) => fX8_packs_L44 a1 a2 x1 (fun (w1 : zS) (x2 : Int32) => some (x1, w1)) z_F σ (0 : Int32)))) else some (r3, σ)))))))
theorem kX8_packs {l : Launch} {Y : zY} (hi : z_inj ΛM Y) {σ : zS} {a1 : Int32} {a2 : Int32} {fin : Int32 × zS} (h : fX8_packs σ a1 a2 = some fin) : Met l yX8_packs (Cond.code yX8_packs cX8_packs 9 (some .int) :: z_TB) (z_rm 5) (z_Pc ΛM Y σ [.ref (z_ad Y 0), .int a1, .int a2]) (z_Qi ΛM Y fin) 0 0 (z_A ΛM Y) := by
  unfold fX8_packs at h
  refine z_met [(0, .ref (z_ad Y 0)), (1, .int a1), (2, .int a2)] rfl (Nat.le_of_ble_eq_true rfl) (plainFor_of_name (by decide)) hi ?_
  intro p e s m args below meth c O hr hlk
  refine z_iload_n O dzX8_packs_0 rfl 1 rfl ?_
  obtain ⟨r1, hc1, h⟩ := z_bd_at h
  refine z_callSiR O (As := [.int a1]) (rest := []) (kX8_isSheet hi hc1) mX8_isSheet tw_1144 (Nat.le_of_ble_eq_true rfl) rfl rfl (Nat.le_of_ble_eq_true rfl) dzX8_packs_1 ?_
  refine z_if_eq O dzX8_packs_4 (fun c3 => ?_) (fun c3 => ?_)
  · have h := z_if_t c3 h
    refine z_bipush O dzX8_packs_14 hcBm2 ?_
    exact z_iret O hr hlk dzX8_packs_16 h
  · have h := z_if_f c3 h
    refine z_iload_n O dzX8_packs_7 rfl 2 rfl ?_
    obtain ⟨r2, hc2, h⟩ := z_bd_at h
    refine z_callSiR O (As := [.int a2]) (rest := []) (kX8_isFamily hi hc2) mX8_isFamily tw_892 (Nat.le_of_ble_eq_true rfl) rfl rfl (Nat.le_of_ble_eq_true rfl) dzX8_packs_8 ?_
    refine z_if_ne O dzX8_packs_11 (fun c2 => ?_) (fun c2 => ?_)
    · have h := z_if_f c2 h
      refine z_aload_n O dzX8_packs_17 rfl 0 rfl ?_
      refine z_iload_n O dzX8_packs_18 rfl 1 rfl ?_
      obtain ⟨r3, hc3, h⟩ := z_bd_at h
      refine z_callViR O (As := [.int a1]) (rest := []) (kX8_noLongs hi hc3) mX8_noLongs tw_1164 (Nat.le_of_ble_eq_true rfl) fm_obj rfl rfl rfl rfl (Nat.le_of_ble_eq_true rfl) dzX8_packs_19 ?_
      refine z_istore_n O (lv' := [(3, .int r3), (0, .ref (z_ad Y 0)), (1, .int a1), (2, .int a2)]) dzX8_packs_22 rfl (by decide) rfl ?_
      refine z_iload_n O dzX8_packs_23 rfl 0 rfl ?_
      refine z_if_eq O dzX8_packs_24 (fun c1 => ?_) (fun c1 => ?_)
      · have h := z_if_t c1 h
        refine z_aload_n O dzX8_packs_29 rfl 1 rfl ?_
        refine z_get O z_cb8 fm_obj (v := .ref (z_ad Y 2)) 1 (Nat.le_of_ble_eq_true rfl) tw_750 rfl dzX8_packs_30 ?_
        refine z_iload_n O dzX8_packs_33 rfl 3 rfl ?_
        obtain ⟨g1, h⟩ := z_gd_at h
        refine z_iald O fm_sizes g1 dzX8_packs_34 ?_
        refine z_iconst O dzX8_packs_35 hcI4 ?_
        refine z_iadd O dzX8_packs_36 ?_
        refine z_iconst O dzX8_packs_37 hcI5 ?_
        obtain ⟨g2, h⟩ := z_gd_at h
        refine z_idiv O dzX8_packs_38 (z_nz_n g2) ?_
        refine z_topi (fun x1 e1 => ?_)
        have h := z_lt_at e1 h
        refine z_istore O (lv' := [(4, .int x1), (3, .int r3), (0, .ref (z_ad Y 0)), (1, .int a1), (2, .int a2)]) dzX8_packs_39 (by decide) rfl ?_
        refine z_iconst O dzX8_packs_41 hcI0 ?_
        refine z_istore O (lv' := [(5, .int (0 : Int32)), (4, .int x1), (3, .int r3), (0, .ref (z_ad Y 0)), (1, .int a1), (2, .int a2)]) dzX8_packs_42 (by decide) rfl ?_
        refine z_sub [3, 4, 5, 1, 0] rfl ?_
        refine kX8_packs_L44 O hi hr hlk   (fun w1 x2 h => ?_) _ _ _ h
        refine z_iload O dzX8_packs_135 3 rfl ?_
        exact z_iret O hr hlk dzX8_packs_137 h
      · have h := z_if_f c1 h
        refine z_iload_n O dzX8_packs_27 rfl 0 rfl ?_
        exact z_iret O hr hlk dzX8_packs_28 h
    · have h := z_if_t c2 h
      refine z_bipush O dzX8_packs_14 hcBm2 ?_
      exact z_iret O hr hlk dzX8_packs_16 h
def fX8_remembers_L22 (k : zS → Int32 → Option (zS)) : Nat → zS → Int32 → Option (zS)
  | 0, _, _ => none
  | n + 1, σ, v4 => (if (σ.1 0 10) ≤ v4 then k σ v4 else z_gd (z_in (v4 + (1 : Int32)) 20) (z_gd (z_in v4 20) (z_lt (z_sI σ 10 v4.toNatClampNeg (σ.1 10 (v4 + (1 : Int32)).toNatClampNeg)) (fun (w1 : zS) => z_gd (z_in (v4 + (1 : Int32)) 20) (z_gd (z_in v4 20) (z_lt (z_sI w1 11 v4.toNatClampNeg (w1.1 11 (v4 + (1 : Int32)).toNatClampNeg)) (fun (w2 : zS) => z_gd (z_in (v4 + (1 : Int32)) 20) (z_gd (z_in v4 20) (z_lt (z_sI w2 12 v4.toNatClampNeg (w2.1 12 (v4 + (1 : Int32)).toNatClampNeg)) (fun (w3 : zS) => fX8_remembers_L22 k n w3 (v4 + (1 : Int32))))))))))))
theorem kX8_remembers_L22 {l : Launch} {Y : zY} {fin : zS} {p : Program} {e : Env} {s : State} {m : MethodId} {args : Array Value} {below : List Frame} {meth : Method} {c : Code} (O : z_ok ΛM Y p s m args c cX8_remembers RX8 5) (hi : z_inj ΛM Y) (hr : meth.sig.returnType = none) (hlk : meth.locks = false) {b1 : Int32} {b2 : Int32} {b3 : Int32} {k : zS → Int32 → Option (zS)} (hk : ∀ (w : zS) (z4 : Int32), k w z4 = some fin → z_G p l e (z_rm 1) s m args below meth c (MQ below (z_Qv ΛM Y fin) args s 0 0 (z_A ΛM Y)) ΛM Y 5 w [(0, .ref (z_ad Y 0)), (1, .int b1), (2, .int b2), (3, .int b3), (4, .int z4)] 85 []) : ∀ (n : Nat) (σ : zS) (v4 : Int32), fX8_remembers_L22 k n σ v4 = some fin → z_G p l e (z_rm 1) s m args below meth c (MQ below (z_Qv ΛM Y fin) args s 0 0 (z_A ΛM Y)) ΛM Y 5 σ [(0, .ref (z_ad Y 0)), (1, .int b1), (2, .int b2), (3, .int b3), (4, .int v4)] 22 [] := by
  intro n
  induction n with
  | zero =>
    intro _ _ h
    cases h
  | succ n ih =>
    intro σ v4 h
    rw [fX8_remembers_L22.eq_2] at h
    refine z_iload O dzX8_remembers_22 4 rfl ?_
    refine z_aload_n O dzX8_remembers_24 rfl 0 rfl ?_
    refine z_get O z_cb8 fm_obj (v := .int (σ.1 0 10)) 10 (Nat.le_of_ble_eq_true rfl) tw_759 rfl dzX8_remembers_25 ?_
    refine z_icmp_ge O dzX8_remembers_28 (fun c1 => ?_) (fun c1 => ?_)
    · have h := z_if_t c1 h
      exact hk _ _ h
    · have h := z_if_f c1 h
      refine z_aload_n O dzX8_remembers_31 rfl 0 rfl ?_
      refine z_get O z_cb8 fm_obj (v := .ref (z_ad Y 10)) 11 (Nat.le_of_ble_eq_true rfl) tw_760 rfl dzX8_remembers_32 ?_
      refine z_iload O dzX8_remembers_35 4 rfl ?_
      refine z_aload_n O dzX8_remembers_37 rfl 0 rfl ?_
      refine z_get O z_cb8 fm_obj (v := .ref (z_ad Y 10)) 11 (Nat.le_of_ble_eq_true rfl) tw_760 rfl dzX8_remembers_38 ?_
      refine z_iload O dzX8_remembers_41 4 rfl ?_
      refine z_iconst O dzX8_remembers_43 hcI1 ?_
      refine z_iadd O dzX8_remembers_44 ?_
      obtain ⟨g1, h⟩ := z_gd_at h
      refine z_iald O fm_actSort g1 dzX8_remembers_45 ?_
      obtain ⟨g2, h⟩ := z_gd_at h
      refine z_iast O fm_actSort g2 dzX8_remembers_46 ?_
      refine z_sig (fun w1 e1 => ?_)
      have h := z_lt_at e1 h
      refine z_aload_n O dzX8_remembers_47 rfl 0 rfl ?_
      refine z_get O z_cb8 fm_obj (v := .ref (z_ad Y 11)) 12 (Nat.le_of_ble_eq_true rfl) tw_761 rfl dzX8_remembers_48 ?_
      refine z_iload O dzX8_remembers_51 4 rfl ?_
      refine z_aload_n O dzX8_remembers_53 rfl 0 rfl ?_
      refine z_get O z_cb8 fm_obj (v := .ref (z_ad Y 11)) 12 (Nat.le_of_ble_eq_true rfl) tw_761 rfl dzX8_remembers_54 ?_
      refine z_iload O dzX8_remembers_57 4 rfl ?_
      refine z_iconst O dzX8_remembers_59 hcI1 ?_
      refine z_iadd O dzX8_remembers_60 ?_
      obtain ⟨g3, h⟩ := z_gd_at h
      refine z_iald O fm_actOf g3 dzX8_remembers_61 ?_
      obtain ⟨g4, h⟩ := z_gd_at h
      refine z_iast O fm_actOf g4 dzX8_remembers_62 ?_
      refine z_sig (fun w2 e2 => ?_)
      have h := z_lt_at e2 h
      refine z_aload_n O dzX8_remembers_63 rfl 0 rfl ?_
      refine z_get O z_cb8 fm_obj (v := .ref (z_ad Y 12)) 13 (Nat.le_of_ble_eq_true rfl) tw_762 rfl dzX8_remembers_64 ?_
      refine z_iload O dzX8_remembers_67 4 rfl ?_
      refine z_aload_n O dzX8_remembers_69 rfl 0 rfl ?_
      refine z_get O z_cb8 fm_obj (v := .ref (z_ad Y 12)) 13 (Nat.le_of_ble_eq_true rfl) tw_762 rfl dzX8_remembers_70 ?_
      refine z_iload O dzX8_remembers_73 4 rfl ?_
      refine z_iconst O dzX8_remembers_75 hcI1 ?_
      refine z_iadd O dzX8_remembers_76 ?_
      obtain ⟨g5, h⟩ := z_gd_at h
      refine z_iald O fm_actV g5 dzX8_remembers_77 ?_
      obtain ⟨g6, h⟩ := z_gd_at h
      refine z_iast O fm_actV g6 dzX8_remembers_78 ?_
      refine z_sig (fun w3 e3 => ?_)
      have h := z_lt_at e3 h
      refine z_iinc O (lv' := [(4, .int (v4 + (1 : Int32))), (0, .ref (z_ad Y 0)), (1, .int b1), (2, .int b2), (3, .int b3)]) dzX8_remembers_79 4 rfl (congrArg _ hcI1) (by decide) rfl ?_
      refine z_goto O dzX8_remembers_82 ?_
      refine z_sub [1, 2, 3, 4, 0] rfl ?_
      exact ih _ _ h
def fX8_remembers (σ : zS) (a1 : Int32) (a2 : Int32) (a3 : Int32) : Option (zS) :=
  z_jn (fun (w1 : zS) => z_gd (z_in (w1.1 0 10) 20) (z_lt (z_sI w1 10 (w1.1 0 10).toNatClampNeg a1) (fun (w2 : zS) => z_gd (z_in (w2.1 0 10) 20) (z_lt (z_sI w2 11 (w2.1 0 10).toNatClampNeg a2) (fun (w3 : zS) => z_gd (z_in (w3.1 0 10) 20) (z_lt (z_sI w3 12 (w3.1 0 10).toNatClampNeg a3) (fun (w4 : zS) => z_lt (z_sI w4 0 10 ((w4.1 0 10) + (1 : Int32))) (fun (w5 : zS) => some w5)))))))) (fun j1 => (if (σ.1 0 10) = (20 : Int32) then z_lt (z_sI σ 0 10 ((σ.1 0 10) - (1 : Int32))) (fun (w6 : zS) => fX8_remembers_L22 (fun (w7 : zS) (x1 : Int32) => j1 w7) z_F w6 (0 : Int32)) else j1 σ))
theorem kX8_remembers {l : Launch} {Y : zY} (hi : z_inj ΛM Y) {σ : zS} {a1 : Int32} {a2 : Int32} {a3 : Int32} {fin : zS} (h : fX8_remembers σ a1 a2 a3 = some fin) : Met l yX8_remembers (Cond.code yX8_remembers cX8_remembers 5 none :: z_TB) (z_rm 1) (z_Pc ΛM Y σ [.ref (z_ad Y 0), .int a1, .int a2, .int a3]) (z_Qv ΛM Y fin) 0 0 (z_A ΛM Y) := by
  unfold fX8_remembers at h
  refine z_met [(0, .ref (z_ad Y 0)), (1, .int a1), (2, .int a2), (3, .int a3)] rfl (Nat.le_of_ble_eq_true rfl) (plainFor_of_name (by decide)) hi ?_
  intro p e s m args below meth c O hr hlk
  refine z_aload_n O dzX8_remembers_0 rfl 0 rfl ?_
  refine z_get O z_cb8 fm_obj (v := .int (σ.1 0 10)) 10 (Nat.le_of_ble_eq_true rfl) tw_759 rfl dzX8_remembers_1 ?_
  refine z_bipush O dzX8_remembers_4 hcB20 ?_
  refine z_jn_at (P := fun j1 => ∀ (w1 : zS), j1 w1 = some fin → z_G p l e (z_rm 1) s m args below meth c (MQ below (z_Qv ΛM Y fin) args s 0 0 (z_A ΛM Y)) ΛM Y 5 w1 [(0, .ref (z_ad Y 0)), (1, .int a1), (2, .int a2), (3, .int a3)] 85 []) h ?_ (fun j1 J1 h => ?_)
  · intro w1 h
    refine z_aload_n O dzX8_remembers_85 rfl 0 rfl ?_
    refine z_get O z_cb8 fm_obj (v := .ref (z_ad Y 10)) 11 (Nat.le_of_ble_eq_true rfl) tw_760 rfl dzX8_remembers_86 ?_
    refine z_aload_n O dzX8_remembers_89 rfl 0 rfl ?_
    refine z_get O z_cb8 fm_obj (v := .int (w1.1 0 10)) 10 (Nat.le_of_ble_eq_true rfl) tw_759 rfl dzX8_remembers_90 ?_
    refine z_iload_n O dzX8_remembers_93 rfl 1 rfl ?_
    obtain ⟨g1, h⟩ := z_gd_at h
    refine z_iast O fm_actSort g1 dzX8_remembers_94 ?_
    refine z_sig (fun w2 e1 => ?_)
    have h := z_lt_at e1 h
    refine z_aload_n O dzX8_remembers_95 rfl 0 rfl ?_
    refine z_get O z_cb8 fm_obj (v := .ref (z_ad Y 11)) 12 (Nat.le_of_ble_eq_true rfl) tw_761 rfl dzX8_remembers_96 ?_
    refine z_aload_n O dzX8_remembers_99 rfl 0 rfl ?_
    refine z_get O z_cb8 fm_obj (v := .int (w2.1 0 10)) 10 (Nat.le_of_ble_eq_true rfl) tw_759 rfl dzX8_remembers_100 ?_
    refine z_iload_n O dzX8_remembers_103 rfl 2 rfl ?_
    obtain ⟨g2, h⟩ := z_gd_at h
    refine z_iast O fm_actOf g2 dzX8_remembers_104 ?_
    refine z_sig (fun w3 e2 => ?_)
    have h := z_lt_at e2 h
    refine z_aload_n O dzX8_remembers_105 rfl 0 rfl ?_
    refine z_get O z_cb8 fm_obj (v := .ref (z_ad Y 12)) 13 (Nat.le_of_ble_eq_true rfl) tw_762 rfl dzX8_remembers_106 ?_
    refine z_aload_n O dzX8_remembers_109 rfl 0 rfl ?_
    refine z_get O z_cb8 fm_obj (v := .int (w3.1 0 10)) 10 (Nat.le_of_ble_eq_true rfl) tw_759 rfl dzX8_remembers_110 ?_
    refine z_iload_n O dzX8_remembers_113 rfl 3 rfl ?_
    obtain ⟨g3, h⟩ := z_gd_at h
    refine z_iast O fm_actV g3 dzX8_remembers_114 ?_
    refine z_sig (fun w4 e3 => ?_)
    have h := z_lt_at e3 h
    refine z_aload_n O dzX8_remembers_115 rfl 0 rfl ?_
    refine z_dup O dzX8_remembers_116 rfl ?_
    refine z_get O z_cb8 fm_obj (v := .int (w4.1 0 10)) 10 (Nat.le_of_ble_eq_true rfl) tw_759 rfl dzX8_remembers_117 ?_
    refine z_iconst O dzX8_remembers_120 hcI1 ?_
    refine z_iadd O dzX8_remembers_121 ?_
    refine z_put O z_cb8 fm_obj 10 (Nat.le_of_ble_eq_true rfl) tw_759 rfl rfl rfl fp_M10 dzX8_remembers_122 ?_
    refine z_sig (fun w5 e4 => ?_)
    have h := z_lt_at e4 h
    exact z_vret O hr hlk dzX8_remembers_125 h
  · refine z_icmp_ne O dzX8_remembers_6 (fun c1 => ?_) (fun c1 => ?_)
    · have h := z_if_f c1 h
      exact J1 σ h
    · have h := z_if_t c1 h
      refine z_aload_n O dzX8_remembers_9 rfl 0 rfl ?_
      refine z_dup O dzX8_remembers_10 rfl ?_
      refine z_get O z_cb8 fm_obj (v := .int (σ.1 0 10)) 10 (Nat.le_of_ble_eq_true rfl) tw_759 rfl dzX8_remembers_11 ?_
      refine z_iconst O dzX8_remembers_14 hcI1 ?_
      refine z_isub O dzX8_remembers_15 ?_
      refine z_put O z_cb8 fm_obj 10 (Nat.le_of_ble_eq_true rfl) tw_759 rfl rfl rfl fp_M10 dzX8_remembers_16 ?_
      refine z_sig (fun w6 e5 => ?_)
      have h := z_lt_at e5 h
      refine z_iconst O dzX8_remembers_19 hcI0 ?_
      refine z_istore O (lv' := [(4, .int (0 : Int32)), (0, .ref (z_ad Y 0)), (1, .int a1), (2, .int a2), (3, .int a3)]) dzX8_remembers_20 (by decide) rfl ?_
      refine z_sub [1, 2, 3, 4, 0] rfl ?_
      refine kX8_remembers_L22 O hi hr hlk   (fun w7 x1 h => ?_) _ _ _ h
      refine z_sub [0, 1, 2, 3] rfl ?_
      exact J1 w7 h
def fX8_price (σ : zS) (a1 : Int32) (a2 : Int32) : Option (Int32 × zS) :=
  (fX8_isPoint a1).bind (fun r1 => (if r1 = 0 then some ((-2 : Int32), σ) else (fX8_in (a2.toInt64) (0 : Int64) (99 : Int64)).bind (fun r2 => (if r2 = 0 then some ((-2 : Int32), σ) else z_gd (z_in a1 12) (z_lt (σ.1 1 a1.toNatClampNeg) (fun (x1 : Int32) => z_gd (z_in a1 12) (z_lt (z_sI σ 1 a1.toNatClampNeg a2) (fun (w1 : zS) => (if x1 = a2 then some (x1, w1) else (fX8_remembers w1 (0 : Int32) a1 x1).bind (fun r3 => some (x1, r3)))))))))))
theorem kX8_price {l : Launch} {Y : zY} (hi : z_inj ΛM Y) {σ : zS} {a1 : Int32} {a2 : Int32} {fin : Int32 × zS} (h : fX8_price σ a1 a2 = some fin) : Met l yX8_price (Cond.code yX8_price cX8_price 4 (some .int) :: z_TB) (z_rm 3) (z_Pc ΛM Y σ [.ref (z_ad Y 0), .int a1, .int a2]) (z_Qi ΛM Y fin) 0 0 (z_A ΛM Y) := by
  unfold fX8_price at h
  refine z_met [(0, .ref (z_ad Y 0)), (1, .int a1), (2, .int a2)] rfl (Nat.le_of_ble_eq_true rfl) (plainFor_of_name (by decide)) hi ?_
  intro p e s m args below meth c O hr hlk
  refine z_iload_n O dzX8_price_0 rfl 1 rfl ?_
  obtain ⟨r1, hc1, h⟩ := z_bd_at h
  refine z_callSiR O (As := [.int a1]) (rest := []) (kX8_isPoint hi hc1) mX8_isPoint tw_872 (Nat.le_of_ble_eq_true rfl) rfl rfl (Nat.le_of_ble_eq_true rfl) dzX8_price_1 ?_
  refine z_if_eq O dzX8_price_4 (fun c3 => ?_) (fun c3 => ?_)
  · have h := z_if_t c3 h
    refine z_bipush O dzX8_price_19 hcBm2 ?_
    exact z_iret O hr hlk dzX8_price_21 h
  · have h := z_if_f c3 h
    refine z_iload_n O dzX8_price_7 rfl 2 rfl ?_
    refine z_i2l O dzX8_price_8 ?_
    refine z_lconst O dzX8_price_9 (v := 0) rfl ?_
    refine z_ldc2 O tw_879 dzX8_price_10 ?_
    obtain ⟨r2, hc2, h⟩ := z_bd_at h
    refine z_callSiR O (As := [.long (a2.toInt64), .long (0 : Int64), .long (99 : Int64)]) (rest := []) (kX8_in hi hc2) mX8_in tw_876 (Nat.le_of_ble_eq_true rfl) rfl rfl (Nat.le_of_ble_eq_true rfl) dzX8_price_13 ?_
    refine z_if_ne O dzX8_price_16 (fun c2 => ?_) (fun c2 => ?_)
    · have h := z_if_f c2 h
      refine z_aload_n O dzX8_price_22 rfl 0 rfl ?_
      refine z_get O z_cb8 fm_obj (v := .ref (z_ad Y 1)) 0 (Nat.le_of_ble_eq_true rfl) tw_749 rfl dzX8_price_23 ?_
      refine z_iload_n O dzX8_price_26 rfl 1 rfl ?_
      obtain ⟨g1, h⟩ := z_gd_at h
      refine z_iald O fm_price g1 dzX8_price_27 ?_
      refine z_topi (fun x1 e1 => ?_)
      have h := z_lt_at e1 h
      refine z_istore_n O (lv' := [(3, .int x1), (0, .ref (z_ad Y 0)), (1, .int a1), (2, .int a2)]) dzX8_price_28 rfl (by decide) rfl ?_
      refine z_aload_n O dzX8_price_29 rfl 1 rfl ?_
      refine z_get O z_cb8 fm_obj (v := .ref (z_ad Y 1)) 0 (Nat.le_of_ble_eq_true rfl) tw_749 rfl dzX8_price_30 ?_
      refine z_iload_n O dzX8_price_33 rfl 2 rfl ?_
      refine z_iload_n O dzX8_price_34 rfl 3 rfl ?_
      obtain ⟨g2, h⟩ := z_gd_at h
      refine z_iast O fm_price g2 dzX8_price_35 ?_
      refine z_sig (fun w1 e2 => ?_)
      have h := z_lt_at e2 h
      refine z_iload_n O dzX8_price_36 rfl 0 rfl ?_
      refine z_iload_n O dzX8_price_37 rfl 3 rfl ?_
      refine z_icmp_eq O dzX8_price_38 (fun c1 => ?_) (fun c1 => ?_)
      · have h := z_if_t c1 h
        refine z_iload_n O dzX8_price_48 rfl 0 rfl ?_
        exact z_iret O hr hlk dzX8_price_49 h
      · have h := z_if_f c1 h
        refine z_aload_n O dzX8_price_41 rfl 1 rfl ?_
        refine z_iconst O dzX8_price_42 hcI0 ?_
        refine z_iload_n O dzX8_price_43 rfl 2 rfl ?_
        refine z_iload_n O dzX8_price_44 rfl 0 rfl ?_
        obtain ⟨r3, hc3, h⟩ := z_bd_at h
        refine z_callVv O (As := [.int (0 : Int32), .int a1, .int x1]) (rest := []) (kX8_remembers hi hc3) mX8_remembers tw_880 (Nat.le_of_ble_eq_true rfl) fm_obj rfl rfl rfl rfl (Nat.le_of_ble_eq_true rfl) dzX8_price_45 ?_
        refine z_iload_n O dzX8_price_48 rfl 0 rfl ?_
        exact z_iret O hr hlk dzX8_price_49 h
    · have h := z_if_t c2 h
      refine z_bipush O dzX8_price_19 hcBm2 ?_
      exact z_iret O hr hlk dzX8_price_21 h
def fX8_priceOf (σ : zS) (a1 : Int32) : Option (Int32) :=
  (fX8_isPoint a1).bind (fun r1 => (if r1 = 0 then some (-2 : Int32) else z_gd (z_in a1 12) (some (σ.1 1 a1.toNatClampNeg))))
theorem kX8_priceOf {l : Launch} {Y : zY} (hi : z_inj ΛM Y) {σ : zS} {a1 : Int32} {fin : Int32} (h : fX8_priceOf σ a1 = some fin) : Met l yX8_priceOf (Cond.code yX8_priceOf cX8_priceOf 2 (some .int) :: z_TB) (z_rm 3) (z_Pc ΛM Y σ [.ref (z_ad Y 0), .int a1]) (z_Qi ΛM Y (fin, σ)) 0 0 (z_A ΛM Y) := by
  unfold fX8_priceOf at h
  refine z_met [(0, .ref (z_ad Y 0)), (1, .int a1)] rfl (Nat.le_of_ble_eq_true rfl) (plainFor_of_name (by decide)) hi ?_
  intro p e s m args below meth c O hr hlk
  refine z_iload_n O dzX8_priceOf_0 rfl 1 rfl ?_
  obtain ⟨r1, hc1, h⟩ := z_bd_at h
  refine z_callSiR O (As := [.int a1]) (rest := []) (kX8_isPoint hi hc1) mX8_isPoint tw_872 (Nat.le_of_ble_eq_true rfl) rfl rfl (Nat.le_of_ble_eq_true rfl) dzX8_priceOf_1 ?_
  refine z_if_eq O dzX8_priceOf_4 (fun c1 => ?_) (fun c1 => ?_)
  · have h := z_if_t c1 h
    refine z_bipush O dzX8_priceOf_16 hcBm2 ?_
    exact z_iret O hr hlk dzX8_priceOf_18 (z_rf h)
  · have h := z_if_f c1 h
    refine z_aload_n O dzX8_priceOf_7 rfl 0 rfl ?_
    refine z_get O z_cb8 fm_obj (v := .ref (z_ad Y 1)) 0 (Nat.le_of_ble_eq_true rfl) tw_749 rfl dzX8_priceOf_8 ?_
    refine z_iload_n O dzX8_priceOf_11 rfl 1 rfl ?_
    obtain ⟨g1, h⟩ := z_gd_at h
    refine z_iald O fm_price g1 dzX8_priceOf_12 ?_
    refine z_goto O dzX8_priceOf_13 ?_
    exact z_iret O hr hlk dzX8_priceOf_18 (z_rf h)
def fX8_ranked_L21 (a1 : Int32) (a2 : Int32) (k : zS → Int32 → Option (Int32 × zS)) : Nat → zS → Int32 → Option (Int32 × zS)
  | 0, _, _ => none
  | n + 1, σ, v4 => z_gd (z_in a1 4) ((if (σ.1 2 a1.toNatClampNeg) ≤ v4 then k σ v4 else (fX8_setOf σ a1 v4).bind (fun r1 => (fX8_worthOf 13 σ a2 r1).bind (fun r2 => z_gd (z_in v4 40) (z_lt (z_sI σ 18 v4.toNatClampNeg r2) (fun (w1 : zS) => fX8_ranked_L21 a1 a2 k n w1 (v4 + (1 : Int32))))))))
theorem kX8_ranked_L21 {l : Launch} {Y : zY} {fin : Int32 × zS} {p : Program} {e : Env} {s : State} {m : MethodId} {args : Array Value} {below : List Frame} {meth : Method} {c : Code} (O : z_ok ΛM Y p s m args c cX8_ranked RX8 7) (hi : z_inj ΛM Y) (hr : meth.sig.returnType = (some .int)) (hlk : meth.locks = false) {a1 : Int32} {a2 : Int32} {b3 : Int32} {k : zS → Int32 → Option (Int32 × zS)} (hk : ∀ (w : zS) (z4 : Int32), k w z4 = some fin → z_G p l e (z_rm 17) s m args below meth c (MQ below (z_Qi ΛM Y fin) args s 0 0 (z_A ΛM Y)) ΛM Y 7 w [(0, .ref (z_ad Y 0)), (1, .int a1), (2, .int a2), (3, .int b3), (4, .int z4)] 57 []) : ∀ (n : Nat) (σ : zS) (v4 : Int32), fX8_ranked_L21 a1 a2 k n σ v4 = some fin → z_G p l e (z_rm 17) s m args below meth c (MQ below (z_Qi ΛM Y fin) args s 0 0 (z_A ΛM Y)) ΛM Y 7 σ [(0, .ref (z_ad Y 0)), (1, .int a1), (2, .int a2), (3, .int b3), (4, .int v4)] 21 [] := by
  intro n
  induction n with
  | zero =>
    intro _ _ h
    cases h
  | succ n ih =>
    intro σ v4 h
    rw [fX8_ranked_L21.eq_2] at h
    refine z_iload O dzX8_ranked_21 4 rfl ?_
    refine z_aload_n O dzX8_ranked_23 rfl 0 rfl ?_
    refine z_get O z_cb8 fm_obj (v := .ref (z_ad Y 2)) 1 (Nat.le_of_ble_eq_true rfl) tw_750 rfl dzX8_ranked_24 ?_
    refine z_iload_n O dzX8_ranked_27 rfl 1 rfl ?_
    obtain ⟨g1, h⟩ := z_gd_at h
    refine z_iald O fm_sizes g1 dzX8_ranked_28 ?_
    refine z_icmp_ge O dzX8_ranked_29 (fun c1 => ?_) (fun c1 => ?_)
    · have h := z_if_t c1 h
      exact hk _ _ h
    · have h := z_if_f c1 h
      refine z_aload_n O dzX8_ranked_32 rfl 0 rfl ?_
      refine z_get O z_cb8 fm_obj (v := .ref (z_ad Y 18)) 29 (Nat.le_of_ble_eq_true rfl) tw_778 rfl dzX8_ranked_33 ?_
      refine z_iload O dzX8_ranked_36 4 rfl ?_
      refine z_aload_n O dzX8_ranked_38 rfl 0 rfl ?_
      refine z_iload_n O dzX8_ranked_39 rfl 2 rfl ?_
      refine z_aload_n O dzX8_ranked_40 rfl 0 rfl ?_
      refine z_iload_n O dzX8_ranked_41 rfl 1 rfl ?_
      refine z_iload O dzX8_ranked_42 4 rfl ?_
      obtain ⟨r1, hc1, h⟩ := z_bd_at h
      refine z_callViR O (As := [.int a1, .int v4]) (rest := [.int a2, .ref (z_ad Y 0), .int v4, .ref (z_ad Y 18)]) (kX8_setOf hi hc1) mX8_setOf tw_908 (Nat.le_of_ble_eq_true rfl) fm_obj rfl rfl rfl rfl (Nat.le_of_ble_eq_true rfl) dzX8_ranked_44 ?_
      obtain ⟨r2, hc2, h⟩ := z_bd_at h
      refine z_callViR O (As := [.int a2, .int r1]) (rest := [.int v4, .ref (z_ad Y 18)]) (kX8_worthOf hi 13 hc2) mX8_worthOf tw_1116 (Nat.le_of_ble_eq_true rfl) fm_obj rfl rfl rfl rfl (Nat.le_of_ble_eq_true rfl) dzX8_ranked_47 ?_
      obtain ⟨g2, h⟩ := z_gd_at h
      refine z_iast O fm_worths g2 dzX8_ranked_50 ?_
      refine z_sig (fun w1 e1 => ?_)
      have h := z_lt_at e1 h
      refine z_iinc O (lv' := [(4, .int (v4 + (1 : Int32))), (0, .ref (z_ad Y 0)), (1, .int a1), (2, .int a2), (3, .int b3)]) dzX8_ranked_51 4 rfl (congrArg _ hcI1) (by decide) rfl ?_
      refine z_goto O dzX8_ranked_54 ?_
      refine z_sub [1, 2, 3, 4, 0] rfl ?_
      exact ih _ _ h
def fX8_ranked_L77 (σ : zS) (a1 : Int32) (a4 : Int32) (k : Int32 → Int32 → Option (Int32 × zS)) : Nat → Int32 → Int32 → Option (Int32 × zS)
  | 0, _, _ => none
  | n + 1, v5, v6 => z_gd (z_in a1 4) ((if (σ.1 2 a1.toNatClampNeg) ≤ v6 then k v5 v6 else z_gd (z_in v6 40) (z_gd (z_in a4 40) ((if (σ.1 18 v6.toNatClampNeg) < (σ.1 18 a4.toNatClampNeg) then z_lt (v5 + (1 : Int32)) (fun (x1 : Int32) => fX8_ranked_L77 σ a1 a4 k n x1 (v6 + (1 : Int32))) else z_gd (z_in v6 40) (z_gd (z_in a4 40) ((if (σ.1 18 v6.toNatClampNeg) = (σ.1 18 a4.toNatClampNeg) then (if a4 ≤ v6 then z_lt (v5 + (0 : Int32)) (fun (x3 : Int32) => fX8_ranked_L77 σ a1 a4 k n x3 (v6 + (1 : Int32))) else z_lt (v5 + (1 : Int32)) (fun (x4 : Int32) => fX8_ranked_L77 σ a1 a4 k n x4 (v6 + (1 : Int32)))) else z_lt (v5 + (0 : Int32)) (fun (x2 : Int32) => fX8_ranked_L77 σ a1 a4 k n x2 (v6 + (1 : Int32)))))))))))
theorem kX8_ranked_L77 {l : Launch} {Y : zY} {fin : Int32 × zS} {p : Program} {e : Env} {s : State} {m : MethodId} {args : Array Value} {below : List Frame} {meth : Method} {c : Code} {σ : zS} (O : z_ok ΛM Y p s m args c cX8_ranked RX8 7) (hi : z_inj ΛM Y) (hr : meth.sig.returnType = (some .int)) (hlk : meth.locks = false) {a1 : Int32} {b3 : Int32} {a4 : Int32} {k : Int32 → Int32 → Option (Int32 × zS)} (hk : ∀ (z5 : Int32) (z6 : Int32), k z5 z6 = some fin → z_G p l e (z_rm 17) s m args below meth c (MQ below (z_Qi ΛM Y fin) args s 0 0 (z_A ΛM Y)) ΛM Y 7 σ [(0, .ref (z_ad Y 0)), (1, .int a1), (3, .int b3), (4, .int a4), (5, .int z5), (6, .int z6)] 145 []) : ∀ (n : Nat) (v5 : Int32) (v6 : Int32), fX8_ranked_L77 σ a1 a4 k n v5 v6 = some fin → z_G p l e (z_rm 17) s m args below meth c (MQ below (z_Qi ΛM Y fin) args s 0 0 (z_A ΛM Y)) ΛM Y 7 σ [(0, .ref (z_ad Y 0)), (1, .int a1), (3, .int b3), (4, .int a4), (5, .int v5), (6, .int v6)] 77 [] := by
  intro n
  induction n with
  | zero =>
    intro _ _ h
    cases h
  | succ n ih =>
    intro v5 v6 h
    rw [fX8_ranked_L77.eq_2] at h
    refine z_iload O dzX8_ranked_77 5 rfl ?_
    refine z_aload_n O dzX8_ranked_79 rfl 0 rfl ?_
    refine z_get O z_cb8 fm_obj (v := .ref (z_ad Y 2)) 1 (Nat.le_of_ble_eq_true rfl) tw_750 rfl dzX8_ranked_80 ?_
    refine z_iload_n O dzX8_ranked_83 rfl 1 rfl ?_
    obtain ⟨g1, h⟩ := z_gd_at h
    refine z_iald O fm_sizes g1 dzX8_ranked_84 ?_
    refine z_icmp_ge O dzX8_ranked_85 (fun c4 => ?_) (fun c4 => ?_)
    · have h := z_if_t c4 h
      exact hk _ _ h
    · have h := z_if_f c4 h
      refine z_iload O dzX8_ranked_88 4 rfl ?_
      refine z_aload_n O dzX8_ranked_90 rfl 0 rfl ?_
      refine z_get O z_cb8 fm_obj (v := .ref (z_ad Y 18)) 29 (Nat.le_of_ble_eq_true rfl) tw_778 rfl dzX8_ranked_91 ?_
      refine z_iload O dzX8_ranked_94 5 rfl ?_
      obtain ⟨g2, h⟩ := z_gd_at h
      refine z_iald O fm_worths g2 dzX8_ranked_96 ?_
      refine z_aload_n O dzX8_ranked_97 rfl 0 rfl ?_
      refine z_get O z_cb8 fm_obj (v := .ref (z_ad Y 18)) 29 (Nat.le_of_ble_eq_true rfl) tw_778 rfl dzX8_ranked_98 ?_
      refine z_iload O dzX8_ranked_101 3 rfl ?_
      obtain ⟨g3, h⟩ := z_gd_at h
      refine z_iald O fm_worths g3 dzX8_ranked_103 ?_
      refine z_icmp_lt O dzX8_ranked_104 (fun c3 => ?_) (fun c3 => ?_)
      · have h := z_if_t c3 h
        refine z_iconst O dzX8_ranked_131 hcI1 ?_
        refine z_goto O dzX8_ranked_132 ?_
        refine z_iadd O dzX8_ranked_136 ?_
        refine z_topi (fun x1 e1 => ?_)
        have h := z_lt_at e1 h
        refine z_istore O (lv' := [(5, .int x1), (0, .ref (z_ad Y 0)), (1, .int a1), (3, .int b3), (4, .int a4), (6, .int v6)]) dzX8_ranked_137 (by decide) rfl ?_
        refine z_iinc O (lv' := [(6, .int (v6 + (1 : Int32))), (5, .int x1), (0, .ref (z_ad Y 0)), (1, .int a1), (3, .int b3), (4, .int a4)]) dzX8_ranked_139 5 rfl (congrArg _ hcI1) (by decide) rfl ?_
        refine z_goto O dzX8_ranked_142 ?_
        refine z_sub [2, 3, 4, 5, 1, 0] rfl ?_
        exact ih _ _ h
      · have h := z_if_f c3 h
        refine z_aload_n O dzX8_ranked_107 rfl 0 rfl ?_
        refine z_get O z_cb8 fm_obj (v := .ref (z_ad Y 18)) 29 (Nat.le_of_ble_eq_true rfl) tw_778 rfl dzX8_ranked_108 ?_
        refine z_iload O dzX8_ranked_111 5 rfl ?_
        obtain ⟨g4, h⟩ := z_gd_at h
        refine z_iald O fm_worths g4 dzX8_ranked_113 ?_
        refine z_aload_n O dzX8_ranked_114 rfl 0 rfl ?_
        refine z_get O z_cb8 fm_obj (v := .ref (z_ad Y 18)) 29 (Nat.le_of_ble_eq_true rfl) tw_778 rfl dzX8_ranked_115 ?_
        refine z_iload O dzX8_ranked_118 3 rfl ?_
        obtain ⟨g5, h⟩ := z_gd_at h
        refine z_iald O fm_worths g5 dzX8_ranked_120 ?_
        refine z_icmp_ne O dzX8_ranked_121 (fun c2 => ?_) (fun c2 => ?_)
        · have h := z_if_f c2 h
          refine z_iconst O dzX8_ranked_135 hcI0 ?_
          refine z_iadd O dzX8_ranked_136 ?_
          refine z_topi (fun x2 e2 => ?_)
          have h := z_lt_at e2 h
          refine z_istore O (lv' := [(5, .int x2), (0, .ref (z_ad Y 0)), (1, .int a1), (3, .int b3), (4, .int a4), (6, .int v6)]) dzX8_ranked_137 (by decide) rfl ?_
          refine z_iinc O (lv' := [(6, .int (v6 + (1 : Int32))), (5, .int x2), (0, .ref (z_ad Y 0)), (1, .int a1), (3, .int b3), (4, .int a4)]) dzX8_ranked_139 5 rfl (congrArg _ hcI1) (by decide) rfl ?_
          refine z_goto O dzX8_ranked_142 ?_
          refine z_sub [2, 3, 4, 5, 1, 0] rfl ?_
          exact ih _ _ h
        · have h := z_if_t c2 h
          refine z_iload O dzX8_ranked_124 5 rfl ?_
          refine z_iload O dzX8_ranked_126 3 rfl ?_
          refine z_icmp_ge O dzX8_ranked_128 (fun c1 => ?_) (fun c1 => ?_)
          · have h := z_if_t c1 h
            refine z_iconst O dzX8_ranked_135 hcI0 ?_
            refine z_iadd O dzX8_ranked_136 ?_
            refine z_topi (fun x3 e3 => ?_)
            have h := z_lt_at e3 h
            refine z_istore O (lv' := [(5, .int x3), (0, .ref (z_ad Y 0)), (1, .int a1), (3, .int b3), (4, .int a4), (6, .int v6)]) dzX8_ranked_137 (by decide) rfl ?_
            refine z_iinc O (lv' := [(6, .int (v6 + (1 : Int32))), (5, .int x3), (0, .ref (z_ad Y 0)), (1, .int a1), (3, .int b3), (4, .int a4)]) dzX8_ranked_139 5 rfl (congrArg _ hcI1) (by decide) rfl ?_
            refine z_goto O dzX8_ranked_142 ?_
            refine z_sub [2, 3, 4, 5, 1, 0] rfl ?_
            exact ih _ _ h
          · have h := z_if_f c1 h
            refine z_iconst O dzX8_ranked_131 hcI1 ?_
            refine z_goto O dzX8_ranked_132 ?_
            refine z_iadd O dzX8_ranked_136 ?_
            refine z_topi (fun x4 e4 => ?_)
            have h := z_lt_at e4 h
            refine z_istore O (lv' := [(5, .int x4), (0, .ref (z_ad Y 0)), (1, .int a1), (3, .int b3), (4, .int a4), (6, .int v6)]) dzX8_ranked_137 (by decide) rfl ?_
            refine z_iinc O (lv' := [(6, .int (v6 + (1 : Int32))), (5, .int x4), (0, .ref (z_ad Y 0)), (1, .int a1), (3, .int b3), (4, .int a4)]) dzX8_ranked_139 5 rfl (congrArg _ hcI1) (by decide) rfl ?_
            refine z_goto O dzX8_ranked_142 ?_
            refine z_sub [2, 3, 4, 5, 1, 0] rfl ?_
            exact ih _ _ h
def fX8_ranked_L60 (σ : zS) (a1 : Int32) (a3 : Int32) (k : Int32 → Option (Int32 × zS)) : Nat → Int32 → Option (Int32 × zS)
  | 0, _ => none
  | n + 1, v4 => z_gd (z_in a1 4) ((if (σ.1 2 a1.toNatClampNeg) ≤ v4 then k v4 else fX8_ranked_L77 σ a1 v4 (fun (x1 : Int32) (x2 : Int32) => (if x1 = a3 then (fX8_setOf σ a1 v4).bind (fun r1 => some (r1, σ)) else fX8_ranked_L60 σ a1 a3 k n (v4 + (1 : Int32)))) z_F (0 : Int32) (0 : Int32)))
theorem kX8_ranked_L60 {l : Launch} {Y : zY} {fin : Int32 × zS} {p : Program} {e : Env} {s : State} {m : MethodId} {args : Array Value} {below : List Frame} {meth : Method} {c : Code} {σ : zS} (O : z_ok ΛM Y p s m args c cX8_ranked RX8 7) (hi : z_inj ΛM Y) (hr : meth.sig.returnType = (some .int)) (hlk : meth.locks = false) {a1 : Int32} {a3 : Int32} {k : Int32 → Option (Int32 × zS)} (hk : ∀ (z4 : Int32), k z4 = some fin → z_G p l e (z_rm 17) s m args below meth c (MQ below (z_Qi ΛM Y fin) args s 0 0 (z_A ΛM Y)) ΛM Y 7 σ [(0, .ref (z_ad Y 0)), (1, .int a1), (3, .int a3), (4, .int z4)] 165 []) : ∀ (n : Nat) (v4 : Int32), fX8_ranked_L60 σ a1 a3 k n v4 = some fin → z_G p l e (z_rm 17) s m args below meth c (MQ below (z_Qi ΛM Y fin) args s 0 0 (z_A ΛM Y)) ΛM Y 7 σ [(0, .ref (z_ad Y 0)), (1, .int a1), (3, .int a3), (4, .int v4)] 60 [] := by
  intro n
  induction n with
  | zero =>
    intro _ h
    cases h
  | succ n ih =>
    intro v4 h
    rw [fX8_ranked_L60.eq_2] at h
    refine z_iload O dzX8_ranked_60 3 rfl ?_
    refine z_aload_n O dzX8_ranked_62 rfl 0 rfl ?_
    refine z_get O z_cb8 fm_obj (v := .ref (z_ad Y 2)) 1 (Nat.le_of_ble_eq_true rfl) tw_750 rfl dzX8_ranked_63 ?_
    refine z_iload_n O dzX8_ranked_66 rfl 1 rfl ?_
    obtain ⟨g1, h⟩ := z_gd_at h
    refine z_iald O fm_sizes g1 dzX8_ranked_67 ?_
    refine z_icmp_ge O dzX8_ranked_68 (fun c2 => ?_) (fun c2 => ?_)
    · have h := z_if_t c2 h
      exact hk _ h
    · have h := z_if_f c2 h
      refine z_iconst O dzX8_ranked_71 hcI0 ?_
      refine z_istore O (lv' := [(5, .int (0 : Int32)), (0, .ref (z_ad Y 0)), (1, .int a1), (3, .int a3), (4, .int v4)]) dzX8_ranked_72 (by decide) rfl ?_
      refine z_iconst O dzX8_ranked_74 hcI0 ?_
      refine z_istore O (lv' := [(6, .int (0 : Int32)), (5, .int (0 : Int32)), (0, .ref (z_ad Y 0)), (1, .int a1), (3, .int a3), (4, .int v4)]) dzX8_ranked_75 (by decide) rfl ?_
      refine z_sub [2, 3, 4, 5, 1, 0] rfl ?_
      refine kX8_ranked_L77 O hi hr hlk   (fun x1 x2 h => ?_) _ _ _ h
      refine z_iload O dzX8_ranked_145 4 rfl ?_
      refine z_iload_n O dzX8_ranked_147 rfl 2 rfl ?_
      refine z_icmp_ne O dzX8_ranked_148 (fun c1 => ?_) (fun c1 => ?_)
      · have h := z_if_f c1 h
        refine z_iinc O (lv' := [(4, .int (v4 + (1 : Int32))), (0, .ref (z_ad Y 0)), (1, .int a1), (3, .int a3), (5, .int x1), (6, .int x2)]) dzX8_ranked_159 3 rfl (congrArg _ hcI1) (by decide) rfl ?_
        refine z_goto O dzX8_ranked_162 ?_
        refine z_sub [1, 2, 3, 0] rfl ?_
        exact ih _ h
      · have h := z_if_t c1 h
        refine z_aload_n O dzX8_ranked_151 rfl 0 rfl ?_
        refine z_iload_n O dzX8_ranked_152 rfl 1 rfl ?_
        refine z_iload O dzX8_ranked_153 3 rfl ?_
        obtain ⟨r1, hc1, h⟩ := z_bd_at h
        refine z_callViR O (As := [.int a1, .int v4]) (rest := []) (kX8_setOf hi hc1) mX8_setOf tw_908 (Nat.le_of_ble_eq_true rfl) fm_obj rfl rfl rfl rfl (Nat.le_of_ble_eq_true rfl) dzX8_ranked_155 ?_
        exact z_iret O hr hlk dzX8_ranked_158 h
def fX8_ranked (σ : zS) (a1 : Int32) (a2 : Int32) (a3 : Int32) : Option (Int32 × zS) :=
  (fX8_isFamily a1).bind (fun r1 => (if r1 = 0 then some ((-2 : Int32), σ) else (fX8_isRule σ a2).bind (fun r2 => (if r2 = 0 then some ((-2 : Int32), σ) else fX8_ranked_L21 a1 a2 (fun (w1 : zS) (x1 : Int32) => fX8_ranked_L60 w1 a1 a3 (fun (x2 : Int32) => some ((-12 : Int32), w1)) z_F (0 : Int32)) z_F σ (0 : Int32)))))
theorem kX8_ranked {l : Launch} {Y : zY} (hi : z_inj ΛM Y) {σ : zS} {a1 : Int32} {a2 : Int32} {a3 : Int32} {fin : Int32 × zS} (h : fX8_ranked σ a1 a2 a3 = some fin) : Met l yX8_ranked (Cond.code yX8_ranked cX8_ranked 7 (some .int) :: z_TB) (z_rm 17) (z_Pc ΛM Y σ [.ref (z_ad Y 0), .int a1, .int a2, .int a3]) (z_Qi ΛM Y fin) 0 0 (z_A ΛM Y) := by
  unfold fX8_ranked at h
  refine z_met [(0, .ref (z_ad Y 0)), (1, .int a1), (2, .int a2), (3, .int a3)] rfl (Nat.le_of_ble_eq_true rfl) (plainFor_of_name (by decide)) hi ?_
  intro p e s m args below meth c O hr hlk
  refine z_iload_n O dzX8_ranked_0 rfl 1 rfl ?_
  obtain ⟨r1, hc1, h⟩ := z_bd_at h
  refine z_callSiR O (As := [.int a1]) (rest := []) (kX8_isFamily hi hc1) mX8_isFamily tw_892 (Nat.le_of_ble_eq_true rfl) rfl rfl (Nat.le_of_ble_eq_true rfl) dzX8_ranked_1 ?_
  refine z_if_eq O dzX8_ranked_4 (fun c2 => ?_) (fun c2 => ?_)
  · have h := z_if_t c2 h
    refine z_bipush O dzX8_ranked_15 hcBm2 ?_
    exact z_iret O hr hlk dzX8_ranked_17 h
  · have h := z_if_f c2 h
    refine z_aload_n O dzX8_ranked_7 rfl 0 rfl ?_
    refine z_iload_n O dzX8_ranked_8 rfl 2 rfl ?_
    obtain ⟨r2, hc2, h⟩ := z_bd_at h
    refine z_callViR O (As := [.int a2]) (rest := []) (kX8_isRule hi hc2) mX8_isRule tw_1102 (Nat.le_of_ble_eq_true rfl) fm_obj rfl rfl rfl rfl (Nat.le_of_ble_eq_true rfl) dzX8_ranked_9 ?_
    refine z_if_ne O dzX8_ranked_12 (fun c1 => ?_) (fun c1 => ?_)
    · have h := z_if_f c1 h
      refine z_iconst O dzX8_ranked_18 hcI0 ?_
      refine z_istore O (lv' := [(4, .int (0 : Int32)), (0, .ref (z_ad Y 0)), (1, .int a1), (2, .int a2), (3, .int a3)]) dzX8_ranked_19 (by decide) rfl ?_
      refine z_sub [1, 2, 3, 4, 0] rfl ?_
      refine kX8_ranked_L21 O hi hr hlk   (fun w1 x1 h => ?_) _ _ _ h
      refine z_iconst O dzX8_ranked_57 hcI0 ?_
      refine z_istore O (lv' := [(4, .int (0 : Int32)), (0, .ref (z_ad Y 0)), (1, .int a1), (2, .int a2), (3, .int a3)]) dzX8_ranked_58 (by decide) rfl ?_
      refine z_sub [1, 2, 4, 0] rfl ?_
      refine kX8_ranked_L60 O hi hr hlk   (fun x2 h => ?_) _ _ h
      refine z_bipush O dzX8_ranked_165 hcBm12 ?_
      exact z_iret O hr hlk dzX8_ranked_167 h
    · have h := z_if_t c1 h
      refine z_bipush O dzX8_ranked_15 hcBm2 ?_
      exact z_iret O hr hlk dzX8_ranked_17 h
def fX8_read (σ : zS) (a1 : Int32) (a2 : Int32) : Option (Int64) :=
  (fX8_wrong σ a1 a2).bind (fun r1 => (if r1 = 0 then z_gd (z_in (((40 : Int32) * a1) + a2) 160) (some (σ.2 21 (((40 : Int32) * a1) + a2).toNatClampNeg)) else some (r1.toInt64)))
theorem kX8_read {l : Launch} {Y : zY} (hi : z_inj ΛM Y) {σ : zS} {a1 : Int32} {a2 : Int32} {fin : Int64} (h : fX8_read σ a1 a2 = some fin) : Met l yX8_read (Cond.code yX8_read cX8_read 4 (some .long) :: z_TB) (z_rm 4) (z_Pc ΛM Y σ [.ref (z_ad Y 0), .int a1, .int a2]) (z_Ql ΛM Y (fin, σ)) 0 0 (z_A ΛM Y) := by
  unfold fX8_read at h
  refine z_met [(0, .ref (z_ad Y 0)), (1, .int a1), (2, .int a2)] rfl (Nat.le_of_ble_eq_true rfl) (plainFor_of_name (by decide)) hi ?_
  intro p e s m args below meth c O hr hlk
  refine z_aload_n O dzX8_read_0 rfl 0 rfl ?_
  refine z_iload_n O dzX8_read_1 rfl 1 rfl ?_
  refine z_iload_n O dzX8_read_2 rfl 2 rfl ?_
  obtain ⟨r1, hc1, h⟩ := z_bd_at h
  refine z_callViR O (As := [.int a1, .int a2]) (rest := []) (kX8_wrong hi hc1) mX8_wrong tw_1152 (Nat.le_of_ble_eq_true rfl) fm_obj rfl rfl rfl rfl (Nat.le_of_ble_eq_true rfl) dzX8_read_3 ?_
  refine z_istore_n O (lv' := [(3, .int r1), (0, .ref (z_ad Y 0)), (1, .int a1), (2, .int a2)]) dzX8_read_6 rfl (by decide) rfl ?_
  refine z_iload_n O dzX8_read_7 rfl 0 rfl ?_
  refine z_if_eq O dzX8_read_8 (fun c1 => ?_) (fun c1 => ?_)
  · have h := z_if_t c1 h
    refine z_aload_n O dzX8_read_16 rfl 1 rfl ?_
    refine z_get O z_cb8 fm_obj (v := .ref (z_ad Y 21)) 32 (Nat.le_of_ble_eq_true rfl) tw_781 rfl dzX8_read_17 ?_
    refine z_bipush O dzX8_read_20 hcB40 ?_
    refine z_iload_n O dzX8_read_22 rfl 2 rfl ?_
    refine z_imul O dzX8_read_23 ?_
    refine z_iload_n O dzX8_read_24 rfl 3 rfl ?_
    refine z_iadd O dzX8_read_25 ?_
    obtain ⟨g1, h⟩ := z_gd_at h
    refine z_lald O fm_cells g1 dzX8_read_26 ?_
    exact z_lret O hr hlk dzX8_read_27 (z_rf h)
  · have h := z_if_f c1 h
    refine z_iload_n O dzX8_read_11 rfl 0 rfl ?_
    refine z_i2l O dzX8_read_12 ?_
    refine z_goto O dzX8_read_13 ?_
    exact z_lret O hr hlk dzX8_read_27 (z_rf h)
def fX8_rule_L113 (k : zS → Int32 → Option (Int32 × zS)) : Nat → zS → Int32 → Option (Int32 × zS)
  | 0, _, _ => none
  | n + 1, σ, v5 => (if (12 : Int32) ≤ v5 then k σ v5 else z_gd (z_in v5 12) (z_gd (z_in (((12 : Int32) * (σ.1 0 4)) + v5) 144) (z_lt (z_sI σ 9 (((12 : Int32) * (σ.1 0 4)) + v5).toNatClampNeg (σ.1 1 v5.toNatClampNeg)) (fun (w1 : zS) => fX8_rule_L113 k n w1 (v5 + (1 : Int32))))))
theorem kX8_rule_L113 {l : Launch} {Y : zY} {fin : Int32 × zS} {p : Program} {e : Env} {s : State} {m : MethodId} {args : Array Value} {below : List Frame} {meth : Method} {c : Code} (O : z_ok ΛM Y p s m args c cX8_rule RX8 6) (hi : z_inj ΛM Y) (hr : meth.sig.returnType = (some .int)) (hlk : meth.locks = false)  {k : zS → Int32 → Option (Int32 × zS)} (hk : ∀ (w : zS) (z5 : Int32), k w z5 = some fin → z_G p l e (z_rm 4) s m args below meth c (MQ below (z_Qi ΛM Y fin) args s 0 0 (z_A ΛM Y)) ΛM Y 6 w [(0, .ref (z_ad Y 0)), (5, .int z5)] 148 []) : ∀ (n : Nat) (σ : zS) (v5 : Int32), fX8_rule_L113 k n σ v5 = some fin → z_G p l e (z_rm 4) s m args below meth c (MQ below (z_Qi ΛM Y fin) args s 0 0 (z_A ΛM Y)) ΛM Y 6 σ [(0, .ref (z_ad Y 0)), (5, .int v5)] 113 [] := by
  intro n
  induction n with
  | zero =>
    intro _ _ h
    cases h
  | succ n ih =>
    intro σ v5 h
    rw [fX8_rule_L113.eq_2] at h
    refine z_iload O dzX8_rule_113 1 rfl ?_
    refine z_bipush O dzX8_rule_115 hcB12 ?_
    refine z_icmp_ge O dzX8_rule_117 (fun c1 => ?_) (fun c1 => ?_)
    · have h := z_if_t c1 h
      exact hk _ _ h
    · have h := z_if_f c1 h
      refine z_aload_n O dzX8_rule_120 rfl 0 rfl ?_
      refine z_get O z_cb8 fm_obj (v := .ref (z_ad Y 9)) 9 (Nat.le_of_ble_eq_true rfl) tw_758 rfl dzX8_rule_121 ?_
      refine z_bipush O dzX8_rule_124 hcB12 ?_
      refine z_aload_n O dzX8_rule_126 rfl 0 rfl ?_
      refine z_get O z_cb8 fm_obj (v := .int (σ.1 0 4)) 4 (Nat.le_of_ble_eq_true rfl) tw_753 rfl dzX8_rule_127 ?_
      refine z_imul O dzX8_rule_130 ?_
      refine z_iload O dzX8_rule_131 1 rfl ?_
      refine z_iadd O dzX8_rule_133 ?_
      refine z_aload_n O dzX8_rule_134 rfl 0 rfl ?_
      refine z_get O z_cb8 fm_obj (v := .ref (z_ad Y 1)) 0 (Nat.le_of_ble_eq_true rfl) tw_749 rfl dzX8_rule_135 ?_
      refine z_iload O dzX8_rule_138 1 rfl ?_
      obtain ⟨g1, h⟩ := z_gd_at h
      refine z_iald O fm_price g1 dzX8_rule_140 ?_
      obtain ⟨g2, h⟩ := z_gd_at h
      refine z_iast O fm_rulePrice g2 dzX8_rule_141 ?_
      refine z_sig (fun w1 e1 => ?_)
      have h := z_lt_at e1 h
      refine z_iinc O (lv' := [(5, .int (v5 + (1 : Int32))), (0, .ref (z_ad Y 0))]) dzX8_rule_142 1 rfl (congrArg _ hcI1) (by decide) rfl ?_
      refine z_goto O dzX8_rule_145 ?_
      refine z_sub [1, 0] rfl ?_
      exact ih _ _ h
def fX8_rule (σ : zS) (a1 : Int32) (a2 : Int32) (a3 : Int32) (a4 : Int32) : Option (Int32 × zS) :=
  (fX8_in (a1.toInt64) (0 : Int64) (8 : Int64)).bind (fun r1 => (if r1 = 0 then some ((-2 : Int32), σ) else (fX8_isOfA a1).bind (fun r2 => (if r2 = 0 then (if a1 < (2 : Int32) then (fX8_isRule σ a3).bind (fun r3 => (if r3 = 0 then some ((-2 : Int32), σ) else (fX8_isC a1 a4).bind (fun r4 => (if r4 = 0 then some ((-2 : Int32), σ) else (if (σ.1 0 4) = (12 : Int32) then some ((-4 : Int32), σ) else z_gd (z_in (σ.1 0 4) 12) (z_lt (z_sI σ 5 (σ.1 0 4).toNatClampNeg a1) (fun (w1 : zS) => z_gd (z_in (w1.1 0 4) 12) (z_lt (z_sI w1 6 (w1.1 0 4).toNatClampNeg a2) (fun (w2 : zS) => z_gd (z_in (w2.1 0 4) 12) (z_lt (z_sI w2 7 (w2.1 0 4).toNatClampNeg a3) (fun (w3 : zS) => z_gd (z_in (w3.1 0 4) 12) (z_lt (z_sI w3 8 (w3.1 0 4).toNatClampNeg a4) (fun (w4 : zS) => fX8_rule_L113 (fun (w5 : zS) (x1 : Int32) => z_lt (z_sI w5 0 4 ((w5.1 0 4) + (1 : Int32))) (fun (w6 : zS) => some (((w6.1 0 4) - (1 : Int32)), w6))) z_F w4 (0 : Int32)))))))))))))) else (if a1 = (5 : Int32) then (fX8_isRule σ a3).bind (fun r6 => (if r6 = 0 then some ((-2 : Int32), σ) else (fX8_isC a1 a4).bind (fun r7 => (if r7 = 0 then some ((-2 : Int32), σ) else (if (σ.1 0 4) = (12 : Int32) then some ((-4 : Int32), σ) else z_gd (z_in (σ.1 0 4) 12) (z_lt (z_sI σ 5 (σ.1 0 4).toNatClampNeg a1) (fun (w13 : zS) => z_gd (z_in (w13.1 0 4) 12) (z_lt (z_sI w13 6 (w13.1 0 4).toNatClampNeg a2) (fun (w14 : zS) => z_gd (z_in (w14.1 0 4) 12) (z_lt (z_sI w14 7 (w14.1 0 4).toNatClampNeg a3) (fun (w15 : zS) => z_gd (z_in (w15.1 0 4) 12) (z_lt (z_sI w15 8 (w15.1 0 4).toNatClampNeg a4) (fun (w16 : zS) => fX8_rule_L113 (fun (w17 : zS) (x3 : Int32) => z_lt (z_sI w17 0 4 ((w17.1 0 4) + (1 : Int32))) (fun (w18 : zS) => some (((w18.1 0 4) - (1 : Int32)), w18))) z_F w16 (0 : Int32)))))))))))))) else (fX8_isC a1 a4).bind (fun r5 => (if r5 = 0 then some ((-2 : Int32), σ) else (if (σ.1 0 4) = (12 : Int32) then some ((-4 : Int32), σ) else z_gd (z_in (σ.1 0 4) 12) (z_lt (z_sI σ 5 (σ.1 0 4).toNatClampNeg a1) (fun (w7 : zS) => z_gd (z_in (w7.1 0 4) 12) (z_lt (z_sI w7 6 (w7.1 0 4).toNatClampNeg a2) (fun (w8 : zS) => z_gd (z_in (w8.1 0 4) 12) (z_lt (z_sI w8 7 (w8.1 0 4).toNatClampNeg a3) (fun (w9 : zS) => z_gd (z_in (w9.1 0 4) 12) (z_lt (z_sI w9 8 (w9.1 0 4).toNatClampNeg a4) (fun (w10 : zS) => fX8_rule_L113 (fun (w11 : zS) (x2 : Int32) => z_lt (z_sI w11 0 4 ((w11.1 0 4) + (1 : Int32))) (fun (w12 : zS) => some (((w12.1 0 4) - (1 : Int32)), w12))) z_F w10 (0 : Int32)))))))))))))) else (fX8_isRule σ a2).bind (fun r8 => (if r8 = 0 then some ((-2 : Int32), σ) else (if a1 < (2 : Int32) then (fX8_isRule σ a3).bind (fun r9 => (if r9 = 0 then some ((-2 : Int32), σ) else (fX8_isC a1 a4).bind (fun r10 => (if r10 = 0 then some ((-2 : Int32), σ) else (if (σ.1 0 4) = (12 : Int32) then some ((-4 : Int32), σ) else z_gd (z_in (σ.1 0 4) 12) (z_lt (z_sI σ 5 (σ.1 0 4).toNatClampNeg a1) (fun (w19 : zS) => z_gd (z_in (w19.1 0 4) 12) (z_lt (z_sI w19 6 (w19.1 0 4).toNatClampNeg a2) (fun (w20 : zS) => z_gd (z_in (w20.1 0 4) 12) (z_lt (z_sI w20 7 (w20.1 0 4).toNatClampNeg a3) (fun (w21 : zS) => z_gd (z_in (w21.1 0 4) 12) (z_lt (z_sI w21 8 (w21.1 0 4).toNatClampNeg a4) (fun (w22 : zS) => fX8_rule_L113 (fun (w23 : zS) (x4 : Int32) => z_lt (z_sI w23 0 4 ((w23.1 0 4) + (1 : Int32))) (fun (w24 : zS) => some (((w24.1 0 4) - (1 : Int32)), w24))) z_F w22 (0 : Int32)))))))))))))) else (if a1 = (5 : Int32) then (fX8_isRule σ a3).bind (fun r12 => (if r12 = 0 then some ((-2 : Int32), σ) else (fX8_isC a1 a4).bind (fun r13 => (if r13 = 0 then some ((-2 : Int32), σ) else (if (σ.1 0 4) = (12 : Int32) then some ((-4 : Int32), σ) else z_gd (z_in (σ.1 0 4) 12) (z_lt (z_sI σ 5 (σ.1 0 4).toNatClampNeg a1) (fun (w31 : zS) => z_gd (z_in (w31.1 0 4) 12) (z_lt (z_sI w31 6 (w31.1 0 4).toNatClampNeg a2) (fun (w32 : zS) => z_gd (z_in (w32.1 0 4) 12) (z_lt (z_sI w32 7 (w32.1 0 4).toNatClampNeg a3) (fun (w33 : zS) => z_gd (z_in (w33.1 0 4) 12) (z_lt (z_sI w33 8 (w33.1 0 4).toNatClampNeg a4) (fun (w34 : zS) => fX8_rule_L113 (fun (w35 : zS) (x6 : Int32) => z_lt (z_sI w35 0 4 ((w35.1 0 4) + (1 : Int32))) (fun (w36 : zS) => some (((w36.1 0 4) - (1 : Int32)), w36))) z_F w34 (0 : Int32)))))))))))))) else (fX8_isC a1 a4).bind (fun r11 => (if r11 = 0 then some ((-2 : Int32), σ) else (if (σ.1 0 4) = (12 : Int32) then some ((-4 : Int32), σ) else z_gd (z_in (σ.1 0 4) 12) (z_lt (z_sI σ 5 (σ.1 0 4).toNatClampNeg a1) (fun (w25 : zS) => z_gd (z_in (w25.1 0 4) 12) (z_lt (z_sI w25 6 (w25.1 0 4).toNatClampNeg a2) (fun (w26 : zS) => z_gd (z_in (w26.1 0 4) 12) (z_lt (z_sI w26 7 (w26.1 0 4).toNatClampNeg a3) (fun (w27 : zS) => z_gd (z_in (w27.1 0 4) 12) (z_lt (z_sI w27 8 (w27.1 0 4).toNatClampNeg a4) (fun (w28 : zS) => fX8_rule_L113 (fun (w29 : zS) (x5 : Int32) => z_lt (z_sI w29 0 4 ((w29.1 0 4) + (1 : Int32))) (fun (w30 : zS) => some (((w30.1 0 4) - (1 : Int32)), w30))) z_F w28 (0 : Int32))))))))))))))))))))
theorem kX8_rule {l : Launch} {Y : zY} (hi : z_inj ΛM Y) {σ : zS} {a1 : Int32} {a2 : Int32} {a3 : Int32} {a4 : Int32} {fin : Int32 × zS} (h : fX8_rule σ a1 a2 a3 a4 = some fin) : Met l yX8_rule (Cond.code yX8_rule cX8_rule 6 (some .int) :: z_TB) (z_rm 4) (z_Pc ΛM Y σ [.ref (z_ad Y 0), .int a1, .int a2, .int a3, .int a4]) (z_Qi ΛM Y fin) 0 0 (z_A ΛM Y) := by
  unfold fX8_rule at h
  refine z_met [(0, .ref (z_ad Y 0)), (1, .int a1), (2, .int a2), (3, .int a3), (4, .int a4)] rfl (Nat.le_of_ble_eq_true rfl) (plainFor_of_name (by decide)) hi ?_
  intro p e s m args below meth c O hr hlk
  refine z_iload_n O dzX8_rule_0 rfl 1 rfl ?_
  refine z_i2l O dzX8_rule_1 ?_
  refine z_lconst O dzX8_rule_2 (v := 0) rfl ?_
  refine z_ldc2 O tw_1098 dzX8_rule_3 ?_
  obtain ⟨r1, hc1, h⟩ := z_bd_at h
  refine z_callSiR O (As := [.long (a1.toInt64), .long (0 : Int64), .long (8 : Int64)]) (rest := []) (kX8_in hi hc1) mX8_in tw_876 (Nat.le_of_ble_eq_true rfl) rfl rfl (Nat.le_of_ble_eq_true rfl) dzX8_rule_6 ?_
  refine z_if_eq O dzX8_rule_9 (fun c23 => ?_) (fun c23 => ?_)
  · have h := z_if_t c23 h
    refine z_bipush O dzX8_rule_54 hcBm2 ?_
    exact z_iret O hr hlk dzX8_rule_56 h
  · have h := z_if_f c23 h
    refine z_iload_n O dzX8_rule_12 rfl 1 rfl ?_
    obtain ⟨r2, hc2, h⟩ := z_bd_at h
    refine z_callSiR O (As := [.int a1]) (rest := []) (kX8_isOfA hi hc2) mX8_isOfA tw_1099 (Nat.le_of_ble_eq_true rfl) rfl rfl (Nat.le_of_ble_eq_true rfl) dzX8_rule_13 ?_
    refine z_if_eq O dzX8_rule_16 (fun c22 => ?_) (fun c22 => ?_)
    · have h := z_if_t c22 h
      refine z_iload_n O dzX8_rule_27 rfl 1 rfl ?_
      refine z_iconst O dzX8_rule_28 hcI2 ?_
      refine z_icmp_lt O dzX8_rule_29 (fun c10 => ?_) (fun c10 => ?_)
      · have h := z_if_t c10 h
        refine z_aload_n O dzX8_rule_37 rfl 0 rfl ?_
        refine z_iload_n O dzX8_rule_38 rfl 3 rfl ?_
        obtain ⟨r3, hc3, h⟩ := z_bd_at h
        refine z_callViR O (As := [.int a3]) (rest := []) (kX8_isRule hi hc3) mX8_isRule tw_1102 (Nat.le_of_ble_eq_true rfl) fm_obj rfl rfl rfl rfl (Nat.le_of_ble_eq_true rfl) dzX8_rule_39 ?_
        refine z_if_eq O dzX8_rule_42 (fun c3 => ?_) (fun c3 => ?_)
        · have h := z_if_t c3 h
          refine z_bipush O dzX8_rule_54 hcBm2 ?_
          exact z_iret O hr hlk dzX8_rule_56 h
        · have h := z_if_f c3 h
          refine z_iload_n O dzX8_rule_45 rfl 1 rfl ?_
          refine z_iload O dzX8_rule_46 4 rfl ?_
          obtain ⟨r4, hc4, h⟩ := z_bd_at h
          refine z_callSiR O (As := [.int a1, .int a4]) (rest := []) (kX8_isC hi hc4) mX8_isC tw_1106 (Nat.le_of_ble_eq_true rfl) rfl rfl (Nat.le_of_ble_eq_true rfl) dzX8_rule_48 ?_
          refine z_if_ne O dzX8_rule_51 (fun c2 => ?_) (fun c2 => ?_)
          · have h := z_if_f c2 h
            refine z_aload_n O dzX8_rule_57 rfl 0 rfl ?_
            refine z_get O z_cb8 fm_obj (v := .int (σ.1 0 4)) 4 (Nat.le_of_ble_eq_true rfl) tw_753 rfl dzX8_rule_58 ?_
            refine z_bipush O dzX8_rule_61 hcB12 ?_
            refine z_icmp_ne O dzX8_rule_63 (fun c1 => ?_) (fun c1 => ?_)
            · have h := z_if_f c1 h
              refine z_aload_n O dzX8_rule_69 rfl 0 rfl ?_
              refine z_get O z_cb8 fm_obj (v := .ref (z_ad Y 5)) 5 (Nat.le_of_ble_eq_true rfl) tw_754 rfl dzX8_rule_70 ?_
              refine z_aload_n O dzX8_rule_73 rfl 0 rfl ?_
              refine z_get O z_cb8 fm_obj (v := .int (σ.1 0 4)) 4 (Nat.le_of_ble_eq_true rfl) tw_753 rfl dzX8_rule_74 ?_
              refine z_iload_n O dzX8_rule_77 rfl 1 rfl ?_
              obtain ⟨g1, h⟩ := z_gd_at h
              refine z_iast O fm_ruleHow g1 dzX8_rule_78 ?_
              refine z_sig (fun w1 e1 => ?_)
              have h := z_lt_at e1 h
              refine z_aload_n O dzX8_rule_79 rfl 0 rfl ?_
              refine z_get O z_cb8 fm_obj (v := .ref (z_ad Y 6)) 6 (Nat.le_of_ble_eq_true rfl) tw_755 rfl dzX8_rule_80 ?_
              refine z_aload_n O dzX8_rule_83 rfl 0 rfl ?_
              refine z_get O z_cb8 fm_obj (v := .int (w1.1 0 4)) 4 (Nat.le_of_ble_eq_true rfl) tw_753 rfl dzX8_rule_84 ?_
              refine z_iload_n O dzX8_rule_87 rfl 2 rfl ?_
              obtain ⟨g2, h⟩ := z_gd_at h
              refine z_iast O fm_ruleA g2 dzX8_rule_88 ?_
              refine z_sig (fun w2 e2 => ?_)
              have h := z_lt_at e2 h
              refine z_aload_n O dzX8_rule_89 rfl 0 rfl ?_
              refine z_get O z_cb8 fm_obj (v := .ref (z_ad Y 7)) 7 (Nat.le_of_ble_eq_true rfl) tw_756 rfl dzX8_rule_90 ?_
              refine z_aload_n O dzX8_rule_93 rfl 0 rfl ?_
              refine z_get O z_cb8 fm_obj (v := .int (w2.1 0 4)) 4 (Nat.le_of_ble_eq_true rfl) tw_753 rfl dzX8_rule_94 ?_
              refine z_iload_n O dzX8_rule_97 rfl 3 rfl ?_
              obtain ⟨g3, h⟩ := z_gd_at h
              refine z_iast O fm_ruleB g3 dzX8_rule_98 ?_
              refine z_sig (fun w3 e3 => ?_)
              have h := z_lt_at e3 h
              refine z_aload_n O dzX8_rule_99 rfl 0 rfl ?_
              refine z_get O z_cb8 fm_obj (v := .ref (z_ad Y 8)) 8 (Nat.le_of_ble_eq_true rfl) tw_757 rfl dzX8_rule_100 ?_
              refine z_aload_n O dzX8_rule_103 rfl 0 rfl ?_
              refine z_get O z_cb8 fm_obj (v := .int (w3.1 0 4)) 4 (Nat.le_of_ble_eq_true rfl) tw_753 rfl dzX8_rule_104 ?_
              refine z_iload O dzX8_rule_107 4 rfl ?_
              obtain ⟨g4, h⟩ := z_gd_at h
              refine z_iast O fm_ruleC g4 dzX8_rule_109 ?_
              refine z_sig (fun w4 e4 => ?_)
              have h := z_lt_at e4 h
              refine z_iconst O dzX8_rule_110 hcI0 ?_
              refine z_istore O (lv' := [(5, .int (0 : Int32)), (0, .ref (z_ad Y 0)), (1, .int a1), (2, .int a2), (3, .int a3), (4, .int a4)]) dzX8_rule_111 (by decide) rfl ?_
              refine z_sub [1, 0] rfl ?_
              refine kX8_rule_L113 O hi hr hlk   (fun w5 x1 h => ?_) _ _ _ h
              refine z_aload_n O dzX8_rule_148 rfl 0 rfl ?_
              refine z_dup O dzX8_rule_149 rfl ?_
              refine z_get O z_cb8 fm_obj (v := .int (w5.1 0 4)) 4 (Nat.le_of_ble_eq_true rfl) tw_753 rfl dzX8_rule_150 ?_
              refine z_iconst O dzX8_rule_153 hcI1 ?_
              refine z_iadd O dzX8_rule_154 ?_
              refine z_put O z_cb8 fm_obj 4 (Nat.le_of_ble_eq_true rfl) tw_753 rfl rfl rfl fp_M4 dzX8_rule_155 ?_
              refine z_sig (fun w6 e5 => ?_)
              have h := z_lt_at e5 h
              refine z_aload_n O dzX8_rule_158 rfl 0 rfl ?_
              refine z_get O z_cb8 fm_obj (v := .int (w6.1 0 4)) 4 (Nat.le_of_ble_eq_true rfl) tw_753 rfl dzX8_rule_159 ?_
              refine z_iconst O dzX8_rule_162 hcI1 ?_
              refine z_isub O dzX8_rule_163 ?_
              exact z_iret O hr hlk dzX8_rule_164 h
            · have h := z_if_t c1 h
              refine z_bipush O dzX8_rule_66 hcBm4 ?_
              exact z_iret O hr hlk dzX8_rule_68 h
          · have h := z_if_t c2 h
            refine z_bipush O dzX8_rule_54 hcBm2 ?_
            exact z_iret O hr hlk dzX8_rule_56 h
      · have h := z_if_f c10 h
        refine z_iload_n O dzX8_rule_32 rfl 1 rfl ?_
        refine z_iconst O dzX8_rule_33 hcI5 ?_
        refine z_icmp_ne O dzX8_rule_34 (fun c9 => ?_) (fun c9 => ?_)
        · have h := z_if_f c9 h
          refine z_iload_n O dzX8_rule_45 rfl 1 rfl ?_
          refine z_iload O dzX8_rule_46 4 rfl ?_
          obtain ⟨r5, hc5, h⟩ := z_bd_at h
          refine z_callSiR O (As := [.int a1, .int a4]) (rest := []) (kX8_isC hi hc5) mX8_isC tw_1106 (Nat.le_of_ble_eq_true rfl) rfl rfl (Nat.le_of_ble_eq_true rfl) dzX8_rule_48 ?_
          refine z_if_ne O dzX8_rule_51 (fun c5 => ?_) (fun c5 => ?_)
          · have h := z_if_f c5 h
            refine z_aload_n O dzX8_rule_57 rfl 0 rfl ?_
            refine z_get O z_cb8 fm_obj (v := .int (σ.1 0 4)) 4 (Nat.le_of_ble_eq_true rfl) tw_753 rfl dzX8_rule_58 ?_
            refine z_bipush O dzX8_rule_61 hcB12 ?_
            refine z_icmp_ne O dzX8_rule_63 (fun c4 => ?_) (fun c4 => ?_)
            · have h := z_if_f c4 h
              refine z_aload_n O dzX8_rule_69 rfl 0 rfl ?_
              refine z_get O z_cb8 fm_obj (v := .ref (z_ad Y 5)) 5 (Nat.le_of_ble_eq_true rfl) tw_754 rfl dzX8_rule_70 ?_
              refine z_aload_n O dzX8_rule_73 rfl 0 rfl ?_
              refine z_get O z_cb8 fm_obj (v := .int (σ.1 0 4)) 4 (Nat.le_of_ble_eq_true rfl) tw_753 rfl dzX8_rule_74 ?_
              refine z_iload_n O dzX8_rule_77 rfl 1 rfl ?_
              obtain ⟨g5, h⟩ := z_gd_at h
              refine z_iast O fm_ruleHow g5 dzX8_rule_78 ?_
              refine z_sig (fun w7 e6 => ?_)
              have h := z_lt_at e6 h
              refine z_aload_n O dzX8_rule_79 rfl 0 rfl ?_
              refine z_get O z_cb8 fm_obj (v := .ref (z_ad Y 6)) 6 (Nat.le_of_ble_eq_true rfl) tw_755 rfl dzX8_rule_80 ?_
              refine z_aload_n O dzX8_rule_83 rfl 0 rfl ?_
              refine z_get O z_cb8 fm_obj (v := .int (w7.1 0 4)) 4 (Nat.le_of_ble_eq_true rfl) tw_753 rfl dzX8_rule_84 ?_
              refine z_iload_n O dzX8_rule_87 rfl 2 rfl ?_
              obtain ⟨g6, h⟩ := z_gd_at h
              refine z_iast O fm_ruleA g6 dzX8_rule_88 ?_
              refine z_sig (fun w8 e7 => ?_)
              have h := z_lt_at e7 h
              refine z_aload_n O dzX8_rule_89 rfl 0 rfl ?_
              refine z_get O z_cb8 fm_obj (v := .ref (z_ad Y 7)) 7 (Nat.le_of_ble_eq_true rfl) tw_756 rfl dzX8_rule_90 ?_
              refine z_aload_n O dzX8_rule_93 rfl 0 rfl ?_
              refine z_get O z_cb8 fm_obj (v := .int (w8.1 0 4)) 4 (Nat.le_of_ble_eq_true rfl) tw_753 rfl dzX8_rule_94 ?_
              refine z_iload_n O dzX8_rule_97 rfl 3 rfl ?_
              obtain ⟨g7, h⟩ := z_gd_at h
              refine z_iast O fm_ruleB g7 dzX8_rule_98 ?_
              refine z_sig (fun w9 e8 => ?_)
              have h := z_lt_at e8 h
              refine z_aload_n O dzX8_rule_99 rfl 0 rfl ?_
              refine z_get O z_cb8 fm_obj (v := .ref (z_ad Y 8)) 8 (Nat.le_of_ble_eq_true rfl) tw_757 rfl dzX8_rule_100 ?_
              refine z_aload_n O dzX8_rule_103 rfl 0 rfl ?_
              refine z_get O z_cb8 fm_obj (v := .int (w9.1 0 4)) 4 (Nat.le_of_ble_eq_true rfl) tw_753 rfl dzX8_rule_104 ?_
              refine z_iload O dzX8_rule_107 4 rfl ?_
              obtain ⟨g8, h⟩ := z_gd_at h
              refine z_iast O fm_ruleC g8 dzX8_rule_109 ?_
              refine z_sig (fun w10 e9 => ?_)
              have h := z_lt_at e9 h
              refine z_iconst O dzX8_rule_110 hcI0 ?_
              refine z_istore O (lv' := [(5, .int (0 : Int32)), (0, .ref (z_ad Y 0)), (1, .int a1), (2, .int a2), (3, .int a3), (4, .int a4)]) dzX8_rule_111 (by decide) rfl ?_
              refine z_sub [1, 0] rfl ?_
              refine kX8_rule_L113 O hi hr hlk   (fun w11 x2 h => ?_) _ _ _ h
              refine z_aload_n O dzX8_rule_148 rfl 0 rfl ?_
              refine z_dup O dzX8_rule_149 rfl ?_
              refine z_get O z_cb8 fm_obj (v := .int (w11.1 0 4)) 4 (Nat.le_of_ble_eq_true rfl) tw_753 rfl dzX8_rule_150 ?_
              refine z_iconst O dzX8_rule_153 hcI1 ?_
              refine z_iadd O dzX8_rule_154 ?_
              refine z_put O z_cb8 fm_obj 4 (Nat.le_of_ble_eq_true rfl) tw_753 rfl rfl rfl fp_M4 dzX8_rule_155 ?_
              refine z_sig (fun w12 e10 => ?_)
              have h := z_lt_at e10 h
              refine z_aload_n O dzX8_rule_158 rfl 0 rfl ?_
              refine z_get O z_cb8 fm_obj (v := .int (w12.1 0 4)) 4 (Nat.le_of_ble_eq_true rfl) tw_753 rfl dzX8_rule_159 ?_
              refine z_iconst O dzX8_rule_162 hcI1 ?_
              refine z_isub O dzX8_rule_163 ?_
              exact z_iret O hr hlk dzX8_rule_164 h
            · have h := z_if_t c4 h
              refine z_bipush O dzX8_rule_66 hcBm4 ?_
              exact z_iret O hr hlk dzX8_rule_68 h
          · have h := z_if_t c5 h
            refine z_bipush O dzX8_rule_54 hcBm2 ?_
            exact z_iret O hr hlk dzX8_rule_56 h
        · have h := z_if_t c9 h
          refine z_aload_n O dzX8_rule_37 rfl 0 rfl ?_
          refine z_iload_n O dzX8_rule_38 rfl 3 rfl ?_
          obtain ⟨r6, hc6, h⟩ := z_bd_at h
          refine z_callViR O (As := [.int a3]) (rest := []) (kX8_isRule hi hc6) mX8_isRule tw_1102 (Nat.le_of_ble_eq_true rfl) fm_obj rfl rfl rfl rfl (Nat.le_of_ble_eq_true rfl) dzX8_rule_39 ?_
          refine z_if_eq O dzX8_rule_42 (fun c8 => ?_) (fun c8 => ?_)
          · have h := z_if_t c8 h
            refine z_bipush O dzX8_rule_54 hcBm2 ?_
            exact z_iret O hr hlk dzX8_rule_56 h
          · have h := z_if_f c8 h
            refine z_iload_n O dzX8_rule_45 rfl 1 rfl ?_
            refine z_iload O dzX8_rule_46 4 rfl ?_
            obtain ⟨r7, hc7, h⟩ := z_bd_at h
            refine z_callSiR O (As := [.int a1, .int a4]) (rest := []) (kX8_isC hi hc7) mX8_isC tw_1106 (Nat.le_of_ble_eq_true rfl) rfl rfl (Nat.le_of_ble_eq_true rfl) dzX8_rule_48 ?_
            refine z_if_ne O dzX8_rule_51 (fun c7 => ?_) (fun c7 => ?_)
            · have h := z_if_f c7 h
              refine z_aload_n O dzX8_rule_57 rfl 0 rfl ?_
              refine z_get O z_cb8 fm_obj (v := .int (σ.1 0 4)) 4 (Nat.le_of_ble_eq_true rfl) tw_753 rfl dzX8_rule_58 ?_
              refine z_bipush O dzX8_rule_61 hcB12 ?_
              refine z_icmp_ne O dzX8_rule_63 (fun c6 => ?_) (fun c6 => ?_)
              · have h := z_if_f c6 h
                refine z_aload_n O dzX8_rule_69 rfl 0 rfl ?_
                refine z_get O z_cb8 fm_obj (v := .ref (z_ad Y 5)) 5 (Nat.le_of_ble_eq_true rfl) tw_754 rfl dzX8_rule_70 ?_
                refine z_aload_n O dzX8_rule_73 rfl 0 rfl ?_
                refine z_get O z_cb8 fm_obj (v := .int (σ.1 0 4)) 4 (Nat.le_of_ble_eq_true rfl) tw_753 rfl dzX8_rule_74 ?_
                refine z_iload_n O dzX8_rule_77 rfl 1 rfl ?_
                obtain ⟨g9, h⟩ := z_gd_at h
                refine z_iast O fm_ruleHow g9 dzX8_rule_78 ?_
                refine z_sig (fun w13 e11 => ?_)
                have h := z_lt_at e11 h
                refine z_aload_n O dzX8_rule_79 rfl 0 rfl ?_
                refine z_get O z_cb8 fm_obj (v := .ref (z_ad Y 6)) 6 (Nat.le_of_ble_eq_true rfl) tw_755 rfl dzX8_rule_80 ?_
                refine z_aload_n O dzX8_rule_83 rfl 0 rfl ?_
                refine z_get O z_cb8 fm_obj (v := .int (w13.1 0 4)) 4 (Nat.le_of_ble_eq_true rfl) tw_753 rfl dzX8_rule_84 ?_
                refine z_iload_n O dzX8_rule_87 rfl 2 rfl ?_
                obtain ⟨g10, h⟩ := z_gd_at h
                refine z_iast O fm_ruleA g10 dzX8_rule_88 ?_
                refine z_sig (fun w14 e12 => ?_)
                have h := z_lt_at e12 h
                refine z_aload_n O dzX8_rule_89 rfl 0 rfl ?_
                refine z_get O z_cb8 fm_obj (v := .ref (z_ad Y 7)) 7 (Nat.le_of_ble_eq_true rfl) tw_756 rfl dzX8_rule_90 ?_
                refine z_aload_n O dzX8_rule_93 rfl 0 rfl ?_
                refine z_get O z_cb8 fm_obj (v := .int (w14.1 0 4)) 4 (Nat.le_of_ble_eq_true rfl) tw_753 rfl dzX8_rule_94 ?_
                refine z_iload_n O dzX8_rule_97 rfl 3 rfl ?_
                obtain ⟨g11, h⟩ := z_gd_at h
                refine z_iast O fm_ruleB g11 dzX8_rule_98 ?_
                refine z_sig (fun w15 e13 => ?_)
                have h := z_lt_at e13 h
                refine z_aload_n O dzX8_rule_99 rfl 0 rfl ?_
                refine z_get O z_cb8 fm_obj (v := .ref (z_ad Y 8)) 8 (Nat.le_of_ble_eq_true rfl) tw_757 rfl dzX8_rule_100 ?_
                refine z_aload_n O dzX8_rule_103 rfl 0 rfl ?_
                refine z_get O z_cb8 fm_obj (v := .int (w15.1 0 4)) 4 (Nat.le_of_ble_eq_true rfl) tw_753 rfl dzX8_rule_104 ?_
                refine z_iload O dzX8_rule_107 4 rfl ?_
                obtain ⟨g12, h⟩ := z_gd_at h
                refine z_iast O fm_ruleC g12 dzX8_rule_109 ?_
                refine z_sig (fun w16 e14 => ?_)
                have h := z_lt_at e14 h
                refine z_iconst O dzX8_rule_110 hcI0 ?_
                refine z_istore O (lv' := [(5, .int (0 : Int32)), (0, .ref (z_ad Y 0)), (1, .int a1), (2, .int a2), (3, .int a3), (4, .int a4)]) dzX8_rule_111 (by decide) rfl ?_
                refine z_sub [1, 0] rfl ?_
                refine kX8_rule_L113 O hi hr hlk   (fun w17 x3 h => ?_) _ _ _ h
                refine z_aload_n O dzX8_rule_148 rfl 0 rfl ?_
                refine z_dup O dzX8_rule_149 rfl ?_
                refine z_get O z_cb8 fm_obj (v := .int (w17.1 0 4)) 4 (Nat.le_of_ble_eq_true rfl) tw_753 rfl dzX8_rule_150 ?_
                refine z_iconst O dzX8_rule_153 hcI1 ?_
                refine z_iadd O dzX8_rule_154 ?_
                refine z_put O z_cb8 fm_obj 4 (Nat.le_of_ble_eq_true rfl) tw_753 rfl rfl rfl fp_M4 dzX8_rule_155 ?_
                refine z_sig (fun w18 e15 => ?_)
                have h := z_lt_at e15 h
                refine z_aload_n O dzX8_rule_158 rfl 0 rfl ?_
                refine z_get O z_cb8 fm_obj (v := .int (w18.1 0 4)) 4 (Nat.le_of_ble_eq_true rfl) tw_753 rfl dzX8_rule_159 ?_
                refine z_iconst O dzX8_rule_162 hcI1 ?_
                refine z_isub O dzX8_rule_163 ?_
                exact z_iret O hr hlk dzX8_rule_164 h
              · have h := z_if_t c6 h
                refine z_bipush O dzX8_rule_66 hcBm4 ?_
                exact z_iret O hr hlk dzX8_rule_68 h
            · have h := z_if_t c7 h
              refine z_bipush O dzX8_rule_54 hcBm2 ?_
              exact z_iret O hr hlk dzX8_rule_56 h
    · have h := z_if_f c22 h
      refine z_aload_n O dzX8_rule_19 rfl 0 rfl ?_
      refine z_iload_n O dzX8_rule_20 rfl 2 rfl ?_
      obtain ⟨r8, hc8, h⟩ := z_bd_at h
      refine z_callViR O (As := [.int a2]) (rest := []) (kX8_isRule hi hc8) mX8_isRule tw_1102 (Nat.le_of_ble_eq_true rfl) fm_obj rfl rfl rfl rfl (Nat.le_of_ble_eq_true rfl) dzX8_rule_21 ?_
      refine z_if_eq O dzX8_rule_24 (fun c21 => ?_) (fun c21 => ?_)
      · have h := z_if_t c21 h
        refine z_bipush O dzX8_rule_54 hcBm2 ?_
        exact z_iret O hr hlk dzX8_rule_56 h
      · have h := z_if_f c21 h
        refine z_iload_n O dzX8_rule_27 rfl 1 rfl ?_
        refine z_iconst O dzX8_rule_28 hcI2 ?_
        refine z_icmp_lt O dzX8_rule_29 (fun c20 => ?_) (fun c20 => ?_)
        · have h := z_if_t c20 h
          refine z_aload_n O dzX8_rule_37 rfl 0 rfl ?_
          refine z_iload_n O dzX8_rule_38 rfl 3 rfl ?_
          obtain ⟨r9, hc9, h⟩ := z_bd_at h
          refine z_callViR O (As := [.int a3]) (rest := []) (kX8_isRule hi hc9) mX8_isRule tw_1102 (Nat.le_of_ble_eq_true rfl) fm_obj rfl rfl rfl rfl (Nat.le_of_ble_eq_true rfl) dzX8_rule_39 ?_
          refine z_if_eq O dzX8_rule_42 (fun c13 => ?_) (fun c13 => ?_)
          · have h := z_if_t c13 h
            refine z_bipush O dzX8_rule_54 hcBm2 ?_
            exact z_iret O hr hlk dzX8_rule_56 h
          · have h := z_if_f c13 h
            refine z_iload_n O dzX8_rule_45 rfl 1 rfl ?_
            refine z_iload O dzX8_rule_46 4 rfl ?_
            obtain ⟨r10, hc10, h⟩ := z_bd_at h
            refine z_callSiR O (As := [.int a1, .int a4]) (rest := []) (kX8_isC hi hc10) mX8_isC tw_1106 (Nat.le_of_ble_eq_true rfl) rfl rfl (Nat.le_of_ble_eq_true rfl) dzX8_rule_48 ?_
            refine z_if_ne O dzX8_rule_51 (fun c12 => ?_) (fun c12 => ?_)
            · have h := z_if_f c12 h
              refine z_aload_n O dzX8_rule_57 rfl 0 rfl ?_
              refine z_get O z_cb8 fm_obj (v := .int (σ.1 0 4)) 4 (Nat.le_of_ble_eq_true rfl) tw_753 rfl dzX8_rule_58 ?_
              refine z_bipush O dzX8_rule_61 hcB12 ?_
              refine z_icmp_ne O dzX8_rule_63 (fun c11 => ?_) (fun c11 => ?_)
              · have h := z_if_f c11 h
                refine z_aload_n O dzX8_rule_69 rfl 0 rfl ?_
                refine z_get O z_cb8 fm_obj (v := .ref (z_ad Y 5)) 5 (Nat.le_of_ble_eq_true rfl) tw_754 rfl dzX8_rule_70 ?_
                refine z_aload_n O dzX8_rule_73 rfl 0 rfl ?_
                refine z_get O z_cb8 fm_obj (v := .int (σ.1 0 4)) 4 (Nat.le_of_ble_eq_true rfl) tw_753 rfl dzX8_rule_74 ?_
                refine z_iload_n O dzX8_rule_77 rfl 1 rfl ?_
                obtain ⟨g13, h⟩ := z_gd_at h
                refine z_iast O fm_ruleHow g13 dzX8_rule_78 ?_
                refine z_sig (fun w19 e16 => ?_)
                have h := z_lt_at e16 h
                refine z_aload_n O dzX8_rule_79 rfl 0 rfl ?_
                refine z_get O z_cb8 fm_obj (v := .ref (z_ad Y 6)) 6 (Nat.le_of_ble_eq_true rfl) tw_755 rfl dzX8_rule_80 ?_
                refine z_aload_n O dzX8_rule_83 rfl 0 rfl ?_
                refine z_get O z_cb8 fm_obj (v := .int (w19.1 0 4)) 4 (Nat.le_of_ble_eq_true rfl) tw_753 rfl dzX8_rule_84 ?_
                refine z_iload_n O dzX8_rule_87 rfl 2 rfl ?_
                obtain ⟨g14, h⟩ := z_gd_at h
                refine z_iast O fm_ruleA g14 dzX8_rule_88 ?_
                refine z_sig (fun w20 e17 => ?_)
                have h := z_lt_at e17 h
                refine z_aload_n O dzX8_rule_89 rfl 0 rfl ?_
                refine z_get O z_cb8 fm_obj (v := .ref (z_ad Y 7)) 7 (Nat.le_of_ble_eq_true rfl) tw_756 rfl dzX8_rule_90 ?_
                refine z_aload_n O dzX8_rule_93 rfl 0 rfl ?_
                refine z_get O z_cb8 fm_obj (v := .int (w20.1 0 4)) 4 (Nat.le_of_ble_eq_true rfl) tw_753 rfl dzX8_rule_94 ?_
                refine z_iload_n O dzX8_rule_97 rfl 3 rfl ?_
                obtain ⟨g15, h⟩ := z_gd_at h
                refine z_iast O fm_ruleB g15 dzX8_rule_98 ?_
                refine z_sig (fun w21 e18 => ?_)
                have h := z_lt_at e18 h
                refine z_aload_n O dzX8_rule_99 rfl 0 rfl ?_
                refine z_get O z_cb8 fm_obj (v := .ref (z_ad Y 8)) 8 (Nat.le_of_ble_eq_true rfl) tw_757 rfl dzX8_rule_100 ?_
                refine z_aload_n O dzX8_rule_103 rfl 0 rfl ?_
                refine z_get O z_cb8 fm_obj (v := .int (w21.1 0 4)) 4 (Nat.le_of_ble_eq_true rfl) tw_753 rfl dzX8_rule_104 ?_
                refine z_iload O dzX8_rule_107 4 rfl ?_
                obtain ⟨g16, h⟩ := z_gd_at h
                refine z_iast O fm_ruleC g16 dzX8_rule_109 ?_
                refine z_sig (fun w22 e19 => ?_)
                have h := z_lt_at e19 h
                refine z_iconst O dzX8_rule_110 hcI0 ?_
                refine z_istore O (lv' := [(5, .int (0 : Int32)), (0, .ref (z_ad Y 0)), (1, .int a1), (2, .int a2), (3, .int a3), (4, .int a4)]) dzX8_rule_111 (by decide) rfl ?_
                refine z_sub [1, 0] rfl ?_
                refine kX8_rule_L113 O hi hr hlk   (fun w23 x4 h => ?_) _ _ _ h
                refine z_aload_n O dzX8_rule_148 rfl 0 rfl ?_
                refine z_dup O dzX8_rule_149 rfl ?_
                refine z_get O z_cb8 fm_obj (v := .int (w23.1 0 4)) 4 (Nat.le_of_ble_eq_true rfl) tw_753 rfl dzX8_rule_150 ?_
                refine z_iconst O dzX8_rule_153 hcI1 ?_
                refine z_iadd O dzX8_rule_154 ?_
                refine z_put O z_cb8 fm_obj 4 (Nat.le_of_ble_eq_true rfl) tw_753 rfl rfl rfl fp_M4 dzX8_rule_155 ?_
                refine z_sig (fun w24 e20 => ?_)
                have h := z_lt_at e20 h
                refine z_aload_n O dzX8_rule_158 rfl 0 rfl ?_
                refine z_get O z_cb8 fm_obj (v := .int (w24.1 0 4)) 4 (Nat.le_of_ble_eq_true rfl) tw_753 rfl dzX8_rule_159 ?_
                refine z_iconst O dzX8_rule_162 hcI1 ?_
                refine z_isub O dzX8_rule_163 ?_
                exact z_iret O hr hlk dzX8_rule_164 h
              · have h := z_if_t c11 h
                refine z_bipush O dzX8_rule_66 hcBm4 ?_
                exact z_iret O hr hlk dzX8_rule_68 h
            · have h := z_if_t c12 h
              refine z_bipush O dzX8_rule_54 hcBm2 ?_
              exact z_iret O hr hlk dzX8_rule_56 h
        · have h := z_if_f c20 h
          refine z_iload_n O dzX8_rule_32 rfl 1 rfl ?_
          refine z_iconst O dzX8_rule_33 hcI5 ?_
          refine z_icmp_ne O dzX8_rule_34 (fun c19 => ?_) (fun c19 => ?_)
          · have h := z_if_f c19 h
            refine z_iload_n O dzX8_rule_45 rfl 1 rfl ?_
            refine z_iload O dzX8_rule_46 4 rfl ?_
            obtain ⟨r11, hc11, h⟩ := z_bd_at h
            refine z_callSiR O (As := [.int a1, .int a4]) (rest := []) (kX8_isC hi hc11) mX8_isC tw_1106 (Nat.le_of_ble_eq_true rfl) rfl rfl (Nat.le_of_ble_eq_true rfl) dzX8_rule_48 ?_
            refine z_if_ne O dzX8_rule_51 (fun c15 => ?_) (fun c15 => ?_)
            · have h := z_if_f c15 h
              refine z_aload_n O dzX8_rule_57 rfl 0 rfl ?_
              refine z_get O z_cb8 fm_obj (v := .int (σ.1 0 4)) 4 (Nat.le_of_ble_eq_true rfl) tw_753 rfl dzX8_rule_58 ?_
              refine z_bipush O dzX8_rule_61 hcB12 ?_
              refine z_icmp_ne O dzX8_rule_63 (fun c14 => ?_) (fun c14 => ?_)
              · have h := z_if_f c14 h
                refine z_aload_n O dzX8_rule_69 rfl 0 rfl ?_
                refine z_get O z_cb8 fm_obj (v := .ref (z_ad Y 5)) 5 (Nat.le_of_ble_eq_true rfl) tw_754 rfl dzX8_rule_70 ?_
                refine z_aload_n O dzX8_rule_73 rfl 0 rfl ?_
                refine z_get O z_cb8 fm_obj (v := .int (σ.1 0 4)) 4 (Nat.le_of_ble_eq_true rfl) tw_753 rfl dzX8_rule_74 ?_
                refine z_iload_n O dzX8_rule_77 rfl 1 rfl ?_
                obtain ⟨g17, h⟩ := z_gd_at h
                refine z_iast O fm_ruleHow g17 dzX8_rule_78 ?_
                refine z_sig (fun w25 e21 => ?_)
                have h := z_lt_at e21 h
                refine z_aload_n O dzX8_rule_79 rfl 0 rfl ?_
                refine z_get O z_cb8 fm_obj (v := .ref (z_ad Y 6)) 6 (Nat.le_of_ble_eq_true rfl) tw_755 rfl dzX8_rule_80 ?_
                refine z_aload_n O dzX8_rule_83 rfl 0 rfl ?_
                refine z_get O z_cb8 fm_obj (v := .int (w25.1 0 4)) 4 (Nat.le_of_ble_eq_true rfl) tw_753 rfl dzX8_rule_84 ?_
                refine z_iload_n O dzX8_rule_87 rfl 2 rfl ?_
                obtain ⟨g18, h⟩ := z_gd_at h
                refine z_iast O fm_ruleA g18 dzX8_rule_88 ?_
                refine z_sig (fun w26 e22 => ?_)
                have h := z_lt_at e22 h
                refine z_aload_n O dzX8_rule_89 rfl 0 rfl ?_
                refine z_get O z_cb8 fm_obj (v := .ref (z_ad Y 7)) 7 (Nat.le_of_ble_eq_true rfl) tw_756 rfl dzX8_rule_90 ?_
                refine z_aload_n O dzX8_rule_93 rfl 0 rfl ?_
                refine z_get O z_cb8 fm_obj (v := .int (w26.1 0 4)) 4 (Nat.le_of_ble_eq_true rfl) tw_753 rfl dzX8_rule_94 ?_
                refine z_iload_n O dzX8_rule_97 rfl 3 rfl ?_
                obtain ⟨g19, h⟩ := z_gd_at h
                refine z_iast O fm_ruleB g19 dzX8_rule_98 ?_
                refine z_sig (fun w27 e23 => ?_)
                have h := z_lt_at e23 h
                refine z_aload_n O dzX8_rule_99 rfl 0 rfl ?_
                refine z_get O z_cb8 fm_obj (v := .ref (z_ad Y 8)) 8 (Nat.le_of_ble_eq_true rfl) tw_757 rfl dzX8_rule_100 ?_
                refine z_aload_n O dzX8_rule_103 rfl 0 rfl ?_
                refine z_get O z_cb8 fm_obj (v := .int (w27.1 0 4)) 4 (Nat.le_of_ble_eq_true rfl) tw_753 rfl dzX8_rule_104 ?_
                refine z_iload O dzX8_rule_107 4 rfl ?_
                obtain ⟨g20, h⟩ := z_gd_at h
                refine z_iast O fm_ruleC g20 dzX8_rule_109 ?_
                refine z_sig (fun w28 e24 => ?_)
                have h := z_lt_at e24 h
                refine z_iconst O dzX8_rule_110 hcI0 ?_
                refine z_istore O (lv' := [(5, .int (0 : Int32)), (0, .ref (z_ad Y 0)), (1, .int a1), (2, .int a2), (3, .int a3), (4, .int a4)]) dzX8_rule_111 (by decide) rfl ?_
                refine z_sub [1, 0] rfl ?_
                refine kX8_rule_L113 O hi hr hlk   (fun w29 x5 h => ?_) _ _ _ h
                refine z_aload_n O dzX8_rule_148 rfl 0 rfl ?_
                refine z_dup O dzX8_rule_149 rfl ?_
                refine z_get O z_cb8 fm_obj (v := .int (w29.1 0 4)) 4 (Nat.le_of_ble_eq_true rfl) tw_753 rfl dzX8_rule_150 ?_
                refine z_iconst O dzX8_rule_153 hcI1 ?_
                refine z_iadd O dzX8_rule_154 ?_
                refine z_put O z_cb8 fm_obj 4 (Nat.le_of_ble_eq_true rfl) tw_753 rfl rfl rfl fp_M4 dzX8_rule_155 ?_
                refine z_sig (fun w30 e25 => ?_)
                have h := z_lt_at e25 h
                refine z_aload_n O dzX8_rule_158 rfl 0 rfl ?_
                refine z_get O z_cb8 fm_obj (v := .int (w30.1 0 4)) 4 (Nat.le_of_ble_eq_true rfl) tw_753 rfl dzX8_rule_159 ?_
                refine z_iconst O dzX8_rule_162 hcI1 ?_
                refine z_isub O dzX8_rule_163 ?_
                exact z_iret O hr hlk dzX8_rule_164 h
              · have h := z_if_t c14 h
                refine z_bipush O dzX8_rule_66 hcBm4 ?_
                exact z_iret O hr hlk dzX8_rule_68 h
            · have h := z_if_t c15 h
              refine z_bipush O dzX8_rule_54 hcBm2 ?_
              exact z_iret O hr hlk dzX8_rule_56 h
          · have h := z_if_t c19 h
            refine z_aload_n O dzX8_rule_37 rfl 0 rfl ?_
            refine z_iload_n O dzX8_rule_38 rfl 3 rfl ?_
            obtain ⟨r12, hc12, h⟩ := z_bd_at h
            refine z_callViR O (As := [.int a3]) (rest := []) (kX8_isRule hi hc12) mX8_isRule tw_1102 (Nat.le_of_ble_eq_true rfl) fm_obj rfl rfl rfl rfl (Nat.le_of_ble_eq_true rfl) dzX8_rule_39 ?_
            refine z_if_eq O dzX8_rule_42 (fun c18 => ?_) (fun c18 => ?_)
            · have h := z_if_t c18 h
              refine z_bipush O dzX8_rule_54 hcBm2 ?_
              exact z_iret O hr hlk dzX8_rule_56 h
            · have h := z_if_f c18 h
              refine z_iload_n O dzX8_rule_45 rfl 1 rfl ?_
              refine z_iload O dzX8_rule_46 4 rfl ?_
              obtain ⟨r13, hc13, h⟩ := z_bd_at h
              refine z_callSiR O (As := [.int a1, .int a4]) (rest := []) (kX8_isC hi hc13) mX8_isC tw_1106 (Nat.le_of_ble_eq_true rfl) rfl rfl (Nat.le_of_ble_eq_true rfl) dzX8_rule_48 ?_
              refine z_if_ne O dzX8_rule_51 (fun c17 => ?_) (fun c17 => ?_)
              · have h := z_if_f c17 h
                refine z_aload_n O dzX8_rule_57 rfl 0 rfl ?_
                refine z_get O z_cb8 fm_obj (v := .int (σ.1 0 4)) 4 (Nat.le_of_ble_eq_true rfl) tw_753 rfl dzX8_rule_58 ?_
                refine z_bipush O dzX8_rule_61 hcB12 ?_
                refine z_icmp_ne O dzX8_rule_63 (fun c16 => ?_) (fun c16 => ?_)
                · have h := z_if_f c16 h
                  refine z_aload_n O dzX8_rule_69 rfl 0 rfl ?_
                  refine z_get O z_cb8 fm_obj (v := .ref (z_ad Y 5)) 5 (Nat.le_of_ble_eq_true rfl) tw_754 rfl dzX8_rule_70 ?_
                  refine z_aload_n O dzX8_rule_73 rfl 0 rfl ?_
                  refine z_get O z_cb8 fm_obj (v := .int (σ.1 0 4)) 4 (Nat.le_of_ble_eq_true rfl) tw_753 rfl dzX8_rule_74 ?_
                  refine z_iload_n O dzX8_rule_77 rfl 1 rfl ?_
                  obtain ⟨g21, h⟩ := z_gd_at h
                  refine z_iast O fm_ruleHow g21 dzX8_rule_78 ?_
                  refine z_sig (fun w31 e26 => ?_)
                  have h := z_lt_at e26 h
                  refine z_aload_n O dzX8_rule_79 rfl 0 rfl ?_
                  refine z_get O z_cb8 fm_obj (v := .ref (z_ad Y 6)) 6 (Nat.le_of_ble_eq_true rfl) tw_755 rfl dzX8_rule_80 ?_
                  refine z_aload_n O dzX8_rule_83 rfl 0 rfl ?_
                  refine z_get O z_cb8 fm_obj (v := .int (w31.1 0 4)) 4 (Nat.le_of_ble_eq_true rfl) tw_753 rfl dzX8_rule_84 ?_
                  refine z_iload_n O dzX8_rule_87 rfl 2 rfl ?_
                  obtain ⟨g22, h⟩ := z_gd_at h
                  refine z_iast O fm_ruleA g22 dzX8_rule_88 ?_
                  refine z_sig (fun w32 e27 => ?_)
                  have h := z_lt_at e27 h
                  refine z_aload_n O dzX8_rule_89 rfl 0 rfl ?_
                  refine z_get O z_cb8 fm_obj (v := .ref (z_ad Y 7)) 7 (Nat.le_of_ble_eq_true rfl) tw_756 rfl dzX8_rule_90 ?_
                  refine z_aload_n O dzX8_rule_93 rfl 0 rfl ?_
                  refine z_get O z_cb8 fm_obj (v := .int (w32.1 0 4)) 4 (Nat.le_of_ble_eq_true rfl) tw_753 rfl dzX8_rule_94 ?_
                  refine z_iload_n O dzX8_rule_97 rfl 3 rfl ?_
                  obtain ⟨g23, h⟩ := z_gd_at h
                  refine z_iast O fm_ruleB g23 dzX8_rule_98 ?_
                  refine z_sig (fun w33 e28 => ?_)
                  have h := z_lt_at e28 h
                  refine z_aload_n O dzX8_rule_99 rfl 0 rfl ?_
                  refine z_get O z_cb8 fm_obj (v := .ref (z_ad Y 8)) 8 (Nat.le_of_ble_eq_true rfl) tw_757 rfl dzX8_rule_100 ?_
                  refine z_aload_n O dzX8_rule_103 rfl 0 rfl ?_
                  refine z_get O z_cb8 fm_obj (v := .int (w33.1 0 4)) 4 (Nat.le_of_ble_eq_true rfl) tw_753 rfl dzX8_rule_104 ?_
                  refine z_iload O dzX8_rule_107 4 rfl ?_
                  obtain ⟨g24, h⟩ := z_gd_at h
                  refine z_iast O fm_ruleC g24 dzX8_rule_109 ?_
                  refine z_sig (fun w34 e29 => ?_)
                  have h := z_lt_at e29 h
                  refine z_iconst O dzX8_rule_110 hcI0 ?_
                  refine z_istore O (lv' := [(5, .int (0 : Int32)), (0, .ref (z_ad Y 0)), (1, .int a1), (2, .int a2), (3, .int a3), (4, .int a4)]) dzX8_rule_111 (by decide) rfl ?_
                  refine z_sub [1, 0] rfl ?_
                  refine kX8_rule_L113 O hi hr hlk   (fun w35 x6 h => ?_) _ _ _ h
                  refine z_aload_n O dzX8_rule_148 rfl 0 rfl ?_
                  refine z_dup O dzX8_rule_149 rfl ?_
                  refine z_get O z_cb8 fm_obj (v := .int (w35.1 0 4)) 4 (Nat.le_of_ble_eq_true rfl) tw_753 rfl dzX8_rule_150 ?_
                  refine z_iconst O dzX8_rule_153 hcI1 ?_
                  refine z_iadd O dzX8_rule_154 ?_
                  refine z_put O z_cb8 fm_obj 4 (Nat.le_of_ble_eq_true rfl) tw_753 rfl rfl rfl fp_M4 dzX8_rule_155 ?_
                  refine z_sig (fun w36 e30 => ?_)
                  have h := z_lt_at e30 h
                  refine z_aload_n O dzX8_rule_158 rfl 0 rfl ?_
                  refine z_get O z_cb8 fm_obj (v := .int (w36.1 0 4)) 4 (Nat.le_of_ble_eq_true rfl) tw_753 rfl dzX8_rule_159 ?_
                  refine z_iconst O dzX8_rule_162 hcI1 ?_
                  refine z_isub O dzX8_rule_163 ?_
                  exact z_iret O hr hlk dzX8_rule_164 h
                · have h := z_if_t c16 h
                  refine z_bipush O dzX8_rule_66 hcBm4 ?_
                  exact z_iret O hr hlk dzX8_rule_68 h
              · have h := z_if_t c17 h
                refine z_bipush O dzX8_rule_54 hcBm2 ?_
                exact z_iret O hr hlk dzX8_rule_56 h
def fX8_sheet_L68 (a1 : Int32) (k : zS → Int32 → Option (Int32 × zS)) : Nat → zS → Int32 → Option (Int32 × zS)
  | 0, _, _ => none
  | n + 1, σ, v4 => (if (40 : Int32) ≤ v4 then k σ v4 else z_gd (z_in (((40 : Int32) * a1) + v4) 160) (z_lt (z_sJ σ 21 (((40 : Int32) * a1) + v4).toNatClampNeg (0 : Int64)) (fun (w1 : zS) => fX8_sheet_L68 a1 k n w1 (v4 + (1 : Int32)))))
theorem kX8_sheet_L68 {l : Launch} {Y : zY} {fin : Int32 × zS} {p : Program} {e : Env} {s : State} {m : MethodId} {args : Array Value} {below : List Frame} {meth : Method} {c : Code} (O : z_ok ΛM Y p s m args c cX8_sheet RX8 5) (hi : z_inj ΛM Y) (hr : meth.sig.returnType = (some .int)) (hlk : meth.locks = false) {a1 : Int32} {k : zS → Int32 → Option (Int32 × zS)} (hk : ∀ (w : zS) (z4 : Int32), k w z4 = some fin → z_G p l e (z_rm 3) s m args below meth c (MQ below (z_Qi ΛM Y fin) args s 0 0 (z_A ΛM Y)) ΛM Y 5 w [(0, .ref (z_ad Y 0)), (1, .int a1), (4, .int z4)] 94 []) : ∀ (n : Nat) (σ : zS) (v4 : Int32), fX8_sheet_L68 a1 k n σ v4 = some fin → z_G p l e (z_rm 3) s m args below meth c (MQ below (z_Qi ΛM Y fin) args s 0 0 (z_A ΛM Y)) ΛM Y 5 σ [(0, .ref (z_ad Y 0)), (1, .int a1), (4, .int v4)] 68 [] := by
  intro n
  induction n with
  | zero =>
    intro _ _ h
    cases h
  | succ n ih =>
    intro σ v4 h
    rw [fX8_sheet_L68.eq_2] at h
    refine z_iload O dzX8_sheet_68 2 rfl ?_
    refine z_bipush O dzX8_sheet_70 hcB40 ?_
    refine z_icmp_ge O dzX8_sheet_72 (fun c1 => ?_) (fun c1 => ?_)
    · have h := z_if_t c1 h
      exact hk _ _ h
    · have h := z_if_f c1 h
      refine z_aload_n O dzX8_sheet_75 rfl 0 rfl ?_
      refine z_get O z_cb8 fm_obj (v := .ref (z_ad Y 21)) 32 (Nat.le_of_ble_eq_true rfl) tw_781 rfl dzX8_sheet_76 ?_
      refine z_bipush O dzX8_sheet_79 hcB40 ?_
      refine z_iload_n O dzX8_sheet_81 rfl 1 rfl ?_
      refine z_imul O dzX8_sheet_82 ?_
      refine z_iload O dzX8_sheet_83 2 rfl ?_
      refine z_iadd O dzX8_sheet_85 ?_
      refine z_lconst O dzX8_sheet_86 (v := 0) rfl ?_
      obtain ⟨g1, h⟩ := z_gd_at h
      refine z_last O fm_cells g1 dzX8_sheet_87 ?_
      refine z_sig (fun w1 e1 => ?_)
      have h := z_lt_at e1 h
      refine z_iinc O (lv' := [(4, .int (v4 + (1 : Int32))), (0, .ref (z_ad Y 0)), (1, .int a1)]) dzX8_sheet_88 2 rfl (congrArg _ hcI1) (by decide) rfl ?_
      refine z_goto O dzX8_sheet_91 ?_
      refine z_sub [1, 2, 0] rfl ?_
      exact ih _ _ h
def fX8_sheet (σ : zS) (a1 : Int32) (a2 : Int32) (a3 : Int32) : Option (Int32 × zS) :=
  (fX8_isSheet a1).bind (fun r1 => (if r1 = 0 then some ((-2 : Int32), σ) else (fX8_in (a2.toInt64) (-1 : Int64) (1 : Int64)).bind (fun r2 => (if r2 = 0 then some ((-2 : Int32), σ) else (if a2 < 0 then (if a2 < 0 then z_gd (z_in a1 4) (z_lt (z_sI σ 19 a1.toNatClampNeg a2) (fun (w1 : zS) => z_jn (fun (x1 : Int32) => z_gd (z_in a1 4) (z_lt (z_sI w1 20 a1.toNatClampNeg x1) (fun (w2 : zS) => fX8_sheet_L68 a1 (fun (w3 : zS) (x2 : Int32) => some ((1 : Int32), w3)) z_F w2 (0 : Int32)))) (fun j1 => (if 0 ≤ a2 then j1 a3 else j1 (0 : Int32))))) else (if 0 ≤ a3 then z_gd (z_in a1 4) (z_lt (z_sI σ 19 a1.toNatClampNeg a2) (fun (w4 : zS) => z_jn (fun (x3 : Int32) => z_gd (z_in a1 4) (z_lt (z_sI w4 20 a1.toNatClampNeg x3) (fun (w5 : zS) => fX8_sheet_L68 a1 (fun (w6 : zS) (x4 : Int32) => some ((1 : Int32), w6)) z_F w5 (0 : Int32)))) (fun j2 => (if 0 ≤ a2 then j2 a3 else j2 (0 : Int32))))) else some ((-14 : Int32), σ))) else (if a3 ≤ (40 : Int32) then (if a2 < 0 then z_gd (z_in a1 4) (z_lt (z_sI σ 19 a1.toNatClampNeg a2) (fun (w7 : zS) => z_jn (fun (x5 : Int32) => z_gd (z_in a1 4) (z_lt (z_sI w7 20 a1.toNatClampNeg x5) (fun (w8 : zS) => fX8_sheet_L68 a1 (fun (w9 : zS) (x6 : Int32) => some ((1 : Int32), w9)) z_F w8 (0 : Int32)))) (fun j3 => (if 0 ≤ a2 then j3 a3 else j3 (0 : Int32))))) else (if 0 ≤ a3 then z_gd (z_in a1 4) (z_lt (z_sI σ 19 a1.toNatClampNeg a2) (fun (w10 : zS) => z_jn (fun (x7 : Int32) => z_gd (z_in a1 4) (z_lt (z_sI w10 20 a1.toNatClampNeg x7) (fun (w11 : zS) => fX8_sheet_L68 a1 (fun (w12 : zS) (x8 : Int32) => some ((1 : Int32), w12)) z_F w11 (0 : Int32)))) (fun j4 => (if 0 ≤ a2 then j4 a3 else j4 (0 : Int32))))) else some ((-14 : Int32), σ))) else some ((-2 : Int32), σ)))))))
theorem kX8_sheet {l : Launch} {Y : zY} (hi : z_inj ΛM Y) {σ : zS} {a1 : Int32} {a2 : Int32} {a3 : Int32} {fin : Int32 × zS} (h : fX8_sheet σ a1 a2 a3 = some fin) : Met l yX8_sheet (Cond.code yX8_sheet cX8_sheet 5 (some .int) :: z_TB) (z_rm 3) (z_Pc ΛM Y σ [.ref (z_ad Y 0), .int a1, .int a2, .int a3]) (z_Qi ΛM Y fin) 0 0 (z_A ΛM Y) := by
  unfold fX8_sheet at h
  refine z_met [(0, .ref (z_ad Y 0)), (1, .int a1), (2, .int a2), (3, .int a3)] rfl (Nat.le_of_ble_eq_true rfl) (plainFor_of_name (by decide)) hi ?_
  intro p e s m args below meth c O hr hlk
  refine z_iload_n O dzX8_sheet_0 rfl 1 rfl ?_
  obtain ⟨r1, hc1, h⟩ := z_bd_at h
  refine z_callSiR O (As := [.int a1]) (rest := []) (kX8_isSheet hi hc1) mX8_isSheet tw_1144 (Nat.le_of_ble_eq_true rfl) rfl rfl (Nat.le_of_ble_eq_true rfl) dzX8_sheet_1 ?_
  refine z_if_eq O dzX8_sheet_4 (fun c12 => ?_) (fun c12 => ?_)
  · have h := z_if_t c12 h
    refine z_bipush O dzX8_sheet_29 hcBm2 ?_
    exact z_iret O hr hlk dzX8_sheet_31 h
  · have h := z_if_f c12 h
    refine z_iload_n O dzX8_sheet_7 rfl 2 rfl ?_
    refine z_i2l O dzX8_sheet_8 ?_
    refine z_ldc2 O tw_1147 dzX8_sheet_9 ?_
    refine z_lconst O dzX8_sheet_12 (v := 1) rfl ?_
    obtain ⟨r2, hc2, h⟩ := z_bd_at h
    refine z_callSiR O (As := [.long (a2.toInt64), .long (-1 : Int64), .long (1 : Int64)]) (rest := []) (kX8_in hi hc2) mX8_in tw_876 (Nat.le_of_ble_eq_true rfl) rfl rfl (Nat.le_of_ble_eq_true rfl) dzX8_sheet_13 ?_
    refine z_if_eq O dzX8_sheet_16 (fun c11 => ?_) (fun c11 => ?_)
    · have h := z_if_t c11 h
      refine z_bipush O dzX8_sheet_29 hcBm2 ?_
      exact z_iret O hr hlk dzX8_sheet_31 h
    · have h := z_if_f c11 h
      refine z_iload_n O dzX8_sheet_19 rfl 2 rfl ?_
      refine z_if_lt O dzX8_sheet_20 (fun c10 => ?_) (fun c10 => ?_)
      · have h := z_if_t c10 h
        refine z_iload_n O dzX8_sheet_32 rfl 2 rfl ?_
        refine z_if_lt O dzX8_sheet_33 (fun c4 => ?_) (fun c4 => ?_)
        · have h := z_if_t c4 h
          refine z_aload_n O dzX8_sheet_43 rfl 0 rfl ?_
          refine z_get O z_cb8 fm_obj (v := .ref (z_ad Y 19)) 30 (Nat.le_of_ble_eq_true rfl) tw_779 rfl dzX8_sheet_44 ?_
          refine z_iload_n O dzX8_sheet_47 rfl 1 rfl ?_
          refine z_iload_n O dzX8_sheet_48 rfl 2 rfl ?_
          obtain ⟨g1, h⟩ := z_gd_at h
          refine z_iast O fm_sorts g1 dzX8_sheet_49 ?_
          refine z_sig (fun w1 e1 => ?_)
          have h := z_lt_at e1 h
          refine z_aload_n O dzX8_sheet_50 rfl 0 rfl ?_
          refine z_get O z_cb8 fm_obj (v := .ref (z_ad Y 20)) 31 (Nat.le_of_ble_eq_true rfl) tw_780 rfl dzX8_sheet_51 ?_
          refine z_iload_n O dzX8_sheet_54 rfl 1 rfl ?_
          refine z_iload_n O dzX8_sheet_55 rfl 2 rfl ?_
          refine z_jn_at (P := fun j1 => ∀ (x1 : Int32), j1 x1 = some fin → z_G p l e (z_rm 3) s m args below meth c (MQ below (z_Qi ΛM Y fin) args s 0 0 (z_A ΛM Y)) ΛM Y 5 w1 [(0, .ref (z_ad Y 0)), (1, .int a1)] 64 [.int x1, .int a1, .ref (z_ad Y 20)]) h ?_ (fun j1 J1 h => ?_)
          · intro x1 h
            obtain ⟨g2, h⟩ := z_gd_at h
            refine z_iast O fm_long0 g2 dzX8_sheet_64 ?_
            refine z_sig (fun w2 e2 => ?_)
            have h := z_lt_at e2 h
            refine z_iconst O dzX8_sheet_65 hcI0 ?_
            refine z_istore O (lv' := [(4, .int (0 : Int32)), (0, .ref (z_ad Y 0)), (1, .int a1)]) dzX8_sheet_66 (by decide) rfl ?_
            refine z_sub [1, 2, 0] rfl ?_
            refine kX8_sheet_L68 O hi hr hlk   (fun w3 x2 h => ?_) _ _ _ h
            refine z_iconst O dzX8_sheet_94 hcI1 ?_
            exact z_iret O hr hlk dzX8_sheet_95 h
          · refine z_if_ge O dzX8_sheet_56 (fun c1 => ?_) (fun c1 => ?_)
            · have h := z_if_t c1 h
              refine z_iload_n O dzX8_sheet_63 rfl 3 rfl ?_
              refine z_sub [0, 1] rfl ?_
              exact J1 a3 h
            · have h := z_if_f c1 h
              refine z_iconst O dzX8_sheet_59 hcI0 ?_
              refine z_goto O dzX8_sheet_60 ?_
              refine z_sub [0, 1] rfl ?_
              exact J1 (0 : Int32) h
        · have h := z_if_f c4 h
          refine z_iload_n O dzX8_sheet_36 rfl 3 rfl ?_
          refine z_if_ge O dzX8_sheet_37 (fun c3 => ?_) (fun c3 => ?_)
          · have h := z_if_t c3 h
            refine z_aload_n O dzX8_sheet_43 rfl 0 rfl ?_
            refine z_get O z_cb8 fm_obj (v := .ref (z_ad Y 19)) 30 (Nat.le_of_ble_eq_true rfl) tw_779 rfl dzX8_sheet_44 ?_
            refine z_iload_n O dzX8_sheet_47 rfl 1 rfl ?_
            refine z_iload_n O dzX8_sheet_48 rfl 2 rfl ?_
            obtain ⟨g3, h⟩ := z_gd_at h
            refine z_iast O fm_sorts g3 dzX8_sheet_49 ?_
            refine z_sig (fun w4 e3 => ?_)
            have h := z_lt_at e3 h
            refine z_aload_n O dzX8_sheet_50 rfl 0 rfl ?_
            refine z_get O z_cb8 fm_obj (v := .ref (z_ad Y 20)) 31 (Nat.le_of_ble_eq_true rfl) tw_780 rfl dzX8_sheet_51 ?_
            refine z_iload_n O dzX8_sheet_54 rfl 1 rfl ?_
            refine z_iload_n O dzX8_sheet_55 rfl 2 rfl ?_
            refine z_jn_at (P := fun j2 => ∀ (x3 : Int32), j2 x3 = some fin → z_G p l e (z_rm 3) s m args below meth c (MQ below (z_Qi ΛM Y fin) args s 0 0 (z_A ΛM Y)) ΛM Y 5 w4 [(0, .ref (z_ad Y 0)), (1, .int a1)] 64 [.int x3, .int a1, .ref (z_ad Y 20)]) h ?_ (fun j2 J2 h => ?_)
            · intro x3 h
              obtain ⟨g4, h⟩ := z_gd_at h
              refine z_iast O fm_long0 g4 dzX8_sheet_64 ?_
              refine z_sig (fun w5 e4 => ?_)
              have h := z_lt_at e4 h
              refine z_iconst O dzX8_sheet_65 hcI0 ?_
              refine z_istore O (lv' := [(4, .int (0 : Int32)), (0, .ref (z_ad Y 0)), (1, .int a1)]) dzX8_sheet_66 (by decide) rfl ?_
              refine z_sub [1, 2, 0] rfl ?_
              refine kX8_sheet_L68 O hi hr hlk   (fun w6 x4 h => ?_) _ _ _ h
              refine z_iconst O dzX8_sheet_94 hcI1 ?_
              exact z_iret O hr hlk dzX8_sheet_95 h
            · refine z_if_ge O dzX8_sheet_56 (fun c2 => ?_) (fun c2 => ?_)
              · have h := z_if_t c2 h
                refine z_iload_n O dzX8_sheet_63 rfl 3 rfl ?_
                refine z_sub [0, 1] rfl ?_
                exact J2 a3 h
              · have h := z_if_f c2 h
                refine z_iconst O dzX8_sheet_59 hcI0 ?_
                refine z_goto O dzX8_sheet_60 ?_
                refine z_sub [0, 1] rfl ?_
                exact J2 (0 : Int32) h
          · have h := z_if_f c3 h
            refine z_bipush O dzX8_sheet_40 hcBm14 ?_
            exact z_iret O hr hlk dzX8_sheet_42 h
      · have h := z_if_f c10 h
        refine z_iload_n O dzX8_sheet_23 rfl 3 rfl ?_
        refine z_bipush O dzX8_sheet_24 hcB40 ?_
        refine z_icmp_le O dzX8_sheet_26 (fun c9 => ?_) (fun c9 => ?_)
        · have h := z_if_t c9 h
          refine z_iload_n O dzX8_sheet_32 rfl 2 rfl ?_
          refine z_if_lt O dzX8_sheet_33 (fun c8 => ?_) (fun c8 => ?_)
          · have h := z_if_t c8 h
            refine z_aload_n O dzX8_sheet_43 rfl 0 rfl ?_
            refine z_get O z_cb8 fm_obj (v := .ref (z_ad Y 19)) 30 (Nat.le_of_ble_eq_true rfl) tw_779 rfl dzX8_sheet_44 ?_
            refine z_iload_n O dzX8_sheet_47 rfl 1 rfl ?_
            refine z_iload_n O dzX8_sheet_48 rfl 2 rfl ?_
            obtain ⟨g5, h⟩ := z_gd_at h
            refine z_iast O fm_sorts g5 dzX8_sheet_49 ?_
            refine z_sig (fun w7 e5 => ?_)
            have h := z_lt_at e5 h
            refine z_aload_n O dzX8_sheet_50 rfl 0 rfl ?_
            refine z_get O z_cb8 fm_obj (v := .ref (z_ad Y 20)) 31 (Nat.le_of_ble_eq_true rfl) tw_780 rfl dzX8_sheet_51 ?_
            refine z_iload_n O dzX8_sheet_54 rfl 1 rfl ?_
            refine z_iload_n O dzX8_sheet_55 rfl 2 rfl ?_
            refine z_jn_at (P := fun j3 => ∀ (x5 : Int32), j3 x5 = some fin → z_G p l e (z_rm 3) s m args below meth c (MQ below (z_Qi ΛM Y fin) args s 0 0 (z_A ΛM Y)) ΛM Y 5 w7 [(0, .ref (z_ad Y 0)), (1, .int a1)] 64 [.int x5, .int a1, .ref (z_ad Y 20)]) h ?_ (fun j3 J3 h => ?_)
            · intro x5 h
              obtain ⟨g6, h⟩ := z_gd_at h
              refine z_iast O fm_long0 g6 dzX8_sheet_64 ?_
              refine z_sig (fun w8 e6 => ?_)
              have h := z_lt_at e6 h
              refine z_iconst O dzX8_sheet_65 hcI0 ?_
              refine z_istore O (lv' := [(4, .int (0 : Int32)), (0, .ref (z_ad Y 0)), (1, .int a1)]) dzX8_sheet_66 (by decide) rfl ?_
              refine z_sub [1, 2, 0] rfl ?_
              refine kX8_sheet_L68 O hi hr hlk   (fun w9 x6 h => ?_) _ _ _ h
              refine z_iconst O dzX8_sheet_94 hcI1 ?_
              exact z_iret O hr hlk dzX8_sheet_95 h
            · refine z_if_ge O dzX8_sheet_56 (fun c5 => ?_) (fun c5 => ?_)
              · have h := z_if_t c5 h
                refine z_iload_n O dzX8_sheet_63 rfl 3 rfl ?_
                refine z_sub [0, 1] rfl ?_
                exact J3 a3 h
              · have h := z_if_f c5 h
                refine z_iconst O dzX8_sheet_59 hcI0 ?_
                refine z_goto O dzX8_sheet_60 ?_
                refine z_sub [0, 1] rfl ?_
                exact J3 (0 : Int32) h
          · have h := z_if_f c8 h
            refine z_iload_n O dzX8_sheet_36 rfl 3 rfl ?_
            refine z_if_ge O dzX8_sheet_37 (fun c7 => ?_) (fun c7 => ?_)
            · have h := z_if_t c7 h
              refine z_aload_n O dzX8_sheet_43 rfl 0 rfl ?_
              refine z_get O z_cb8 fm_obj (v := .ref (z_ad Y 19)) 30 (Nat.le_of_ble_eq_true rfl) tw_779 rfl dzX8_sheet_44 ?_
              refine z_iload_n O dzX8_sheet_47 rfl 1 rfl ?_
              refine z_iload_n O dzX8_sheet_48 rfl 2 rfl ?_
              obtain ⟨g7, h⟩ := z_gd_at h
              refine z_iast O fm_sorts g7 dzX8_sheet_49 ?_
              refine z_sig (fun w10 e7 => ?_)
              have h := z_lt_at e7 h
              refine z_aload_n O dzX8_sheet_50 rfl 0 rfl ?_
              refine z_get O z_cb8 fm_obj (v := .ref (z_ad Y 20)) 31 (Nat.le_of_ble_eq_true rfl) tw_780 rfl dzX8_sheet_51 ?_
              refine z_iload_n O dzX8_sheet_54 rfl 1 rfl ?_
              refine z_iload_n O dzX8_sheet_55 rfl 2 rfl ?_
              refine z_jn_at (P := fun j4 => ∀ (x7 : Int32), j4 x7 = some fin → z_G p l e (z_rm 3) s m args below meth c (MQ below (z_Qi ΛM Y fin) args s 0 0 (z_A ΛM Y)) ΛM Y 5 w10 [(0, .ref (z_ad Y 0)), (1, .int a1)] 64 [.int x7, .int a1, .ref (z_ad Y 20)]) h ?_ (fun j4 J4 h => ?_)
              · intro x7 h
                obtain ⟨g8, h⟩ := z_gd_at h
                refine z_iast O fm_long0 g8 dzX8_sheet_64 ?_
                refine z_sig (fun w11 e8 => ?_)
                have h := z_lt_at e8 h
                refine z_iconst O dzX8_sheet_65 hcI0 ?_
                refine z_istore O (lv' := [(4, .int (0 : Int32)), (0, .ref (z_ad Y 0)), (1, .int a1)]) dzX8_sheet_66 (by decide) rfl ?_
                refine z_sub [1, 2, 0] rfl ?_
                refine kX8_sheet_L68 O hi hr hlk   (fun w12 x8 h => ?_) _ _ _ h
                refine z_iconst O dzX8_sheet_94 hcI1 ?_
                exact z_iret O hr hlk dzX8_sheet_95 h
              · refine z_if_ge O dzX8_sheet_56 (fun c6 => ?_) (fun c6 => ?_)
                · have h := z_if_t c6 h
                  refine z_iload_n O dzX8_sheet_63 rfl 3 rfl ?_
                  refine z_sub [0, 1] rfl ?_
                  exact J4 a3 h
                · have h := z_if_f c6 h
                  refine z_iconst O dzX8_sheet_59 hcI0 ?_
                  refine z_goto O dzX8_sheet_60 ?_
                  refine z_sub [0, 1] rfl ?_
                  exact J4 (0 : Int32) h
            · have h := z_if_f c7 h
              refine z_bipush O dzX8_sheet_40 hcBm14 ?_
              exact z_iret O hr hlk dzX8_sheet_42 h
        · have h := z_if_f c9 h
          refine z_bipush O dzX8_sheet_29 hcBm2 ?_
          exact z_iret O hr hlk dzX8_sheet_31 h
def fX8_size (σ : zS) (a1 : Int32) : Option (Int32) :=
  (fX8_isFamily a1).bind (fun r1 => (if r1 = 0 then some (-2 : Int32) else z_gd (z_in a1 4) (some (σ.1 2 a1.toNatClampNeg))))
theorem kX8_size {l : Launch} {Y : zY} (hi : z_inj ΛM Y) {σ : zS} {a1 : Int32} {fin : Int32} (h : fX8_size σ a1 = some fin) : Met l yX8_size (Cond.code yX8_size cX8_size 2 (some .int) :: z_TB) (z_rm 3) (z_Pc ΛM Y σ [.ref (z_ad Y 0), .int a1]) (z_Qi ΛM Y (fin, σ)) 0 0 (z_A ΛM Y) := by
  unfold fX8_size at h
  refine z_met [(0, .ref (z_ad Y 0)), (1, .int a1)] rfl (Nat.le_of_ble_eq_true rfl) (plainFor_of_name (by decide)) hi ?_
  intro p e s m args below meth c O hr hlk
  refine z_iload_n O dzX8_size_0 rfl 1 rfl ?_
  obtain ⟨r1, hc1, h⟩ := z_bd_at h
  refine z_callSiR O (As := [.int a1]) (rest := []) (kX8_isFamily hi hc1) mX8_isFamily tw_892 (Nat.le_of_ble_eq_true rfl) rfl rfl (Nat.le_of_ble_eq_true rfl) dzX8_size_1 ?_
  refine z_if_eq O dzX8_size_4 (fun c1 => ?_) (fun c1 => ?_)
  · have h := z_if_t c1 h
    refine z_bipush O dzX8_size_16 hcBm2 ?_
    exact z_iret O hr hlk dzX8_size_18 (z_rf h)
  · have h := z_if_f c1 h
    refine z_aload_n O dzX8_size_7 rfl 0 rfl ?_
    refine z_get O z_cb8 fm_obj (v := .ref (z_ad Y 2)) 1 (Nat.le_of_ble_eq_true rfl) tw_750 rfl dzX8_size_8 ?_
    refine z_iload_n O dzX8_size_11 rfl 1 rfl ?_
    obtain ⟨g1, h⟩ := z_gd_at h
    refine z_iald O fm_sizes g1 dzX8_size_12 ?_
    refine z_goto O dzX8_size_13 ?_
    exact z_iret O hr hlk dzX8_size_18 (z_rf h)
def fX8_sums_L23 (σ : zS) (a1 : Int32) (a2 : Int32) (k : Int32 → Int32 → Option (Int32)) : Nat → Int32 → Int32 → Option (Int32)
  | 0, _, _ => none
  | n + 1, v3, v4 => z_gd (z_in a1 4) ((if (σ.1 2 a1.toNatClampNeg) ≤ v4 then k v3 v4 else z_gd (z_in (((40 : Int32) * a1) + v4) 160) ((fX8_setOf σ a1 v4).bind (fun r1 => (fX8_worthOf 13 σ a2 r1).bind (fun r2 => z_lt (v3 + ((σ.1 4 (((40 : Int32) * a1) + v4).toNatClampNeg) * r2)) (fun (x1 : Int32) => fX8_sums_L23 σ a1 a2 k n x1 (v4 + (1 : Int32))))))))
theorem kX8_sums_L23 {l : Launch} {Y : zY} {fin : Int32} {p : Program} {e : Env} {s : State} {m : MethodId} {args : Array Value} {below : List Frame} {meth : Method} {c : Code} {σ : zS} (O : z_ok ΛM Y p s m args c cX8_sums RX8 5) (hi : z_inj ΛM Y) (hr : meth.sig.returnType = (some .int)) (hlk : meth.locks = false) {a1 : Int32} {a2 : Int32} {k : Int32 → Int32 → Option (Int32)} (hk : ∀ (z3 : Int32) (z4 : Int32), k z3 z4 = some fin → z_G p l e (z_rm 17) s m args below meth c (MQ below (z_Qi ΛM Y (fin, σ)) args s 0 0 (z_A ΛM Y)) ΛM Y 5 σ [(0, .ref (z_ad Y 0)), (1, .int a1), (2, .int a2), (3, .int z3), (4, .int z4)] 68 []) : ∀ (n : Nat) (v3 : Int32) (v4 : Int32), fX8_sums_L23 σ a1 a2 k n v3 v4 = some fin → z_G p l e (z_rm 17) s m args below meth c (MQ below (z_Qi ΛM Y (fin, σ)) args s 0 0 (z_A ΛM Y)) ΛM Y 5 σ [(0, .ref (z_ad Y 0)), (1, .int a1), (2, .int a2), (3, .int v3), (4, .int v4)] 23 [] := by
  intro n
  induction n with
  | zero =>
    intro _ _ h
    cases h
  | succ n ih =>
    intro v3 v4 h
    rw [fX8_sums_L23.eq_2] at h
    refine z_iload O dzX8_sums_23 4 rfl ?_
    refine z_aload_n O dzX8_sums_25 rfl 0 rfl ?_
    refine z_get O z_cb8 fm_obj (v := .ref (z_ad Y 2)) 1 (Nat.le_of_ble_eq_true rfl) tw_750 rfl dzX8_sums_26 ?_
    refine z_iload_n O dzX8_sums_29 rfl 1 rfl ?_
    obtain ⟨g1, h⟩ := z_gd_at h
    refine z_iald O fm_sizes g1 dzX8_sums_30 ?_
    refine z_icmp_ge O dzX8_sums_31 (fun c1 => ?_) (fun c1 => ?_)
    · have h := z_if_t c1 h
      exact hk _ _ h
    · have h := z_if_f c1 h
      refine z_iload_n O dzX8_sums_34 rfl 3 rfl ?_
      refine z_aload_n O dzX8_sums_35 rfl 0 rfl ?_
      refine z_get O z_cb8 fm_obj (v := .ref (z_ad Y 4)) 3 (Nat.le_of_ble_eq_true rfl) tw_752 rfl dzX8_sums_36 ?_
      refine z_bipush O dzX8_sums_39 hcB40 ?_
      refine z_iload_n O dzX8_sums_41 rfl 1 rfl ?_
      refine z_imul O dzX8_sums_42 ?_
      refine z_iload O dzX8_sums_43 4 rfl ?_
      refine z_iadd O dzX8_sums_45 ?_
      obtain ⟨g2, h⟩ := z_gd_at h
      refine z_iald O fm_tallies g2 dzX8_sums_46 ?_
      refine z_aload_n O dzX8_sums_47 rfl 0 rfl ?_
      refine z_iload_n O dzX8_sums_48 rfl 2 rfl ?_
      refine z_aload_n O dzX8_sums_49 rfl 0 rfl ?_
      refine z_iload_n O dzX8_sums_50 rfl 1 rfl ?_
      refine z_iload O dzX8_sums_51 4 rfl ?_
      obtain ⟨r1, hc1, h⟩ := z_bd_at h
      refine z_callViR O (As := [.int a1, .int v4]) (rest := [.int a2, .ref (z_ad Y 0), .int (σ.1 4 (((40 : Int32) * a1) + v4).toNatClampNeg), .int v3]) (kX8_setOf hi hc1) mX8_setOf tw_908 (Nat.le_of_ble_eq_true rfl) fm_obj rfl rfl rfl rfl (Nat.le_of_ble_eq_true rfl) dzX8_sums_53 ?_
      obtain ⟨r2, hc2, h⟩ := z_bd_at h
      refine z_callViR O (As := [.int a2, .int r1]) (rest := [.int (σ.1 4 (((40 : Int32) * a1) + v4).toNatClampNeg), .int v3]) (kX8_worthOf hi 13 hc2) mX8_worthOf tw_1116 (Nat.le_of_ble_eq_true rfl) fm_obj rfl rfl rfl rfl (Nat.le_of_ble_eq_true rfl) dzX8_sums_56 ?_
      refine z_imul O dzX8_sums_59 ?_
      refine z_iadd O dzX8_sums_60 ?_
      refine z_topi (fun x1 e1 => ?_)
      have h := z_lt_at e1 h
      refine z_istore_n O (lv' := [(3, .int x1), (0, .ref (z_ad Y 0)), (1, .int a1), (2, .int a2), (4, .int v4)]) dzX8_sums_61 rfl (by decide) rfl ?_
      refine z_iinc O (lv' := [(4, .int (v4 + (1 : Int32))), (3, .int x1), (0, .ref (z_ad Y 0)), (1, .int a1), (2, .int a2)]) dzX8_sums_62 4 rfl (congrArg _ hcI1) (by decide) rfl ?_
      refine z_goto O dzX8_sums_65 ?_
      refine z_sub [2, 3, 4, 1, 0] rfl ?_
      exact ih _ _ h
def fX8_sums (σ : zS) (a1 : Int32) (a2 : Int32) : Option (Int32) :=
  (fX8_isFamily a1).bind (fun r1 => (if r1 = 0 then some (-2 : Int32) else (fX8_isRule σ a2).bind (fun r2 => (if r2 = 0 then some (-2 : Int32) else fX8_sums_L23 σ a1 a2 (fun (x1 : Int32) (x2 : Int32) => some x1) z_F (0 : Int32) (0 : Int32)))))
theorem kX8_sums {l : Launch} {Y : zY} (hi : z_inj ΛM Y) {σ : zS} {a1 : Int32} {a2 : Int32} {fin : Int32} (h : fX8_sums σ a1 a2 = some fin) : Met l yX8_sums (Cond.code yX8_sums cX8_sums 5 (some .int) :: z_TB) (z_rm 17) (z_Pc ΛM Y σ [.ref (z_ad Y 0), .int a1, .int a2]) (z_Qi ΛM Y (fin, σ)) 0 0 (z_A ΛM Y) := by
  unfold fX8_sums at h
  refine z_met [(0, .ref (z_ad Y 0)), (1, .int a1), (2, .int a2)] rfl (Nat.le_of_ble_eq_true rfl) (plainFor_of_name (by decide)) hi ?_
  intro p e s m args below meth c O hr hlk
  refine z_iload_n O dzX8_sums_0 rfl 1 rfl ?_
  obtain ⟨r1, hc1, h⟩ := z_bd_at h
  refine z_callSiR O (As := [.int a1]) (rest := []) (kX8_isFamily hi hc1) mX8_isFamily tw_892 (Nat.le_of_ble_eq_true rfl) rfl rfl (Nat.le_of_ble_eq_true rfl) dzX8_sums_1 ?_
  refine z_if_eq O dzX8_sums_4 (fun c2 => ?_) (fun c2 => ?_)
  · have h := z_if_t c2 h
    refine z_bipush O dzX8_sums_15 hcBm2 ?_
    exact z_iret O hr hlk dzX8_sums_17 (z_rf h)
  · have h := z_if_f c2 h
    refine z_aload_n O dzX8_sums_7 rfl 0 rfl ?_
    refine z_iload_n O dzX8_sums_8 rfl 2 rfl ?_
    obtain ⟨r2, hc2, h⟩ := z_bd_at h
    refine z_callViR O (As := [.int a2]) (rest := []) (kX8_isRule hi hc2) mX8_isRule tw_1102 (Nat.le_of_ble_eq_true rfl) fm_obj rfl rfl rfl rfl (Nat.le_of_ble_eq_true rfl) dzX8_sums_9 ?_
    refine z_if_ne O dzX8_sums_12 (fun c1 => ?_) (fun c1 => ?_)
    · have h := z_if_f c1 h
      refine z_iconst O dzX8_sums_18 hcI0 ?_
      refine z_istore_n O (lv' := [(3, .int (0 : Int32)), (0, .ref (z_ad Y 0)), (1, .int a1), (2, .int a2)]) dzX8_sums_19 rfl (by decide) rfl ?_
      refine z_iconst O dzX8_sums_20 hcI0 ?_
      refine z_istore O (lv' := [(4, .int (0 : Int32)), (3, .int (0 : Int32)), (0, .ref (z_ad Y 0)), (1, .int a1), (2, .int a2)]) dzX8_sums_21 (by decide) rfl ?_
      refine z_sub [2, 3, 4, 1, 0] rfl ?_
      refine kX8_sums_L23 O hi hr hlk   (fun x1 x2 h => ?_) _ _ _ h
      refine z_iload_n O dzX8_sums_68 rfl 3 rfl ?_
      exact z_iret O hr hlk dzX8_sums_69 (z_rf h)
    · have h := z_if_t c1 h
      refine z_bipush O dzX8_sums_15 hcBm2 ?_
      exact z_iret O hr hlk dzX8_sums_17 (z_rf h)
def fX8_support (σ : zS) (a1 : Int32) (a2 : Int32) : Option (Int32) :=
  (fX8_isFamily a1).bind (fun r1 => (if r1 = 0 then some (-2 : Int32) else (fX8_isSet a2).bind (fun r2 => (if r2 = 0 then some (-2 : Int32) else (fX8_supportOf σ a1 a2).bind (fun r3 => some r3)))))
theorem kX8_support {l : Launch} {Y : zY} (hi : z_inj ΛM Y) {σ : zS} {a1 : Int32} {a2 : Int32} {fin : Int32} (h : fX8_support σ a1 a2 = some fin) : Met l yX8_support (Cond.code yX8_support cX8_support 3 (some .int) :: z_TB) (z_rm 3) (z_Pc ΛM Y σ [.ref (z_ad Y 0), .int a1, .int a2]) (z_Qi ΛM Y (fin, σ)) 0 0 (z_A ΛM Y) := by
  unfold fX8_support at h
  refine z_met [(0, .ref (z_ad Y 0)), (1, .int a1), (2, .int a2)] rfl (Nat.le_of_ble_eq_true rfl) (plainFor_of_name (by decide)) hi ?_
  intro p e s m args below meth c O hr hlk
  refine z_iload_n O dzX8_support_0 rfl 1 rfl ?_
  obtain ⟨r1, hc1, h⟩ := z_bd_at h
  refine z_callSiR O (As := [.int a1]) (rest := []) (kX8_isFamily hi hc1) mX8_isFamily tw_892 (Nat.le_of_ble_eq_true rfl) rfl rfl (Nat.le_of_ble_eq_true rfl) dzX8_support_1 ?_
  refine z_if_eq O dzX8_support_4 (fun c2 => ?_) (fun c2 => ?_)
  · have h := z_if_t c2 h
    refine z_bipush O dzX8_support_23 hcBm2 ?_
    exact z_iret O hr hlk dzX8_support_25 (z_rf h)
  · have h := z_if_f c2 h
    refine z_iload_n O dzX8_support_7 rfl 2 rfl ?_
    obtain ⟨r2, hc2, h⟩ := z_bd_at h
    refine z_callSiR O (As := [.int a2]) (rest := []) (kX8_isSet hi hc2) mX8_isSet tw_896 (Nat.le_of_ble_eq_true rfl) rfl rfl (Nat.le_of_ble_eq_true rfl) dzX8_support_8 ?_
    refine z_if_eq O dzX8_support_11 (fun c1 => ?_) (fun c1 => ?_)
    · have h := z_if_t c1 h
      refine z_bipush O dzX8_support_23 hcBm2 ?_
      exact z_iret O hr hlk dzX8_support_25 (z_rf h)
    · have h := z_if_f c1 h
      refine z_aload_n O dzX8_support_14 rfl 0 rfl ?_
      refine z_iload_n O dzX8_support_15 rfl 1 rfl ?_
      refine z_iload_n O dzX8_support_16 rfl 2 rfl ?_
      obtain ⟨r3, hc3, h⟩ := z_bd_at h
      refine z_callViR O (As := [.int a1, .int a2]) (rest := []) (kX8_supportOf hi hc3) mX8_supportOf tw_1067 (Nat.le_of_ble_eq_true rfl) fm_obj rfl rfl rfl rfl (Nat.le_of_ble_eq_true rfl) dzX8_support_17 ?_
      refine z_goto O dzX8_support_20 ?_
      exact z_iret O hr hlk dzX8_support_25 (z_rf h)
def fX8_takes (σ : zS) (a1 : Int32) (a2 : Int32) : Option (Int32 × zS) :=
  (fX8_placeOf σ a1 a2).bind (fun r1 => z_gd (z_in (((40 : Int32) * a1) + r1) 160) (z_gd (z_in (((40 : Int32) * a1) + r1) 160) (z_lt (z_sI σ 4 (((40 : Int32) * a1) + r1).toNatClampNeg ((σ.1 4 (((40 : Int32) * a1) + r1).toNatClampNeg) - (1 : Int32))) (fun (w1 : zS) => z_gd (z_in (((40 : Int32) * a1) + r1) 160) (z_lt (w1.1 4 (((40 : Int32) * a1) + r1).toNatClampNeg) (fun (x1 : Int32) => (if x1 = 0 then (fX8_drops w1 a1 r1).bind (fun r2 => some (x1, r2)) else some (x1, w1))))))))
theorem kX8_takes {l : Launch} {Y : zY} (hi : z_inj ΛM Y) {σ : zS} {a1 : Int32} {a2 : Int32} {fin : Int32 × zS} (h : fX8_takes σ a1 a2 = some fin) : Met l yX8_takes (Cond.code yX8_takes cX8_takes 5 (some .int) :: z_TB) (z_rm 3) (z_Pc ΛM Y σ [.ref (z_ad Y 0), .int a1, .int a2]) (z_Qi ΛM Y fin) 0 0 (z_A ΛM Y) := by
  unfold fX8_takes at h
  refine z_met [(0, .ref (z_ad Y 0)), (1, .int a1), (2, .int a2)] rfl (Nat.le_of_ble_eq_true rfl) (plainFor_of_name (by decide)) hi ?_
  intro p e s m args below meth c O hr hlk
  refine z_aload_n O dzX8_takes_0 rfl 0 rfl ?_
  refine z_iload_n O dzX8_takes_1 rfl 1 rfl ?_
  refine z_iload_n O dzX8_takes_2 rfl 2 rfl ?_
  obtain ⟨r1, hc1, h⟩ := z_bd_at h
  refine z_callViR O (As := [.int a1, .int a2]) (rest := []) (kX8_placeOf hi hc1) mX8_placeOf tw_904 (Nat.le_of_ble_eq_true rfl) fm_obj rfl rfl rfl rfl (Nat.le_of_ble_eq_true rfl) dzX8_takes_3 ?_
  refine z_istore_n O (lv' := [(3, .int r1), (0, .ref (z_ad Y 0)), (1, .int a1), (2, .int a2)]) dzX8_takes_6 rfl (by decide) rfl ?_
  refine z_aload_n O dzX8_takes_7 rfl 1 rfl ?_
  refine z_get O z_cb8 fm_obj (v := .ref (z_ad Y 4)) 3 (Nat.le_of_ble_eq_true rfl) tw_752 rfl dzX8_takes_8 ?_
  refine z_bipush O dzX8_takes_11 hcB40 ?_
  refine z_iload_n O dzX8_takes_13 rfl 2 rfl ?_
  refine z_imul O dzX8_takes_14 ?_
  refine z_iload_n O dzX8_takes_15 rfl 0 rfl ?_
  refine z_iadd O dzX8_takes_16 ?_
  refine z_dup2_11 O dzX8_takes_17 rfl rfl ?_
  obtain ⟨g1, h⟩ := z_gd_at h
  refine z_iald O fm_tallies g1 dzX8_takes_18 ?_
  refine z_iconst O dzX8_takes_19 hcI1 ?_
  refine z_isub O dzX8_takes_20 ?_
  obtain ⟨g2, h⟩ := z_gd_at h
  refine z_iast O fm_tallies g2 dzX8_takes_21 ?_
  refine z_sig (fun w1 e1 => ?_)
  have h := z_lt_at e1 h
  refine z_aload_n O dzX8_takes_22 rfl 1 rfl ?_
  refine z_get O z_cb8 fm_obj (v := .ref (z_ad Y 4)) 3 (Nat.le_of_ble_eq_true rfl) tw_752 rfl dzX8_takes_23 ?_
  refine z_bipush O dzX8_takes_26 hcB40 ?_
  refine z_iload_n O dzX8_takes_28 rfl 2 rfl ?_
  refine z_imul O dzX8_takes_29 ?_
  refine z_iload_n O dzX8_takes_30 rfl 0 rfl ?_
  refine z_iadd O dzX8_takes_31 ?_
  obtain ⟨g3, h⟩ := z_gd_at h
  refine z_iald O fm_tallies g3 dzX8_takes_32 ?_
  refine z_topi (fun x1 e2 => ?_)
  have h := z_lt_at e2 h
  refine z_istore O (lv' := [(4, .int x1), (3, .int r1), (0, .ref (z_ad Y 0)), (1, .int a1), (2, .int a2)]) dzX8_takes_33 (by decide) rfl ?_
  refine z_iload O dzX8_takes_35 0 rfl ?_
  refine z_if_ne O dzX8_takes_37 (fun c1 => ?_) (fun c1 => ?_)
  · have h := z_if_f c1 h
    refine z_iload O dzX8_takes_46 0 rfl ?_
    exact z_iret O hr hlk dzX8_takes_48 h
  · have h := z_if_t c1 h
    refine z_aload_n O dzX8_takes_40 rfl 2 rfl ?_
    refine z_iload_n O dzX8_takes_41 rfl 3 rfl ?_
    refine z_iload_n O dzX8_takes_42 rfl 1 rfl ?_
    obtain ⟨r2, hc2, h⟩ := z_bd_at h
    refine z_callVv O (As := [.int a1, .int r1]) (rest := []) (kX8_drops hi hc2) mX8_drops tw_924 (Nat.le_of_ble_eq_true rfl) fm_obj rfl rfl rfl rfl (Nat.le_of_ble_eq_true rfl) dzX8_takes_43 ?_
    refine z_iload O dzX8_takes_46 0 rfl ?_
    exact z_iret O hr hlk dzX8_takes_48 h
def fX8_take (σ : zS) (a1 : Int32) (a2 : Int32) : Option (Int32 × zS) :=
  (fX8_isFamily a1).bind (fun r1 => (if r1 = 0 then some ((-2 : Int32), σ) else (fX8_isSet a2).bind (fun r2 => (if r2 = 0 then some ((-2 : Int32), σ) else (fX8_placeOf σ a1 a2).bind (fun r3 => (if r3 = (-1 : Int32) then some ((-1 : Int32), σ) else (fX8_remembers σ (2 : Int32) a1 a2).bind (fun r4 => (fX8_takes r4 a1 a2).bind (fun r5 => some (r5.1, r5.2)))))))))
theorem kX8_take {l : Launch} {Y : zY} (hi : z_inj ΛM Y) {σ : zS} {a1 : Int32} {a2 : Int32} {fin : Int32 × zS} (h : fX8_take σ a1 a2 = some fin) : Met l yX8_take (Cond.code yX8_take cX8_take 3 (some .int) :: z_TB) (z_rm 4) (z_Pc ΛM Y σ [.ref (z_ad Y 0), .int a1, .int a2]) (z_Qi ΛM Y fin) 0 0 (z_A ΛM Y) := by
  unfold fX8_take at h
  refine z_met [(0, .ref (z_ad Y 0)), (1, .int a1), (2, .int a2)] rfl (Nat.le_of_ble_eq_true rfl) (plainFor_of_name (by decide)) hi ?_
  intro p e s m args below meth c O hr hlk
  refine z_iload_n O dzX8_take_0 rfl 1 rfl ?_
  obtain ⟨r1, hc1, h⟩ := z_bd_at h
  refine z_callSiR O (As := [.int a1]) (rest := []) (kX8_isFamily hi hc1) mX8_isFamily tw_892 (Nat.le_of_ble_eq_true rfl) rfl rfl (Nat.le_of_ble_eq_true rfl) dzX8_take_1 ?_
  refine z_if_eq O dzX8_take_4 (fun c3 => ?_) (fun c3 => ?_)
  · have h := z_if_t c3 h
    refine z_bipush O dzX8_take_14 hcBm2 ?_
    exact z_iret O hr hlk dzX8_take_16 h
  · have h := z_if_f c3 h
    refine z_iload_n O dzX8_take_7 rfl 2 rfl ?_
    obtain ⟨r2, hc2, h⟩ := z_bd_at h
    refine z_callSiR O (As := [.int a2]) (rest := []) (kX8_isSet hi hc2) mX8_isSet tw_896 (Nat.le_of_ble_eq_true rfl) rfl rfl (Nat.le_of_ble_eq_true rfl) dzX8_take_8 ?_
    refine z_if_ne O dzX8_take_11 (fun c2 => ?_) (fun c2 => ?_)
    · have h := z_if_f c2 h
      refine z_aload_n O dzX8_take_17 rfl 0 rfl ?_
      refine z_iload_n O dzX8_take_18 rfl 1 rfl ?_
      refine z_iload_n O dzX8_take_19 rfl 2 rfl ?_
      obtain ⟨r3, hc3, h⟩ := z_bd_at h
      refine z_callViR O (As := [.int a1, .int a2]) (rest := []) (kX8_placeOf hi hc3) mX8_placeOf tw_904 (Nat.le_of_ble_eq_true rfl) fm_obj rfl rfl rfl rfl (Nat.le_of_ble_eq_true rfl) dzX8_take_20 ?_
      refine z_iconst O dzX8_take_23 hcIm1 ?_
      refine z_icmp_ne O dzX8_take_24 (fun c1 => ?_) (fun c1 => ?_)
      · have h := z_if_f c1 h
        refine z_aload_n O dzX8_take_29 rfl 0 rfl ?_
        refine z_iconst O dzX8_take_30 hcI2 ?_
        refine z_iload_n O dzX8_take_31 rfl 1 rfl ?_
        refine z_iload_n O dzX8_take_32 rfl 2 rfl ?_
        obtain ⟨r4, hc4, h⟩ := z_bd_at h
        refine z_callVv O (As := [.int (2 : Int32), .int a1, .int a2]) (rest := []) (kX8_remembers hi hc4) mX8_remembers tw_880 (Nat.le_of_ble_eq_true rfl) fm_obj rfl rfl rfl rfl (Nat.le_of_ble_eq_true rfl) dzX8_take_33 ?_
        refine z_aload_n O dzX8_take_36 rfl 0 rfl ?_
        refine z_iload_n O dzX8_take_37 rfl 1 rfl ?_
        refine z_iload_n O dzX8_take_38 rfl 2 rfl ?_
        obtain ⟨r5, hc5, h⟩ := z_bd_at h
        refine z_callVi O (As := [.int a1, .int a2]) (rest := []) (kX8_takes hi hc5) mX8_takes tw_920 (Nat.le_of_ble_eq_true rfl) fm_obj rfl rfl rfl rfl (Nat.le_of_ble_eq_true rfl) dzX8_take_39 ?_
        exact z_iret O hr hlk dzX8_take_42 h
      · have h := z_if_t c1 h
        refine z_iconst O dzX8_take_27 hcIm1 ?_
        exact z_iret O hr hlk dzX8_take_28 h
    · have h := z_if_t c2 h
      refine z_bipush O dzX8_take_14 hcBm2 ?_
      exact z_iret O hr hlk dzX8_take_16 h
def fX8_tallyOf (σ : zS) (a1 : Int32) (a2 : Int32) : Option (Int32) :=
  (fX8_placeOf σ a1 a2).bind (fun r1 => (if r1 = (-1 : Int32) then some (0 : Int32) else z_gd (z_in (((40 : Int32) * a1) + r1) 160) (some (σ.1 4 (((40 : Int32) * a1) + r1).toNatClampNeg))))
theorem kX8_tallyOf {l : Launch} {Y : zY} (hi : z_inj ΛM Y) {σ : zS} {a1 : Int32} {a2 : Int32} {fin : Int32} (h : fX8_tallyOf σ a1 a2 = some fin) : Met l yX8_tallyOf (Cond.code yX8_tallyOf cX8_tallyOf 4 (some .int) :: z_TB) (z_rm 3) (z_Pc ΛM Y σ [.ref (z_ad Y 0), .int a1, .int a2]) (z_Qi ΛM Y (fin, σ)) 0 0 (z_A ΛM Y) := by
  unfold fX8_tallyOf at h
  refine z_met [(0, .ref (z_ad Y 0)), (1, .int a1), (2, .int a2)] rfl (Nat.le_of_ble_eq_true rfl) (plainFor_of_name (by decide)) hi ?_
  intro p e s m args below meth c O hr hlk
  refine z_aload_n O dzX8_tallyOf_0 rfl 0 rfl ?_
  refine z_iload_n O dzX8_tallyOf_1 rfl 1 rfl ?_
  refine z_iload_n O dzX8_tallyOf_2 rfl 2 rfl ?_
  obtain ⟨r1, hc1, h⟩ := z_bd_at h
  refine z_callViR O (As := [.int a1, .int a2]) (rest := []) (kX8_placeOf hi hc1) mX8_placeOf tw_904 (Nat.le_of_ble_eq_true rfl) fm_obj rfl rfl rfl rfl (Nat.le_of_ble_eq_true rfl) dzX8_tallyOf_3 ?_
  refine z_istore_n O (lv' := [(3, .int r1), (0, .ref (z_ad Y 0)), (1, .int a1), (2, .int a2)]) dzX8_tallyOf_6 rfl (by decide) rfl ?_
  refine z_iload_n O dzX8_tallyOf_7 rfl 0 rfl ?_
  refine z_iconst O dzX8_tallyOf_8 hcIm1 ?_
  refine z_icmp_ne O dzX8_tallyOf_9 (fun c1 => ?_) (fun c1 => ?_)
  · have h := z_if_f c1 h
    refine z_aload_n O dzX8_tallyOf_16 rfl 1 rfl ?_
    refine z_get O z_cb8 fm_obj (v := .ref (z_ad Y 4)) 3 (Nat.le_of_ble_eq_true rfl) tw_752 rfl dzX8_tallyOf_17 ?_
    refine z_bipush O dzX8_tallyOf_20 hcB40 ?_
    refine z_iload_n O dzX8_tallyOf_22 rfl 2 rfl ?_
    refine z_imul O dzX8_tallyOf_23 ?_
    refine z_iload_n O dzX8_tallyOf_24 rfl 0 rfl ?_
    refine z_iadd O dzX8_tallyOf_25 ?_
    obtain ⟨g1, h⟩ := z_gd_at h
    refine z_iald O fm_tallies g1 dzX8_tallyOf_26 ?_
    exact z_iret O hr hlk dzX8_tallyOf_27 (z_rf h)
  · have h := z_if_t c1 h
    refine z_iconst O dzX8_tallyOf_12 hcI0 ?_
    refine z_goto O dzX8_tallyOf_13 ?_
    exact z_iret O hr hlk dzX8_tallyOf_27 (z_rf h)
def fX8_tally (σ : zS) (a1 : Int32) (a2 : Int32) : Option (Int32) :=
  (fX8_isFamily a1).bind (fun r1 => (if r1 = 0 then some (-2 : Int32) else (fX8_isSet a2).bind (fun r2 => (if r2 = 0 then some (-2 : Int32) else (fX8_tallyOf σ a1 a2).bind (fun r3 => some r3)))))
theorem kX8_tally {l : Launch} {Y : zY} (hi : z_inj ΛM Y) {σ : zS} {a1 : Int32} {a2 : Int32} {fin : Int32} (h : fX8_tally σ a1 a2 = some fin) : Met l yX8_tally (Cond.code yX8_tally cX8_tally 3 (some .int) :: z_TB) (z_rm 4) (z_Pc ΛM Y σ [.ref (z_ad Y 0), .int a1, .int a2]) (z_Qi ΛM Y (fin, σ)) 0 0 (z_A ΛM Y) := by
  unfold fX8_tally at h
  refine z_met [(0, .ref (z_ad Y 0)), (1, .int a1), (2, .int a2)] rfl (Nat.le_of_ble_eq_true rfl) (plainFor_of_name (by decide)) hi ?_
  intro p e s m args below meth c O hr hlk
  refine z_iload_n O dzX8_tally_0 rfl 1 rfl ?_
  obtain ⟨r1, hc1, h⟩ := z_bd_at h
  refine z_callSiR O (As := [.int a1]) (rest := []) (kX8_isFamily hi hc1) mX8_isFamily tw_892 (Nat.le_of_ble_eq_true rfl) rfl rfl (Nat.le_of_ble_eq_true rfl) dzX8_tally_1 ?_
  refine z_if_eq O dzX8_tally_4 (fun c2 => ?_) (fun c2 => ?_)
  · have h := z_if_t c2 h
    refine z_bipush O dzX8_tally_23 hcBm2 ?_
    exact z_iret O hr hlk dzX8_tally_25 (z_rf h)
  · have h := z_if_f c2 h
    refine z_iload_n O dzX8_tally_7 rfl 2 rfl ?_
    obtain ⟨r2, hc2, h⟩ := z_bd_at h
    refine z_callSiR O (As := [.int a2]) (rest := []) (kX8_isSet hi hc2) mX8_isSet tw_896 (Nat.le_of_ble_eq_true rfl) rfl rfl (Nat.le_of_ble_eq_true rfl) dzX8_tally_8 ?_
    refine z_if_eq O dzX8_tally_11 (fun c1 => ?_) (fun c1 => ?_)
    · have h := z_if_t c1 h
      refine z_bipush O dzX8_tally_23 hcBm2 ?_
      exact z_iret O hr hlk dzX8_tally_25 (z_rf h)
    · have h := z_if_f c1 h
      refine z_aload_n O dzX8_tally_14 rfl 0 rfl ?_
      refine z_iload_n O dzX8_tally_15 rfl 1 rfl ?_
      refine z_iload_n O dzX8_tally_16 rfl 2 rfl ?_
      obtain ⟨r3, hc3, h⟩ := z_bd_at h
      refine z_callViR O (As := [.int a1, .int a2]) (rest := []) (kX8_tallyOf hi hc3) mX8_tallyOf tw_900 (Nat.le_of_ble_eq_true rfl) fm_obj rfl rfl rfl rfl (Nat.le_of_ble_eq_true rfl) dzX8_tally_17 ?_
      refine z_goto O dzX8_tally_20 ?_
      exact z_iret O hr hlk dzX8_tally_25 (z_rf h)
def fX8_tell (σ : zS) (a1 : Int32) (a2 : Int32) : Option (Int32 × zS) :=
  (fX8_isFamily a1).bind (fun r1 => (if r1 = 0 then some ((-2 : Int32), σ) else (fX8_isSet a2).bind (fun r2 => (if r2 = 0 then some ((-2 : Int32), σ) else (fX8_tallyOf σ a1 a2).bind (fun r3 => (fX8_tells σ a1 a2).bind (fun r4 => (if r4.1 < 0 then some (r4.1, r4.2) else (if r4.1 = r3 then some (r4.1, r4.2) else (fX8_remembers r4.2 (1 : Int32) a1 a2).bind (fun r5 => some (r4.1, r5))))))))))
theorem kX8_tell {l : Launch} {Y : zY} (hi : z_inj ΛM Y) {σ : zS} {a1 : Int32} {a2 : Int32} {fin : Int32 × zS} (h : fX8_tell σ a1 a2 = some fin) : Met l yX8_tell (Cond.code yX8_tell cX8_tell 5 (some .int) :: z_TB) (z_rm 4) (z_Pc ΛM Y σ [.ref (z_ad Y 0), .int a1, .int a2]) (z_Qi ΛM Y fin) 0 0 (z_A ΛM Y) := by
  unfold fX8_tell at h
  refine z_met [(0, .ref (z_ad Y 0)), (1, .int a1), (2, .int a2)] rfl (Nat.le_of_ble_eq_true rfl) (plainFor_of_name (by decide)) hi ?_
  intro p e s m args below meth c O hr hlk
  refine z_iload_n O dzX8_tell_0 rfl 1 rfl ?_
  obtain ⟨r1, hc1, h⟩ := z_bd_at h
  refine z_callSiR O (As := [.int a1]) (rest := []) (kX8_isFamily hi hc1) mX8_isFamily tw_892 (Nat.le_of_ble_eq_true rfl) rfl rfl (Nat.le_of_ble_eq_true rfl) dzX8_tell_1 ?_
  refine z_if_eq O dzX8_tell_4 (fun c4 => ?_) (fun c4 => ?_)
  · have h := z_if_t c4 h
    refine z_bipush O dzX8_tell_14 hcBm2 ?_
    exact z_iret O hr hlk dzX8_tell_16 h
  · have h := z_if_f c4 h
    refine z_iload_n O dzX8_tell_7 rfl 2 rfl ?_
    obtain ⟨r2, hc2, h⟩ := z_bd_at h
    refine z_callSiR O (As := [.int a2]) (rest := []) (kX8_isSet hi hc2) mX8_isSet tw_896 (Nat.le_of_ble_eq_true rfl) rfl rfl (Nat.le_of_ble_eq_true rfl) dzX8_tell_8 ?_
    refine z_if_ne O dzX8_tell_11 (fun c3 => ?_) (fun c3 => ?_)
    · have h := z_if_f c3 h
      refine z_aload_n O dzX8_tell_17 rfl 0 rfl ?_
      refine z_iload_n O dzX8_tell_18 rfl 1 rfl ?_
      refine z_iload_n O dzX8_tell_19 rfl 2 rfl ?_
      obtain ⟨r3, hc3, h⟩ := z_bd_at h
      refine z_callViR O (As := [.int a1, .int a2]) (rest := []) (kX8_tallyOf hi hc3) mX8_tallyOf tw_900 (Nat.le_of_ble_eq_true rfl) fm_obj rfl rfl rfl rfl (Nat.le_of_ble_eq_true rfl) dzX8_tell_20 ?_
      refine z_istore_n O (lv' := [(3, .int r3), (0, .ref (z_ad Y 0)), (1, .int a1), (2, .int a2)]) dzX8_tell_23 rfl (by decide) rfl ?_
      refine z_aload_n O dzX8_tell_24 rfl 1 rfl ?_
      refine z_iload_n O dzX8_tell_25 rfl 2 rfl ?_
      refine z_iload_n O dzX8_tell_26 rfl 3 rfl ?_
      obtain ⟨r4, hc4, h⟩ := z_bd_at h
      refine z_callVi O (As := [.int a1, .int a2]) (rest := []) (kX8_tells hi hc4) mX8_tells tw_912 (Nat.le_of_ble_eq_true rfl) fm_obj rfl rfl rfl rfl (Nat.le_of_ble_eq_true rfl) dzX8_tell_27 ?_
      refine z_istore O (lv' := [(4, .int r4.1), (3, .int r3), (0, .ref (z_ad Y 0)), (1, .int a1), (2, .int a2)]) dzX8_tell_30 (by decide) rfl ?_
      refine z_iload O dzX8_tell_32 0 rfl ?_
      refine z_if_lt O dzX8_tell_34 (fun c2 => ?_) (fun c2 => ?_)
      · have h := z_if_t c2 h
        refine z_iload O dzX8_tell_50 0 rfl ?_
        exact z_iret O hr hlk dzX8_tell_52 h
      · have h := z_if_f c2 h
        refine z_iload O dzX8_tell_37 0 rfl ?_
        refine z_iload_n O dzX8_tell_39 rfl 1 rfl ?_
        refine z_icmp_eq O dzX8_tell_40 (fun c1 => ?_) (fun c1 => ?_)
        · have h := z_if_t c1 h
          refine z_iload O dzX8_tell_50 0 rfl ?_
          exact z_iret O hr hlk dzX8_tell_52 h
        · have h := z_if_f c1 h
          refine z_aload_n O dzX8_tell_43 rfl 2 rfl ?_
          refine z_iconst O dzX8_tell_44 hcI1 ?_
          refine z_iload_n O dzX8_tell_45 rfl 3 rfl ?_
          refine z_iload_n O dzX8_tell_46 rfl 4 rfl ?_
          obtain ⟨r5, hc5, h⟩ := z_bd_at h
          refine z_callVv O (As := [.int (1 : Int32), .int a1, .int a2]) (rest := []) (kX8_remembers hi hc5) mX8_remembers tw_880 (Nat.le_of_ble_eq_true rfl) fm_obj rfl rfl rfl rfl (Nat.le_of_ble_eq_true rfl) dzX8_tell_47 ?_
          refine z_iload O dzX8_tell_50 0 rfl ?_
          exact z_iret O hr hlk dzX8_tell_52 h
    · have h := z_if_t c3 h
      refine z_bipush O dzX8_tell_14 hcBm2 ?_
      exact z_iret O hr hlk dzX8_tell_16 h
def fX8_test (σ : zS) (a1 : Int32) (a2 : Int32) (a3 : Int32) : Option (Int32 × zS) :=
  (fX8_isFamily a1).bind (fun r1 => (if r1 = 0 then some ((-2 : Int32), σ) else (fX8_isTest a2).bind (fun r2 => (if r2 = 0 then some ((-2 : Int32), σ) else (fX8_isSet a3).bind (fun r3 => (if r3 = 0 then some ((-2 : Int32), σ) else (fX8_does σ a1 a2 a3).bind (fun r4 => (if r4.1 = 0 then some ((0 : Int32), r4.2) else some ((1 : Int32), r4.2)))))))))
theorem kX8_test {l : Launch} {Y : zY} (hi : z_inj ΛM Y) {σ : zS} {a1 : Int32} {a2 : Int32} {a3 : Int32} {fin : Int32 × zS} (h : fX8_test σ a1 a2 a3 = some fin) : Met l yX8_test (Cond.code yX8_test cX8_test 4 (some .int) :: z_TB) (z_rm 4) (z_Pc ΛM Y σ [.ref (z_ad Y 0), .int a1, .int a2, .int a3]) (z_Qi ΛM Y fin) 0 0 (z_A ΛM Y) := by
  unfold fX8_test at h
  refine z_met [(0, .ref (z_ad Y 0)), (1, .int a1), (2, .int a2), (3, .int a3)] rfl (Nat.le_of_ble_eq_true rfl) (plainFor_of_name (by decide)) hi ?_
  intro p e s m args below meth c O hr hlk
  refine z_iload_n O dzX8_test_0 rfl 1 rfl ?_
  obtain ⟨r1, hc1, h⟩ := z_bd_at h
  refine z_callSiR O (As := [.int a1]) (rest := []) (kX8_isFamily hi hc1) mX8_isFamily tw_892 (Nat.le_of_ble_eq_true rfl) rfl rfl (Nat.le_of_ble_eq_true rfl) dzX8_test_1 ?_
  refine z_if_eq O dzX8_test_4 (fun c4 => ?_) (fun c4 => ?_)
  · have h := z_if_t c4 h
    refine z_bipush O dzX8_test_21 hcBm2 ?_
    refine z_goto O dzX8_test_23 ?_
    exact z_iret O hr hlk dzX8_test_41 h
  · have h := z_if_f c4 h
    refine z_iload_n O dzX8_test_7 rfl 2 rfl ?_
    obtain ⟨r2, hc2, h⟩ := z_bd_at h
    refine z_callSiR O (As := [.int a2]) (rest := []) (kX8_isTest hi hc2) mX8_isTest tw_983 (Nat.le_of_ble_eq_true rfl) rfl rfl (Nat.le_of_ble_eq_true rfl) dzX8_test_8 ?_
    refine z_if_eq O dzX8_test_11 (fun c3 => ?_) (fun c3 => ?_)
    · have h := z_if_t c3 h
      refine z_bipush O dzX8_test_21 hcBm2 ?_
      refine z_goto O dzX8_test_23 ?_
      exact z_iret O hr hlk dzX8_test_41 h
    · have h := z_if_f c3 h
      refine z_iload_n O dzX8_test_14 rfl 3 rfl ?_
      obtain ⟨r3, hc3, h⟩ := z_bd_at h
      refine z_callSiR O (As := [.int a3]) (rest := []) (kX8_isSet hi hc3) mX8_isSet tw_896 (Nat.le_of_ble_eq_true rfl) rfl rfl (Nat.le_of_ble_eq_true rfl) dzX8_test_15 ?_
      refine z_if_ne O dzX8_test_18 (fun c2 => ?_) (fun c2 => ?_)
      · have h := z_if_f c2 h
        refine z_aload_n O dzX8_test_26 rfl 0 rfl ?_
        refine z_iload_n O dzX8_test_27 rfl 1 rfl ?_
        refine z_iload_n O dzX8_test_28 rfl 2 rfl ?_
        refine z_iload_n O dzX8_test_29 rfl 3 rfl ?_
        obtain ⟨r4, hc4, h⟩ := z_bd_at h
        refine z_callVi O (As := [.int a1, .int a2, .int a3]) (rest := []) (kX8_does hi hc4) mX8_does tw_987 (Nat.le_of_ble_eq_true rfl) fm_obj rfl rfl rfl rfl (Nat.le_of_ble_eq_true rfl) dzX8_test_30 ?_
        refine z_if_eq O dzX8_test_33 (fun c1 => ?_) (fun c1 => ?_)
        · have h := z_if_t c1 h
          refine z_iconst O dzX8_test_40 hcI0 ?_
          exact z_iret O hr hlk dzX8_test_41 h
        · have h := z_if_f c1 h
          refine z_iconst O dzX8_test_36 hcI1 ?_
          refine z_goto O dzX8_test_37 ?_
          exact z_iret O hr hlk dzX8_test_41 h
      · have h := z_if_t c2 h
        refine z_bipush O dzX8_test_21 hcBm2 ?_
        refine z_goto O dzX8_test_23 ?_
        exact z_iret O hr hlk dzX8_test_41 h
def fX8_top_L17 (σ : zS) (a1 : Int32) (k : Int32 → Int32 → Int32 → Option (Int32)) : Nat → Int32 → Int32 → Int32 → Option (Int32)
  | 0, _, _, _ => none
  | n + 1, v2, v3, v4 => (if (12 : Int32) ≤ v4 then k v2 v3 v4 else (fX8_oftenIn σ a1 v4).bind (fun r1 => (if r1 ≤ v3 then (if r1 ≤ v3 then fX8_top_L17 σ a1 k n v2 v3 (v4 + (1 : Int32)) else fX8_top_L17 σ a1 k n v2 r1 (v4 + (1 : Int32))) else (if r1 ≤ v3 then fX8_top_L17 σ a1 k n v4 v3 (v4 + (1 : Int32)) else fX8_top_L17 σ a1 k n v4 r1 (v4 + (1 : Int32))))))
theorem kX8_top_L17 {l : Launch} {Y : zY} {fin : Int32} {p : Program} {e : Env} {s : State} {m : MethodId} {args : Array Value} {below : List Frame} {meth : Method} {c : Code} {σ : zS} (O : z_ok ΛM Y p s m args c cX8_top RX8 6) (hi : z_inj ΛM Y) (hr : meth.sig.returnType = (some .int)) (hlk : meth.locks = false) {a1 : Int32} {k : Int32 → Int32 → Int32 → Option (Int32)} (hk : ∀ (z2 : Int32) (z3 : Int32) (z4 : Int32), k z2 z3 z4 = some fin → z_G p l e (z_rm 3) s m args below meth c (MQ below (z_Qi ΛM Y (fin, σ)) args s 0 0 (z_A ΛM Y)) ΛM Y 6 σ [(0, .ref (z_ad Y 0)), (1, .int a1), (2, .int z2), (3, .int z3), (4, .int z4)] 65 []) : ∀ (n : Nat) (v2 : Int32) (v3 : Int32) (v4 : Int32), fX8_top_L17 σ a1 k n v2 v3 v4 = some fin → z_G p l e (z_rm 3) s m args below meth c (MQ below (z_Qi ΛM Y (fin, σ)) args s 0 0 (z_A ΛM Y)) ΛM Y 6 σ [(0, .ref (z_ad Y 0)), (1, .int a1), (2, .int v2), (3, .int v3), (4, .int v4)] 17 [] := by
  intro n
  induction n with
  | zero =>
    intro _ _ _ h
    cases h
  | succ n ih =>
    intro v2 v3 v4 h
    rw [fX8_top_L17.eq_2] at h
    refine z_iload O dzX8_top_17 4 rfl ?_
    refine z_bipush O dzX8_top_19 hcB12 ?_
    refine z_icmp_ge O dzX8_top_21 (fun c4 => ?_) (fun c4 => ?_)
    · have h := z_if_t c4 h
      exact hk _ _ _ h
    · have h := z_if_f c4 h
      refine z_aload_n O dzX8_top_24 rfl 0 rfl ?_
      refine z_iload_n O dzX8_top_25 rfl 1 rfl ?_
      refine z_iload O dzX8_top_26 4 rfl ?_
      obtain ⟨r1, hc1, h⟩ := z_bd_at h
      refine z_callViR O (As := [.int a1, .int v4]) (rest := []) (kX8_oftenIn hi hc1) mX8_oftenIn tw_956 (Nat.le_of_ble_eq_true rfl) fm_obj rfl rfl rfl rfl (Nat.le_of_ble_eq_true rfl) dzX8_top_28 ?_
      refine z_istore O (lv' := [(5, .int r1), (0, .ref (z_ad Y 0)), (1, .int a1), (2, .int v2), (3, .int v3), (4, .int v4)]) dzX8_top_31 (by decide) rfl ?_
      refine z_iload O dzX8_top_33 0 rfl ?_
      refine z_iload_n O dzX8_top_35 rfl 4 rfl ?_
      refine z_icmp_le O dzX8_top_36 (fun c3 => ?_) (fun c3 => ?_)
      · have h := z_if_t c3 h
        refine z_iload_n O dzX8_top_44 rfl 3 rfl ?_
        refine z_istore_n O (lv' := [(2, .int v2), (5, .int r1), (0, .ref (z_ad Y 0)), (1, .int a1), (3, .int v3), (4, .int v4)]) dzX8_top_45 rfl (by decide) rfl ?_
        refine z_iload O dzX8_top_46 1 rfl ?_
        refine z_iload_n O dzX8_top_48 rfl 4 rfl ?_
        refine z_icmp_le O dzX8_top_49 (fun c1 => ?_) (fun c1 => ?_)
        · have h := z_if_t c1 h
          refine z_iload_n O dzX8_top_57 rfl 4 rfl ?_
          refine z_istore_n O (lv' := [(3, .int v3), (2, .int v2), (5, .int r1), (0, .ref (z_ad Y 0)), (1, .int a1), (4, .int v4)]) dzX8_top_58 rfl (by decide) rfl ?_
          refine z_iinc O (lv' := [(4, .int (v4 + (1 : Int32))), (3, .int v3), (2, .int v2), (5, .int r1), (0, .ref (z_ad Y 0)), (1, .int a1)]) dzX8_top_59 5 rfl (congrArg _ hcI1) (by decide) rfl ?_
          refine z_goto O dzX8_top_62 ?_
          refine z_sub [4, 5, 2, 1, 0] rfl ?_
          exact ih _ _ _ h
        · have h := z_if_f c1 h
          refine z_iload O dzX8_top_52 1 rfl ?_
          refine z_goto O dzX8_top_54 ?_
          refine z_istore_n O (lv' := [(3, .int r1), (2, .int v2), (5, .int r1), (0, .ref (z_ad Y 0)), (1, .int a1), (4, .int v4)]) dzX8_top_58 rfl (by decide) rfl ?_
          refine z_iinc O (lv' := [(4, .int (v4 + (1 : Int32))), (3, .int r1), (2, .int v2), (5, .int r1), (0, .ref (z_ad Y 0)), (1, .int a1)]) dzX8_top_59 5 rfl (congrArg _ hcI1) (by decide) rfl ?_
          refine z_goto O dzX8_top_62 ?_
          refine z_sub [4, 5, 2, 1, 0] rfl ?_
          exact ih _ _ _ h
      · have h := z_if_f c3 h
        refine z_iload O dzX8_top_39 5 rfl ?_
        refine z_goto O dzX8_top_41 ?_
        refine z_istore_n O (lv' := [(2, .int v4), (5, .int r1), (0, .ref (z_ad Y 0)), (1, .int a1), (3, .int v3), (4, .int v4)]) dzX8_top_45 rfl (by decide) rfl ?_
        refine z_iload O dzX8_top_46 1 rfl ?_
        refine z_iload_n O dzX8_top_48 rfl 4 rfl ?_
        refine z_icmp_le O dzX8_top_49 (fun c2 => ?_) (fun c2 => ?_)
        · have h := z_if_t c2 h
          refine z_iload_n O dzX8_top_57 rfl 4 rfl ?_
          refine z_istore_n O (lv' := [(3, .int v3), (2, .int v4), (5, .int r1), (0, .ref (z_ad Y 0)), (1, .int a1), (4, .int v4)]) dzX8_top_58 rfl (by decide) rfl ?_
          refine z_iinc O (lv' := [(4, .int (v4 + (1 : Int32))), (3, .int v3), (2, .int v4), (5, .int r1), (0, .ref (z_ad Y 0)), (1, .int a1)]) dzX8_top_59 5 rfl (congrArg _ hcI1) (by decide) rfl ?_
          refine z_goto O dzX8_top_62 ?_
          refine z_sub [4, 5, 2, 1, 0] rfl ?_
          exact ih _ _ _ h
        · have h := z_if_f c2 h
          refine z_iload O dzX8_top_52 1 rfl ?_
          refine z_goto O dzX8_top_54 ?_
          refine z_istore_n O (lv' := [(3, .int r1), (2, .int v4), (5, .int r1), (0, .ref (z_ad Y 0)), (1, .int a1), (4, .int v4)]) dzX8_top_58 rfl (by decide) rfl ?_
          refine z_iinc O (lv' := [(4, .int (v4 + (1 : Int32))), (3, .int r1), (2, .int v4), (5, .int r1), (0, .ref (z_ad Y 0)), (1, .int a1)]) dzX8_top_59 5 rfl (congrArg _ hcI1) (by decide) rfl ?_
          refine z_goto O dzX8_top_62 ?_
          refine z_sub [4, 5, 2, 1, 0] rfl ?_
          exact ih _ _ _ h
def fX8_top (σ : zS) (a1 : Int32) : Option (Int32) :=
  (fX8_isFamily a1).bind (fun r1 => (if r1 = 0 then some (-2 : Int32) else fX8_top_L17 σ a1 (fun (x1 : Int32) (x2 : Int32) (x3 : Int32) => some x1) z_F (-1 : Int32) (0 : Int32) (0 : Int32)))
theorem kX8_top {l : Launch} {Y : zY} (hi : z_inj ΛM Y) {σ : zS} {a1 : Int32} {fin : Int32} (h : fX8_top σ a1 = some fin) : Met l yX8_top (Cond.code yX8_top cX8_top 6 (some .int) :: z_TB) (z_rm 3) (z_Pc ΛM Y σ [.ref (z_ad Y 0), .int a1]) (z_Qi ΛM Y (fin, σ)) 0 0 (z_A ΛM Y) := by
  unfold fX8_top at h
  refine z_met [(0, .ref (z_ad Y 0)), (1, .int a1)] rfl (Nat.le_of_ble_eq_true rfl) (plainFor_of_name (by decide)) hi ?_
  intro p e s m args below meth c O hr hlk
  refine z_iload_n O dzX8_top_0 rfl 1 rfl ?_
  obtain ⟨r1, hc1, h⟩ := z_bd_at h
  refine z_callSiR O (As := [.int a1]) (rest := []) (kX8_isFamily hi hc1) mX8_isFamily tw_892 (Nat.le_of_ble_eq_true rfl) rfl rfl (Nat.le_of_ble_eq_true rfl) dzX8_top_1 ?_
  refine z_if_ne O dzX8_top_4 (fun c1 => ?_) (fun c1 => ?_)
  · have h := z_if_f c1 h
    refine z_iconst O dzX8_top_10 hcIm1 ?_
    refine z_istore_n O (lv' := [(2, .int (-1 : Int32)), (0, .ref (z_ad Y 0)), (1, .int a1)]) dzX8_top_11 rfl (by decide) rfl ?_
    refine z_iconst O dzX8_top_12 hcI0 ?_
    refine z_istore_n O (lv' := [(3, .int (0 : Int32)), (2, .int (-1 : Int32)), (0, .ref (z_ad Y 0)), (1, .int a1)]) dzX8_top_13 rfl (by decide) rfl ?_
    refine z_iconst O dzX8_top_14 hcI0 ?_
    refine z_istore O (lv' := [(4, .int (0 : Int32)), (3, .int (0 : Int32)), (2, .int (-1 : Int32)), (0, .ref (z_ad Y 0)), (1, .int a1)]) dzX8_top_15 (by decide) rfl ?_
    refine z_sub [3, 4, 2, 1, 0] rfl ?_
    refine kX8_top_L17 O hi hr hlk   (fun x1 x2 x3 h => ?_) _ _ _ _ h
    refine z_iload_n O dzX8_top_65 rfl 2 rfl ?_
    exact z_iret O hr hlk dzX8_top_66 (z_rf h)
  · have h := z_if_t c1 h
    refine z_bipush O dzX8_top_7 hcBm2 ?_
    exact z_iret O hr hlk dzX8_top_9 (z_rf h)
def fX8_tree (σ : zS) (a1 : Int32) (a2 : Int32) : Option (Int32 × zS) :=
  (fX8_isFamily a1).bind (fun r1 => (if r1 = 0 then some ((-2 : Int32), σ) else (fX8_in (a2.toInt64) (0 : Int64) (2 : Int64)).bind (fun r2 => (if r2 = 0 then some ((-2 : Int32), σ) else (fX8_findsTree σ a1 (-1 : Int32)).bind (fun r3 => (if a2 = 0 then some ((r3.1 0 20), r3) else (if a2 = (1 : Int32) then some ((r3.1 0 21), r3) else some ((r3.1 0 22), r3))))))))
theorem kX8_tree {l : Launch} {Y : zY} (hi : z_inj ΛM Y) {σ : zS} {a1 : Int32} {a2 : Int32} {fin : Int32 × zS} (h : fX8_tree σ a1 a2 = some fin) : Met l yX8_tree (Cond.code yX8_tree cX8_tree 3 (some .int) :: z_TB) (z_rm 20) (z_Pc ΛM Y σ [.ref (z_ad Y 0), .int a1, .int a2]) (z_Qi ΛM Y fin) 0 0 (z_A ΛM Y) := by
  unfold fX8_tree at h
  refine z_met [(0, .ref (z_ad Y 0)), (1, .int a1), (2, .int a2)] rfl (Nat.le_of_ble_eq_true rfl) (plainFor_of_name (by decide)) hi ?_
  intro p e s m args below meth c O hr hlk
  refine z_iload_n O dzX8_tree_0 rfl 1 rfl ?_
  obtain ⟨r1, hc1, h⟩ := z_bd_at h
  refine z_callSiR O (As := [.int a1]) (rest := []) (kX8_isFamily hi hc1) mX8_isFamily tw_892 (Nat.le_of_ble_eq_true rfl) rfl rfl (Nat.le_of_ble_eq_true rfl) dzX8_tree_1 ?_
  refine z_if_eq O dzX8_tree_4 (fun c4 => ?_) (fun c4 => ?_)
  · have h := z_if_t c4 h
    refine z_bipush O dzX8_tree_19 hcBm2 ?_
    exact z_iret O hr hlk dzX8_tree_21 h
  · have h := z_if_f c4 h
    refine z_iload_n O dzX8_tree_7 rfl 2 rfl ?_
    refine z_i2l O dzX8_tree_8 ?_
    refine z_lconst O dzX8_tree_9 (v := 0) rfl ?_
    refine z_ldc2 O tw_1035 dzX8_tree_10 ?_
    obtain ⟨r2, hc2, h⟩ := z_bd_at h
    refine z_callSiR O (As := [.long (a2.toInt64), .long (0 : Int64), .long (2 : Int64)]) (rest := []) (kX8_in hi hc2) mX8_in tw_876 (Nat.le_of_ble_eq_true rfl) rfl rfl (Nat.le_of_ble_eq_true rfl) dzX8_tree_13 ?_
    refine z_if_ne O dzX8_tree_16 (fun c3 => ?_) (fun c3 => ?_)
    · have h := z_if_f c3 h
      refine z_aload_n O dzX8_tree_22 rfl 0 rfl ?_
      refine z_iload_n O dzX8_tree_23 rfl 1 rfl ?_
      refine z_iconst O dzX8_tree_24 hcIm1 ?_
      obtain ⟨r3, hc3, h⟩ := z_bd_at h
      refine z_callVv O (As := [.int a1, .int (-1 : Int32)]) (rest := []) (kX8_findsTree hi hc3) mX8_findsTree tw_1036 (Nat.le_of_ble_eq_true rfl) fm_obj rfl rfl rfl rfl (Nat.le_of_ble_eq_true rfl) dzX8_tree_25 ?_
      refine z_iload_n O dzX8_tree_28 rfl 2 rfl ?_
      refine z_if_ne O dzX8_tree_29 (fun c2 => ?_) (fun c2 => ?_)
      · have h := z_if_f c2 h
        refine z_iload_n O dzX8_tree_39 rfl 2 rfl ?_
        refine z_iconst O dzX8_tree_40 hcI1 ?_
        refine z_icmp_ne O dzX8_tree_41 (fun c1 => ?_) (fun c1 => ?_)
        · have h := z_if_f c1 h
          refine z_aload_n O dzX8_tree_51 rfl 0 rfl ?_
          refine z_get O z_cb8 fm_obj (v := .int (r3.1 0 22)) 22 (Nat.le_of_ble_eq_true rfl) tw_771 rfl dzX8_tree_52 ?_
          exact z_iret O hr hlk dzX8_tree_55 h
        · have h := z_if_t c1 h
          refine z_aload_n O dzX8_tree_44 rfl 0 rfl ?_
          refine z_get O z_cb8 fm_obj (v := .int (r3.1 0 21)) 21 (Nat.le_of_ble_eq_true rfl) tw_770 rfl dzX8_tree_45 ?_
          refine z_goto O dzX8_tree_48 ?_
          exact z_iret O hr hlk dzX8_tree_55 h
      · have h := z_if_t c2 h
        refine z_aload_n O dzX8_tree_32 rfl 0 rfl ?_
        refine z_get O z_cb8 fm_obj (v := .int (r3.1 0 20)) 20 (Nat.le_of_ble_eq_true rfl) tw_769 rfl dzX8_tree_33 ?_
        refine z_goto O dzX8_tree_36 ?_
        exact z_iret O hr hlk dzX8_tree_55 h
    · have h := z_if_t c3 h
      refine z_bipush O dzX8_tree_19 hcBm2 ?_
      exact z_iret O hr hlk dzX8_tree_21 h
def fX8_undo (σ : zS) : Option (Int32 × zS) :=
  (if (σ.1 0 10) = 0 then some ((-1 : Int32), σ) else z_lt (z_sI σ 0 10 ((σ.1 0 10) - (1 : Int32))) (fun (w1 : zS) => z_gd (z_in (w1.1 0 10) 20) (z_lt (w1.1 11 (w1.1 0 10).toNatClampNeg) (fun (x1 : Int32) => z_gd (z_in (w1.1 0 10) 20) (z_lt (w1.1 12 (w1.1 0 10).toNatClampNeg) (fun (x2 : Int32) => z_gd (z_in (w1.1 0 10) 20) ((if (w1.1 10 (w1.1 0 10).toNatClampNeg) = 0 then z_gd (z_in x1 12) (z_lt (z_sI w1 1 x1.toNatClampNeg x2) (fun (w2 : zS) => some ((w2.1 0 10), w2))) else (if (w1.1 10 (w1.1 0 10).toNatClampNeg) = 1 then (fX8_takes w1 x1 x2).bind (fun r1 => some ((r1.2.1 0 10), r1.2)) else (fX8_tells w1 x1 x2).bind (fun r2 => some ((r2.2.1 0 10), r2.2)))))))))))
theorem kX8_undo {l : Launch} {Y : zY} (hi : z_inj ΛM Y) {σ : zS}  {fin : Int32 × zS} (h : fX8_undo σ = some fin) : Met l yX8_undo (Cond.code yX8_undo cX8_undo 3 (some .int) :: z_TB) (z_rm 4) (z_Pc ΛM Y σ [.ref (z_ad Y 0)]) (z_Qi ΛM Y fin) 0 0 (z_A ΛM Y) := by
  unfold fX8_undo at h
  refine z_met [(0, .ref (z_ad Y 0))] rfl (Nat.le_of_ble_eq_true rfl) (plainFor_of_name (by decide)) hi ?_
  intro p e s m args below meth c O hr hlk
  refine z_aload_n O dzX8_undo_0 rfl 0 rfl ?_
  refine z_get O z_cb8 fm_obj (v := .int (σ.1 0 10)) 10 (Nat.le_of_ble_eq_true rfl) tw_759 rfl dzX8_undo_1 ?_
  refine z_if_ne O dzX8_undo_4 (fun c3 => ?_) (fun c3 => ?_)
  · have h := z_if_f c3 h
    refine z_aload_n O dzX8_undo_9 rfl 0 rfl ?_
    refine z_dup O dzX8_undo_10 rfl ?_
    refine z_get O z_cb8 fm_obj (v := .int (σ.1 0 10)) 10 (Nat.le_of_ble_eq_true rfl) tw_759 rfl dzX8_undo_11 ?_
    refine z_iconst O dzX8_undo_14 hcI1 ?_
    refine z_isub O dzX8_undo_15 ?_
    refine z_put O z_cb8 fm_obj 10 (Nat.le_of_ble_eq_true rfl) tw_759 rfl rfl rfl fp_M10 dzX8_undo_16 ?_
    refine z_sig (fun w1 e1 => ?_)
    have h := z_lt_at e1 h
    refine z_aload_n O dzX8_undo_19 rfl 0 rfl ?_
    refine z_get O z_cb8 fm_obj (v := .ref (z_ad Y 11)) 12 (Nat.le_of_ble_eq_true rfl) tw_761 rfl dzX8_undo_20 ?_
    refine z_aload_n O dzX8_undo_23 rfl 0 rfl ?_
    refine z_get O z_cb8 fm_obj (v := .int (w1.1 0 10)) 10 (Nat.le_of_ble_eq_true rfl) tw_759 rfl dzX8_undo_24 ?_
    obtain ⟨g1, h⟩ := z_gd_at h
    refine z_iald O fm_actOf g1 dzX8_undo_27 ?_
    refine z_topi (fun x1 e2 => ?_)
    have h := z_lt_at e2 h
    refine z_istore_n O (lv' := [(1, .int x1), (0, .ref (z_ad Y 0))]) dzX8_undo_28 rfl (by decide) rfl ?_
    refine z_aload_n O dzX8_undo_29 rfl 1 rfl ?_
    refine z_get O z_cb8 fm_obj (v := .ref (z_ad Y 12)) 13 (Nat.le_of_ble_eq_true rfl) tw_762 rfl dzX8_undo_30 ?_
    refine z_aload_n O dzX8_undo_33 rfl 1 rfl ?_
    refine z_get O z_cb8 fm_obj (v := .int (w1.1 0 10)) 10 (Nat.le_of_ble_eq_true rfl) tw_759 rfl dzX8_undo_34 ?_
    obtain ⟨g2, h⟩ := z_gd_at h
    refine z_iald O fm_actV g2 dzX8_undo_37 ?_
    refine z_topi (fun x2 e3 => ?_)
    have h := z_lt_at e3 h
    refine z_istore_n O (lv' := [(2, .int x2), (1, .int x1), (0, .ref (z_ad Y 0))]) dzX8_undo_38 rfl (by decide) rfl ?_
    refine z_aload_n O dzX8_undo_39 rfl 2 rfl ?_
    refine z_get O z_cb8 fm_obj (v := .ref (z_ad Y 10)) 11 (Nat.le_of_ble_eq_true rfl) tw_760 rfl dzX8_undo_40 ?_
    refine z_aload_n O dzX8_undo_43 rfl 2 rfl ?_
    refine z_get O z_cb8 fm_obj (v := .int (w1.1 0 10)) 10 (Nat.le_of_ble_eq_true rfl) tw_759 rfl dzX8_undo_44 ?_
    obtain ⟨g3, h⟩ := z_gd_at h
    refine z_iald O fm_actSort g3 dzX8_undo_47 ?_
    by_cases c1 : (w1.1 10 (w1.1 0 10).toNatClampNeg) = 0
    · have h := z_if_t c1 h
      refine z_look O dzX8_undo_48 (x := (w1.1 10 (w1.1 0 10).toNatClampNeg)) (by decide) (off := 28) (by rw [c1]; rfl) (tgt := 76) rfl ?_
      refine z_aload_n O dzX8_undo_76 rfl 2 rfl ?_
      refine z_get O z_cb8 fm_obj (v := .ref (z_ad Y 1)) 0 (Nat.le_of_ble_eq_true rfl) tw_749 rfl dzX8_undo_77 ?_
      refine z_iload_n O dzX8_undo_80 rfl 1 rfl ?_
      refine z_iload_n O dzX8_undo_81 rfl 0 rfl ?_
      obtain ⟨g4, h⟩ := z_gd_at h
      refine z_iast O fm_price g4 dzX8_undo_82 ?_
      refine z_sig (fun w2 e4 => ?_)
      have h := z_lt_at e4 h
      refine z_aload_n O dzX8_undo_83 rfl 2 rfl ?_
      refine z_get O z_cb8 fm_obj (v := .int (w2.1 0 10)) 10 (Nat.le_of_ble_eq_true rfl) tw_759 rfl dzX8_undo_84 ?_
      exact z_iret O hr hlk dzX8_undo_87 h
    have h := z_if_f c1 h
    by_cases c2 : (w1.1 10 (w1.1 0 10).toNatClampNeg) = 1
    · have h := z_if_t c2 h
      refine z_look O dzX8_undo_48 (x := (w1.1 10 (w1.1 0 10).toNatClampNeg)) (by decide) (off := 40) (by rw [c2]; rfl) (tgt := 88) rfl ?_
      refine z_aload_n O dzX8_undo_88 rfl 2 rfl ?_
      refine z_iload_n O dzX8_undo_89 rfl 1 rfl ?_
      refine z_iload_n O dzX8_undo_90 rfl 0 rfl ?_
      obtain ⟨r1, hc1, h⟩ := z_bd_at h
      refine z_callVi O (As := [.int x1, .int x2]) (rest := []) (kX8_takes hi hc1) mX8_takes tw_920 (Nat.le_of_ble_eq_true rfl) fm_obj rfl rfl rfl rfl (Nat.le_of_ble_eq_true rfl) dzX8_undo_91 ?_
      refine z_pop O dzX8_undo_94 rfl ?_
      refine z_aload_n O dzX8_undo_95 rfl 2 rfl ?_
      refine z_get O z_cb8 fm_obj (v := .int (r1.2.1 0 10)) 10 (Nat.le_of_ble_eq_true rfl) tw_759 rfl dzX8_undo_96 ?_
      exact z_iret O hr hlk dzX8_undo_99 h
    have h := z_if_f c2 h
    refine z_look O dzX8_undo_48 (x := (w1.1 10 (w1.1 0 10).toNatClampNeg)) (by decide) (off := 52) (by show Op.lookupswitch.offset [(0, 28), (1, 40)] 52 _ = _; rw [lv_osw (k := 0) (a := 0) c1 rfl]; rw [lv_osw (k := 1) (a := 1) c2 rfl]; rfl) (tgt := 100) rfl ?_
    refine z_aload_n O dzX8_undo_100 rfl 2 rfl ?_
    refine z_iload_n O dzX8_undo_101 rfl 1 rfl ?_
    refine z_iload_n O dzX8_undo_102 rfl 0 rfl ?_
    obtain ⟨r2, hc2, h⟩ := z_bd_at h
    refine z_callVi O (As := [.int x1, .int x2]) (rest := []) (kX8_tells hi hc2) mX8_tells tw_912 (Nat.le_of_ble_eq_true rfl) fm_obj rfl rfl rfl rfl (Nat.le_of_ble_eq_true rfl) dzX8_undo_103 ?_
    refine z_pop O dzX8_undo_106 rfl ?_
    refine z_aload_n O dzX8_undo_107 rfl 2 rfl ?_
    refine z_get O z_cb8 fm_obj (v := .int (r2.2.1 0 10)) 10 (Nat.le_of_ble_eq_true rfl) tw_759 rfl dzX8_undo_108 ?_
    exact z_iret O hr hlk dzX8_undo_111 h
  · have h := z_if_t c3 h
    refine z_iconst O dzX8_undo_7 hcIm1 ?_
    exact z_iret O hr hlk dzX8_undo_8 h
def fX8_unpacks_L55 (a1 : Int32) (a2 : Int32) (a3 : Int32) (k : zS → Int32 → Int32 → Option (Int32 × zS)) : Nat → zS → Int32 → Int32 → Option (Int32 × zS)
  | 0, _, _, _ => none
  | n + 1, σ, v5, v6 => (if a3 ≤ v6 then k σ v5 v6 else z_gd (z_nz (5 : Int32)) (z_gd (z_in a1 4) ((if (v6 / (5 : Int32)) < (σ.1 20 a1.toNatClampNeg) then z_gd (z_nz (5 : Int32)) (z_gd (z_in (((40 : Int32) * a1) + (v6 / (5 : Int32))) 160) (z_gd (z_nz (5 : Int32)) (z_lt ((((σ.2 21 (((40 : Int32) * a1) + (v6 / (5 : Int32))).toNatClampNeg).toUInt64 >>> (((12 : Int32) * (v6 - v6 / (5 : Int32) * (5 : Int32))).toInt64.toUInt64 &&& Int64.toUInt64 63)).toInt64).toInt32 &&& (4095 : Int32)) (fun (x1 : Int32) => (fX8_tells σ a2 x1).bind (fun r1 => (if 0 ≤ r1.1 then z_lt (v5 + (1 : Int32)) (fun (x2 : Int32) => fX8_unpacks_L55 a1 a2 a3 k n r1.2 x2 (v6 + (1 : Int32))) else z_lt (v5 + (0 : Int32)) (fun (x3 : Int32) => fX8_unpacks_L55 a1 a2 a3 k n r1.2 x3 (v6 + (1 : Int32))))))))) else some ((-12 : Int32), σ)))))
theorem kX8_unpacks_L55 {l : Launch} {Y : zY} {fin : Int32 × zS} {p : Program} {e : Env} {s : State} {m : MethodId} {args : Array Value} {below : List Frame} {meth : Method} {c : Code} (O : z_ok ΛM Y p s m args c cX8_unpacks RX8 8) (hi : z_inj ΛM Y) (hr : meth.sig.returnType = (some .int)) (hlk : meth.locks = false) {a1 : Int32} {a2 : Int32} {a3 : Int32} {k : zS → Int32 → Int32 → Option (Int32 × zS)} (hk : ∀ (w : zS) (z5 : Int32) (z6 : Int32), k w z5 z6 = some fin → z_G p l e (z_rm 4) s m args below meth c (MQ below (z_Qi ΛM Y fin) args s 0 0 (z_A ΛM Y)) ΛM Y 8 w [(0, .ref (z_ad Y 0)), (1, .int a1), (2, .int a2), (3, .int a3), (5, .int z5), (6, .int z6)] 132 []) : ∀ (n : Nat) (σ : zS) (v5 : Int32) (v6 : Int32), fX8_unpacks_L55 a1 a2 a3 k n σ v5 v6 = some fin → z_G p l e (z_rm 4) s m args below meth c (MQ below (z_Qi ΛM Y fin) args s 0 0 (z_A ΛM Y)) ΛM Y 8 σ [(0, .ref (z_ad Y 0)), (1, .int a1), (2, .int a2), (3, .int a3), (5, .int v5), (6, .int v6)] 55 [] := by
  intro n
  induction n with
  | zero =>
    intro _ _ _ h
    cases h
  | succ n ih =>
    intro σ v5 v6 h
    rw [fX8_unpacks_L55.eq_2] at h
    refine z_iload O dzX8_unpacks_55 5 rfl ?_
    refine z_iload_n O dzX8_unpacks_57 rfl 3 rfl ?_
    refine z_icmp_ge O dzX8_unpacks_58 (fun c3 => ?_) (fun c3 => ?_)
    · have h := z_if_t c3 h
      exact hk _ _ _ h
    · have h := z_if_f c3 h
      refine z_iload O dzX8_unpacks_61 5 rfl ?_
      refine z_iconst O dzX8_unpacks_63 hcI5 ?_
      obtain ⟨g1, h⟩ := z_gd_at h
      refine z_idiv O dzX8_unpacks_64 (z_nz_n g1) ?_
      refine z_aload_n O dzX8_unpacks_65 rfl 0 rfl ?_
      refine z_get O z_cb8 fm_obj (v := .ref (z_ad Y 20)) 31 (Nat.le_of_ble_eq_true rfl) tw_780 rfl dzX8_unpacks_66 ?_
      refine z_iload_n O dzX8_unpacks_69 rfl 1 rfl ?_
      obtain ⟨g2, h⟩ := z_gd_at h
      refine z_iald O fm_long0 g2 dzX8_unpacks_70 ?_
      refine z_icmp_lt O dzX8_unpacks_71 (fun c2 => ?_) (fun c2 => ?_)
      · have h := z_if_t c2 h
        refine z_aload_n O dzX8_unpacks_77 rfl 0 rfl ?_
        refine z_get O z_cb8 fm_obj (v := .ref (z_ad Y 21)) 32 (Nat.le_of_ble_eq_true rfl) tw_781 rfl dzX8_unpacks_78 ?_
        refine z_bipush O dzX8_unpacks_81 hcB40 ?_
        refine z_iload_n O dzX8_unpacks_83 rfl 1 rfl ?_
        refine z_imul O dzX8_unpacks_84 ?_
        refine z_iload O dzX8_unpacks_85 5 rfl ?_
        refine z_iconst O dzX8_unpacks_87 hcI5 ?_
        obtain ⟨g3, h⟩ := z_gd_at h
        refine z_idiv O dzX8_unpacks_88 (z_nz_n g3) ?_
        refine z_iadd O dzX8_unpacks_89 ?_
        obtain ⟨g4, h⟩ := z_gd_at h
        refine z_lald O fm_cells g4 dzX8_unpacks_90 ?_
        refine z_bipush O dzX8_unpacks_91 hcB12 ?_
        refine z_iload O dzX8_unpacks_93 5 rfl ?_
        refine z_iconst O dzX8_unpacks_95 hcI5 ?_
        obtain ⟨g5, h⟩ := z_gd_at h
        refine z_irem O dzX8_unpacks_96 (z_nz_n g5) ?_
        refine z_imul O dzX8_unpacks_97 ?_
        refine z_lushr O dzX8_unpacks_98 ?_
        refine z_l2i O dzX8_unpacks_99 ?_
        refine z_sipush O dzX8_unpacks_100 hcS4095 ?_
        refine z_iand O dzX8_unpacks_103 ?_
        refine z_topi (fun x1 e1 => ?_)
        have h := z_lt_at e1 h
        refine z_istore O (lv' := [(7, .int x1), (0, .ref (z_ad Y 0)), (1, .int a1), (2, .int a2), (3, .int a3), (5, .int v5), (6, .int v6)]) dzX8_unpacks_104 (by decide) rfl ?_
        refine z_iload O dzX8_unpacks_106 5 rfl ?_
        refine z_aload_n O dzX8_unpacks_108 rfl 1 rfl ?_
        refine z_iload_n O dzX8_unpacks_109 rfl 3 rfl ?_
        refine z_iload O dzX8_unpacks_110 0 rfl ?_
        obtain ⟨r1, hc1, h⟩ := z_bd_at h
        refine z_callVi O (As := [.int a2, .int x1]) (rest := [.int v5]) (kX8_tells hi hc1) mX8_tells tw_912 (Nat.le_of_ble_eq_true rfl) fm_obj rfl rfl rfl rfl (Nat.le_of_ble_eq_true rfl) dzX8_unpacks_112 ?_
        refine z_if_ge O dzX8_unpacks_115 (fun c1 => ?_) (fun c1 => ?_)
        · have h := z_if_t c1 h
          refine z_iconst O dzX8_unpacks_122 hcI1 ?_
          refine z_iadd O dzX8_unpacks_123 ?_
          refine z_topi (fun x2 e2 => ?_)
          have h := z_lt_at e2 h
          refine z_istore O (lv' := [(5, .int x2), (7, .int x1), (0, .ref (z_ad Y 0)), (1, .int a1), (2, .int a2), (3, .int a3), (6, .int v6)]) dzX8_unpacks_124 (by decide) rfl ?_
          refine z_iinc O (lv' := [(6, .int (v6 + (1 : Int32))), (5, .int x2), (7, .int x1), (0, .ref (z_ad Y 0)), (1, .int a1), (2, .int a2), (3, .int a3)]) dzX8_unpacks_126 6 rfl (congrArg _ hcI1) (by decide) rfl ?_
          refine z_goto O dzX8_unpacks_129 ?_
          refine z_sub [3, 4, 5, 6, 1, 0] rfl ?_
          exact ih _ _ _ h
        · have h := z_if_f c1 h
          refine z_iconst O dzX8_unpacks_118 hcI0 ?_
          refine z_goto O dzX8_unpacks_119 ?_
          refine z_iadd O dzX8_unpacks_123 ?_
          refine z_topi (fun x3 e3 => ?_)
          have h := z_lt_at e3 h
          refine z_istore O (lv' := [(5, .int x3), (7, .int x1), (0, .ref (z_ad Y 0)), (1, .int a1), (2, .int a2), (3, .int a3), (6, .int v6)]) dzX8_unpacks_124 (by decide) rfl ?_
          refine z_iinc O (lv' := [(6, .int (v6 + (1 : Int32))), (5, .int x3), (7, .int x1), (0, .ref (z_ad Y 0)), (1, .int a1), (2, .int a2), (3, .int a3)]) dzX8_unpacks_126 6 rfl (congrArg _ hcI1) (by decide) rfl ?_
          refine z_goto O dzX8_unpacks_129 ?_
          refine z_sub [3, 4, 5, 6, 1, 0] rfl ?_
          exact ih _ _ _ h
      · have h := z_if_f c2 h
        refine z_bipush O dzX8_unpacks_74 hcBm12 ?_
        exact z_iret O hr hlk dzX8_unpacks_76 h
def fX8_unpacks (σ : zS) (a1 : Int32) (a2 : Int32) (a3 : Int32) : Option (Int32 × zS) :=
  (fX8_isSheet a1).bind (fun r1 => (if r1 = 0 then some ((-2 : Int32), σ) else (fX8_isFamily a2).bind (fun r2 => (if r2 = 0 then some ((-2 : Int32), σ) else (fX8_in (a3.toInt64) (0 : Int64) (200 : Int64)).bind (fun r3 => (if r3 = 0 then some ((-2 : Int32), σ) else (fX8_noLongs σ a1).bind (fun r4 => (if r4 = 0 then z_lt (z_sI σ 0 10 (0 : Int32)) (fun (w1 : zS) => fX8_unpacks_L55 a1 a2 a3 (fun (w2 : zS) (x1 : Int32) (x2 : Int32) => some (x1, w2)) z_F w1 (0 : Int32) (0 : Int32)) else some (r4, σ)))))))))
theorem kX8_unpacks {l : Launch} {Y : zY} (hi : z_inj ΛM Y) {σ : zS} {a1 : Int32} {a2 : Int32} {a3 : Int32} {fin : Int32 × zS} (h : fX8_unpacks σ a1 a2 a3 = some fin) : Met l yX8_unpacks (Cond.code yX8_unpacks cX8_unpacks 8 (some .int) :: z_TB) (z_rm 4) (z_Pc ΛM Y σ [.ref (z_ad Y 0), .int a1, .int a2, .int a3]) (z_Qi ΛM Y fin) 0 0 (z_A ΛM Y) := by
  unfold fX8_unpacks at h
  refine z_met [(0, .ref (z_ad Y 0)), (1, .int a1), (2, .int a2), (3, .int a3)] rfl (Nat.le_of_ble_eq_true rfl) (plainFor_of_name (by decide)) hi ?_
  intro p e s m args below meth c O hr hlk
  refine z_iload_n O dzX8_unpacks_0 rfl 1 rfl ?_
  obtain ⟨r1, hc1, h⟩ := z_bd_at h
  refine z_callSiR O (As := [.int a1]) (rest := []) (kX8_isSheet hi hc1) mX8_isSheet tw_1144 (Nat.le_of_ble_eq_true rfl) rfl rfl (Nat.le_of_ble_eq_true rfl) dzX8_unpacks_1 ?_
  refine z_if_eq O dzX8_unpacks_4 (fun c4 => ?_) (fun c4 => ?_)
  · have h := z_if_t c4 h
    refine z_bipush O dzX8_unpacks_26 hcBm2 ?_
    exact z_iret O hr hlk dzX8_unpacks_28 h
  · have h := z_if_f c4 h
    refine z_iload_n O dzX8_unpacks_7 rfl 2 rfl ?_
    obtain ⟨r2, hc2, h⟩ := z_bd_at h
    refine z_callSiR O (As := [.int a2]) (rest := []) (kX8_isFamily hi hc2) mX8_isFamily tw_892 (Nat.le_of_ble_eq_true rfl) rfl rfl (Nat.le_of_ble_eq_true rfl) dzX8_unpacks_8 ?_
    refine z_if_eq O dzX8_unpacks_11 (fun c3 => ?_) (fun c3 => ?_)
    · have h := z_if_t c3 h
      refine z_bipush O dzX8_unpacks_26 hcBm2 ?_
      exact z_iret O hr hlk dzX8_unpacks_28 h
    · have h := z_if_f c3 h
      refine z_iload_n O dzX8_unpacks_14 rfl 3 rfl ?_
      refine z_i2l O dzX8_unpacks_15 ?_
      refine z_lconst O dzX8_unpacks_16 (v := 0) rfl ?_
      refine z_ldc2 O tw_1174 dzX8_unpacks_17 ?_
      obtain ⟨r3, hc3, h⟩ := z_bd_at h
      refine z_callSiR O (As := [.long (a3.toInt64), .long (0 : Int64), .long (200 : Int64)]) (rest := []) (kX8_in hi hc3) mX8_in tw_876 (Nat.le_of_ble_eq_true rfl) rfl rfl (Nat.le_of_ble_eq_true rfl) dzX8_unpacks_20 ?_
      refine z_if_ne O dzX8_unpacks_23 (fun c2 => ?_) (fun c2 => ?_)
      · have h := z_if_f c2 h
        refine z_aload_n O dzX8_unpacks_29 rfl 0 rfl ?_
        refine z_iload_n O dzX8_unpacks_30 rfl 1 rfl ?_
        obtain ⟨r4, hc4, h⟩ := z_bd_at h
        refine z_callViR O (As := [.int a1]) (rest := []) (kX8_noLongs hi hc4) mX8_noLongs tw_1164 (Nat.le_of_ble_eq_true rfl) fm_obj rfl rfl rfl rfl (Nat.le_of_ble_eq_true rfl) dzX8_unpacks_31 ?_
        refine z_istore O (lv' := [(4, .int r4), (0, .ref (z_ad Y 0)), (1, .int a1), (2, .int a2), (3, .int a3)]) dzX8_unpacks_34 (by decide) rfl ?_
        refine z_iload O dzX8_unpacks_36 0 rfl ?_
        refine z_if_eq O dzX8_unpacks_38 (fun c1 => ?_) (fun c1 => ?_)
        · have h := z_if_t c1 h
          refine z_aload_n O dzX8_unpacks_44 rfl 1 rfl ?_
          refine z_iconst O dzX8_unpacks_45 hcI0 ?_
          refine z_put O z_cb8 fm_obj 10 (Nat.le_of_ble_eq_true rfl) tw_759 rfl rfl rfl fp_M10 dzX8_unpacks_46 ?_
          refine z_sig (fun w1 e1 => ?_)
          have h := z_lt_at e1 h
          refine z_iconst O dzX8_unpacks_49 hcI0 ?_
          refine z_istore O (lv' := [(5, .int (0 : Int32)), (4, .int r4), (0, .ref (z_ad Y 0)), (1, .int a1), (2, .int a2), (3, .int a3)]) dzX8_unpacks_50 (by decide) rfl ?_
          refine z_iconst O dzX8_unpacks_52 hcI0 ?_
          refine z_istore O (lv' := [(6, .int (0 : Int32)), (5, .int (0 : Int32)), (4, .int r4), (0, .ref (z_ad Y 0)), (1, .int a1), (2, .int a2), (3, .int a3)]) dzX8_unpacks_53 (by decide) rfl ?_
          refine z_sub [3, 4, 5, 6, 1, 0] rfl ?_
          refine kX8_unpacks_L55 O hi hr hlk   (fun w2 x1 x2 h => ?_) _ _ _ _ h
          refine z_iload O dzX8_unpacks_132 4 rfl ?_
          exact z_iret O hr hlk dzX8_unpacks_134 h
        · have h := z_if_f c1 h
          refine z_iload O dzX8_unpacks_41 0 rfl ?_
          exact z_iret O hr hlk dzX8_unpacks_43 h
      · have h := z_if_t c2 h
        refine z_bipush O dzX8_unpacks_26 hcBm2 ?_
        exact z_iret O hr hlk dzX8_unpacks_28 h
def fX8_verdict_L44 (σ : zS) (a2 : Int32) (a3 : Int32) (a4 : Int32) (k : Int32 → Option (Int32 × zS)) : Nat → Int32 → Option (Int32 × zS)
  | 0, _ => none
  | n + 1, v5 => z_gd (z_in a2 4) ((if (σ.1 2 a2.toNatClampNeg) ≤ v5 then k v5 else (fX8_setOf σ a2 v5).bind (fun r1 => (fX8_hits σ r1).bind (fun r2 => (if a4 ≤ r2 then fX8_verdict_L44 σ a2 a3 a4 k n (v5 + (1 : Int32)) else (if a3 = 0 then some (a4, σ) else (fX8_setOf σ a2 v5).bind (fun r3 => some (r3, σ))))))))
theorem kX8_verdict_L44 {l : Launch} {Y : zY} {fin : Int32 × zS} {p : Program} {e : Env} {s : State} {m : MethodId} {args : Array Value} {below : List Frame} {meth : Method} {c : Code} {σ : zS} (O : z_ok ΛM Y p s m args c cX8_verdict RX8 6) (hi : z_inj ΛM Y) (hr : meth.sig.returnType = (some .int)) (hlk : meth.locks = false) {a2 : Int32} {a3 : Int32} {a4 : Int32} {k : Int32 → Option (Int32 × zS)} (hk : ∀ (z5 : Int32), k z5 = some fin → z_G p l e (z_rm 4) s m args below meth c (MQ below (z_Qi ΛM Y fin) args s 0 0 (z_A ΛM Y)) ΛM Y 6 σ [(0, .ref (z_ad Y 0)), (2, .int a2), (3, .int a3), (4, .int a4), (5, .int z5)] 94 []) : ∀ (n : Nat) (v5 : Int32), fX8_verdict_L44 σ a2 a3 a4 k n v5 = some fin → z_G p l e (z_rm 4) s m args below meth c (MQ below (z_Qi ΛM Y fin) args s 0 0 (z_A ΛM Y)) ΛM Y 6 σ [(0, .ref (z_ad Y 0)), (2, .int a2), (3, .int a3), (4, .int a4), (5, .int v5)] 44 [] := by
  intro n
  induction n with
  | zero =>
    intro _ h
    cases h
  | succ n ih =>
    intro v5 h
    rw [fX8_verdict_L44.eq_2] at h
    refine z_iload O dzX8_verdict_44 4 rfl ?_
    refine z_aload_n O dzX8_verdict_46 rfl 0 rfl ?_
    refine z_get O z_cb8 fm_obj (v := .ref (z_ad Y 2)) 1 (Nat.le_of_ble_eq_true rfl) tw_750 rfl dzX8_verdict_47 ?_
    refine z_iload_n O dzX8_verdict_50 rfl 1 rfl ?_
    obtain ⟨g1, h⟩ := z_gd_at h
    refine z_iald O fm_sizes g1 dzX8_verdict_51 ?_
    refine z_icmp_ge O dzX8_verdict_52 (fun c3 => ?_) (fun c3 => ?_)
    · have h := z_if_t c3 h
      exact hk _ h
    · have h := z_if_f c3 h
      refine z_aload_n O dzX8_verdict_55 rfl 0 rfl ?_
      refine z_aload_n O dzX8_verdict_56 rfl 0 rfl ?_
      refine z_iload_n O dzX8_verdict_57 rfl 1 rfl ?_
      refine z_iload O dzX8_verdict_58 4 rfl ?_
      obtain ⟨r1, hc1, h⟩ := z_bd_at h
      refine z_callViR O (As := [.int a2, .int v5]) (rest := [.ref (z_ad Y 0)]) (kX8_setOf hi hc1) mX8_setOf tw_908 (Nat.le_of_ble_eq_true rfl) fm_obj rfl rfl rfl rfl (Nat.le_of_ble_eq_true rfl) dzX8_verdict_60 ?_
      obtain ⟨r2, hc2, h⟩ := z_bd_at h
      refine z_callViR O (As := [.int r1]) (rest := []) (kX8_hits hi hc2) mX8_hits tw_995 (Nat.le_of_ble_eq_true rfl) fm_obj rfl rfl rfl rfl (Nat.le_of_ble_eq_true rfl) dzX8_verdict_63 ?_
      refine z_iload O dzX8_verdict_66 3 rfl ?_
      refine z_icmp_ge O dzX8_verdict_68 (fun c2 => ?_) (fun c2 => ?_)
      · have h := z_if_t c2 h
        refine z_iinc O (lv' := [(5, .int (v5 + (1 : Int32))), (0, .ref (z_ad Y 0)), (2, .int a2), (3, .int a3), (4, .int a4)]) dzX8_verdict_88 4 rfl (congrArg _ hcI1) (by decide) rfl ?_
        refine z_goto O dzX8_verdict_91 ?_
        refine z_sub [1, 2, 3, 4, 0] rfl ?_
        exact ih _ h
      · have h := z_if_f c2 h
        refine z_iload_n O dzX8_verdict_71 rfl 2 rfl ?_
        refine z_if_ne O dzX8_verdict_72 (fun c1 => ?_) (fun c1 => ?_)
        · have h := z_if_f c1 h
          refine z_aload_n O dzX8_verdict_80 rfl 0 rfl ?_
          refine z_iload_n O dzX8_verdict_81 rfl 1 rfl ?_
          refine z_iload O dzX8_verdict_82 4 rfl ?_
          obtain ⟨r3, hc3, h⟩ := z_bd_at h
          refine z_callViR O (As := [.int a2, .int v5]) (rest := []) (kX8_setOf hi hc3) mX8_setOf tw_908 (Nat.le_of_ble_eq_true rfl) fm_obj rfl rfl rfl rfl (Nat.le_of_ble_eq_true rfl) dzX8_verdict_84 ?_
          exact z_iret O hr hlk dzX8_verdict_87 h
        · have h := z_if_t c1 h
          refine z_iload O dzX8_verdict_75 3 rfl ?_
          refine z_goto O dzX8_verdict_77 ?_
          exact z_iret O hr hlk dzX8_verdict_87 h
def fX8_verdict_L35 (σ : zS) (a2 : Int32) (a3 : Int32) (k : Int32 → Option (Int32 × zS)) : Nat → Int32 → Option (Int32 × zS)
  | 0, _ => none
  | n + 1, v4 => (if (3 : Int32) ≤ v4 then k v4 else fX8_verdict_L44 σ a2 a3 v4 (fun (x1 : Int32) => fX8_verdict_L35 σ a2 a3 k n (v4 + (1 : Int32))) z_F (0 : Int32))
theorem kX8_verdict_L35 {l : Launch} {Y : zY} {fin : Int32 × zS} {p : Program} {e : Env} {s : State} {m : MethodId} {args : Array Value} {below : List Frame} {meth : Method} {c : Code} {σ : zS} (O : z_ok ΛM Y p s m args c cX8_verdict RX8 6) (hi : z_inj ΛM Y) (hr : meth.sig.returnType = (some .int)) (hlk : meth.locks = false) {a2 : Int32} {a3 : Int32} {k : Int32 → Option (Int32 × zS)} (hk : ∀ (z4 : Int32), k z4 = some fin → z_G p l e (z_rm 4) s m args below meth c (MQ below (z_Qi ΛM Y fin) args s 0 0 (z_A ΛM Y)) ΛM Y 6 σ [(0, .ref (z_ad Y 0)), (2, .int a2), (3, .int a3), (4, .int z4)] 100 []) : ∀ (n : Nat) (v4 : Int32), fX8_verdict_L35 σ a2 a3 k n v4 = some fin → z_G p l e (z_rm 4) s m args below meth c (MQ below (z_Qi ΛM Y fin) args s 0 0 (z_A ΛM Y)) ΛM Y 6 σ [(0, .ref (z_ad Y 0)), (2, .int a2), (3, .int a3), (4, .int v4)] 35 [] := by
  intro n
  induction n with
  | zero =>
    intro _ h
    cases h
  | succ n ih =>
    intro v4 h
    rw [fX8_verdict_L35.eq_2] at h
    refine z_iload O dzX8_verdict_35 3 rfl ?_
    refine z_iconst O dzX8_verdict_37 hcI3 ?_
    refine z_icmp_ge O dzX8_verdict_38 (fun c1 => ?_) (fun c1 => ?_)
    · have h := z_if_t c1 h
      exact hk _ h
    · have h := z_if_f c1 h
      refine z_iconst O dzX8_verdict_41 hcI0 ?_
      refine z_istore O (lv' := [(5, .int (0 : Int32)), (0, .ref (z_ad Y 0)), (2, .int a2), (3, .int a3), (4, .int v4)]) dzX8_verdict_42 (by decide) rfl ?_
      refine z_sub [1, 2, 3, 4, 0] rfl ?_
      refine kX8_verdict_L44 O hi hr hlk   (fun x1 h => ?_) _ _ h
      refine z_iinc O (lv' := [(4, .int (v4 + (1 : Int32))), (0, .ref (z_ad Y 0)), (2, .int a2), (3, .int a3), (5, .int x1)]) dzX8_verdict_94 3 rfl (congrArg _ hcI1) (by decide) rfl ?_
      refine z_goto O dzX8_verdict_97 ?_
      refine z_sub [1, 2, 3, 0] rfl ?_
      exact ih _ h
def fX8_verdict_L103 (σ : zS) (a2 : Int32) (a3 : Int32) (k : Int32 → Option (Int32 × zS)) : Nat → Int32 → Option (Int32 × zS)
  | 0, _ => none
  | n + 1, v4 => (if (σ.1 0 18) ≤ v4 then k v4 else z_gd (z_in v4 4096) ((fX8_placeOf σ a2 (σ.1 15 v4.toNatClampNeg)).bind (fun r1 => (if r1 = (-1 : Int32) then (if a3 = 0 then some ((3 : Int32), σ) else z_gd (z_in v4 4096) (some ((σ.1 15 v4.toNatClampNeg), σ))) else fX8_verdict_L103 σ a2 a3 k n (v4 + (1 : Int32))))))
theorem kX8_verdict_L103 {l : Launch} {Y : zY} {fin : Int32 × zS} {p : Program} {e : Env} {s : State} {m : MethodId} {args : Array Value} {below : List Frame} {meth : Method} {c : Code} {σ : zS} (O : z_ok ΛM Y p s m args c cX8_verdict RX8 6) (hi : z_inj ΛM Y) (hr : meth.sig.returnType = (some .int)) (hlk : meth.locks = false) {a2 : Int32} {a3 : Int32} {k : Int32 → Option (Int32 × zS)} (hk : ∀ (z4 : Int32), k z4 = some fin → z_G p l e (z_rm 4) s m args below meth c (MQ below (z_Qi ΛM Y fin) args s 0 0 (z_A ΛM Y)) ΛM Y 6 σ [(0, .ref (z_ad Y 0)), (2, .int a2), (3, .int a3), (4, .int z4)] 150 []) : ∀ (n : Nat) (v4 : Int32), fX8_verdict_L103 σ a2 a3 k n v4 = some fin → z_G p l e (z_rm 4) s m args below meth c (MQ below (z_Qi ΛM Y fin) args s 0 0 (z_A ΛM Y)) ΛM Y 6 σ [(0, .ref (z_ad Y 0)), (2, .int a2), (3, .int a3), (4, .int v4)] 103 [] := by
  intro n
  induction n with
  | zero =>
    intro _ h
    cases h
  | succ n ih =>
    intro v4 h
    rw [fX8_verdict_L103.eq_2] at h
    refine z_iload O dzX8_verdict_103 3 rfl ?_
    refine z_aload_n O dzX8_verdict_105 rfl 0 rfl ?_
    refine z_get O z_cb8 fm_obj (v := .int (σ.1 0 18)) 18 (Nat.le_of_ble_eq_true rfl) tw_767 rfl dzX8_verdict_106 ?_
    refine z_icmp_ge O dzX8_verdict_109 (fun c3 => ?_) (fun c3 => ?_)
    · have h := z_if_t c3 h
      exact hk _ h
    · have h := z_if_f c3 h
      refine z_aload_n O dzX8_verdict_112 rfl 0 rfl ?_
      refine z_iload_n O dzX8_verdict_113 rfl 1 rfl ?_
      refine z_aload_n O dzX8_verdict_114 rfl 0 rfl ?_
      refine z_get O z_cb8 fm_obj (v := .ref (z_ad Y 15)) 17 (Nat.le_of_ble_eq_true rfl) tw_766 rfl dzX8_verdict_115 ?_
      refine z_iload O dzX8_verdict_118 3 rfl ?_
      obtain ⟨g1, h⟩ := z_gd_at h
      refine z_iald O fm_least g1 dzX8_verdict_120 ?_
      obtain ⟨r1, hc1, h⟩ := z_bd_at h
      refine z_callViR O (As := [.int a2, .int (σ.1 15 v4.toNatClampNeg)]) (rest := []) (kX8_placeOf hi hc1) mX8_placeOf tw_904 (Nat.le_of_ble_eq_true rfl) fm_obj rfl rfl rfl rfl (Nat.le_of_ble_eq_true rfl) dzX8_verdict_121 ?_
      refine z_iconst O dzX8_verdict_124 hcIm1 ?_
      refine z_icmp_ne O dzX8_verdict_125 (fun c2 => ?_) (fun c2 => ?_)
      · have h := z_if_f c2 h
        refine z_iinc O (lv' := [(4, .int (v4 + (1 : Int32))), (0, .ref (z_ad Y 0)), (2, .int a2), (3, .int a3)]) dzX8_verdict_144 3 rfl (congrArg _ hcI1) (by decide) rfl ?_
        refine z_goto O dzX8_verdict_147 ?_
        refine z_sub [1, 2, 3, 0] rfl ?_
        exact ih _ h
      · have h := z_if_t c2 h
        refine z_iload_n O dzX8_verdict_128 rfl 2 rfl ?_
        refine z_if_ne O dzX8_verdict_129 (fun c1 => ?_) (fun c1 => ?_)
        · have h := z_if_f c1 h
          refine z_aload_n O dzX8_verdict_136 rfl 0 rfl ?_
          refine z_get O z_cb8 fm_obj (v := .ref (z_ad Y 15)) 17 (Nat.le_of_ble_eq_true rfl) tw_766 rfl dzX8_verdict_137 ?_
          refine z_iload O dzX8_verdict_140 3 rfl ?_
          obtain ⟨g2, h⟩ := z_gd_at h
          refine z_iald O fm_least g2 dzX8_verdict_142 ?_
          exact z_iret O hr hlk dzX8_verdict_143 h
        · have h := z_if_t c1 h
          refine z_iconst O dzX8_verdict_132 hcI3 ?_
          refine z_goto O dzX8_verdict_133 ?_
          exact z_iret O hr hlk dzX8_verdict_143 h
def fX8_verdict (σ : zS) (a1 : Int32) (a2 : Int32) (a3 : Int32) : Option (Int32 × zS) :=
  (fX8_isFamily a1).bind (fun r1 => (if r1 = 0 then some ((-2 : Int32), σ) else (fX8_isFamily a2).bind (fun r2 => (if r2 = 0 then some ((-2 : Int32), σ) else (fX8_in (a3.toInt64) (0 : Int64) (1 : Int64)).bind (fun r3 => (if r3 = 0 then some ((-2 : Int32), σ) else (fX8_findsDual σ a1).bind (fun r4 => fX8_verdict_L35 r4 a2 a3 (fun (x1 : Int32) => fX8_verdict_L103 r4 a2 a3 (fun (x2 : Int32) => (if a3 = 0 then some ((0 : Int32), r4) else some ((-1 : Int32), r4))) z_F (0 : Int32)) z_F (1 : Int32))))))))
theorem kX8_verdict {l : Launch} {Y : zY} (hi : z_inj ΛM Y) {σ : zS} {a1 : Int32} {a2 : Int32} {a3 : Int32} {fin : Int32 × zS} (h : fX8_verdict σ a1 a2 a3 = some fin) : Met l yX8_verdict (Cond.code yX8_verdict cX8_verdict 6 (some .int) :: z_TB) (z_rm 4) (z_Pc ΛM Y σ [.ref (z_ad Y 0), .int a1, .int a2, .int a3]) (z_Qi ΛM Y fin) 0 0 (z_A ΛM Y) := by
  unfold fX8_verdict at h
  refine z_met [(0, .ref (z_ad Y 0)), (1, .int a1), (2, .int a2), (3, .int a3)] rfl (Nat.le_of_ble_eq_true rfl) (plainFor_of_name (by decide)) hi ?_
  intro p e s m args below meth c O hr hlk
  refine z_iload_n O dzX8_verdict_0 rfl 1 rfl ?_
  obtain ⟨r1, hc1, h⟩ := z_bd_at h
  refine z_callSiR O (As := [.int a1]) (rest := []) (kX8_isFamily hi hc1) mX8_isFamily tw_892 (Nat.le_of_ble_eq_true rfl) rfl rfl (Nat.le_of_ble_eq_true rfl) dzX8_verdict_1 ?_
  refine z_if_eq O dzX8_verdict_4 (fun c4 => ?_) (fun c4 => ?_)
  · have h := z_if_t c4 h
    refine z_bipush O dzX8_verdict_24 hcBm2 ?_
    exact z_iret O hr hlk dzX8_verdict_26 h
  · have h := z_if_f c4 h
    refine z_iload_n O dzX8_verdict_7 rfl 2 rfl ?_
    obtain ⟨r2, hc2, h⟩ := z_bd_at h
    refine z_callSiR O (As := [.int a2]) (rest := []) (kX8_isFamily hi hc2) mX8_isFamily tw_892 (Nat.le_of_ble_eq_true rfl) rfl rfl (Nat.le_of_ble_eq_true rfl) dzX8_verdict_8 ?_
    refine z_if_eq O dzX8_verdict_11 (fun c3 => ?_) (fun c3 => ?_)
    · have h := z_if_t c3 h
      refine z_bipush O dzX8_verdict_24 hcBm2 ?_
      exact z_iret O hr hlk dzX8_verdict_26 h
    · have h := z_if_f c3 h
      refine z_iload_n O dzX8_verdict_14 rfl 3 rfl ?_
      refine z_i2l O dzX8_verdict_15 ?_
      refine z_lconst O dzX8_verdict_16 (v := 0) rfl ?_
      refine z_lconst O dzX8_verdict_17 (v := 1) rfl ?_
      obtain ⟨r3, hc3, h⟩ := z_bd_at h
      refine z_callSiR O (As := [.long (a3.toInt64), .long (0 : Int64), .long (1 : Int64)]) (rest := []) (kX8_in hi hc3) mX8_in tw_876 (Nat.le_of_ble_eq_true rfl) rfl rfl (Nat.le_of_ble_eq_true rfl) dzX8_verdict_18 ?_
      refine z_if_ne O dzX8_verdict_21 (fun c2 => ?_) (fun c2 => ?_)
      · have h := z_if_f c2 h
        refine z_aload_n O dzX8_verdict_27 rfl 0 rfl ?_
        refine z_iload_n O dzX8_verdict_28 rfl 1 rfl ?_
        obtain ⟨r4, hc4, h⟩ := z_bd_at h
        refine z_callVv O (As := [.int a1]) (rest := []) (kX8_findsDual hi hc4) mX8_findsDual tw_1011 (Nat.le_of_ble_eq_true rfl) fm_obj rfl rfl rfl rfl (Nat.le_of_ble_eq_true rfl) dzX8_verdict_29 ?_
        refine z_iconst O dzX8_verdict_32 hcI1 ?_
        refine z_istore O (lv' := [(4, .int (1 : Int32)), (0, .ref (z_ad Y 0)), (1, .int a1), (2, .int a2), (3, .int a3)]) dzX8_verdict_33 (by decide) rfl ?_
        refine z_sub [1, 3, 4, 0] rfl ?_
        refine kX8_verdict_L35 O hi hr hlk   (fun x1 h => ?_) _ _ h
        refine z_iconst O dzX8_verdict_100 hcI0 ?_
        refine z_istore O (lv' := [(4, .int (0 : Int32)), (0, .ref (z_ad Y 0)), (2, .int a2), (3, .int a3)]) dzX8_verdict_101 (by decide) rfl ?_
        refine z_sub [1, 2, 3, 0] rfl ?_
        refine kX8_verdict_L103 O hi hr hlk   (fun x2 h => ?_) _ _ h
        refine z_iload_n O dzX8_verdict_150 rfl 2 rfl ?_
        refine z_if_ne O dzX8_verdict_151 (fun c1 => ?_) (fun c1 => ?_)
        · have h := z_if_f c1 h
          refine z_iconst O dzX8_verdict_158 hcIm1 ?_
          exact z_iret O hr hlk dzX8_verdict_159 h
        · have h := z_if_t c1 h
          refine z_iconst O dzX8_verdict_154 hcI0 ?_
          refine z_goto O dzX8_verdict_155 ?_
          exact z_iret O hr hlk dzX8_verdict_159 h
      · have h := z_if_t c2 h
        refine z_bipush O dzX8_verdict_24 hcBm2 ?_
        exact z_iret O hr hlk dzX8_verdict_26 h
def fX8_wipe (σ : zS) (a1 : Int32) : Option (Int32 × zS) :=
  (fX8_isFamily a1).bind (fun r1 => (if r1 = 0 then some ((-2 : Int32), σ) else z_gd (z_in a1 4) (z_lt (σ.1 2 a1.toNatClampNeg) (fun (x1 : Int32) => z_gd (z_in a1 4) (z_lt (z_sI σ 2 a1.toNatClampNeg (0 : Int32)) (fun (w1 : zS) => z_lt (z_sI w1 0 10 (0 : Int32)) (fun (w2 : zS) => some (x1, w2))))))))
theorem kX8_wipe {l : Launch} {Y : zY} (hi : z_inj ΛM Y) {σ : zS} {a1 : Int32} {fin : Int32 × zS} (h : fX8_wipe σ a1 = some fin) : Met l yX8_wipe (Cond.code yX8_wipe cX8_wipe 3 (some .int) :: z_TB) (z_rm 3) (z_Pc ΛM Y σ [.ref (z_ad Y 0), .int a1]) (z_Qi ΛM Y fin) 0 0 (z_A ΛM Y) := by
  unfold fX8_wipe at h
  refine z_met [(0, .ref (z_ad Y 0)), (1, .int a1)] rfl (Nat.le_of_ble_eq_true rfl) (plainFor_of_name (by decide)) hi ?_
  intro p e s m args below meth c O hr hlk
  refine z_iload_n O dzX8_wipe_0 rfl 1 rfl ?_
  obtain ⟨r1, hc1, h⟩ := z_bd_at h
  refine z_callSiR O (As := [.int a1]) (rest := []) (kX8_isFamily hi hc1) mX8_isFamily tw_892 (Nat.le_of_ble_eq_true rfl) rfl rfl (Nat.le_of_ble_eq_true rfl) dzX8_wipe_1 ?_
  refine z_if_ne O dzX8_wipe_4 (fun c1 => ?_) (fun c1 => ?_)
  · have h := z_if_f c1 h
    refine z_aload_n O dzX8_wipe_10 rfl 0 rfl ?_
    refine z_get O z_cb8 fm_obj (v := .ref (z_ad Y 2)) 1 (Nat.le_of_ble_eq_true rfl) tw_750 rfl dzX8_wipe_11 ?_
    refine z_iload_n O dzX8_wipe_14 rfl 1 rfl ?_
    obtain ⟨g1, h⟩ := z_gd_at h
    refine z_iald O fm_sizes g1 dzX8_wipe_15 ?_
    refine z_topi (fun x1 e1 => ?_)
    have h := z_lt_at e1 h
    refine z_istore_n O (lv' := [(2, .int x1), (0, .ref (z_ad Y 0)), (1, .int a1)]) dzX8_wipe_16 rfl (by decide) rfl ?_
    refine z_aload_n O dzX8_wipe_17 rfl 1 rfl ?_
    refine z_get O z_cb8 fm_obj (v := .ref (z_ad Y 2)) 1 (Nat.le_of_ble_eq_true rfl) tw_750 rfl dzX8_wipe_18 ?_
    refine z_iload_n O dzX8_wipe_21 rfl 2 rfl ?_
    refine z_iconst O dzX8_wipe_22 hcI0 ?_
    obtain ⟨g2, h⟩ := z_gd_at h
    refine z_iast O fm_sizes g2 dzX8_wipe_23 ?_
    refine z_sig (fun w1 e2 => ?_)
    have h := z_lt_at e2 h
    refine z_aload_n O dzX8_wipe_24 rfl 1 rfl ?_
    refine z_iconst O dzX8_wipe_25 hcI0 ?_
    refine z_put O z_cb8 fm_obj 10 (Nat.le_of_ble_eq_true rfl) tw_759 rfl rfl rfl fp_M10 dzX8_wipe_26 ?_
    refine z_sig (fun w2 e3 => ?_)
    have h := z_lt_at e3 h
    refine z_iload_n O dzX8_wipe_29 rfl 0 rfl ?_
    exact z_iret O hr hlk dzX8_wipe_30 h
  · have h := z_if_t c1 h
    refine z_bipush O dzX8_wipe_7 hcBm2 ?_
    exact z_iret O hr hlk dzX8_wipe_9 h
def fX8_worth (σ : zS) (a1 : Int32) (a2 : Int32) : Option (Int32) :=
  (fX8_isRule σ a1).bind (fun r1 => (if r1 = 0 then some (-2 : Int32) else (fX8_isSet a2).bind (fun r2 => (if r2 = 0 then some (-2 : Int32) else (fX8_worthOf 13 σ a1 a2).bind (fun r3 => some r3)))))
theorem kX8_worth {l : Launch} {Y : zY} (hi : z_inj ΛM Y) {σ : zS} {a1 : Int32} {a2 : Int32} {fin : Int32} (h : fX8_worth σ a1 a2 = some fin) : Met l yX8_worth (Cond.code yX8_worth cX8_worth 3 (some .int) :: z_TB) (z_rm 17) (z_Pc ΛM Y σ [.ref (z_ad Y 0), .int a1, .int a2]) (z_Qi ΛM Y (fin, σ)) 0 0 (z_A ΛM Y) := by
  unfold fX8_worth at h
  refine z_met [(0, .ref (z_ad Y 0)), (1, .int a1), (2, .int a2)] rfl (Nat.le_of_ble_eq_true rfl) (plainFor_of_name (by decide)) hi ?_
  intro p e s m args below meth c O hr hlk
  refine z_aload_n O dzX8_worth_0 rfl 0 rfl ?_
  refine z_iload_n O dzX8_worth_1 rfl 1 rfl ?_
  obtain ⟨r1, hc1, h⟩ := z_bd_at h
  refine z_callViR O (As := [.int a1]) (rest := []) (kX8_isRule hi hc1) mX8_isRule tw_1102 (Nat.le_of_ble_eq_true rfl) fm_obj rfl rfl rfl rfl (Nat.le_of_ble_eq_true rfl) dzX8_worth_2 ?_
  refine z_if_eq O dzX8_worth_5 (fun c2 => ?_) (fun c2 => ?_)
  · have h := z_if_t c2 h
    refine z_bipush O dzX8_worth_24 hcBm2 ?_
    exact z_iret O hr hlk dzX8_worth_26 (z_rf h)
  · have h := z_if_f c2 h
    refine z_iload_n O dzX8_worth_8 rfl 2 rfl ?_
    obtain ⟨r2, hc2, h⟩ := z_bd_at h
    refine z_callSiR O (As := [.int a2]) (rest := []) (kX8_isSet hi hc2) mX8_isSet tw_896 (Nat.le_of_ble_eq_true rfl) rfl rfl (Nat.le_of_ble_eq_true rfl) dzX8_worth_9 ?_
    refine z_if_eq O dzX8_worth_12 (fun c1 => ?_) (fun c1 => ?_)
    · have h := z_if_t c1 h
      refine z_bipush O dzX8_worth_24 hcBm2 ?_
      exact z_iret O hr hlk dzX8_worth_26 (z_rf h)
    · have h := z_if_f c1 h
      refine z_aload_n O dzX8_worth_15 rfl 0 rfl ?_
      refine z_iload_n O dzX8_worth_16 rfl 1 rfl ?_
      refine z_iload_n O dzX8_worth_17 rfl 2 rfl ?_
      obtain ⟨r3, hc3, h⟩ := z_bd_at h
      refine z_callViR O (As := [.int a1, .int a2]) (rest := []) (kX8_worthOf hi 13 hc3) mX8_worthOf tw_1116 (Nat.le_of_ble_eq_true rfl) fm_obj rfl rfl rfl rfl (Nat.le_of_ble_eq_true rfl) dzX8_worth_18 ?_
      refine z_goto O dzX8_worth_21 ?_
      exact z_iret O hr hlk dzX8_worth_26 (z_rf h)
