def fJ13_bitCount_95d88 (a0 : Int64) : Option (Int32) :=
  z_lt (a0 - ((a0.toUInt64 >>> ((1 : Int32).toInt64.toUInt64 &&& Int64.toUInt64 63)).toInt64 &&& (6148914691236517205 : Int64))) (fun (x1 : Int64) => z_lt ((x1 &&& (3689348814741910323 : Int64)) + ((x1.toUInt64 >>> ((2 : Int32).toInt64.toUInt64 &&& Int64.toUInt64 63)).toInt64 &&& (3689348814741910323 : Int64))) (fun (x2 : Int64) => z_lt ((x2 + (x2.toUInt64 >>> ((4 : Int32).toInt64.toUInt64 &&& Int64.toUInt64 63)).toInt64) &&& (1085102592571150095 : Int64)) (fun (x3 : Int64) => z_lt (x3 + (x3.toUInt64 >>> ((8 : Int32).toInt64.toUInt64 &&& Int64.toUInt64 63)).toInt64) (fun (x4 : Int64) => z_lt (x4 + (x4.toUInt64 >>> ((16 : Int32).toInt64.toUInt64 &&& Int64.toUInt64 63)).toInt64) (fun (x5 : Int64) => z_lt (x5 + (x5.toUInt64 >>> ((32 : Int32).toInt64.toUInt64 &&& Int64.toUInt64 63)).toInt64) (fun (x6 : Int64) => some (x6.toInt32 &&& (127 : Int32))))))))
theorem kJ13_bitCount_95d88 {l : Launch} {Y : zY} {Λ : zL} (hi : z_inj Λ Y) {σ : zS} {a0 : Int64} {fin : Int32} (h : fJ13_bitCount_95d88 a0 = some fin) : Met l yJ13_bitCount_95d88 (Cond.code yJ13_bitCount_95d88 cJ13_bitCount_95d88 2 (some .int) :: z_TB) (z_rm 1) (z_Pc Λ Y σ [.long a0]) (z_Qi Λ Y (fin, σ)) 0 0 (z_A Λ Y) := by
  unfold fJ13_bitCount_95d88 at h
  refine z_met [(0, .long a0)] rfl (Nat.le_of_ble_eq_true rfl) (by decide +kernel) hi ?_
  intro p e s m args below meth c O hr hlk
  refine z_lload_n O dzJ13_bitCount_95d88_0 rfl 0 rfl ?_
  refine z_lload_n O dzJ13_bitCount_95d88_1 rfl 0 rfl ?_
  refine z_iconst O dzJ13_bitCount_95d88_2 hcI1 ?_
  refine z_lushr O dzJ13_bitCount_95d88_3 ?_
  refine z_ldc2 O tw_474 dzJ13_bitCount_95d88_4 ?_
  refine z_land O dzJ13_bitCount_95d88_7 ?_
  refine z_lsub O dzJ13_bitCount_95d88_8 ?_
  refine z_topl (fun x1 e1 => ?_)
  have h := z_lt_at e1 h
  refine z_lstore_n O (lv' := [(0, .long x1)]) dzJ13_bitCount_95d88_9 rfl (by decide) rfl ?_
  refine z_lload_n O dzJ13_bitCount_95d88_10 rfl 0 rfl ?_
  refine z_ldc2 O tw_475 dzJ13_bitCount_95d88_11 ?_
  refine z_land O dzJ13_bitCount_95d88_14 ?_
  refine z_lload_n O dzJ13_bitCount_95d88_15 rfl 0 rfl ?_
  refine z_iconst O dzJ13_bitCount_95d88_16 hcI2 ?_
  refine z_lushr O dzJ13_bitCount_95d88_17 ?_
  refine z_ldc2 O tw_475 dzJ13_bitCount_95d88_18 ?_
  refine z_land O dzJ13_bitCount_95d88_21 ?_
  refine z_ladd O dzJ13_bitCount_95d88_22 ?_
  refine z_topl (fun x2 e2 => ?_)
  have h := z_lt_at e2 h
  refine z_lstore_n O (lv' := [(0, .long x2)]) dzJ13_bitCount_95d88_23 rfl (by decide) rfl ?_
  refine z_lload_n O dzJ13_bitCount_95d88_24 rfl 0 rfl ?_
  refine z_lload_n O dzJ13_bitCount_95d88_25 rfl 0 rfl ?_
  refine z_iconst O dzJ13_bitCount_95d88_26 hcI4 ?_
  refine z_lushr O dzJ13_bitCount_95d88_27 ?_
  refine z_ladd O dzJ13_bitCount_95d88_28 ?_
  refine z_ldc2 O tw_476 dzJ13_bitCount_95d88_29 ?_
  refine z_land O dzJ13_bitCount_95d88_32 ?_
  refine z_topl (fun x3 e3 => ?_)
  have h := z_lt_at e3 h
  refine z_lstore_n O (lv' := [(0, .long x3)]) dzJ13_bitCount_95d88_33 rfl (by decide) rfl ?_
  refine z_lload_n O dzJ13_bitCount_95d88_34 rfl 0 rfl ?_
  refine z_lload_n O dzJ13_bitCount_95d88_35 rfl 0 rfl ?_
  refine z_bipush O dzJ13_bitCount_95d88_36 hcB8 ?_
  refine z_lushr O dzJ13_bitCount_95d88_38 ?_
  refine z_ladd O dzJ13_bitCount_95d88_39 ?_
  refine z_topl (fun x4 e4 => ?_)
  have h := z_lt_at e4 h
  refine z_lstore_n O (lv' := [(0, .long x4)]) dzJ13_bitCount_95d88_40 rfl (by decide) rfl ?_
  refine z_lload_n O dzJ13_bitCount_95d88_41 rfl 0 rfl ?_
  refine z_lload_n O dzJ13_bitCount_95d88_42 rfl 0 rfl ?_
  refine z_bipush O dzJ13_bitCount_95d88_43 hcB16 ?_
  refine z_lushr O dzJ13_bitCount_95d88_45 ?_
  refine z_ladd O dzJ13_bitCount_95d88_46 ?_
  refine z_topl (fun x5 e5 => ?_)
  have h := z_lt_at e5 h
  refine z_lstore_n O (lv' := [(0, .long x5)]) dzJ13_bitCount_95d88_47 rfl (by decide) rfl ?_
  refine z_lload_n O dzJ13_bitCount_95d88_48 rfl 0 rfl ?_
  refine z_lload_n O dzJ13_bitCount_95d88_49 rfl 0 rfl ?_
  refine z_bipush O dzJ13_bitCount_95d88_50 hcB32 ?_
  refine z_lushr O dzJ13_bitCount_95d88_52 ?_
  refine z_ladd O dzJ13_bitCount_95d88_53 ?_
  refine z_topl (fun x6 e6 => ?_)
  have h := z_lt_at e6 h
  refine z_lstore_n O (lv' := [(0, .long x6)]) dzJ13_bitCount_95d88_54 rfl (by decide) rfl ?_
  refine z_lload_n O dzJ13_bitCount_95d88_55 rfl 0 rfl ?_
  refine z_l2i O dzJ13_bitCount_95d88_56 ?_
  refine z_bipush O dzJ13_bitCount_95d88_57 hcB127 ?_
  refine z_iand O dzJ13_bitCount_95d88_59 ?_
  exact z_iret O hr hlk dzJ13_bitCount_95d88_60 (z_rf h)
def fJ6_bitCount_0f7a4 (a0 : Int32) : Option (Int32) :=
  z_lt (a0 - ((a0.toUInt32 >>> ((1 : Int32).toUInt32 &&& Int32.toUInt32 31)).toInt32 &&& (1431655765 : Int32))) (fun (x1 : Int32) => z_lt ((x1 &&& (858993459 : Int32)) + ((x1.toUInt32 >>> ((2 : Int32).toUInt32 &&& Int32.toUInt32 31)).toInt32 &&& (858993459 : Int32))) (fun (x2 : Int32) => z_lt ((x2 + (x2.toUInt32 >>> ((4 : Int32).toUInt32 &&& Int32.toUInt32 31)).toInt32) &&& (252645135 : Int32)) (fun (x3 : Int32) => z_lt (x3 + (x3.toUInt32 >>> ((8 : Int32).toUInt32 &&& Int32.toUInt32 31)).toInt32) (fun (x4 : Int32) => z_lt (x4 + (x4.toUInt32 >>> ((16 : Int32).toUInt32 &&& Int32.toUInt32 31)).toInt32) (fun (x5 : Int32) => some (x5 &&& (63 : Int32)))))))
theorem kJ6_bitCount_0f7a4 {l : Launch} {Y : zY} {Λ : zL} (hi : z_inj Λ Y) {σ : zS} {a0 : Int32} {fin : Int32} (h : fJ6_bitCount_0f7a4 a0 = some fin) : Met l yJ6_bitCount_0f7a4 (Cond.code yJ6_bitCount_0f7a4 cJ6_bitCount_0f7a4 1 (some .int) :: z_TB) (z_rm 1) (z_Pc Λ Y σ [.int a0]) (z_Qi Λ Y (fin, σ)) 0 0 (z_A Λ Y) := by
  unfold fJ6_bitCount_0f7a4 at h
  refine z_met [(0, .int a0)] rfl (Nat.le_of_ble_eq_true rfl) (by decide +kernel) hi ?_
  intro p e s m args below meth c O hr hlk
  refine z_iload_n O dzJ6_bitCount_0f7a4_0 rfl 0 rfl ?_
  refine z_iload_n O dzJ6_bitCount_0f7a4_1 rfl 0 rfl ?_
  refine z_iconst O dzJ6_bitCount_0f7a4_2 hcI1 ?_
  refine z_iushr O dzJ6_bitCount_0f7a4_3 ?_
  refine z_ldcw O tw_454 dzJ6_bitCount_0f7a4_4 ?_
  refine z_iand O dzJ6_bitCount_0f7a4_7 ?_
  refine z_isub O dzJ6_bitCount_0f7a4_8 ?_
  refine z_topi (fun x1 e1 => ?_)
  have h := z_lt_at e1 h
  refine z_istore_n O (lv' := [(0, .int x1)]) dzJ6_bitCount_0f7a4_9 rfl (by decide) rfl ?_
  refine z_iload_n O dzJ6_bitCount_0f7a4_10 rfl 0 rfl ?_
  refine z_ldcw O tw_455 dzJ6_bitCount_0f7a4_11 ?_
  refine z_iand O dzJ6_bitCount_0f7a4_14 ?_
  refine z_iload_n O dzJ6_bitCount_0f7a4_15 rfl 0 rfl ?_
  refine z_iconst O dzJ6_bitCount_0f7a4_16 hcI2 ?_
  refine z_iushr O dzJ6_bitCount_0f7a4_17 ?_
  refine z_ldcw O tw_455 dzJ6_bitCount_0f7a4_18 ?_
  refine z_iand O dzJ6_bitCount_0f7a4_21 ?_
  refine z_iadd O dzJ6_bitCount_0f7a4_22 ?_
  refine z_topi (fun x2 e2 => ?_)
  have h := z_lt_at e2 h
  refine z_istore_n O (lv' := [(0, .int x2)]) dzJ6_bitCount_0f7a4_23 rfl (by decide) rfl ?_
  refine z_iload_n O dzJ6_bitCount_0f7a4_24 rfl 0 rfl ?_
  refine z_iload_n O dzJ6_bitCount_0f7a4_25 rfl 0 rfl ?_
  refine z_iconst O dzJ6_bitCount_0f7a4_26 hcI4 ?_
  refine z_iushr O dzJ6_bitCount_0f7a4_27 ?_
  refine z_iadd O dzJ6_bitCount_0f7a4_28 ?_
  refine z_ldcw O tw_456 dzJ6_bitCount_0f7a4_29 ?_
  refine z_iand O dzJ6_bitCount_0f7a4_32 ?_
  refine z_topi (fun x3 e3 => ?_)
  have h := z_lt_at e3 h
  refine z_istore_n O (lv' := [(0, .int x3)]) dzJ6_bitCount_0f7a4_33 rfl (by decide) rfl ?_
  refine z_iload_n O dzJ6_bitCount_0f7a4_34 rfl 0 rfl ?_
  refine z_iload_n O dzJ6_bitCount_0f7a4_35 rfl 0 rfl ?_
  refine z_bipush O dzJ6_bitCount_0f7a4_36 hcB8 ?_
  refine z_iushr O dzJ6_bitCount_0f7a4_38 ?_
  refine z_iadd O dzJ6_bitCount_0f7a4_39 ?_
  refine z_topi (fun x4 e4 => ?_)
  have h := z_lt_at e4 h
  refine z_istore_n O (lv' := [(0, .int x4)]) dzJ6_bitCount_0f7a4_40 rfl (by decide) rfl ?_
  refine z_iload_n O dzJ6_bitCount_0f7a4_41 rfl 0 rfl ?_
  refine z_iload_n O dzJ6_bitCount_0f7a4_42 rfl 0 rfl ?_
  refine z_bipush O dzJ6_bitCount_0f7a4_43 hcB16 ?_
  refine z_iushr O dzJ6_bitCount_0f7a4_45 ?_
  refine z_iadd O dzJ6_bitCount_0f7a4_46 ?_
  refine z_topi (fun x5 e5 => ?_)
  have h := z_lt_at e5 h
  refine z_istore_n O (lv' := [(0, .int x5)]) dzJ6_bitCount_0f7a4_47 rfl (by decide) rfl ?_
  refine z_iload_n O dzJ6_bitCount_0f7a4_48 rfl 0 rfl ?_
  refine z_bipush O dzJ6_bitCount_0f7a4_49 hcB63 ?_
  refine z_iand O dzJ6_bitCount_0f7a4_51 ?_
  exact z_iret O hr hlk dzJ6_bitCount_0f7a4_52 (z_rf h)
def fJ7_fill_53178_L5 (q0 : Nat) (l0 : Nat) (a1 : Int32) (a3 : Int32) (k : zS → Int32 → Option (zS)) : Nat → zS → Int32 → Option (zS)
  | 0, _, _ => none
  | n + 1, σ, v2 => (if a3 ≤ v2 then k σ v2 else z_gd (z_in v2 l0) (z_lt (z_sI σ q0 v2.toNatClampNeg a1) (fun (w1 : zS) => fJ7_fill_53178_L5 q0 l0 a1 a3 k n w1 (v2 + (1 : Int32)))))
theorem kJ7_fill_53178_L5 {l : Launch} {Y : zY} {Λ : zL} {fin : zS} {p : Program} {e : Env} {s : State} {m : MethodId} {args : Array Value} {below : List Frame} {meth : Method} {c : Code} (O : z_ok Λ Y p s m args c cJ7_fill_53178 RJ7 4) (hi : z_inj Λ Y) (hr : meth.sig.returnType = none) (hlk : meth.locks = false) {q0 : Nat} {l0 : Nat} (h0 : z_FI Λ q0 l0) {a1 : Int32} {a3 : Int32} {k : zS → Int32 → Option (zS)} (hk : ∀ (w : zS) (z2 : Int32), k w z2 = some fin → z_G p l e (z_rm 1) s m args below meth c (MQ below (z_Qv Λ Y fin) args s 0 0 (z_A Λ Y)) Λ Y 4 w [(0, .ref (z_ad Y q0)), (1, .int a1), (2, .int z2), (3, .int a3)] 20 []) : ∀ (n : Nat) (σ : zS) (v2 : Int32), fJ7_fill_53178_L5 q0 l0 a1 a3 k n σ v2 = some fin → z_G p l e (z_rm 1) s m args below meth c (MQ below (z_Qv Λ Y fin) args s 0 0 (z_A Λ Y)) Λ Y 4 σ [(0, .ref (z_ad Y q0)), (1, .int a1), (2, .int v2), (3, .int a3)] 5 [] := by
  intro n
  induction n with
  | zero =>
    intro _ _ h
    cases h
  | succ n ih =>
    intro σ v2 h
    rw [fJ7_fill_53178_L5.eq_2] at h
    refine z_iload_n O dzJ7_fill_53178_5 rfl 2 rfl ?_
    refine z_iload_n O dzJ7_fill_53178_6 rfl 3 rfl ?_
    refine z_icmp_ge O dzJ7_fill_53178_7 (fun c1 => ?_) (fun c1 => ?_)
    · have h := z_if_t c1 h
      exact hk _ _ h
    · have h := z_if_f c1 h
      refine z_aload_n O dzJ7_fill_53178_10 rfl 0 rfl ?_
      refine z_iload_n O dzJ7_fill_53178_11 rfl 2 rfl ?_
      refine z_iload_n O dzJ7_fill_53178_12 rfl 1 rfl ?_
      obtain ⟨g1, h⟩ := z_gd_at h
      refine z_iast O h0 g1 dzJ7_fill_53178_13 ?_
      refine z_sig (fun w1 e1 => ?_)
      have h := z_lt_at e1 h
      refine z_iinc O (lv' := [(2, .int (v2 + (1 : Int32))), (0, .ref (z_ad Y q0)), (1, .int a1), (3, .int a3)]) dzJ7_fill_53178_14 2 rfl (congrArg _ hcI1) (by decide) rfl ?_
      refine z_goto O dzJ7_fill_53178_17 ?_
      refine z_sub [1, 2, 0, 3] rfl ?_
      exact ih _ _ h
def fJ7_fill_53178 (σ : zS) (p0 : Nat) (n0 : Nat) (a1 : Int32) : Option (zS) :=
  z_lt (Int32.ofNat n0) (fun (x1 : Int32) => fJ7_fill_53178_L5 p0 n0 a1 x1 (fun (w1 : zS) (x2 : Int32) => some w1) z_F σ (0 : Int32))
theorem kJ7_fill_53178 {l : Launch} {Y : zY} {Λ : zL} (hi : z_inj Λ Y) {σ : zS} {p0 n0 : Nat} (h0 : z_FI Λ p0 n0) {a1 : Int32} {fin : zS} (h : fJ7_fill_53178 σ p0 n0 a1 = some fin) : Met l yJ7_fill_53178 (Cond.code yJ7_fill_53178 cJ7_fill_53178 4 none :: z_TB) (z_rm 1) (z_Pc Λ Y σ [.ref (z_ad Y p0), .int a1]) (z_Qv Λ Y fin) 0 0 (z_A Λ Y) := by
  unfold fJ7_fill_53178 at h
  refine z_met [(0, .ref (z_ad Y p0)), (1, .int a1)] rfl (Nat.le_of_ble_eq_true rfl) (by decide +kernel) hi ?_
  intro p e s m args below meth c O hr hlk
  refine z_iconst O dzJ7_fill_53178_0 hcI0 ?_
  refine z_istore_n O (lv' := [(2, .int (0 : Int32)), (0, .ref (z_ad Y p0)), (1, .int a1)]) dzJ7_fill_53178_1 rfl (by decide) rfl ?_
  refine z_aload_n O dzJ7_fill_53178_2 rfl 1 rfl ?_
  refine z_ilen O h0 rfl dzJ7_fill_53178_3 ?_
  refine z_topi (fun x1 e1 => ?_)
  have h := z_lt_at e1 h
  refine z_istore_n O (lv' := [(3, .int x1), (2, .int (0 : Int32)), (0, .ref (z_ad Y p0)), (1, .int a1)]) dzJ7_fill_53178_4 rfl (by decide) rfl ?_
  refine z_sub [2, 3, 1, 0] rfl ?_
  refine kJ7_fill_53178_L5 O hi hr hlk (h0 := h0)  (fun w1 x2 h => ?_) _ _ _ h
  exact z_vret O hr hlk dzJ7_fill_53178_20 h
def fJ7_fill_d0a16_L6 (q0 : Nat) (l0 : Nat) (a1 : Int64) (a4 : Int32) (k : zS → Int32 → Option (zS)) : Nat → zS → Int32 → Option (zS)
  | 0, _, _ => none
  | n + 1, σ, v3 => (if a4 ≤ v3 then k σ v3 else z_gd (z_in v3 l0) (z_lt (z_sJ σ q0 v3.toNatClampNeg a1) (fun (w1 : zS) => fJ7_fill_d0a16_L6 q0 l0 a1 a4 k n w1 (v3 + (1 : Int32)))))
theorem kJ7_fill_d0a16_L6 {l : Launch} {Y : zY} {Λ : zL} {fin : zS} {p : Program} {e : Env} {s : State} {m : MethodId} {args : Array Value} {below : List Frame} {meth : Method} {c : Code} (O : z_ok Λ Y p s m args c cJ7_fill_d0a16 RJ7 5) (hi : z_inj Λ Y) (hr : meth.sig.returnType = none) (hlk : meth.locks = false) {q0 : Nat} {l0 : Nat} (h0 : z_FJ Λ q0 l0) {a1 : Int64} {a4 : Int32} {k : zS → Int32 → Option (zS)} (hk : ∀ (w : zS) (z3 : Int32), k w z3 = some fin → z_G p l e (z_rm 1) s m args below meth c (MQ below (z_Qv Λ Y fin) args s 0 0 (z_A Λ Y)) Λ Y 5 w [(0, .ref (z_ad Y q0)), (1, .long a1), (3, .int z3), (4, .int a4)] 22 []) : ∀ (n : Nat) (σ : zS) (v3 : Int32), fJ7_fill_d0a16_L6 q0 l0 a1 a4 k n σ v3 = some fin → z_G p l e (z_rm 1) s m args below meth c (MQ below (z_Qv Λ Y fin) args s 0 0 (z_A Λ Y)) Λ Y 5 σ [(0, .ref (z_ad Y q0)), (1, .long a1), (3, .int v3), (4, .int a4)] 6 [] := by
  intro n
  induction n with
  | zero =>
    intro _ _ h
    cases h
  | succ n ih =>
    intro σ v3 h
    rw [fJ7_fill_d0a16_L6.eq_2] at h
    refine z_iload_n O dzJ7_fill_d0a16_6 rfl 2 rfl ?_
    refine z_iload O dzJ7_fill_d0a16_7 3 rfl ?_
    refine z_icmp_ge O dzJ7_fill_d0a16_9 (fun c1 => ?_) (fun c1 => ?_)
    · have h := z_if_t c1 h
      exact hk _ _ h
    · have h := z_if_f c1 h
      refine z_aload_n O dzJ7_fill_d0a16_12 rfl 0 rfl ?_
      refine z_iload_n O dzJ7_fill_d0a16_13 rfl 2 rfl ?_
      refine z_lload_n O dzJ7_fill_d0a16_14 rfl 1 rfl ?_
      obtain ⟨g1, h⟩ := z_gd_at h
      refine z_last O h0 g1 dzJ7_fill_d0a16_15 ?_
      refine z_sig (fun w1 e1 => ?_)
      have h := z_lt_at e1 h
      refine z_iinc O (lv' := [(3, .int (v3 + (1 : Int32))), (0, .ref (z_ad Y q0)), (1, .long a1), (4, .int a4)]) dzJ7_fill_d0a16_16 2 rfl (congrArg _ hcI1) (by decide) rfl ?_
      refine z_goto O dzJ7_fill_d0a16_19 ?_
      refine z_sub [1, 2, 0, 3] rfl ?_
      exact ih _ _ h
def fJ7_fill_d0a16 (σ : zS) (p0 : Nat) (n0 : Nat) (a1 : Int64) : Option (zS) :=
  z_lt (Int32.ofNat n0) (fun (x1 : Int32) => fJ7_fill_d0a16_L6 p0 n0 a1 x1 (fun (w1 : zS) (x2 : Int32) => some w1) z_F σ (0 : Int32))
theorem kJ7_fill_d0a16 {l : Launch} {Y : zY} {Λ : zL} (hi : z_inj Λ Y) {σ : zS} {p0 n0 : Nat} (h0 : z_FJ Λ p0 n0) {a1 : Int64} {fin : zS} (h : fJ7_fill_d0a16 σ p0 n0 a1 = some fin) : Met l yJ7_fill_d0a16 (Cond.code yJ7_fill_d0a16 cJ7_fill_d0a16 5 none :: z_TB) (z_rm 1) (z_Pc Λ Y σ [.ref (z_ad Y p0), .long a1]) (z_Qv Λ Y fin) 0 0 (z_A Λ Y) := by
  unfold fJ7_fill_d0a16 at h
  refine z_met [(0, .ref (z_ad Y p0)), (1, .long a1)] rfl (Nat.le_of_ble_eq_true rfl) (by decide +kernel) hi ?_
  intro p e s m args below meth c O hr hlk
  refine z_iconst O dzJ7_fill_d0a16_0 hcI0 ?_
  refine z_istore_n O (lv' := [(3, .int (0 : Int32)), (0, .ref (z_ad Y p0)), (1, .long a1)]) dzJ7_fill_d0a16_1 rfl (by decide) rfl ?_
  refine z_aload_n O dzJ7_fill_d0a16_2 rfl 1 rfl ?_
  refine z_llen O h0 rfl dzJ7_fill_d0a16_3 ?_
  refine z_topi (fun x1 e1 => ?_)
  have h := z_lt_at e1 h
  refine z_istore O (lv' := [(4, .int x1), (3, .int (0 : Int32)), (0, .ref (z_ad Y p0)), (1, .long a1)]) dzJ7_fill_d0a16_4 (by decide) rfl ?_
  refine z_sub [2, 3, 1, 0] rfl ?_
  refine kJ7_fill_d0a16_L6 O hi hr hlk (h0 := h0)  (fun w1 x2 h => ?_) _ _ _ h
  exact z_vret O hr hlk dzJ7_fill_d0a16_22 h
def fJ9_max_7cf53 (a0 : Int32) (a1 : Int32) : Option (Int32) :=
  (if a0 < a1 then some a1 else some a0)
theorem kJ9_max_7cf53 {l : Launch} {Y : zY} {Λ : zL} (hi : z_inj Λ Y) {σ : zS} {a0 : Int32} {a1 : Int32} {fin : Int32} (h : fJ9_max_7cf53 a0 a1 = some fin) : Met l yJ9_max_7cf53 (Cond.code yJ9_max_7cf53 cJ9_max_7cf53 2 (some .int) :: z_TB) (z_rm 1) (z_Pc Λ Y σ [.int a0, .int a1]) (z_Qi Λ Y (fin, σ)) 0 0 (z_A Λ Y) := by
  unfold fJ9_max_7cf53 at h
  refine z_met [(0, .int a0), (1, .int a1)] rfl (Nat.le_of_ble_eq_true rfl) (by decide +kernel) hi ?_
  intro p e s m args below meth c O hr hlk
  refine z_iload_n O dzJ9_max_7cf53_0 rfl 0 rfl ?_
  refine z_iload_n O dzJ9_max_7cf53_1 rfl 1 rfl ?_
  refine z_icmp_lt O dzJ9_max_7cf53_2 (fun c1 => ?_) (fun c1 => ?_)
  · have h := z_if_t c1 h
    refine z_iload_n O dzJ9_max_7cf53_9 rfl 1 rfl ?_
    exact z_iret O hr hlk dzJ9_max_7cf53_10 (z_rf h)
  · have h := z_if_f c1 h
    refine z_iload_n O dzJ9_max_7cf53_5 rfl 0 rfl ?_
    refine z_goto O dzJ9_max_7cf53_6 ?_
    exact z_iret O hr hlk dzJ9_max_7cf53_10 (z_rf h)
def fJ9_min_7cf53 (a0 : Int32) (a1 : Int32) : Option (Int32) :=
  (if a1 < a0 then some a1 else some a0)
theorem kJ9_min_7cf53 {l : Launch} {Y : zY} {Λ : zL} (hi : z_inj Λ Y) {σ : zS} {a0 : Int32} {a1 : Int32} {fin : Int32} (h : fJ9_min_7cf53 a0 a1 = some fin) : Met l yJ9_min_7cf53 (Cond.code yJ9_min_7cf53 cJ9_min_7cf53 2 (some .int) :: z_TB) (z_rm 1) (z_Pc Λ Y σ [.int a0, .int a1]) (z_Qi Λ Y (fin, σ)) 0 0 (z_A Λ Y) := by
  unfold fJ9_min_7cf53 at h
  refine z_met [(0, .int a0), (1, .int a1)] rfl (Nat.le_of_ble_eq_true rfl) (by decide +kernel) hi ?_
  intro p e s m args below meth c O hr hlk
  refine z_iload_n O dzJ9_min_7cf53_0 rfl 0 rfl ?_
  refine z_iload_n O dzJ9_min_7cf53_1 rfl 1 rfl ?_
  refine z_icmp_gt O dzJ9_min_7cf53_2 (fun c1 => ?_) (fun c1 => ?_)
  · have h := z_if_t c1 h
    refine z_iload_n O dzJ9_min_7cf53_9 rfl 1 rfl ?_
    exact z_iret O hr hlk dzJ9_min_7cf53_10 (z_rf h)
  · have h := z_if_f c1 h
    refine z_iload_n O dzJ9_min_7cf53_5 rfl 0 rfl ?_
    refine z_goto O dzJ9_min_7cf53_6 ?_
    exact z_iret O hr hlk dzJ9_min_7cf53_10 (z_rf h)
def fX0_forgetAll (σ : zS) : Option (zS) :=
  z_lt (z_sI σ 59 3 (0 : Int32)) (fun (w1 : zS) => some w1)
theorem kX0_forgetAll {l : Launch} {Y : zY} (hi : z_inj ΛX Y) {σ : zS}  {fin : zS} (h : fX0_forgetAll σ = some fin) : Met l yX0_forgetAll (Cond.code yX0_forgetAll cX0_forgetAll 1 none :: z_TB) (z_rm 1) (z_Pc ΛX Y σ [.ref (z_ad Y 59)]) (z_Qv ΛX Y fin) 0 0 (z_A ΛX Y) := by
  unfold fX0_forgetAll at h
  refine z_met [(0, .ref (z_ad Y 59))] rfl (Nat.le_of_ble_eq_true rfl) (plainFor_of_name (by decide)) hi ?_
  intro p e s m args below meth c O hr hlk
  refine z_aload_n O dzX0_forgetAll_0 rfl 0 rfl ?_
  refine z_iconst O dzX0_forgetAll_1 hcI0 ?_
  refine z_put O z_cb0 fx_act 3 (Nat.le_of_ble_eq_true rfl) tw_119 rfl rfl rfl fp_A3 dzX0_forgetAll_2 ?_
  refine z_sig (fun w1 e1 => ?_)
  have h := z_lt_at e1 h
  exact z_vret O hr hlk dzX0_forgetAll_5 h
def fX0_forgetLast (σ : zS) : Option (Int32 × zS) :=
  (fJ9_max_7cf53 ((σ.1 59 3) - (1 : Int32)) (0 : Int32)).bind (fun r1 => z_lt (z_sI σ 59 3 r1) (fun (w1 : zS) => some ((w1.1 59 3), w1)))
theorem kX0_forgetLast {l : Launch} {Y : zY} (hi : z_inj ΛX Y) {σ : zS}  {fin : Int32 × zS} (h : fX0_forgetLast σ = some fin) : Met l yX0_forgetLast (Cond.code yX0_forgetLast cX0_forgetLast 1 (some .int) :: z_TB) (z_rm 2) (z_Pc ΛX Y σ [.ref (z_ad Y 59)]) (z_Qi ΛX Y fin) 0 0 (z_A ΛX Y) := by
  unfold fX0_forgetLast at h
  refine z_met [(0, .ref (z_ad Y 59))] rfl (Nat.le_of_ble_eq_true rfl) (plainFor_of_name (by decide)) hi ?_
  intro p e s m args below meth c O hr hlk
  refine z_aload_n O dzX0_forgetLast_0 rfl 0 rfl ?_
  refine z_aload_n O dzX0_forgetLast_1 rfl 0 rfl ?_
  refine z_get O z_cb0 fx_act (v := .int (σ.1 59 3)) 3 (Nat.le_of_ble_eq_true rfl) tw_119 rfl dzX0_forgetLast_2 ?_
  refine z_iconst O dzX0_forgetLast_5 hcI1 ?_
  refine z_isub O dzX0_forgetLast_6 ?_
  refine z_iconst O dzX0_forgetLast_7 hcI0 ?_
  obtain ⟨r1, hc1, h⟩ := z_bd_at h
  refine z_callSiR O (As := [.int ((σ.1 59 3) - (1 : Int32)), .int (0 : Int32)]) (rest := [.ref (z_ad Y 59)]) (kJ9_max_7cf53 hi hc1) mJ9_max_7cf53 tw_351 (Nat.le_of_ble_eq_true rfl) rfl rfl (Nat.le_of_ble_eq_true rfl) dzX0_forgetLast_8 ?_
  refine z_put O z_cb0 fx_act 3 (Nat.le_of_ble_eq_true rfl) tw_119 rfl rfl rfl fp_A3 dzX0_forgetLast_11 ?_
  refine z_sig (fun w1 e1 => ?_)
  have h := z_lt_at e1 h
  refine z_aload_n O dzX0_forgetLast_14 rfl 0 rfl ?_
  refine z_get O z_cb0 fx_act (v := .int (w1.1 59 3)) 3 (Nat.le_of_ble_eq_true rfl) tw_119 rfl dzX0_forgetLast_15 ?_
  exact z_iret O hr hlk dzX0_forgetLast_18 h
def fX0_forgetOldest (σ : zS) : Option (zS) :=
  z_lt (z_sI σ 59 3 ((σ.1 59 3) - (1 : Int32))) (fun (w1 : zS) => z_gd (z_cp (1 : Int32) (0 : Int32) (19 : Int32) 20 20) (z_lt (z_fI w1 60 (va_cpy (w1.1 60) (w1.1 60) (1 : Int32).toNatClampNeg (0 : Int32).toNatClampNeg (19 : Int32).toNatClampNeg)) (fun (w2 : zS) => z_gd (z_cp (1 : Int32) (0 : Int32) (19 : Int32) 20 20) (z_lt (z_fI w2 61 (va_cpy (w2.1 61) (w2.1 61) (1 : Int32).toNatClampNeg (0 : Int32).toNatClampNeg (19 : Int32).toNatClampNeg)) (fun (w3 : zS) => z_gd (z_cp (1 : Int32) (0 : Int32) (19 : Int32) 20 20) (z_lt (z_fI w3 62 (va_cpy (w3.1 62) (w3.1 62) (1 : Int32).toNatClampNeg (0 : Int32).toNatClampNeg (19 : Int32).toNatClampNeg)) (fun (w4 : zS) => some w4)))))))
theorem kX0_forgetOldest {l : Launch} {Y : zY} (hi : z_inj ΛX Y) {σ : zS}  {fin : zS} (h : fX0_forgetOldest σ = some fin) : Met l yX0_forgetOldest (Cond.code yX0_forgetOldest cX0_forgetOldest 1 none :: z_TB) (z_rm 1) (z_Pc ΛX Y σ [.ref (z_ad Y 59)]) (z_Qv ΛX Y fin) 0 0 (z_A ΛX Y) := by
  unfold fX0_forgetOldest at h
  refine z_met [(0, .ref (z_ad Y 59))] rfl (Nat.le_of_ble_eq_true rfl) (plainFor_of_name (by decide)) hi ?_
  intro p e s m args below meth c O hr hlk
  refine z_aload_n O dzX0_forgetOldest_0 rfl 0 rfl ?_
  refine z_dup O dzX0_forgetOldest_1 rfl ?_
  refine z_get O z_cb0 fx_act (v := .int (σ.1 59 3)) 3 (Nat.le_of_ble_eq_true rfl) tw_119 rfl dzX0_forgetOldest_2 ?_
  refine z_iconst O dzX0_forgetOldest_5 hcI1 ?_
  refine z_isub O dzX0_forgetOldest_6 ?_
  refine z_put O z_cb0 fx_act 3 (Nat.le_of_ble_eq_true rfl) tw_119 rfl rfl rfl fp_A3 dzX0_forgetOldest_7 ?_
  refine z_sig (fun w1 e1 => ?_)
  have h := z_lt_at e1 h
  refine z_aload_n O dzX0_forgetOldest_10 rfl 0 rfl ?_
  refine z_get O z_cb0 fx_act (v := .ref (z_ad Y 60)) 0 (Nat.le_of_ble_eq_true rfl) tw_113 rfl dzX0_forgetOldest_11 ?_
  refine z_iconst O dzX0_forgetOldest_14 hcI1 ?_
  refine z_aload_n O dzX0_forgetOldest_15 rfl 0 rfl ?_
  refine z_get O z_cb0 fx_act (v := .ref (z_ad Y 60)) 0 (Nat.le_of_ble_eq_true rfl) tw_113 rfl dzX0_forgetOldest_16 ?_
  refine z_iconst O dzX0_forgetOldest_19 hcI0 ?_
  refine z_bipush O dzX0_forgetOldest_20 hcB19 ?_
  obtain ⟨g1, h⟩ := z_gd_at h
  refine z_acpy O tw_262 tw_264 tw_263 tw_11 fx_ac60 fx_ac60 g1 (by omega) (Nat.le_of_ble_eq_true rfl) dzX0_forgetOldest_22 ?_
  refine z_sig (fun w2 e2 => ?_)
  have h := z_lt_at e2 h
  refine z_aload_n O dzX0_forgetOldest_25 rfl 0 rfl ?_
  refine z_get O z_cb0 fx_act (v := .ref (z_ad Y 61)) 1 (Nat.le_of_ble_eq_true rfl) tw_115 rfl dzX0_forgetOldest_26 ?_
  refine z_iconst O dzX0_forgetOldest_29 hcI1 ?_
  refine z_aload_n O dzX0_forgetOldest_30 rfl 0 rfl ?_
  refine z_get O z_cb0 fx_act (v := .ref (z_ad Y 61)) 1 (Nat.le_of_ble_eq_true rfl) tw_115 rfl dzX0_forgetOldest_31 ?_
  refine z_iconst O dzX0_forgetOldest_34 hcI0 ?_
  refine z_bipush O dzX0_forgetOldest_35 hcB19 ?_
  obtain ⟨g2, h⟩ := z_gd_at h
  refine z_acpy O tw_262 tw_264 tw_263 tw_11 fx_ac61 fx_ac61 g2 (by omega) (Nat.le_of_ble_eq_true rfl) dzX0_forgetOldest_37 ?_
  refine z_sig (fun w3 e3 => ?_)
  have h := z_lt_at e3 h
  refine z_aload_n O dzX0_forgetOldest_40 rfl 0 rfl ?_
  refine z_get O z_cb0 fx_act (v := .ref (z_ad Y 62)) 2 (Nat.le_of_ble_eq_true rfl) tw_117 rfl dzX0_forgetOldest_41 ?_
  refine z_iconst O dzX0_forgetOldest_44 hcI1 ?_
  refine z_aload_n O dzX0_forgetOldest_45 rfl 0 rfl ?_
  refine z_get O z_cb0 fx_act (v := .ref (z_ad Y 62)) 2 (Nat.le_of_ble_eq_true rfl) tw_117 rfl dzX0_forgetOldest_46 ?_
  refine z_iconst O dzX0_forgetOldest_49 hcI0 ?_
  refine z_bipush O dzX0_forgetOldest_50 hcB19 ?_
  obtain ⟨g3, h⟩ := z_gd_at h
  refine z_acpy O tw_262 tw_264 tw_263 tw_11 fx_ac62 fx_ac62 g3 (by omega) (Nat.le_of_ble_eq_true rfl) dzX0_forgetOldest_52 ?_
  refine z_sig (fun w4 e4 => ?_)
  have h := z_lt_at e4 h
  exact z_vret O hr hlk dzX0_forgetOldest_55 h
def fX0_remember (σ : zS) (a1 : Int32) (a2 : Int32) (a3 : Int32) : Option (zS) :=
  z_jn (fun (w1 : zS) => z_gd (z_in (w1.1 59 3) 20) (z_lt (z_sI w1 60 (w1.1 59 3).toNatClampNeg a1) (fun (w2 : zS) => z_gd (z_in (w2.1 59 3) 20) (z_lt (z_sI w2 61 (w2.1 59 3).toNatClampNeg a2) (fun (w3 : zS) => z_gd (z_in (w3.1 59 3) 20) (z_lt (z_sI w3 62 (w3.1 59 3).toNatClampNeg a3) (fun (w4 : zS) => z_lt (z_sI w4 59 3 ((w4.1 59 3) + (1 : Int32))) (fun (w5 : zS) => some w5)))))))) (fun j1 => (if (σ.1 59 3) = (20 : Int32) then (fX0_forgetOldest σ).bind (fun r1 => j1 r1) else j1 σ))
theorem kX0_remember {l : Launch} {Y : zY} (hi : z_inj ΛX Y) {σ : zS} {a1 : Int32} {a2 : Int32} {a3 : Int32} {fin : zS} (h : fX0_remember σ a1 a2 a3 = some fin) : Met l yX0_remember (Cond.code yX0_remember cX0_remember 4 none :: z_TB) (z_rm 2) (z_Pc ΛX Y σ [.ref (z_ad Y 59), .int a1, .int a2, .int a3]) (z_Qv ΛX Y fin) 0 0 (z_A ΛX Y) := by
  unfold fX0_remember at h
  refine z_met [(0, .ref (z_ad Y 59)), (1, .int a1), (2, .int a2), (3, .int a3)] rfl (Nat.le_of_ble_eq_true rfl) (plainFor_of_name (by decide)) hi ?_
  intro p e s m args below meth c O hr hlk
  refine z_aload_n O dzX0_remember_0 rfl 0 rfl ?_
  refine z_get O z_cb0 fx_act (v := .int (σ.1 59 3)) 3 (Nat.le_of_ble_eq_true rfl) tw_119 rfl dzX0_remember_1 ?_
  refine z_bipush O dzX0_remember_4 hcB20 ?_
  refine z_jn_at (P := fun j1 => ∀ (w1 : zS), j1 w1 = some fin → z_G p l e (z_rm 2) s m args below meth c (MQ below (z_Qv ΛX Y fin) args s 0 0 (z_A ΛX Y)) ΛX Y 4 w1 [(0, .ref (z_ad Y 59)), (1, .int a1), (2, .int a2), (3, .int a3)] 13 []) h ?_ (fun j1 J1 h => ?_)
  · intro w1 h
    refine z_aload_n O dzX0_remember_13 rfl 0 rfl ?_
    refine z_get O z_cb0 fx_act (v := .ref (z_ad Y 60)) 0 (Nat.le_of_ble_eq_true rfl) tw_113 rfl dzX0_remember_14 ?_
    refine z_aload_n O dzX0_remember_17 rfl 0 rfl ?_
    refine z_get O z_cb0 fx_act (v := .int (w1.1 59 3)) 3 (Nat.le_of_ble_eq_true rfl) tw_119 rfl dzX0_remember_18 ?_
    refine z_iload_n O dzX0_remember_21 rfl 1 rfl ?_
    obtain ⟨g1, h⟩ := z_gd_at h
    refine z_iast O fx_ac60 g1 dzX0_remember_22 ?_
    refine z_sig (fun w2 e1 => ?_)
    have h := z_lt_at e1 h
    refine z_aload_n O dzX0_remember_23 rfl 0 rfl ?_
    refine z_get O z_cb0 fx_act (v := .ref (z_ad Y 61)) 1 (Nat.le_of_ble_eq_true rfl) tw_115 rfl dzX0_remember_24 ?_
    refine z_aload_n O dzX0_remember_27 rfl 0 rfl ?_
    refine z_get O z_cb0 fx_act (v := .int (w2.1 59 3)) 3 (Nat.le_of_ble_eq_true rfl) tw_119 rfl dzX0_remember_28 ?_
    refine z_iload_n O dzX0_remember_31 rfl 2 rfl ?_
    obtain ⟨g2, h⟩ := z_gd_at h
    refine z_iast O fx_ac61 g2 dzX0_remember_32 ?_
    refine z_sig (fun w3 e2 => ?_)
    have h := z_lt_at e2 h
    refine z_aload_n O dzX0_remember_33 rfl 0 rfl ?_
    refine z_get O z_cb0 fx_act (v := .ref (z_ad Y 62)) 2 (Nat.le_of_ble_eq_true rfl) tw_117 rfl dzX0_remember_34 ?_
    refine z_aload_n O dzX0_remember_37 rfl 0 rfl ?_
    refine z_get O z_cb0 fx_act (v := .int (w3.1 59 3)) 3 (Nat.le_of_ble_eq_true rfl) tw_119 rfl dzX0_remember_38 ?_
    refine z_iload_n O dzX0_remember_41 rfl 3 rfl ?_
    obtain ⟨g3, h⟩ := z_gd_at h
    refine z_iast O fx_ac62 g3 dzX0_remember_42 ?_
    refine z_sig (fun w4 e3 => ?_)
    have h := z_lt_at e3 h
    refine z_aload_n O dzX0_remember_43 rfl 0 rfl ?_
    refine z_dup O dzX0_remember_44 rfl ?_
    refine z_get O z_cb0 fx_act (v := .int (w4.1 59 3)) 3 (Nat.le_of_ble_eq_true rfl) tw_119 rfl dzX0_remember_45 ?_
    refine z_iconst O dzX0_remember_48 hcI1 ?_
    refine z_iadd O dzX0_remember_49 ?_
    refine z_put O z_cb0 fx_act 3 (Nat.le_of_ble_eq_true rfl) tw_119 rfl rfl rfl fp_A3 dzX0_remember_50 ?_
    refine z_sig (fun w5 e4 => ?_)
    have h := z_lt_at e4 h
    exact z_vret O hr hlk dzX0_remember_53 h
  · refine z_icmp_ne O dzX0_remember_6 (fun c1 => ?_) (fun c1 => ?_)
    · have h := z_if_f c1 h
      exact J1 σ h
    · have h := z_if_t c1 h
      refine z_aload_n O dzX0_remember_9 rfl 0 rfl ?_
      obtain ⟨r1, hc1, h⟩ := z_bd_at h
      refine z_callVv O (As := []) (rest := []) (kX0_forgetOldest hi hc1) mX0_forgetOldest tw_258 (Nat.le_of_ble_eq_true rfl) fx_act rfl rfl rfl rfl (Nat.le_of_ble_eq_true rfl) dzX0_remember_10 ?_
      exact J1 r1 h
def fX1_append (σ : zS) (p0 : Nat) (a1 : Int32) (a2 : Int32) : Option (Int32 × zS) :=
  (if (σ.1 p0 2) < (40 : Int32) then z_gd (z_in (σ.1 p0 2) 40) (z_lt (z_sI σ (p0 + 9) (σ.1 p0 2).toNatClampNeg a1) (fun (w1 : zS) => z_gd (z_in (w1.1 p0 2) 40) (z_lt (z_sI w1 (p0 + 18) (w1.1 p0 2).toNatClampNeg a2) (fun (w2 : zS) => z_lt (z_sI w2 p0 2 ((w2.1 p0 2) + (1 : Int32))) (fun (w3 : zS) => some (a2, w3)))))) else some ((-4 : Int32), σ))
theorem kX1_append {l : Launch} {Y : zY} (hi : z_inj ΛX Y) {σ : zS} {p0 : Nat} (h0 : z_fam p0) {a1 : Int32} {a2 : Int32} {fin : Int32 × zS} (h : fX1_append σ p0 a1 a2 = some fin) : Met l yX1_append (Cond.code yX1_append cX1_append 3 (some .int) :: z_TB) (z_rm 1) (z_Pc ΛX Y σ [.ref (z_ad Y p0), .int a1, .int a2]) (z_Qi ΛX Y fin) 0 0 (z_A ΛX Y) := by
  unfold fX1_append at h
  refine z_met [(0, .ref (z_ad Y p0)), (1, .int a1), (2, .int a2)] rfl (Nat.le_of_ble_eq_true rfl) (plainFor_of_name (by decide)) hi ?_
  intro p e s m args below meth c O hr hlk
  refine z_aload_n O dzX1_append_0 rfl 0 rfl ?_
  refine z_get O z_cb1 (fx_fam h0) (v := .int (σ.1 p0 2)) 2 (Nat.le_of_ble_eq_true rfl) tw_46 rfl dzX1_append_1 ?_
  refine z_bipush O dzX1_append_4 hcB40 ?_
  refine z_icmp_lt O dzX1_append_6 (fun c1 => ?_) (fun c1 => ?_)
  · have h := z_if_t c1 h
    refine z_aload_n O dzX1_append_12 rfl 0 rfl ?_
    refine z_get O z_cb1 (fx_fam h0) (v := .ref (z_ad Y (p0 + 9))) 0 (Nat.le_of_ble_eq_true rfl) tw_39 rfl dzX1_append_13 ?_
    refine z_aload_n O dzX1_append_16 rfl 0 rfl ?_
    refine z_get O z_cb1 (fx_fam h0) (v := .int (σ.1 p0 2)) 2 (Nat.le_of_ble_eq_true rfl) tw_46 rfl dzX1_append_17 ?_
    refine z_iload_n O dzX1_append_20 rfl 1 rfl ?_
    obtain ⟨g1, h⟩ := z_gd_at h
    refine z_iast O (fx_set h0) g1 dzX1_append_21 ?_
    refine z_sig (fun w1 e1 => ?_)
    have h := z_lt_at e1 h
    refine z_aload_n O dzX1_append_22 rfl 0 rfl ?_
    refine z_get O z_cb1 (fx_fam h0) (v := .ref (z_ad Y (p0 + 18))) 1 (Nat.le_of_ble_eq_true rfl) tw_43 rfl dzX1_append_23 ?_
    refine z_aload_n O dzX1_append_26 rfl 0 rfl ?_
    refine z_get O z_cb1 (fx_fam h0) (v := .int (w1.1 p0 2)) 2 (Nat.le_of_ble_eq_true rfl) tw_46 rfl dzX1_append_27 ?_
    refine z_iload_n O dzX1_append_30 rfl 2 rfl ?_
    obtain ⟨g2, h⟩ := z_gd_at h
    refine z_iast O (fx_tal h0) g2 dzX1_append_31 ?_
    refine z_sig (fun w2 e2 => ?_)
    have h := z_lt_at e2 h
    refine z_aload_n O dzX1_append_32 rfl 0 rfl ?_
    refine z_dup O dzX1_append_33 rfl ?_
    refine z_get O z_cb1 (fx_fam h0) (v := .int (w2.1 p0 2)) 2 (Nat.le_of_ble_eq_true rfl) tw_46 rfl dzX1_append_34 ?_
    refine z_iconst O dzX1_append_37 hcI1 ?_
    refine z_iadd O dzX1_append_38 ?_
    refine z_put O z_cb1 (fx_fam h0) 2 (Nat.le_of_ble_eq_true rfl) tw_46 rfl rfl rfl fp_F2 dzX1_append_39 ?_
    refine z_sig (fun w3 e3 => ?_)
    have h := z_lt_at e3 h
    refine z_iload_n O dzX1_append_42 rfl 2 rfl ?_
    exact z_iret O hr hlk dzX1_append_43 h
  · have h := z_if_f c1 h
    refine z_bipush O dzX1_append_9 hcBm4 ?_
    exact z_iret O hr hlk dzX1_append_11 h
def fX1_placeOf_L2 (σ : zS) (q0 : Nat) (a1 : Int32) (k : Int32 → Option (Int32)) : Nat → Int32 → Option (Int32)
  | 0, _ => none
  | n + 1, v2 => (if (σ.1 q0 2) ≤ v2 then k v2 else z_gd (z_in v2 40) ((if (σ.1 (q0 + 9) v2.toNatClampNeg) = a1 then some v2 else fX1_placeOf_L2 σ q0 a1 k n (v2 + (1 : Int32)))))
theorem kX1_placeOf_L2 {l : Launch} {Y : zY} {fin : Int32} {p : Program} {e : Env} {s : State} {m : MethodId} {args : Array Value} {below : List Frame} {meth : Method} {c : Code} {σ : zS} (O : z_ok ΛX Y p s m args c cX1_placeOf RX1 3) (hi : z_inj ΛX Y) (hr : meth.sig.returnType = (some .int)) (hlk : meth.locks = false) {q0 : Nat} (h0 : z_fam q0) {a1 : Int32} {k : Int32 → Option (Int32)} (hk : ∀ (z2 : Int32), k z2 = some fin → z_G p l e (z_rm 1) s m args below meth c (MQ below (z_Qi ΛX Y (fin, σ)) args s 0 0 (z_A ΛX Y)) ΛX Y 3 σ [(0, .ref (z_ad Y q0)), (1, .int a1), (2, .int z2)] 28 []) : ∀ (n : Nat) (v2 : Int32), fX1_placeOf_L2 σ q0 a1 k n v2 = some fin → z_G p l e (z_rm 1) s m args below meth c (MQ below (z_Qi ΛX Y (fin, σ)) args s 0 0 (z_A ΛX Y)) ΛX Y 3 σ [(0, .ref (z_ad Y q0)), (1, .int a1), (2, .int v2)] 2 [] := by
  intro n
  induction n with
  | zero =>
    intro _ h
    cases h
  | succ n ih =>
    intro v2 h
    rw [fX1_placeOf_L2.eq_2] at h
    refine z_iload_n O dzX1_placeOf_2 rfl 2 rfl ?_
    refine z_aload_n O dzX1_placeOf_3 rfl 0 rfl ?_
    refine z_get O z_cb1 (fx_fam h0) (v := .int (σ.1 q0 2)) 2 (Nat.le_of_ble_eq_true rfl) tw_46 rfl dzX1_placeOf_4 ?_
    refine z_icmp_ge O dzX1_placeOf_7 (fun c2 => ?_) (fun c2 => ?_)
    · have h := z_if_t c2 h
      exact hk _ h
    · have h := z_if_f c2 h
      refine z_aload_n O dzX1_placeOf_10 rfl 0 rfl ?_
      refine z_get O z_cb1 (fx_fam h0) (v := .ref (z_ad Y (q0 + 9))) 0 (Nat.le_of_ble_eq_true rfl) tw_39 rfl dzX1_placeOf_11 ?_
      refine z_iload_n O dzX1_placeOf_14 rfl 2 rfl ?_
      obtain ⟨g1, h⟩ := z_gd_at h
      refine z_iald O (fx_set h0) g1 dzX1_placeOf_15 ?_
      refine z_iload_n O dzX1_placeOf_16 rfl 1 rfl ?_
      refine z_icmp_ne O dzX1_placeOf_17 (fun c1 => ?_) (fun c1 => ?_)
      · have h := z_if_f c1 h
        refine z_iinc O (lv' := [(2, .int (v2 + (1 : Int32))), (0, .ref (z_ad Y q0)), (1, .int a1)]) dzX1_placeOf_22 2 rfl (congrArg _ hcI1) (by decide) rfl ?_
        refine z_goto O dzX1_placeOf_25 ?_
        refine z_sub [1, 2, 0] rfl ?_
        exact ih _ h
      · have h := z_if_t c1 h
        refine z_iload_n O dzX1_placeOf_20 rfl 2 rfl ?_
        exact z_iret O hr hlk dzX1_placeOf_21 (z_rf h)
def fX1_placeOf (σ : zS) (p0 : Nat) (a1 : Int32) : Option (Int32) :=
  fX1_placeOf_L2 σ p0 a1 (fun (x1 : Int32) => some (-1 : Int32)) z_F (0 : Int32)
theorem kX1_placeOf {l : Launch} {Y : zY} (hi : z_inj ΛX Y) {σ : zS} {p0 : Nat} (h0 : z_fam p0) {a1 : Int32} {fin : Int32} (h : fX1_placeOf σ p0 a1 = some fin) : Met l yX1_placeOf (Cond.code yX1_placeOf cX1_placeOf 3 (some .int) :: z_TB) (z_rm 1) (z_Pc ΛX Y σ [.ref (z_ad Y p0), .int a1]) (z_Qi ΛX Y (fin, σ)) 0 0 (z_A ΛX Y) := by
  unfold fX1_placeOf at h
  refine z_met [(0, .ref (z_ad Y p0)), (1, .int a1)] rfl (Nat.le_of_ble_eq_true rfl) (plainFor_of_name (by decide)) hi ?_
  intro p e s m args below meth c O hr hlk
  refine z_iconst O dzX1_placeOf_0 hcI0 ?_
  refine z_istore_n O (lv' := [(2, .int (0 : Int32)), (0, .ref (z_ad Y p0)), (1, .int a1)]) dzX1_placeOf_1 rfl (by decide) rfl ?_
  refine z_sub [1, 2, 0] rfl ?_
  refine kX1_placeOf_L2 O hi hr hlk (h0 := h0)  (fun x1 h => ?_) _ _ h
  refine z_iconst O dzX1_placeOf_28 hcIm1 ?_
  exact z_iret O hr hlk dzX1_placeOf_29 (z_rf h)
def fX1_add (σ : zS) (p0 : Nat) (a1 : Int32) : Option (Int32 × zS) :=
  (fX1_placeOf σ p0 a1).bind (fun r1 => (if r1 = (-1 : Int32) then (fX1_append σ p0 a1 (1 : Int32)).bind (fun r3 => some (r3.1, r3.2)) else z_gd (z_in r1 40) ((fJ9_min_7cf53 ((σ.1 (p0 + 18) r1.toNatClampNeg) + (1 : Int32)) (99 : Int32)).bind (fun r2 => z_gd (z_in r1 40) (z_lt (z_sI σ (p0 + 18) r1.toNatClampNeg r2) (fun (w1 : zS) => z_gd (z_in r1 40) (some ((w1.1 (p0 + 18) r1.toNatClampNeg), w1))))))))
theorem kX1_add {l : Launch} {Y : zY} (hi : z_inj ΛX Y) {σ : zS} {p0 : Nat} (h0 : z_fam p0) {a1 : Int32} {fin : Int32 × zS} (h : fX1_add σ p0 a1 = some fin) : Met l yX1_add (Cond.code yX1_add cX1_add 3 (some .int) :: z_TB) (z_rm 2) (z_Pc ΛX Y σ [.ref (z_ad Y p0), .int a1]) (z_Qi ΛX Y fin) 0 0 (z_A ΛX Y) := by
  unfold fX1_add at h
  refine z_met [(0, .ref (z_ad Y p0)), (1, .int a1)] rfl (Nat.le_of_ble_eq_true rfl) (plainFor_of_name (by decide)) hi ?_
  intro p e s m args below meth c O hr hlk
  refine z_aload_n O dzX1_add_0 rfl 0 rfl ?_
  refine z_iload_n O dzX1_add_1 rfl 1 rfl ?_
  obtain ⟨r1, hc1, h⟩ := z_bd_at h
  refine z_callViR O (As := [.int a1]) (rest := []) (kX1_placeOf hi h0 hc1) mX1_placeOf tw_283 (Nat.le_of_ble_eq_true rfl) (fx_fam h0) rfl rfl rfl rfl (Nat.le_of_ble_eq_true rfl) dzX1_add_2 ?_
  refine z_istore_n O (lv' := [(2, .int r1), (0, .ref (z_ad Y p0)), (1, .int a1)]) dzX1_add_5 rfl (by decide) rfl ?_
  refine z_iload_n O dzX1_add_6 rfl 0 rfl ?_
  refine z_iconst O dzX1_add_7 hcIm1 ?_
  refine z_icmp_ne O dzX1_add_8 (fun c1 => ?_) (fun c1 => ?_)
  · have h := z_if_f c1 h
    refine z_aload_n O dzX1_add_18 rfl 1 rfl ?_
    refine z_get O z_cb1 (fx_fam h0) (v := .ref (z_ad Y (p0 + 18))) 1 (Nat.le_of_ble_eq_true rfl) tw_43 rfl dzX1_add_19 ?_
    refine z_iload_n O dzX1_add_22 rfl 0 rfl ?_
    refine z_aload_n O dzX1_add_23 rfl 1 rfl ?_
    refine z_get O z_cb1 (fx_fam h0) (v := .ref (z_ad Y (p0 + 18))) 1 (Nat.le_of_ble_eq_true rfl) tw_43 rfl dzX1_add_24 ?_
    refine z_iload_n O dzX1_add_27 rfl 0 rfl ?_
    obtain ⟨g1, h⟩ := z_gd_at h
    refine z_iald O (fx_tal h0) g1 dzX1_add_28 ?_
    refine z_iconst O dzX1_add_29 hcI1 ?_
    refine z_iadd O dzX1_add_30 ?_
    refine z_bipush O dzX1_add_31 hcB99 ?_
    obtain ⟨r2, hc2, h⟩ := z_bd_at h
    refine z_callSiR O (As := [.int ((σ.1 (p0 + 18) r1.toNatClampNeg) + (1 : Int32)), .int (99 : Int32)]) (rest := [.int r1, .ref (z_ad Y (p0 + 18))]) (kJ9_min_7cf53 hi hc2) mJ9_min_7cf53 tw_295 (Nat.le_of_ble_eq_true rfl) rfl rfl (Nat.le_of_ble_eq_true rfl) dzX1_add_33 ?_
    obtain ⟨g2, h⟩ := z_gd_at h
    refine z_iast O (fx_tal h0) g2 dzX1_add_36 ?_
    refine z_sig (fun w1 e1 => ?_)
    have h := z_lt_at e1 h
    refine z_aload_n O dzX1_add_37 rfl 1 rfl ?_
    refine z_get O z_cb1 (fx_fam h0) (v := .ref (z_ad Y (p0 + 18))) 1 (Nat.le_of_ble_eq_true rfl) tw_43 rfl dzX1_add_38 ?_
    refine z_iload_n O dzX1_add_41 rfl 0 rfl ?_
    obtain ⟨g3, h⟩ := z_gd_at h
    refine z_iald O (fx_tal h0) g3 dzX1_add_42 ?_
    exact z_iret O hr hlk dzX1_add_43 h
  · have h := z_if_t c1 h
    refine z_aload_n O dzX1_add_11 rfl 1 rfl ?_
    refine z_iload_n O dzX1_add_12 rfl 2 rfl ?_
    refine z_iconst O dzX1_add_13 hcI1 ?_
    obtain ⟨r3, hc3, h⟩ := z_bd_at h
    refine z_callVi O (As := [.int a1, .int (1 : Int32)]) (rest := []) (kX1_append hi h0 hc3) mX1_append tw_291 (Nat.le_of_ble_eq_true rfl) (fx_fam h0) rfl rfl rfl rfl (Nat.le_of_ble_eq_true rfl) dzX1_add_14 ?_
    exact z_iret O hr hlk dzX1_add_17 h
def fX1_become (σ : zS) (p0 : Nat) (p1 : Nat) : Option (zS) :=
  z_lt (z_sI σ p0 2 (σ.1 p1 2)) (fun (w1 : zS) => z_gd (z_cp (0 : Int32) (0 : Int32) (40 : Int32) 40 40) (z_lt (z_fI w1 (p0 + 9) (va_cpy (w1.1 (p1 + 9)) (w1.1 (p0 + 9)) (0 : Int32).toNatClampNeg (0 : Int32).toNatClampNeg (40 : Int32).toNatClampNeg)) (fun (w2 : zS) => z_gd (z_cp (0 : Int32) (0 : Int32) (40 : Int32) 40 40) (z_lt (z_fI w2 (p0 + 18) (va_cpy (w2.1 (p1 + 18)) (w2.1 (p0 + 18)) (0 : Int32).toNatClampNeg (0 : Int32).toNatClampNeg (40 : Int32).toNatClampNeg)) (fun (w3 : zS) => some w3)))))
theorem kX1_become {l : Launch} {Y : zY} (hi : z_inj ΛX Y) {σ : zS} {p0 : Nat} (h0 : z_fam p0) {p1 : Nat} (h1 : z_fam p1) {fin : zS} (h : fX1_become σ p0 p1 = some fin) : Met l yX1_become (Cond.code yX1_become cX1_become 2 none :: z_TB) (z_rm 1) (z_Pc ΛX Y σ [.ref (z_ad Y p0), .ref (z_ad Y p1)]) (z_Qv ΛX Y fin) 0 0 (z_A ΛX Y) := by
  unfold fX1_become at h
  refine z_met [(0, .ref (z_ad Y p0)), (1, .ref (z_ad Y p1))] rfl (Nat.le_of_ble_eq_true rfl) (plainFor_of_name (by decide)) hi ?_
  intro p e s m args below meth c O hr hlk
  refine z_aload_n O dzX1_become_0 rfl 0 rfl ?_
  refine z_aload_n O dzX1_become_1 rfl 1 rfl ?_
  refine z_get O z_cb1 (fx_fam h1) (v := .int (σ.1 p1 2)) 2 (Nat.le_of_ble_eq_true rfl) tw_46 rfl dzX1_become_2 ?_
  refine z_put O z_cb1 (fx_fam h0) 2 (Nat.le_of_ble_eq_true rfl) tw_46 rfl rfl rfl fp_F2 dzX1_become_5 ?_
  refine z_sig (fun w1 e1 => ?_)
  have h := z_lt_at e1 h
  refine z_aload_n O dzX1_become_8 rfl 1 rfl ?_
  refine z_get O z_cb1 (fx_fam h1) (v := .ref (z_ad Y (p1 + 9))) 0 (Nat.le_of_ble_eq_true rfl) tw_39 rfl dzX1_become_9 ?_
  refine z_iconst O dzX1_become_12 hcI0 ?_
  refine z_aload_n O dzX1_become_13 rfl 0 rfl ?_
  refine z_get O z_cb1 (fx_fam h0) (v := .ref (z_ad Y (p0 + 9))) 0 (Nat.le_of_ble_eq_true rfl) tw_39 rfl dzX1_become_14 ?_
  refine z_iconst O dzX1_become_17 hcI0 ?_
  refine z_bipush O dzX1_become_18 hcB40 ?_
  obtain ⟨g1, h⟩ := z_gd_at h
  refine z_acpy O tw_342 tw_264 tw_263 tw_11 (fx_set h1) (fx_set h0) g1 (by omega) (Nat.le_of_ble_eq_true rfl) dzX1_become_20 ?_
  refine z_sig (fun w2 e2 => ?_)
  have h := z_lt_at e2 h
  refine z_aload_n O dzX1_become_23 rfl 1 rfl ?_
  refine z_get O z_cb1 (fx_fam h1) (v := .ref (z_ad Y (p1 + 18))) 1 (Nat.le_of_ble_eq_true rfl) tw_43 rfl dzX1_become_24 ?_
  refine z_iconst O dzX1_become_27 hcI0 ?_
  refine z_aload_n O dzX1_become_28 rfl 0 rfl ?_
  refine z_get O z_cb1 (fx_fam h0) (v := .ref (z_ad Y (p0 + 18))) 1 (Nat.le_of_ble_eq_true rfl) tw_43 rfl dzX1_become_29 ?_
  refine z_iconst O dzX1_become_32 hcI0 ?_
  refine z_bipush O dzX1_become_33 hcB40 ?_
  obtain ⟨g2, h⟩ := z_gd_at h
  refine z_acpy O tw_342 tw_264 tw_263 tw_11 (fx_tal h1) (fx_tal h0) g2 (by omega) (Nat.le_of_ble_eq_true rfl) dzX1_become_35 ?_
  refine z_sig (fun w3 e3 => ?_)
  have h := z_lt_at e3 h
  exact z_vret O hr hlk dzX1_become_38 h
def fX1_clear (σ : zS) (p0 : Nat) : Option (zS) :=
  z_lt (z_sI σ p0 2 (0 : Int32)) (fun (w1 : zS) => some w1)
theorem kX1_clear {l : Launch} {Y : zY} (hi : z_inj ΛX Y) {σ : zS} {p0 : Nat} (h0 : z_fam p0) {fin : zS} (h : fX1_clear σ p0 = some fin) : Met l yX1_clear (Cond.code yX1_clear cX1_clear 1 none :: z_TB) (z_rm 1) (z_Pc ΛX Y σ [.ref (z_ad Y p0)]) (z_Qv ΛX Y fin) 0 0 (z_A ΛX Y) := by
  unfold fX1_clear at h
  refine z_met [(0, .ref (z_ad Y p0))] rfl (Nat.le_of_ble_eq_true rfl) (plainFor_of_name (by decide)) hi ?_
  intro p e s m args below meth c O hr hlk
  refine z_aload_n O dzX1_clear_0 rfl 0 rfl ?_
  refine z_iconst O dzX1_clear_1 hcI0 ?_
  refine z_put O z_cb1 (fx_fam h0) 2 (Nat.le_of_ble_eq_true rfl) tw_46 rfl rfl rfl fp_F2 dzX1_clear_2 ?_
  refine z_sig (fun w1 e1 => ?_)
  have h := z_lt_at e1 h
  exact z_vret O hr hlk dzX1_clear_5 h
def fX1_countMet_L4 (σ : zS) (q0 : Nat) (a1 : Int32) (k : Int32 → Int32 → Option (Int32)) : Nat → Int32 → Int32 → Option (Int32)
  | 0, _, _ => none
  | n + 1, v2, v3 => (if (σ.1 q0 2) ≤ v3 then k v2 v3 else z_gd (z_in v3 40) ((if ((σ.1 (q0 + 9) v3.toNatClampNeg) &&& a1) = 0 then fX1_countMet_L4 σ q0 a1 k n v2 (v3 + (1 : Int32)) else fX1_countMet_L4 σ q0 a1 k n (v2 + (1 : Int32)) (v3 + (1 : Int32)))))
theorem kX1_countMet_L4 {l : Launch} {Y : zY} {fin : Int32} {p : Program} {e : Env} {s : State} {m : MethodId} {args : Array Value} {below : List Frame} {meth : Method} {c : Code} {σ : zS} (O : z_ok ΛX Y p s m args c cX1_countMet RX1 4) (hi : z_inj ΛX Y) (hr : meth.sig.returnType = (some .int)) (hlk : meth.locks = false) {q0 : Nat} (h0 : z_fam q0) {a1 : Int32} {k : Int32 → Int32 → Option (Int32)} (hk : ∀ (z2 : Int32) (z3 : Int32), k z2 z3 = some fin → z_G p l e (z_rm 1) s m args below meth c (MQ below (z_Qi ΛX Y (fin, σ)) args s 0 0 (z_A ΛX Y)) ΛX Y 4 σ [(0, .ref (z_ad Y q0)), (1, .int a1), (2, .int z2), (3, .int z3)] 32 []) : ∀ (n : Nat) (v2 : Int32) (v3 : Int32), fX1_countMet_L4 σ q0 a1 k n v2 v3 = some fin → z_G p l e (z_rm 1) s m args below meth c (MQ below (z_Qi ΛX Y (fin, σ)) args s 0 0 (z_A ΛX Y)) ΛX Y 4 σ [(0, .ref (z_ad Y q0)), (1, .int a1), (2, .int v2), (3, .int v3)] 4 [] := by
  intro n
  induction n with
  | zero =>
    intro _ _ h
    cases h
  | succ n ih =>
    intro v2 v3 h
    rw [fX1_countMet_L4.eq_2] at h
    refine z_iload_n O dzX1_countMet_4 rfl 3 rfl ?_
    refine z_aload_n O dzX1_countMet_5 rfl 0 rfl ?_
    refine z_get O z_cb1 (fx_fam h0) (v := .int (σ.1 q0 2)) 2 (Nat.le_of_ble_eq_true rfl) tw_46 rfl dzX1_countMet_6 ?_
    refine z_icmp_ge O dzX1_countMet_9 (fun c2 => ?_) (fun c2 => ?_)
    · have h := z_if_t c2 h
      exact hk _ _ h
    · have h := z_if_f c2 h
      refine z_aload_n O dzX1_countMet_12 rfl 0 rfl ?_
      refine z_get O z_cb1 (fx_fam h0) (v := .ref (z_ad Y (q0 + 9))) 0 (Nat.le_of_ble_eq_true rfl) tw_39 rfl dzX1_countMet_13 ?_
      refine z_iload_n O dzX1_countMet_16 rfl 3 rfl ?_
      obtain ⟨g1, h⟩ := z_gd_at h
      refine z_iald O (fx_set h0) g1 dzX1_countMet_17 ?_
      refine z_iload_n O dzX1_countMet_18 rfl 1 rfl ?_
      refine z_iand O dzX1_countMet_19 ?_
      refine z_if_eq O dzX1_countMet_20 (fun c1 => ?_) (fun c1 => ?_)
      · have h := z_if_t c1 h
        refine z_iinc O (lv' := [(3, .int (v3 + (1 : Int32))), (0, .ref (z_ad Y q0)), (1, .int a1), (2, .int v2)]) dzX1_countMet_26 3 rfl (congrArg _ hcI1) (by decide) rfl ?_
        refine z_goto O dzX1_countMet_29 ?_
        refine z_sub [1, 2, 3, 0] rfl ?_
        exact ih _ _ h
      · have h := z_if_f c1 h
        refine z_iinc O (lv' := [(2, .int (v2 + (1 : Int32))), (0, .ref (z_ad Y q0)), (1, .int a1), (3, .int v3)]) dzX1_countMet_23 2 rfl (congrArg _ hcI1) (by decide) rfl ?_
        refine z_iinc O (lv' := [(3, .int (v3 + (1 : Int32))), (2, .int (v2 + (1 : Int32))), (0, .ref (z_ad Y q0)), (1, .int a1)]) dzX1_countMet_26 3 rfl (congrArg _ hcI1) (by decide) rfl ?_
        refine z_goto O dzX1_countMet_29 ?_
        refine z_sub [2, 3, 1, 0] rfl ?_
        exact ih _ _ h
def fX1_countMet (σ : zS) (p0 : Nat) (a1 : Int32) : Option (Int32) :=
  fX1_countMet_L4 σ p0 a1 (fun (x1 : Int32) (x2 : Int32) => some x1) z_F (0 : Int32) (0 : Int32)
theorem kX1_countMet {l : Launch} {Y : zY} (hi : z_inj ΛX Y) {σ : zS} {p0 : Nat} (h0 : z_fam p0) {a1 : Int32} {fin : Int32} (h : fX1_countMet σ p0 a1 = some fin) : Met l yX1_countMet (Cond.code yX1_countMet cX1_countMet 4 (some .int) :: z_TB) (z_rm 1) (z_Pc ΛX Y σ [.ref (z_ad Y p0), .int a1]) (z_Qi ΛX Y (fin, σ)) 0 0 (z_A ΛX Y) := by
  unfold fX1_countMet at h
  refine z_met [(0, .ref (z_ad Y p0)), (1, .int a1)] rfl (Nat.le_of_ble_eq_true rfl) (plainFor_of_name (by decide)) hi ?_
  intro p e s m args below meth c O hr hlk
  refine z_iconst O dzX1_countMet_0 hcI0 ?_
  refine z_istore_n O (lv' := [(2, .int (0 : Int32)), (0, .ref (z_ad Y p0)), (1, .int a1)]) dzX1_countMet_1 rfl (by decide) rfl ?_
  refine z_iconst O dzX1_countMet_2 hcI0 ?_
  refine z_istore_n O (lv' := [(3, .int (0 : Int32)), (2, .int (0 : Int32)), (0, .ref (z_ad Y p0)), (1, .int a1)]) dzX1_countMet_3 rfl (by decide) rfl ?_
  refine z_sub [2, 3, 1, 0] rfl ?_
  refine kX1_countMet_L4 O hi hr hlk (h0 := h0)  (fun x1 x2 h => ?_) _ _ _ h
  refine z_iload_n O dzX1_countMet_32 rfl 2 rfl ?_
  exact z_iret O hr hlk dzX1_countMet_33 (z_rf h)
def fX1_countWith (σ : zS) (p0 : Nat) (a1 : Int32) : Option (Int32) :=
  (fX1_countMet σ p0 ((1 : Int32) <<< (a1 &&& 31))).bind (fun r1 => some r1)
theorem kX1_countWith {l : Launch} {Y : zY} (hi : z_inj ΛX Y) {σ : zS} {p0 : Nat} (h0 : z_fam p0) {a1 : Int32} {fin : Int32} (h : fX1_countWith σ p0 a1 = some fin) : Met l yX1_countWith (Cond.code yX1_countWith cX1_countWith 2 (some .int) :: z_TB) (z_rm 2) (z_Pc ΛX Y σ [.ref (z_ad Y p0), .int a1]) (z_Qi ΛX Y (fin, σ)) 0 0 (z_A ΛX Y) := by
  unfold fX1_countWith at h
  refine z_met [(0, .ref (z_ad Y p0)), (1, .int a1)] rfl (Nat.le_of_ble_eq_true rfl) (plainFor_of_name (by decide)) hi ?_
  intro p e s m args below meth c O hr hlk
  refine z_aload_n O dzX1_countWith_0 rfl 0 rfl ?_
  refine z_iconst O dzX1_countWith_1 hcI1 ?_
  refine z_iload_n O dzX1_countWith_2 rfl 1 rfl ?_
  refine z_ishl O dzX1_countWith_3 ?_
  obtain ⟨r1, hc1, h⟩ := z_bd_at h
  refine z_callViR O (As := [.int ((1 : Int32) <<< (a1 &&& 31))]) (rest := []) (kX1_countMet hi h0 hc1) mX1_countMet tw_362 (Nat.le_of_ble_eq_true rfl) (fx_fam h0) rfl rfl rfl rfl (Nat.le_of_ble_eq_true rfl) dzX1_countWith_4 ?_
  exact z_iret O hr hlk dzX1_countWith_7 (z_rf h)
def fX1_removeAt_L12 (q0 : Nat) (k : zS → Int32 → Option (zS)) : Nat → zS → Int32 → Option (zS)
  | 0, _, _ => none
  | n + 1, σ, v2 => (if (σ.1 q0 2) ≤ v2 then k σ v2 else z_gd (z_in (v2 + (1 : Int32)) 40) (z_gd (z_in v2 40) (z_lt (z_sI σ (q0 + 9) v2.toNatClampNeg (σ.1 (q0 + 9) (v2 + (1 : Int32)).toNatClampNeg)) (fun (w1 : zS) => z_gd (z_in (v2 + (1 : Int32)) 40) (z_gd (z_in v2 40) (z_lt (z_sI w1 (q0 + 18) v2.toNatClampNeg (w1.1 (q0 + 18) (v2 + (1 : Int32)).toNatClampNeg)) (fun (w2 : zS) => fX1_removeAt_L12 q0 k n w2 (v2 + (1 : Int32)))))))))
theorem kX1_removeAt_L12 {l : Launch} {Y : zY} {fin : zS} {p : Program} {e : Env} {s : State} {m : MethodId} {args : Array Value} {below : List Frame} {meth : Method} {c : Code} (O : z_ok ΛX Y p s m args c cX1_removeAt RX1 3) (hi : z_inj ΛX Y) (hr : meth.sig.returnType = none) (hlk : meth.locks = false) {q0 : Nat} (h0 : z_fam q0) {k : zS → Int32 → Option (zS)} (hk : ∀ (w : zS) (z2 : Int32), k w z2 = some fin → z_G p l e (z_rm 1) s m args below meth c (MQ below (z_Qv ΛX Y fin) args s 0 0 (z_A ΛX Y)) ΛX Y 3 w [(0, .ref (z_ad Y q0)), (2, .int z2)] 54 []) : ∀ (n : Nat) (σ : zS) (v2 : Int32), fX1_removeAt_L12 q0 k n σ v2 = some fin → z_G p l e (z_rm 1) s m args below meth c (MQ below (z_Qv ΛX Y fin) args s 0 0 (z_A ΛX Y)) ΛX Y 3 σ [(0, .ref (z_ad Y q0)), (2, .int v2)] 12 [] := by
  intro n
  induction n with
  | zero =>
    intro _ _ h
    cases h
  | succ n ih =>
    intro σ v2 h
    rw [fX1_removeAt_L12.eq_2] at h
    refine z_iload_n O dzX1_removeAt_12 rfl 1 rfl ?_
    refine z_aload_n O dzX1_removeAt_13 rfl 0 rfl ?_
    refine z_get O z_cb1 (fx_fam h0) (v := .int (σ.1 q0 2)) 2 (Nat.le_of_ble_eq_true rfl) tw_46 rfl dzX1_removeAt_14 ?_
    refine z_icmp_ge O dzX1_removeAt_17 (fun c1 => ?_) (fun c1 => ?_)
    · have h := z_if_t c1 h
      exact hk _ _ h
    · have h := z_if_f c1 h
      refine z_aload_n O dzX1_removeAt_20 rfl 0 rfl ?_
      refine z_get O z_cb1 (fx_fam h0) (v := .ref (z_ad Y (q0 + 9))) 0 (Nat.le_of_ble_eq_true rfl) tw_39 rfl dzX1_removeAt_21 ?_
      refine z_iload_n O dzX1_removeAt_24 rfl 1 rfl ?_
      refine z_aload_n O dzX1_removeAt_25 rfl 0 rfl ?_
      refine z_get O z_cb1 (fx_fam h0) (v := .ref (z_ad Y (q0 + 9))) 0 (Nat.le_of_ble_eq_true rfl) tw_39 rfl dzX1_removeAt_26 ?_
      refine z_iload_n O dzX1_removeAt_29 rfl 1 rfl ?_
      refine z_iconst O dzX1_removeAt_30 hcI1 ?_
      refine z_iadd O dzX1_removeAt_31 ?_
      obtain ⟨g1, h⟩ := z_gd_at h
      refine z_iald O (fx_set h0) g1 dzX1_removeAt_32 ?_
      obtain ⟨g2, h⟩ := z_gd_at h
      refine z_iast O (fx_set h0) g2 dzX1_removeAt_33 ?_
      refine z_sig (fun w1 e1 => ?_)
      have h := z_lt_at e1 h
      refine z_aload_n O dzX1_removeAt_34 rfl 0 rfl ?_
      refine z_get O z_cb1 (fx_fam h0) (v := .ref (z_ad Y (q0 + 18))) 1 (Nat.le_of_ble_eq_true rfl) tw_43 rfl dzX1_removeAt_35 ?_
      refine z_iload_n O dzX1_removeAt_38 rfl 1 rfl ?_
      refine z_aload_n O dzX1_removeAt_39 rfl 0 rfl ?_
      refine z_get O z_cb1 (fx_fam h0) (v := .ref (z_ad Y (q0 + 18))) 1 (Nat.le_of_ble_eq_true rfl) tw_43 rfl dzX1_removeAt_40 ?_
      refine z_iload_n O dzX1_removeAt_43 rfl 1 rfl ?_
      refine z_iconst O dzX1_removeAt_44 hcI1 ?_
      refine z_iadd O dzX1_removeAt_45 ?_
      obtain ⟨g3, h⟩ := z_gd_at h
      refine z_iald O (fx_tal h0) g3 dzX1_removeAt_46 ?_
      obtain ⟨g4, h⟩ := z_gd_at h
      refine z_iast O (fx_tal h0) g4 dzX1_removeAt_47 ?_
      refine z_sig (fun w2 e2 => ?_)
      have h := z_lt_at e2 h
      refine z_iinc O (lv' := [(2, .int (v2 + (1 : Int32))), (0, .ref (z_ad Y q0))]) dzX1_removeAt_48 1 rfl (congrArg _ hcI1) (by decide) rfl ?_
      refine z_goto O dzX1_removeAt_51 ?_
      refine z_sub [1, 0] rfl ?_
      exact ih _ _ h
def fX1_removeAt (σ : zS) (p0 : Nat) (a1 : Int32) : Option (zS) :=
  z_lt (z_sI σ p0 2 ((σ.1 p0 2) - (1 : Int32))) (fun (w1 : zS) => fX1_removeAt_L12 p0 (fun (w2 : zS) (x1 : Int32) => some w2) z_F w1 a1)
theorem kX1_removeAt {l : Launch} {Y : zY} (hi : z_inj ΛX Y) {σ : zS} {p0 : Nat} (h0 : z_fam p0) {a1 : Int32} {fin : zS} (h : fX1_removeAt σ p0 a1 = some fin) : Met l yX1_removeAt (Cond.code yX1_removeAt cX1_removeAt 3 none :: z_TB) (z_rm 1) (z_Pc ΛX Y σ [.ref (z_ad Y p0), .int a1]) (z_Qv ΛX Y fin) 0 0 (z_A ΛX Y) := by
  unfold fX1_removeAt at h
  refine z_met [(0, .ref (z_ad Y p0)), (1, .int a1)] rfl (Nat.le_of_ble_eq_true rfl) (plainFor_of_name (by decide)) hi ?_
  intro p e s m args below meth c O hr hlk
  refine z_aload_n O dzX1_removeAt_0 rfl 0 rfl ?_
  refine z_dup O dzX1_removeAt_1 rfl ?_
  refine z_get O z_cb1 (fx_fam h0) (v := .int (σ.1 p0 2)) 2 (Nat.le_of_ble_eq_true rfl) tw_46 rfl dzX1_removeAt_2 ?_
  refine z_iconst O dzX1_removeAt_5 hcI1 ?_
  refine z_isub O dzX1_removeAt_6 ?_
  refine z_put O z_cb1 (fx_fam h0) 2 (Nat.le_of_ble_eq_true rfl) tw_46 rfl rfl rfl fp_F2 dzX1_removeAt_7 ?_
  refine z_sig (fun w1 e1 => ?_)
  have h := z_lt_at e1 h
  refine z_iload_n O dzX1_removeAt_10 rfl 1 rfl ?_
  refine z_istore_n O (lv' := [(2, .int a1), (0, .ref (z_ad Y p0)), (1, .int a1)]) dzX1_removeAt_11 rfl (by decide) rfl ?_
  refine z_sub [1, 0] rfl ?_
  refine kX1_removeAt_L12 O hi hr hlk (h0 := h0)  (fun w2 x1 h => ?_) _ _ _ h
  exact z_vret O hr hlk dzX1_removeAt_54 h
def fX1_drop (σ : zS) (p0 : Nat) (a1 : Int32) : Option (Int32 × zS) :=
  (fX1_placeOf σ p0 a1).bind (fun r1 => (if r1 = (-1 : Int32) then some ((-1 : Int32), σ) else z_gd (z_in r1 40) (z_gd (z_in r1 40) (z_lt (z_sI σ (p0 + 18) r1.toNatClampNeg ((σ.1 (p0 + 18) r1.toNatClampNeg) - (1 : Int32))) (fun (w1 : zS) => z_gd (z_in r1 40) (z_lt (w1.1 (p0 + 18) r1.toNatClampNeg) (fun (x1 : Int32) => (if x1 = 0 then (fX1_removeAt w1 p0 r1).bind (fun r2 => some (x1, r2)) else some (x1, w1)))))))))
theorem kX1_drop {l : Launch} {Y : zY} (hi : z_inj ΛX Y) {σ : zS} {p0 : Nat} (h0 : z_fam p0) {a1 : Int32} {fin : Int32 × zS} (h : fX1_drop σ p0 a1 = some fin) : Met l yX1_drop (Cond.code yX1_drop cX1_drop 4 (some .int) :: z_TB) (z_rm 2) (z_Pc ΛX Y σ [.ref (z_ad Y p0), .int a1]) (z_Qi ΛX Y fin) 0 0 (z_A ΛX Y) := by
  unfold fX1_drop at h
  refine z_met [(0, .ref (z_ad Y p0)), (1, .int a1)] rfl (Nat.le_of_ble_eq_true rfl) (plainFor_of_name (by decide)) hi ?_
  intro p e s m args below meth c O hr hlk
  refine z_aload_n O dzX1_drop_0 rfl 0 rfl ?_
  refine z_iload_n O dzX1_drop_1 rfl 1 rfl ?_
  obtain ⟨r1, hc1, h⟩ := z_bd_at h
  refine z_callViR O (As := [.int a1]) (rest := []) (kX1_placeOf hi h0 hc1) mX1_placeOf tw_283 (Nat.le_of_ble_eq_true rfl) (fx_fam h0) rfl rfl rfl rfl (Nat.le_of_ble_eq_true rfl) dzX1_drop_2 ?_
  refine z_istore_n O (lv' := [(2, .int r1), (0, .ref (z_ad Y p0)), (1, .int a1)]) dzX1_drop_5 rfl (by decide) rfl ?_
  refine z_iload_n O dzX1_drop_6 rfl 0 rfl ?_
  refine z_iconst O dzX1_drop_7 hcIm1 ?_
  refine z_icmp_ne O dzX1_drop_8 (fun c2 => ?_) (fun c2 => ?_)
  · have h := z_if_f c2 h
    refine z_aload_n O dzX1_drop_13 rfl 1 rfl ?_
    refine z_get O z_cb1 (fx_fam h0) (v := .ref (z_ad Y (p0 + 18))) 1 (Nat.le_of_ble_eq_true rfl) tw_43 rfl dzX1_drop_14 ?_
    refine z_iload_n O dzX1_drop_17 rfl 0 rfl ?_
    refine z_dup2_11 O dzX1_drop_18 rfl rfl ?_
    obtain ⟨g1, h⟩ := z_gd_at h
    refine z_iald O (fx_tal h0) g1 dzX1_drop_19 ?_
    refine z_iconst O dzX1_drop_20 hcI1 ?_
    refine z_isub O dzX1_drop_21 ?_
    obtain ⟨g2, h⟩ := z_gd_at h
    refine z_iast O (fx_tal h0) g2 dzX1_drop_22 ?_
    refine z_sig (fun w1 e1 => ?_)
    have h := z_lt_at e1 h
    refine z_aload_n O dzX1_drop_23 rfl 1 rfl ?_
    refine z_get O z_cb1 (fx_fam h0) (v := .ref (z_ad Y (p0 + 18))) 1 (Nat.le_of_ble_eq_true rfl) tw_43 rfl dzX1_drop_24 ?_
    refine z_iload_n O dzX1_drop_27 rfl 0 rfl ?_
    obtain ⟨g3, h⟩ := z_gd_at h
    refine z_iald O (fx_tal h0) g3 dzX1_drop_28 ?_
    refine z_topi (fun x1 e2 => ?_)
    have h := z_lt_at e2 h
    refine z_istore_n O (lv' := [(3, .int x1), (2, .int r1), (0, .ref (z_ad Y p0)), (1, .int a1)]) dzX1_drop_29 rfl (by decide) rfl ?_
    refine z_iload_n O dzX1_drop_30 rfl 0 rfl ?_
    refine z_if_ne O dzX1_drop_31 (fun c1 => ?_) (fun c1 => ?_)
    · have h := z_if_f c1 h
      refine z_iload_n O dzX1_drop_39 rfl 0 rfl ?_
      exact z_iret O hr hlk dzX1_drop_40 h
    · have h := z_if_t c1 h
      refine z_aload_n O dzX1_drop_34 rfl 2 rfl ?_
      refine z_iload_n O dzX1_drop_35 rfl 1 rfl ?_
      obtain ⟨r2, hc2, h⟩ := z_bd_at h
      refine z_callVv O (As := [.int r1]) (rest := []) (kX1_removeAt hi h0 hc2) mX1_removeAt tw_306 (Nat.le_of_ble_eq_true rfl) (fx_fam h0) rfl rfl rfl rfl (Nat.le_of_ble_eq_true rfl) dzX1_drop_36 ?_
      refine z_iload_n O dzX1_drop_39 rfl 0 rfl ?_
      exact z_iret O hr hlk dzX1_drop_40 h
  · have h := z_if_t c2 h
    refine z_iconst O dzX1_drop_11 hcIm1 ?_
    exact z_iret O hr hlk dzX1_drop_12 h
def fX5_has (σ : zS) (p0 : Nat) (a1 : Int32) : Option (Int32) :=
  z_gd (z_in ((a1 >>> ((6 : Int32) &&& 31)) &&& (63 : Int32)) 64) ((if (lg_cmp (((σ.2 (p0 + 2) ((a1 >>> ((6 : Int32) &&& 31)) &&& (63 : Int32)).toNatClampNeg).toUInt64 >>> ((a1 &&& (63 : Int32)).toInt64.toUInt64 &&& Int64.toUInt64 63)).toInt64 &&& (1 : Int64)) (0 : Int64)) = 0 then some (0 : Int32) else some (1 : Int32)))
theorem kX5_has {l : Launch} {Y : zY} (hi : z_inj ΛX Y) {σ : zS} {p0 : Nat} (h0 : z_tab p0) {a1 : Int32} {fin : Int32} (h : fX5_has σ p0 a1 = some fin) : Met l yX5_has (Cond.code yX5_has cX5_has 2 (some .boolean) :: z_TB) (z_rm 1) (z_Pc ΛX Y σ [.ref (z_ad Y p0), .int a1]) (z_Qi ΛX Y (fin, σ)) 0 0 (z_A ΛX Y) := by
  unfold fX5_has at h
  refine z_met [(0, .ref (z_ad Y p0)), (1, .int a1)] rfl (Nat.le_of_ble_eq_true rfl) (plainFor_of_name (by decide)) hi ?_
  intro p e s m args below meth c O hr hlk
  refine z_aload_n O dzX5_has_0 rfl 0 rfl ?_
  refine z_get O z_cb5 (fx_tab h0) (v := .ref (z_ad Y (p0 + 2))) 0 (Nat.le_of_ble_eq_true rfl) tw_206 rfl dzX5_has_1 ?_
  refine z_iload_n O dzX5_has_4 rfl 1 rfl ?_
  refine z_bipush O dzX5_has_5 hcB6 ?_
  refine z_ishr O dzX5_has_7 ?_
  refine z_bipush O dzX5_has_8 hcB63 ?_
  refine z_iand O dzX5_has_10 ?_
  obtain ⟨g1, h⟩ := z_gd_at h
  refine z_lald O (fx_wor h0) g1 dzX5_has_11 ?_
  refine z_iload_n O dzX5_has_12 rfl 1 rfl ?_
  refine z_bipush O dzX5_has_13 hcB63 ?_
  refine z_iand O dzX5_has_15 ?_
  refine z_lushr O dzX5_has_16 ?_
  refine z_lconst O dzX5_has_17 (v := 1) rfl ?_
  refine z_land O dzX5_has_18 ?_
  refine z_lconst O dzX5_has_19 (v := 0) rfl ?_
  refine z_lcmp O dzX5_has_20 ?_
  refine z_if_eq O dzX5_has_21 (fun c1 => ?_) (fun c1 => ?_)
  · have h := z_if_t c1 h
    refine z_iconst O dzX5_has_28 hcI0 ?_
    exact z_zret O hr hlk rfl dzX5_has_29 (z_rf h)
  · have h := z_if_f c1 h
    refine z_iconst O dzX5_has_24 hcI1 ?_
    refine z_goto O dzX5_has_25 ?_
    exact z_zret O hr hlk rfl dzX5_has_29 (z_rf h)
def fX1_firstOutside_L2 (σ : zS) (q0 : Nat) (q1 : Nat) (k : Int32 → Option (Int32)) : Nat → Int32 → Option (Int32)
  | 0, _ => none
  | n + 1, v2 => (if (σ.1 q0 2) ≤ v2 then k v2 else z_gd (z_in v2 40) ((fX5_has σ q1 (σ.1 (q0 + 9) v2.toNatClampNeg)).bind (fun r1 => (if r1 = 0 then z_gd (z_in v2 40) (some (σ.1 (q0 + 9) v2.toNatClampNeg)) else fX1_firstOutside_L2 σ q0 q1 k n (v2 + (1 : Int32))))))
theorem kX1_firstOutside_L2 {l : Launch} {Y : zY} {fin : Int32} {p : Program} {e : Env} {s : State} {m : MethodId} {args : Array Value} {below : List Frame} {meth : Method} {c : Code} {σ : zS} (O : z_ok ΛX Y p s m args c cX1_firstOutside RX1 3) (hi : z_inj ΛX Y) (hr : meth.sig.returnType = (some .int)) (hlk : meth.locks = false) {q0 : Nat} (h0 : z_fam q0) {q1 : Nat} (h1 : z_tab q1) {k : Int32 → Option (Int32)} (hk : ∀ (z2 : Int32), k z2 = some fin → z_G p l e (z_rm 2) s m args below meth c (MQ below (z_Qi ΛX Y (fin, σ)) args s 0 0 (z_A ΛX Y)) ΛX Y 3 σ [(0, .ref (z_ad Y q0)), (1, .ref (z_ad Y q1)), (2, .int z2)] 36 []) : ∀ (n : Nat) (v2 : Int32), fX1_firstOutside_L2 σ q0 q1 k n v2 = some fin → z_G p l e (z_rm 2) s m args below meth c (MQ below (z_Qi ΛX Y (fin, σ)) args s 0 0 (z_A ΛX Y)) ΛX Y 3 σ [(0, .ref (z_ad Y q0)), (1, .ref (z_ad Y q1)), (2, .int v2)] 2 [] := by
  intro n
  induction n with
  | zero =>
    intro _ h
    cases h
  | succ n ih =>
    intro v2 h
    rw [fX1_firstOutside_L2.eq_2] at h
    refine z_iload_n O dzX1_firstOutside_2 rfl 2 rfl ?_
    refine z_aload_n O dzX1_firstOutside_3 rfl 0 rfl ?_
    refine z_get O z_cb1 (fx_fam h0) (v := .int (σ.1 q0 2)) 2 (Nat.le_of_ble_eq_true rfl) tw_46 rfl dzX1_firstOutside_4 ?_
    refine z_icmp_ge O dzX1_firstOutside_7 (fun c2 => ?_) (fun c2 => ?_)
    · have h := z_if_t c2 h
      exact hk _ h
    · have h := z_if_f c2 h
      refine z_aload_n O dzX1_firstOutside_10 rfl 1 rfl ?_
      refine z_aload_n O dzX1_firstOutside_11 rfl 0 rfl ?_
      refine z_get O z_cb1 (fx_fam h0) (v := .ref (z_ad Y (q0 + 9))) 0 (Nat.le_of_ble_eq_true rfl) tw_39 rfl dzX1_firstOutside_12 ?_
      refine z_iload_n O dzX1_firstOutside_15 rfl 2 rfl ?_
      obtain ⟨g1, h⟩ := z_gd_at h
      refine z_iald O (fx_set h0) g1 dzX1_firstOutside_16 ?_
      obtain ⟨r1, hc1, h⟩ := z_bd_at h
      refine z_callViR O (As := [.int (σ.1 (q0 + 9) v2.toNatClampNeg)]) (rest := []) (kX5_has hi h1 hc1) mX5_has tw_507 (Nat.le_of_ble_eq_true rfl) (fx_tab h1) rfl rfl rfl rfl (Nat.le_of_ble_eq_true rfl) dzX1_firstOutside_17 ?_
      refine z_if_ne O dzX1_firstOutside_20 (fun c1 => ?_) (fun c1 => ?_)
      · have h := z_if_f c1 h
        refine z_iinc O (lv' := [(2, .int (v2 + (1 : Int32))), (0, .ref (z_ad Y q0)), (1, .ref (z_ad Y q1))]) dzX1_firstOutside_30 2 rfl (congrArg _ hcI1) (by decide) rfl ?_
        refine z_goto O dzX1_firstOutside_33 ?_
        refine z_sub [1, 2, 0] rfl ?_
        exact ih _ h
      · have h := z_if_t c1 h
        refine z_aload_n O dzX1_firstOutside_23 rfl 0 rfl ?_
        refine z_get O z_cb1 (fx_fam h0) (v := .ref (z_ad Y (q0 + 9))) 0 (Nat.le_of_ble_eq_true rfl) tw_39 rfl dzX1_firstOutside_24 ?_
        refine z_iload_n O dzX1_firstOutside_27 rfl 2 rfl ?_
        obtain ⟨g2, h⟩ := z_gd_at h
        refine z_iald O (fx_set h0) g2 dzX1_firstOutside_28 ?_
        exact z_iret O hr hlk dzX1_firstOutside_29 (z_rf h)
def fX1_firstOutside (σ : zS) (p0 : Nat) (p1 : Nat) : Option (Int32) :=
  fX1_firstOutside_L2 σ p0 p1 (fun (x1 : Int32) => some (-1 : Int32)) z_F (0 : Int32)
theorem kX1_firstOutside {l : Launch} {Y : zY} (hi : z_inj ΛX Y) {σ : zS} {p0 : Nat} (h0 : z_fam p0) {p1 : Nat} (h1 : z_tab p1) {fin : Int32} (h : fX1_firstOutside σ p0 p1 = some fin) : Met l yX1_firstOutside (Cond.code yX1_firstOutside cX1_firstOutside 3 (some .int) :: z_TB) (z_rm 2) (z_Pc ΛX Y σ [.ref (z_ad Y p0), .ref (z_ad Y p1)]) (z_Qi ΛX Y (fin, σ)) 0 0 (z_A ΛX Y) := by
  unfold fX1_firstOutside at h
  refine z_met [(0, .ref (z_ad Y p0)), (1, .ref (z_ad Y p1))] rfl (Nat.le_of_ble_eq_true rfl) (plainFor_of_name (by decide)) hi ?_
  intro p e s m args below meth c O hr hlk
  refine z_iconst O dzX1_firstOutside_0 hcI0 ?_
  refine z_istore_n O (lv' := [(2, .int (0 : Int32)), (0, .ref (z_ad Y p0)), (1, .ref (z_ad Y p1))]) dzX1_firstOutside_1 rfl (by decide) rfl ?_
  refine z_sub [1, 2, 0] rfl ?_
  refine kX1_firstOutside_L2 O hi hr hlk (h0 := h0) (h1 := h1)  (fun x1 h => ?_) _ _ h
  refine z_iconst O dzX1_firstOutside_36 hcIm1 ?_
  exact z_iret O hr hlk dzX1_firstOutside_37 (z_rf h)
def fX7_isPart (a0 : Int32) (a1 : Int32) : Option (Int32) :=
  (if (a0 &&& (a1 ^^^ (-1 : Int32))) = 0 then some (1 : Int32) else some (0 : Int32))
theorem kX7_isPart {l : Launch} {Y : zY} (hi : z_inj ΛX Y) {σ : zS} {a0 : Int32} {a1 : Int32} {fin : Int32} (h : fX7_isPart a0 a1 = some fin) : Met l yX7_isPart (Cond.code yX7_isPart cX7_isPart 2 (some .boolean) :: z_TB) (z_rm 1) (z_Pc ΛX Y σ [.int a0, .int a1]) (z_Qi ΛX Y (fin, σ)) 0 0 (z_A ΛX Y) := by
  unfold fX7_isPart at h
  refine z_met [(0, .int a0), (1, .int a1)] rfl (Nat.le_of_ble_eq_true rfl) (plainFor_of_name (by decide)) hi ?_
  intro p e s m args below meth c O hr hlk
  refine z_iload_n O dzX7_isPart_0 rfl 0 rfl ?_
  refine z_iload_n O dzX7_isPart_1 rfl 1 rfl ?_
  refine z_iconst O dzX7_isPart_2 hcIm1 ?_
  refine z_ixor O dzX7_isPart_3 ?_
  refine z_iand O dzX7_isPart_4 ?_
  refine z_if_ne O dzX7_isPart_5 (fun c1 => ?_) (fun c1 => ?_)
  · have h := z_if_f c1 h
    refine z_iconst O dzX7_isPart_12 hcI0 ?_
    exact z_zret O hr hlk rfl dzX7_isPart_13 (z_rf h)
  · have h := z_if_t c1 h
    refine z_iconst O dzX7_isPart_8 hcI1 ?_
    refine z_goto O dzX7_isPart_9 ?_
    exact z_zret O hr hlk rfl dzX7_isPart_13 (z_rf h)
def fX1_hasPart_L2 (σ : zS) (q0 : Nat) (a1 : Int32) (k : Int32 → Option (Int32)) : Nat → Int32 → Option (Int32)
  | 0, _ => none
  | n + 1, v2 => (if (σ.1 q0 2) ≤ v2 then k v2 else (if v2 = a1 then fX1_hasPart_L2 σ q0 a1 k n (v2 + (1 : Int32)) else z_gd (z_in v2 40) (z_gd (z_in a1 40) ((fX7_isPart (σ.1 (q0 + 9) v2.toNatClampNeg) (σ.1 (q0 + 9) a1.toNatClampNeg)).bind (fun r1 => (if r1 = 0 then fX1_hasPart_L2 σ q0 a1 k n (v2 + (1 : Int32)) else some (1 : Int32)))))))
theorem kX1_hasPart_L2 {l : Launch} {Y : zY} {fin : Int32} {p : Program} {e : Env} {s : State} {m : MethodId} {args : Array Value} {below : List Frame} {meth : Method} {c : Code} {σ : zS} (O : z_ok ΛX Y p s m args c cX1_hasPart RX1 3) (hi : z_inj ΛX Y) (hr : meth.sig.returnType = (some .boolean)) (hlk : meth.locks = false) {q0 : Nat} (h0 : z_fam q0) {a1 : Int32} {k : Int32 → Option (Int32)} (hk : ∀ (z2 : Int32), k z2 = some fin → z_G p l e (z_rm 2) s m args below meth c (MQ below (z_Qi ΛX Y (fin, σ)) args s 0 0 (z_A ΛX Y)) ΛX Y 3 σ [(0, .ref (z_ad Y q0)), (1, .int a1), (2, .int z2)] 41 []) : ∀ (n : Nat) (v2 : Int32), fX1_hasPart_L2 σ q0 a1 k n v2 = some fin → z_G p l e (z_rm 2) s m args below meth c (MQ below (z_Qi ΛX Y (fin, σ)) args s 0 0 (z_A ΛX Y)) ΛX Y 3 σ [(0, .ref (z_ad Y q0)), (1, .int a1), (2, .int v2)] 2 [] := by
  intro n
  induction n with
  | zero =>
    intro _ h
    cases h
  | succ n ih =>
    intro v2 h
    rw [fX1_hasPart_L2.eq_2] at h
    refine z_iload_n O dzX1_hasPart_2 rfl 2 rfl ?_
    refine z_aload_n O dzX1_hasPart_3 rfl 0 rfl ?_
    refine z_get O z_cb1 (fx_fam h0) (v := .int (σ.1 q0 2)) 2 (Nat.le_of_ble_eq_true rfl) tw_46 rfl dzX1_hasPart_4 ?_
    refine z_icmp_ge O dzX1_hasPart_7 (fun c3 => ?_) (fun c3 => ?_)
    · have h := z_if_t c3 h
      exact hk _ h
    · have h := z_if_f c3 h
      refine z_iload_n O dzX1_hasPart_10 rfl 2 rfl ?_
      refine z_iload_n O dzX1_hasPart_11 rfl 1 rfl ?_
      refine z_icmp_eq O dzX1_hasPart_12 (fun c2 => ?_) (fun c2 => ?_)
      · have h := z_if_t c2 h
        refine z_iinc O (lv' := [(2, .int (v2 + (1 : Int32))), (0, .ref (z_ad Y q0)), (1, .int a1)]) dzX1_hasPart_35 2 rfl (congrArg _ hcI1) (by decide) rfl ?_
        refine z_goto O dzX1_hasPart_38 ?_
        refine z_sub [1, 2, 0] rfl ?_
        exact ih _ h
      · have h := z_if_f c2 h
        refine z_aload_n O dzX1_hasPart_15 rfl 0 rfl ?_
        refine z_get O z_cb1 (fx_fam h0) (v := .ref (z_ad Y (q0 + 9))) 0 (Nat.le_of_ble_eq_true rfl) tw_39 rfl dzX1_hasPart_16 ?_
        refine z_iload_n O dzX1_hasPart_19 rfl 2 rfl ?_
        obtain ⟨g1, h⟩ := z_gd_at h
        refine z_iald O (fx_set h0) g1 dzX1_hasPart_20 ?_
        refine z_aload_n O dzX1_hasPart_21 rfl 0 rfl ?_
        refine z_get O z_cb1 (fx_fam h0) (v := .ref (z_ad Y (q0 + 9))) 0 (Nat.le_of_ble_eq_true rfl) tw_39 rfl dzX1_hasPart_22 ?_
        refine z_iload_n O dzX1_hasPart_25 rfl 1 rfl ?_
        obtain ⟨g2, h⟩ := z_gd_at h
        refine z_iald O (fx_set h0) g2 dzX1_hasPart_26 ?_
        obtain ⟨r1, hc1, h⟩ := z_bd_at h
        refine z_callNiR O (As := [.int (σ.1 (q0 + 9) v2.toNatClampNeg), .int (σ.1 (q0 + 9) a1.toNatClampNeg)]) (rest := []) (kX7_isPart hi hc1) mX7_isPart (List.mem_of_getElem? (i := 0) rfl) (Nat.le_of_ble_eq_true rfl) rfl rfl (Nat.le_of_ble_eq_true rfl) dzX1_hasPart_27 ?_
        refine z_if_eq O dzX1_hasPart_30 (fun c1 => ?_) (fun c1 => ?_)
        · have h := z_if_t c1 h
          refine z_iinc O (lv' := [(2, .int (v2 + (1 : Int32))), (0, .ref (z_ad Y q0)), (1, .int a1)]) dzX1_hasPart_35 2 rfl (congrArg _ hcI1) (by decide) rfl ?_
          refine z_goto O dzX1_hasPart_38 ?_
          refine z_sub [1, 2, 0] rfl ?_
          exact ih _ h
        · have h := z_if_f c1 h
          refine z_iconst O dzX1_hasPart_33 hcI1 ?_
          exact z_zret O hr hlk rfl dzX1_hasPart_34 (z_rf h)
def fX1_hasPart (σ : zS) (p0 : Nat) (a1 : Int32) : Option (Int32) :=
  fX1_hasPart_L2 σ p0 a1 (fun (x1 : Int32) => some (0 : Int32)) z_F (0 : Int32)
theorem kX1_hasPart {l : Launch} {Y : zY} (hi : z_inj ΛX Y) {σ : zS} {p0 : Nat} (h0 : z_fam p0) {a1 : Int32} {fin : Int32} (h : fX1_hasPart σ p0 a1 = some fin) : Met l yX1_hasPart (Cond.code yX1_hasPart cX1_hasPart 3 (some .boolean) :: z_TB) (z_rm 2) (z_Pc ΛX Y σ [.ref (z_ad Y p0), .int a1]) (z_Qi ΛX Y (fin, σ)) 0 0 (z_A ΛX Y) := by
  unfold fX1_hasPart at h
  refine z_met [(0, .ref (z_ad Y p0)), (1, .int a1)] rfl (Nat.le_of_ble_eq_true rfl) (plainFor_of_name (by decide)) hi ?_
  intro p e s m args below meth c O hr hlk
  refine z_iconst O dzX1_hasPart_0 hcI0 ?_
  refine z_istore_n O (lv' := [(2, .int (0 : Int32)), (0, .ref (z_ad Y p0)), (1, .int a1)]) dzX1_hasPart_1 rfl (by decide) rfl ?_
  refine z_sub [1, 2, 0] rfl ?_
  refine kX1_hasPart_L2 O hi hr hlk (h0 := h0)  (fun x1 h => ?_) _ _ h
  refine z_iconst O dzX1_hasPart_41 hcI0 ?_
  exact z_zret O hr hlk rfl dzX1_hasPart_42 (z_rf h)
def fX1_packedFrom_L5 (σ : zS) (q0 : Nat) (a1 : Int32) (k : Int64 → Int32 → Option (Int64)) : Nat → Int64 → Int32 → Option (Int64)
  | 0, _, _ => none
  | n + 1, v2, v4 => (if (5 : Int32) ≤ v4 then k v2 v4 else (if (σ.1 q0 2) ≤ (a1 + v4) then k v2 v4 else z_gd (z_in (a1 + v4) 40) (z_lt (v2 ||| ((σ.1 (q0 + 9) (a1 + v4).toNatClampNeg).toInt64 <<< (((12 : Int32) * v4).toInt64 &&& 63))) (fun (x1 : Int64) => fX1_packedFrom_L5 σ q0 a1 k n x1 (v4 + (1 : Int32))))))
theorem kX1_packedFrom_L5 {l : Launch} {Y : zY} {fin : Int64} {p : Program} {e : Env} {s : State} {m : MethodId} {args : Array Value} {below : List Frame} {meth : Method} {c : Code} {σ : zS} (O : z_ok ΛX Y p s m args c cX1_packedFrom RX1 5) (hi : z_inj ΛX Y) (hr : meth.sig.returnType = (some .long)) (hlk : meth.locks = false) {q0 : Nat} (h0 : z_fam q0) {a1 : Int32} {k : Int64 → Int32 → Option (Int64)} (hk : ∀ (z2 : Int64) (z4 : Int32), k z2 z4 = some fin → z_G p l e (z_rm 1) s m args below meth c (MQ below (z_Ql ΛX Y (fin, σ)) args s 0 0 (z_A ΛX Y)) ΛX Y 5 σ [(0, .ref (z_ad Y q0)), (1, .int a1), (2, .long z2), (4, .int z4)] 47 []) : ∀ (n : Nat) (v2 : Int64) (v4 : Int32), fX1_packedFrom_L5 σ q0 a1 k n v2 v4 = some fin → z_G p l e (z_rm 1) s m args below meth c (MQ below (z_Ql ΛX Y (fin, σ)) args s 0 0 (z_A ΛX Y)) ΛX Y 5 σ [(0, .ref (z_ad Y q0)), (1, .int a1), (2, .long v2), (4, .int v4)] 5 [] := by
  intro n
  induction n with
  | zero =>
    intro _ _ h
    cases h
  | succ n ih =>
    intro v2 v4 h
    rw [fX1_packedFrom_L5.eq_2] at h
    refine z_iload O dzX1_packedFrom_5 3 rfl ?_
    refine z_iconst O dzX1_packedFrom_7 hcI5 ?_
    refine z_icmp_ge O dzX1_packedFrom_8 (fun c2 => ?_) (fun c2 => ?_)
    · have h := z_if_t c2 h
      exact hk _ _ h
    · have h := z_if_f c2 h
      refine z_iload_n O dzX1_packedFrom_11 rfl 1 rfl ?_
      refine z_iload O dzX1_packedFrom_12 3 rfl ?_
      refine z_iadd O dzX1_packedFrom_14 ?_
      refine z_aload_n O dzX1_packedFrom_15 rfl 0 rfl ?_
      refine z_get O z_cb1 (fx_fam h0) (v := .int (σ.1 q0 2)) 2 (Nat.le_of_ble_eq_true rfl) tw_46 rfl dzX1_packedFrom_16 ?_
      refine z_icmp_ge O dzX1_packedFrom_19 (fun c1 => ?_) (fun c1 => ?_)
      · have h := z_if_t c1 h
        exact hk _ _ h
      · have h := z_if_f c1 h
        refine z_lload_n O dzX1_packedFrom_22 rfl 2 rfl ?_
        refine z_aload_n O dzX1_packedFrom_23 rfl 0 rfl ?_
        refine z_get O z_cb1 (fx_fam h0) (v := .ref (z_ad Y (q0 + 9))) 0 (Nat.le_of_ble_eq_true rfl) tw_39 rfl dzX1_packedFrom_24 ?_
        refine z_iload_n O dzX1_packedFrom_27 rfl 1 rfl ?_
        refine z_iload O dzX1_packedFrom_28 3 rfl ?_
        refine z_iadd O dzX1_packedFrom_30 ?_
        obtain ⟨g1, h⟩ := z_gd_at h
        refine z_iald O (fx_set h0) g1 dzX1_packedFrom_31 ?_
        refine z_i2l O dzX1_packedFrom_32 ?_
        refine z_bipush O dzX1_packedFrom_33 hcB12 ?_
        refine z_iload O dzX1_packedFrom_35 3 rfl ?_
        refine z_imul O dzX1_packedFrom_37 ?_
        refine z_lshl O dzX1_packedFrom_38 ?_
        refine z_lor O dzX1_packedFrom_39 ?_
        refine z_topl (fun x1 e1 => ?_)
        have h := z_lt_at e1 h
        refine z_lstore_n O (lv' := [(2, .long x1), (0, .ref (z_ad Y q0)), (1, .int a1), (4, .int v4)]) dzX1_packedFrom_40 rfl (by decide) rfl ?_
        refine z_iinc O (lv' := [(4, .int (v4 + (1 : Int32))), (2, .long x1), (0, .ref (z_ad Y q0)), (1, .int a1)]) dzX1_packedFrom_41 3 rfl (congrArg _ hcI1) (by decide) rfl ?_
        refine z_goto O dzX1_packedFrom_44 ?_
        refine z_sub [2, 3, 1, 0] rfl ?_
        exact ih _ _ h
def fX1_packedFrom (σ : zS) (p0 : Nat) (a1 : Int32) : Option (Int64) :=
  fX1_packedFrom_L5 σ p0 a1 (fun (x1 : Int64) (x2 : Int32) => some x1) z_F (0 : Int64) (0 : Int32)
theorem kX1_packedFrom {l : Launch} {Y : zY} (hi : z_inj ΛX Y) {σ : zS} {p0 : Nat} (h0 : z_fam p0) {a1 : Int32} {fin : Int64} (h : fX1_packedFrom σ p0 a1 = some fin) : Met l yX1_packedFrom (Cond.code yX1_packedFrom cX1_packedFrom 5 (some .long) :: z_TB) (z_rm 1) (z_Pc ΛX Y σ [.ref (z_ad Y p0), .int a1]) (z_Ql ΛX Y (fin, σ)) 0 0 (z_A ΛX Y) := by
  unfold fX1_packedFrom at h
  refine z_met [(0, .ref (z_ad Y p0)), (1, .int a1)] rfl (Nat.le_of_ble_eq_true rfl) (plainFor_of_name (by decide)) hi ?_
  intro p e s m args below meth c O hr hlk
  refine z_lconst O dzX1_packedFrom_0 (v := 0) rfl ?_
  refine z_lstore_n O (lv' := [(2, .long (0 : Int64)), (0, .ref (z_ad Y p0)), (1, .int a1)]) dzX1_packedFrom_1 rfl (by decide) rfl ?_
  refine z_iconst O dzX1_packedFrom_2 hcI0 ?_
  refine z_istore O (lv' := [(4, .int (0 : Int32)), (2, .long (0 : Int64)), (0, .ref (z_ad Y p0)), (1, .int a1)]) dzX1_packedFrom_3 (by decide) rfl ?_
  refine z_sub [2, 3, 1, 0] rfl ?_
  refine kX1_packedFrom_L5 O hi hr hlk (h0 := h0)  (fun x1 x2 h => ?_) _ _ _ h
  refine z_lload_n O dzX1_packedFrom_47 rfl 2 rfl ?_
  exact z_lret O hr hlk dzX1_packedFrom_48 (z_rf h)
def fX1_talliesAround_L4 (σ : zS) (q0 : Nat) (a1 : Int32) (k : Int32 → Int32 → Option (Int32)) : Nat → Int32 → Int32 → Option (Int32)
  | 0, _, _ => none
  | n + 1, v2, v3 => (if (σ.1 q0 2) ≤ v3 then k v2 v3 else z_gd (z_in v3 40) ((fX7_isPart a1 (σ.1 (q0 + 9) v3.toNatClampNeg)).bind (fun r1 => (if r1 = 0 then fX1_talliesAround_L4 σ q0 a1 k n v2 (v3 + (1 : Int32)) else z_gd (z_in v3 40) (z_lt (v2 + (σ.1 (q0 + 18) v3.toNatClampNeg)) (fun (x1 : Int32) => fX1_talliesAround_L4 σ q0 a1 k n x1 (v3 + (1 : Int32))))))))
theorem kX1_talliesAround_L4 {l : Launch} {Y : zY} {fin : Int32} {p : Program} {e : Env} {s : State} {m : MethodId} {args : Array Value} {below : List Frame} {meth : Method} {c : Code} {σ : zS} (O : z_ok ΛX Y p s m args c cX1_talliesAround RX1 4) (hi : z_inj ΛX Y) (hr : meth.sig.returnType = (some .int)) (hlk : meth.locks = false) {q0 : Nat} (h0 : z_fam q0) {a1 : Int32} {k : Int32 → Int32 → Option (Int32)} (hk : ∀ (z2 : Int32) (z3 : Int32), k z2 z3 = some fin → z_G p l e (z_rm 2) s m args below meth c (MQ below (z_Qi ΛX Y (fin, σ)) args s 0 0 (z_A ΛX Y)) ΛX Y 4 σ [(0, .ref (z_ad Y q0)), (1, .int a1), (2, .int z2), (3, .int z3)] 40 []) : ∀ (n : Nat) (v2 : Int32) (v3 : Int32), fX1_talliesAround_L4 σ q0 a1 k n v2 v3 = some fin → z_G p l e (z_rm 2) s m args below meth c (MQ below (z_Qi ΛX Y (fin, σ)) args s 0 0 (z_A ΛX Y)) ΛX Y 4 σ [(0, .ref (z_ad Y q0)), (1, .int a1), (2, .int v2), (3, .int v3)] 4 [] := by
  intro n
  induction n with
  | zero =>
    intro _ _ h
    cases h
  | succ n ih =>
    intro v2 v3 h
    rw [fX1_talliesAround_L4.eq_2] at h
    refine z_iload_n O dzX1_talliesAround_4 rfl 3 rfl ?_
    refine z_aload_n O dzX1_talliesAround_5 rfl 0 rfl ?_
    refine z_get O z_cb1 (fx_fam h0) (v := .int (σ.1 q0 2)) 2 (Nat.le_of_ble_eq_true rfl) tw_46 rfl dzX1_talliesAround_6 ?_
    refine z_icmp_ge O dzX1_talliesAround_9 (fun c2 => ?_) (fun c2 => ?_)
    · have h := z_if_t c2 h
      exact hk _ _ h
    · have h := z_if_f c2 h
      refine z_iload_n O dzX1_talliesAround_12 rfl 1 rfl ?_
      refine z_aload_n O dzX1_talliesAround_13 rfl 0 rfl ?_
      refine z_get O z_cb1 (fx_fam h0) (v := .ref (z_ad Y (q0 + 9))) 0 (Nat.le_of_ble_eq_true rfl) tw_39 rfl dzX1_talliesAround_14 ?_
      refine z_iload_n O dzX1_talliesAround_17 rfl 3 rfl ?_
      obtain ⟨g1, h⟩ := z_gd_at h
      refine z_iald O (fx_set h0) g1 dzX1_talliesAround_18 ?_
      obtain ⟨r1, hc1, h⟩ := z_bd_at h
      refine z_callNiR O (As := [.int a1, .int (σ.1 (q0 + 9) v3.toNatClampNeg)]) (rest := []) (kX7_isPart hi hc1) mX7_isPart (List.mem_of_getElem? (i := 0) rfl) (Nat.le_of_ble_eq_true rfl) rfl rfl (Nat.le_of_ble_eq_true rfl) dzX1_talliesAround_19 ?_
      refine z_if_eq O dzX1_talliesAround_22 (fun c1 => ?_) (fun c1 => ?_)
      · have h := z_if_t c1 h
        refine z_iinc O (lv' := [(3, .int (v3 + (1 : Int32))), (0, .ref (z_ad Y q0)), (1, .int a1), (2, .int v2)]) dzX1_talliesAround_34 3 rfl (congrArg _ hcI1) (by decide) rfl ?_
        refine z_goto O dzX1_talliesAround_37 ?_
        refine z_sub [1, 2, 3, 0] rfl ?_
        exact ih _ _ h
      · have h := z_if_f c1 h
        refine z_iload_n O dzX1_talliesAround_25 rfl 2 rfl ?_
        refine z_aload_n O dzX1_talliesAround_26 rfl 0 rfl ?_
        refine z_get O z_cb1 (fx_fam h0) (v := .ref (z_ad Y (q0 + 18))) 1 (Nat.le_of_ble_eq_true rfl) tw_43 rfl dzX1_talliesAround_27 ?_
        refine z_iload_n O dzX1_talliesAround_30 rfl 3 rfl ?_
        obtain ⟨g2, h⟩ := z_gd_at h
        refine z_iald O (fx_tal h0) g2 dzX1_talliesAround_31 ?_
        refine z_iadd O dzX1_talliesAround_32 ?_
        refine z_topi (fun x1 e1 => ?_)
        have h := z_lt_at e1 h
        refine z_istore_n O (lv' := [(2, .int x1), (0, .ref (z_ad Y q0)), (1, .int a1), (3, .int v3)]) dzX1_talliesAround_33 rfl (by decide) rfl ?_
        refine z_iinc O (lv' := [(3, .int (v3 + (1 : Int32))), (2, .int x1), (0, .ref (z_ad Y q0)), (1, .int a1)]) dzX1_talliesAround_34 3 rfl (congrArg _ hcI1) (by decide) rfl ?_
        refine z_goto O dzX1_talliesAround_37 ?_
        refine z_sub [2, 3, 1, 0] rfl ?_
        exact ih _ _ h
def fX1_talliesAround (σ : zS) (p0 : Nat) (a1 : Int32) : Option (Int32) :=
  fX1_talliesAround_L4 σ p0 a1 (fun (x1 : Int32) (x2 : Int32) => some x1) z_F (0 : Int32) (0 : Int32)
theorem kX1_talliesAround {l : Launch} {Y : zY} (hi : z_inj ΛX Y) {σ : zS} {p0 : Nat} (h0 : z_fam p0) {a1 : Int32} {fin : Int32} (h : fX1_talliesAround σ p0 a1 = some fin) : Met l yX1_talliesAround (Cond.code yX1_talliesAround cX1_talliesAround 4 (some .int) :: z_TB) (z_rm 2) (z_Pc ΛX Y σ [.ref (z_ad Y p0), .int a1]) (z_Qi ΛX Y (fin, σ)) 0 0 (z_A ΛX Y) := by
  unfold fX1_talliesAround at h
  refine z_met [(0, .ref (z_ad Y p0)), (1, .int a1)] rfl (Nat.le_of_ble_eq_true rfl) (plainFor_of_name (by decide)) hi ?_
  intro p e s m args below meth c O hr hlk
  refine z_iconst O dzX1_talliesAround_0 hcI0 ?_
  refine z_istore_n O (lv' := [(2, .int (0 : Int32)), (0, .ref (z_ad Y p0)), (1, .int a1)]) dzX1_talliesAround_1 rfl (by decide) rfl ?_
  refine z_iconst O dzX1_talliesAround_2 hcI0 ?_
  refine z_istore_n O (lv' := [(3, .int (0 : Int32)), (2, .int (0 : Int32)), (0, .ref (z_ad Y p0)), (1, .int a1)]) dzX1_talliesAround_3 rfl (by decide) rfl ?_
  refine z_sub [2, 3, 1, 0] rfl ?_
  refine kX1_talliesAround_L4 O hi hr hlk (h0 := h0)  (fun x1 x2 h => ?_) _ _ _ h
  refine z_iload_n O dzX1_talliesAround_40 rfl 2 rfl ?_
  exact z_iret O hr hlk dzX1_talliesAround_41 (z_rf h)
def fX1_tallyOf (σ : zS) (p0 : Nat) (a1 : Int32) : Option (Int32) :=
  (fX1_placeOf σ p0 a1).bind (fun r1 => (if r1 = (-1 : Int32) then some (0 : Int32) else z_gd (z_in r1 40) (some (σ.1 (p0 + 18) r1.toNatClampNeg))))
theorem kX1_tallyOf {l : Launch} {Y : zY} (hi : z_inj ΛX Y) {σ : zS} {p0 : Nat} (h0 : z_fam p0) {a1 : Int32} {fin : Int32} (h : fX1_tallyOf σ p0 a1 = some fin) : Met l yX1_tallyOf (Cond.code yX1_tallyOf cX1_tallyOf 3 (some .int) :: z_TB) (z_rm 2) (z_Pc ΛX Y σ [.ref (z_ad Y p0), .int a1]) (z_Qi ΛX Y (fin, σ)) 0 0 (z_A ΛX Y) := by
  unfold fX1_tallyOf at h
  refine z_met [(0, .ref (z_ad Y p0)), (1, .int a1)] rfl (Nat.le_of_ble_eq_true rfl) (plainFor_of_name (by decide)) hi ?_
  intro p e s m args below meth c O hr hlk
  refine z_aload_n O dzX1_tallyOf_0 rfl 0 rfl ?_
  refine z_iload_n O dzX1_tallyOf_1 rfl 1 rfl ?_
  obtain ⟨r1, hc1, h⟩ := z_bd_at h
  refine z_callViR O (As := [.int a1]) (rest := []) (kX1_placeOf hi h0 hc1) mX1_placeOf tw_283 (Nat.le_of_ble_eq_true rfl) (fx_fam h0) rfl rfl rfl rfl (Nat.le_of_ble_eq_true rfl) dzX1_tallyOf_2 ?_
  refine z_istore_n O (lv' := [(2, .int r1), (0, .ref (z_ad Y p0)), (1, .int a1)]) dzX1_tallyOf_5 rfl (by decide) rfl ?_
  refine z_iload_n O dzX1_tallyOf_6 rfl 0 rfl ?_
  refine z_iconst O dzX1_tallyOf_7 hcIm1 ?_
  refine z_icmp_ne O dzX1_tallyOf_8 (fun c1 => ?_) (fun c1 => ?_)
  · have h := z_if_f c1 h
    refine z_aload_n O dzX1_tallyOf_15 rfl 1 rfl ?_
    refine z_get O z_cb1 (fx_fam h0) (v := .ref (z_ad Y (p0 + 18))) 1 (Nat.le_of_ble_eq_true rfl) tw_43 rfl dzX1_tallyOf_16 ?_
    refine z_iload_n O dzX1_tallyOf_19 rfl 0 rfl ?_
    obtain ⟨g1, h⟩ := z_gd_at h
    refine z_iald O (fx_tal h0) g1 dzX1_tallyOf_20 ?_
    exact z_iret O hr hlk dzX1_tallyOf_21 (z_rf h)
  · have h := z_if_t c1 h
    refine z_iconst O dzX1_tallyOf_11 hcI0 ?_
    refine z_goto O dzX1_tallyOf_12 ?_
    exact z_iret O hr hlk dzX1_tallyOf_21 (z_rf h)
def fX2_become (σ : zS) (p0 : Nat) (a1 : Int32) (a2 : Int32) (a3 : Int32) (a4 : Int32) (p5 : Nat) : Option (zS) :=
  z_lt (z_sI σ p0 0 a1) (fun (w1 : zS) => z_lt (z_sI w1 p0 1 a2) (fun (w2 : zS) => z_lt (z_sI w2 p0 2 a3) (fun (w3 : zS) => z_lt (z_sI w3 p0 3 a4) (fun (w4 : zS) => z_gd (z_cp (0 : Int32) (0 : Int32) (12 : Int32) 12 12) (z_lt (z_fI w4 (p0 + 12) (va_cpy (w4.1 p5) (w4.1 (p0 + 12)) (0 : Int32).toNatClampNeg (0 : Int32).toNatClampNeg (12 : Int32).toNatClampNeg)) (fun (w5 : zS) => some w5))))))
theorem kX2_become {l : Launch} {Y : zY} (hi : z_inj ΛX Y) {σ : zS} {p0 : Nat} (h0 : z_rul p0) {a1 : Int32} {a2 : Int32} {a3 : Int32} {a4 : Int32} {p5 : Nat} (h5 : z_FI ΛX p5 12) {fin : zS} (h : fX2_become σ p0 a1 a2 a3 a4 p5 = some fin) : Met l yX2_become (Cond.code yX2_become cX2_become 6 none :: z_TB) (z_rm 1) (z_Pc ΛX Y σ [.ref (z_ad Y p0), .int a1, .int a2, .int a3, .int a4, .ref (z_ad Y p5)]) (z_Qv ΛX Y fin) 0 0 (z_A ΛX Y) := by
  unfold fX2_become at h
  refine z_met [(0, .ref (z_ad Y p0)), (1, .int a1), (2, .int a2), (3, .int a3), (4, .int a4), (5, .ref (z_ad Y p5))] rfl (Nat.le_of_ble_eq_true rfl) (plainFor_of_name (by decide)) hi ?_
  intro p e s m args below meth c O hr hlk
  refine z_aload_n O dzX2_become_0 rfl 0 rfl ?_
  refine z_iload_n O dzX2_become_1 rfl 1 rfl ?_
  refine z_put O z_cb2 (fx_rul h0) 0 (Nat.le_of_ble_eq_true rfl) tw_79 rfl rfl rfl fp_R0 dzX2_become_2 ?_
  refine z_sig (fun w1 e1 => ?_)
  have h := z_lt_at e1 h
  refine z_aload_n O dzX2_become_5 rfl 0 rfl ?_
  refine z_iload_n O dzX2_become_6 rfl 2 rfl ?_
  refine z_put O z_cb2 (fx_rul h0) 1 (Nat.le_of_ble_eq_true rfl) tw_81 rfl rfl rfl fp_R1 dzX2_become_7 ?_
  refine z_sig (fun w2 e2 => ?_)
  have h := z_lt_at e2 h
  refine z_aload_n O dzX2_become_10 rfl 0 rfl ?_
  refine z_iload_n O dzX2_become_11 rfl 3 rfl ?_
  refine z_put O z_cb2 (fx_rul h0) 2 (Nat.le_of_ble_eq_true rfl) tw_83 rfl rfl rfl fp_R2 dzX2_become_12 ?_
  refine z_sig (fun w3 e3 => ?_)
  have h := z_lt_at e3 h
  refine z_aload_n O dzX2_become_15 rfl 0 rfl ?_
  refine z_iload O dzX2_become_16 4 rfl ?_
  refine z_put O z_cb2 (fx_rul h0) 3 (Nat.le_of_ble_eq_true rfl) tw_85 rfl rfl rfl fp_R3 dzX2_become_18 ?_
  refine z_sig (fun w4 e4 => ?_)
  have h := z_lt_at e4 h
  refine z_aload O dzX2_become_21 5 rfl ?_
  refine z_iconst O dzX2_become_23 hcI0 ?_
  refine z_aload_n O dzX2_become_24 rfl 0 rfl ?_
  refine z_get O z_cb2 (fx_rul h0) (v := .ref (z_ad Y (p0 + 12))) 4 (Nat.le_of_ble_eq_true rfl) tw_87 rfl dzX2_become_25 ?_
  refine z_iconst O dzX2_become_28 hcI0 ?_
  refine z_bipush O dzX2_become_29 hcB12 ?_
  obtain ⟨g1, h⟩ := z_gd_at h
  refine z_acpy O tw_625 tw_264 tw_263 tw_11 h5 (fx_rlp h0) g1 (by omega) (Nat.le_of_ble_eq_true rfl) dzX2_become_31 ?_
  refine z_sig (fun w5 e5 => ?_)
  have h := z_lt_at e5 h
  exact z_vret O hr hlk dzX2_become_34 h
def fX3_become (σ : zS) (p0 : Nat) (a1 : Int32) (a2 : Int32) : Option (zS) :=
  z_lt (z_sI σ p0 1 a1) (fun (w1 : zS) => z_lt (z_sI w1 p0 2 a2) (fun (w2 : zS) => (fJ7_fill_d0a16 w2 (p0 + 4) 40 (0 : Int64)).bind (fun r1 => some r1)))
theorem kX3_become {l : Launch} {Y : zY} (hi : z_inj ΛX Y) {σ : zS} {p0 : Nat} (h0 : z_she p0) {a1 : Int32} {a2 : Int32} {fin : zS} (h : fX3_become σ p0 a1 a2 = some fin) : Met l yX3_become (Cond.code yX3_become cX3_become 3 none :: z_TB) (z_rm 2) (z_Pc ΛX Y σ [.ref (z_ad Y p0), .int a1, .int a2]) (z_Qv ΛX Y fin) 0 0 (z_A ΛX Y) := by
  unfold fX3_become at h
  refine z_met [(0, .ref (z_ad Y p0)), (1, .int a1), (2, .int a2)] rfl (Nat.le_of_ble_eq_true rfl) (plainFor_of_name (by decide)) hi ?_
  intro p e s m args below meth c O hr hlk
  refine z_aload_n O dzX3_become_0 rfl 0 rfl ?_
  refine z_iload_n O dzX3_become_1 rfl 1 rfl ?_
  refine z_put O z_cb3 (fx_she h0) 1 (Nat.le_of_ble_eq_true rfl) tw_139 rfl rfl rfl fp_S1 dzX3_become_2 ?_
  refine z_sig (fun w1 e1 => ?_)
  have h := z_lt_at e1 h
  refine z_aload_n O dzX3_become_5 rfl 0 rfl ?_
  refine z_iload_n O dzX3_become_6 rfl 2 rfl ?_
  refine z_put O z_cb3 (fx_she h0) 2 (Nat.le_of_ble_eq_true rfl) tw_141 rfl rfl rfl fp_S2 dzX3_become_7 ?_
  refine z_sig (fun w2 e2 => ?_)
  have h := z_lt_at e2 h
  refine z_aload_n O dzX3_become_10 rfl 0 rfl ?_
  refine z_get O z_cb3 (fx_she h0) (v := .ref (z_ad Y (p0 + 4))) 0 (Nat.le_of_ble_eq_true rfl) tw_137 rfl dzX3_become_11 ?_
  refine z_lconst O dzX3_become_14 (v := 0) rfl ?_
  obtain ⟨r1, hc1, h⟩ := z_bd_at h
  refine z_callSv O (As := [.ref (z_ad Y (p0 + 4)), .long (0 : Int64)]) (rest := []) (kJ7_fill_d0a16 hi (fx_row h0) hc1) mJ7_fill_d0a16 tw_685 (Nat.le_of_ble_eq_true rfl) rfl rfl (Nat.le_of_ble_eq_true rfl) dzX3_become_15 ?_
  exact z_vret O hr hlk dzX3_become_18 h
def fX3_packedAt (σ : zS) (p0 : Nat) (a1 : Int32) : Option (Int32) :=
  z_gd (z_nz (5 : Int32)) (z_gd (z_in (a1 / (5 : Int32)) 40) (z_gd (z_nz (5 : Int32)) (some ((((σ.2 (p0 + 4) (a1 / (5 : Int32)).toNatClampNeg).toUInt64 >>> (((12 : Int32) * (a1 - a1 / (5 : Int32) * (5 : Int32))).toInt64.toUInt64 &&& Int64.toUInt64 63)).toInt64).toInt32 &&& (4095 : Int32)))))
theorem kX3_packedAt {l : Launch} {Y : zY} (hi : z_inj ΛX Y) {σ : zS} {p0 : Nat} (h0 : z_she p0) {a1 : Int32} {fin : Int32} (h : fX3_packedAt σ p0 a1 = some fin) : Met l yX3_packedAt (Cond.code yX3_packedAt cX3_packedAt 2 (some .int) :: z_TB) (z_rm 1) (z_Pc ΛX Y σ [.ref (z_ad Y p0), .int a1]) (z_Qi ΛX Y (fin, σ)) 0 0 (z_A ΛX Y) := by
  unfold fX3_packedAt at h
  refine z_met [(0, .ref (z_ad Y p0)), (1, .int a1)] rfl (Nat.le_of_ble_eq_true rfl) (plainFor_of_name (by decide)) hi ?_
  intro p e s m args below meth c O hr hlk
  refine z_aload_n O dzX3_packedAt_0 rfl 0 rfl ?_
  refine z_get O z_cb3 (fx_she h0) (v := .ref (z_ad Y (p0 + 4))) 0 (Nat.le_of_ble_eq_true rfl) tw_137 rfl dzX3_packedAt_1 ?_
  refine z_iload_n O dzX3_packedAt_4 rfl 1 rfl ?_
  refine z_iconst O dzX3_packedAt_5 hcI5 ?_
  obtain ⟨g1, h⟩ := z_gd_at h
  refine z_idiv O dzX3_packedAt_6 (z_nz_n g1) ?_
  obtain ⟨g2, h⟩ := z_gd_at h
  refine z_lald O (fx_row h0) g2 dzX3_packedAt_7 ?_
  refine z_bipush O dzX3_packedAt_8 hcB12 ?_
  refine z_iload_n O dzX3_packedAt_10 rfl 1 rfl ?_
  refine z_iconst O dzX3_packedAt_11 hcI5 ?_
  obtain ⟨g3, h⟩ := z_gd_at h
  refine z_irem O dzX3_packedAt_12 (z_nz_n g3) ?_
  refine z_imul O dzX3_packedAt_13 ?_
  refine z_lushr O dzX3_packedAt_14 ?_
  refine z_l2i O dzX3_packedAt_15 ?_
  refine z_sipush O dzX3_packedAt_16 hcS4095 ?_
  refine z_iand O dzX3_packedAt_19 ?_
  exact z_iret O hr hlk dzX3_packedAt_20 (z_rf h)
def fX3_put (σ : zS) (p0 : Nat) (a1 : Int32) (a2 : Int64) : Option (Int32 × zS) :=
  (if a1 < 0 then some ((0 : Int32), σ) else (if a1 < (σ.1 p0 2) then (if (σ.1 p0 1) = 0 then z_gd (z_in a1 40) (z_lt (z_sJ σ (p0 + 4) a1.toNatClampNeg ((a2.toInt32).toInt64)) (fun (w2 : zS) => some ((1 : Int32), w2))) else z_gd (z_in a1 40) (z_lt (z_sJ σ (p0 + 4) a1.toNatClampNeg a2) (fun (w1 : zS) => some ((1 : Int32), w1)))) else some ((0 : Int32), σ)))
theorem kX3_put {l : Launch} {Y : zY} (hi : z_inj ΛX Y) {σ : zS} {p0 : Nat} (h0 : z_she p0) {a1 : Int32} {a2 : Int64} {fin : Int32 × zS} (h : fX3_put σ p0 a1 a2 = some fin) : Met l yX3_put (Cond.code yX3_put cX3_put 4 (some .boolean) :: z_TB) (z_rm 1) (z_Pc ΛX Y σ [.ref (z_ad Y p0), .int a1, .long a2]) (z_Qi ΛX Y fin) 0 0 (z_A ΛX Y) := by
  unfold fX3_put at h
  refine z_met [(0, .ref (z_ad Y p0)), (1, .int a1), (2, .long a2)] rfl (Nat.le_of_ble_eq_true rfl) (plainFor_of_name (by decide)) hi ?_
  intro p e s m args below meth c O hr hlk
  refine z_iload_n O dzX3_put_0 rfl 1 rfl ?_
  refine z_if_lt O dzX3_put_1 (fun c3 => ?_) (fun c3 => ?_)
  · have h := z_if_t c3 h
    refine z_iconst O dzX3_put_12 hcI0 ?_
    exact z_zret O hr hlk rfl dzX3_put_13 h
  · have h := z_if_f c3 h
    refine z_iload_n O dzX3_put_4 rfl 1 rfl ?_
    refine z_aload_n O dzX3_put_5 rfl 0 rfl ?_
    refine z_get O z_cb3 (fx_she h0) (v := .int (σ.1 p0 2)) 2 (Nat.le_of_ble_eq_true rfl) tw_141 rfl dzX3_put_6 ?_
    refine z_icmp_lt O dzX3_put_9 (fun c2 => ?_) (fun c2 => ?_)
    · have h := z_if_t c2 h
      refine z_aload_n O dzX3_put_14 rfl 0 rfl ?_
      refine z_get O z_cb3 (fx_she h0) (v := .ref (z_ad Y (p0 + 4))) 0 (Nat.le_of_ble_eq_true rfl) tw_137 rfl dzX3_put_15 ?_
      refine z_iload_n O dzX3_put_18 rfl 1 rfl ?_
      refine z_aload_n O dzX3_put_19 rfl 0 rfl ?_
      refine z_get O z_cb3 (fx_she h0) (v := .int (σ.1 p0 1)) 1 (Nat.le_of_ble_eq_true rfl) tw_139 rfl dzX3_put_20 ?_
      refine z_if_ne O dzX3_put_23 (fun c1 => ?_) (fun c1 => ?_)
      · have h := z_if_f c1 h
        refine z_lload_n O dzX3_put_32 rfl 2 rfl ?_
        obtain ⟨g1, h⟩ := z_gd_at h
        refine z_last O (fx_row h0) g1 dzX3_put_33 ?_
        refine z_sig (fun w1 e1 => ?_)
        have h := z_lt_at e1 h
        refine z_iconst O dzX3_put_34 hcI1 ?_
        exact z_zret O hr hlk rfl dzX3_put_35 h
      · have h := z_if_t c1 h
        refine z_lload_n O dzX3_put_26 rfl 2 rfl ?_
        refine z_l2i O dzX3_put_27 ?_
        refine z_i2l O dzX3_put_28 ?_
        refine z_goto O dzX3_put_29 ?_
        obtain ⟨g2, h⟩ := z_gd_at h
        refine z_last O (fx_row h0) g2 dzX3_put_33 ?_
        refine z_sig (fun w2 e2 => ?_)
        have h := z_lt_at e2 h
        refine z_iconst O dzX3_put_34 hcI1 ?_
        exact z_zret O hr hlk rfl dzX3_put_35 h
    · have h := z_if_f c2 h
      refine z_iconst O dzX3_put_12 hcI0 ?_
      exact z_zret O hr hlk rfl dzX3_put_13 h
def fX4_become_L17 (q0 : Nat) (q1 : Nat) (k : zS → Int32 → Option (zS)) : Nat → zS → Int32 → Option (zS)
  | 0, _, _ => none
  | n + 1, σ, v2 => (if (4 : Int32) ≤ v2 then k σ v2 else z_gd (z_in v2 4) (z_gd (z_in v2 4) ((fX1_become σ (4 * q0 + 3 + v2.toNatClampNeg) (4 * q1 + 3 + v2.toNatClampNeg)).bind (fun r1 => fX4_become_L17 q0 q1 k n r1 (v2 + (1 : Int32))))))
theorem kX4_become_L17 {l : Launch} {Y : zY} {fin : zS} {p : Program} {e : Env} {s : State} {m : MethodId} {args : Array Value} {below : List Frame} {meth : Method} {c : Code} (O : z_ok ΛX Y p s m args c cX4_become RX4 3) (hi : z_inj ΛX Y) (hr : meth.sig.returnType = none) (hlk : meth.locks = false) {q0 : Nat} (h0 : z_stk q0) {q1 : Nat} (h1 : z_stk q1) {k : zS → Int32 → Option (zS)} (hk : ∀ (w : zS) (z2 : Int32), k w z2 = some fin → z_G p l e (z_rm 2) s m args below meth c (MQ below (z_Qv ΛX Y fin) args s 0 0 (z_A ΛX Y)) ΛX Y 3 w [(0, .ref (z_ad Y q0)), (1, .ref (z_ad Y q1)), (2, .int z2)] 43 []) : ∀ (n : Nat) (σ : zS) (v2 : Int32), fX4_become_L17 q0 q1 k n σ v2 = some fin → z_G p l e (z_rm 2) s m args below meth c (MQ below (z_Qv ΛX Y fin) args s 0 0 (z_A ΛX Y)) ΛX Y 3 σ [(0, .ref (z_ad Y q0)), (1, .ref (z_ad Y q1)), (2, .int v2)] 17 [] := by
  intro n
  induction n with
  | zero =>
    intro _ _ h
    cases h
  | succ n ih =>
    intro σ v2 h
    rw [fX4_become_L17.eq_2] at h
    refine z_iload_n O dzX4_become_17 rfl 2 rfl ?_
    refine z_iconst O dzX4_become_18 hcI4 ?_
    refine z_icmp_ge O dzX4_become_19 (fun c1 => ?_) (fun c1 => ?_)
    · have h := z_if_t c1 h
      exact hk _ _ h
    · have h := z_if_f c1 h
      refine z_aload_n O dzX4_become_22 rfl 0 rfl ?_
      refine z_get O z_cb4 (fx_stk h0) (v := .ref (z_ad Y (q0 + 4))) 1 (Nat.le_of_ble_eq_true rfl) tw_61 rfl dzX4_become_23 ?_
      refine z_iload_n O dzX4_become_26 rfl 2 rfl ?_
      obtain ⟨g1, h⟩ := z_gd_at h
      refine z_aald O (fx_fms h0) rfl rfl g1 dzX4_become_27 ?_
      refine z_aload_n O dzX4_become_28 rfl 1 rfl ?_
      refine z_get O z_cb4 (fx_stk h1) (v := .ref (z_ad Y (q1 + 4))) 1 (Nat.le_of_ble_eq_true rfl) tw_61 rfl dzX4_become_29 ?_
      refine z_iload_n O dzX4_become_32 rfl 2 rfl ?_
      obtain ⟨g2, h⟩ := z_gd_at h
      refine z_aald O (fx_fms h1) rfl rfl g2 dzX4_become_33 ?_
      obtain ⟨r1, hc1, h⟩ := z_bd_at h
      refine z_callVv O (As := [.ref (z_ad Y (4 * q1 + 3 + v2.toNatClampNeg))]) (rest := []) (kX1_become hi (fx_fmi h0 g1) (fx_fmi h1 g2) hc1) mX1_become tw_730 (Nat.le_of_ble_eq_true rfl) (fx_fam (fx_fmi h0 g1)) rfl rfl rfl rfl (Nat.le_of_ble_eq_true rfl) dzX4_become_34 ?_
      refine z_iinc O (lv' := [(2, .int (v2 + (1 : Int32))), (0, .ref (z_ad Y q0)), (1, .ref (z_ad Y q1))]) dzX4_become_37 2 rfl (congrArg _ hcI1) (by decide) rfl ?_
      refine z_goto O dzX4_become_40 ?_
      refine z_sub [1, 2, 0] rfl ?_
      exact ih _ _ h
def fX4_become (σ : zS) (p0 : Nat) (p1 : Nat) : Option (zS) :=
  z_gd (z_cp (0 : Int32) (0 : Int32) (12 : Int32) 12 12) (z_lt (z_fI σ (p0 + 2) (va_cpy (σ.1 (p1 + 2)) (σ.1 (p0 + 2)) (0 : Int32).toNatClampNeg (0 : Int32).toNatClampNeg (12 : Int32).toNatClampNeg)) (fun (w1 : zS) => fX4_become_L17 p0 p1 (fun (w2 : zS) (x1 : Int32) => z_lt (z_sI w2 p0 2 (w2.1 p1 2)) (fun (w3 : zS) => some w3)) z_F w1 (0 : Int32)))
theorem kX4_become {l : Launch} {Y : zY} (hi : z_inj ΛX Y) {σ : zS} {p0 : Nat} (h0 : z_stk p0) {p1 : Nat} (h1 : z_stk p1) {fin : zS} (h : fX4_become σ p0 p1 = some fin) : Met l yX4_become (Cond.code yX4_become cX4_become 3 none :: z_TB) (z_rm 2) (z_Pc ΛX Y σ [.ref (z_ad Y p0), .ref (z_ad Y p1)]) (z_Qv ΛX Y fin) 0 0 (z_A ΛX Y) := by
  unfold fX4_become at h
  refine z_met [(0, .ref (z_ad Y p0)), (1, .ref (z_ad Y p1))] rfl (Nat.le_of_ble_eq_true rfl) (plainFor_of_name (by decide)) hi ?_
  intro p e s m args below meth c O hr hlk
  refine z_aload_n O dzX4_become_0 rfl 1 rfl ?_
  refine z_get O z_cb4 (fx_stk h1) (v := .ref (z_ad Y (p1 + 2))) 0 (Nat.le_of_ble_eq_true rfl) tw_59 rfl dzX4_become_1 ?_
  refine z_iconst O dzX4_become_4 hcI0 ?_
  refine z_aload_n O dzX4_become_5 rfl 0 rfl ?_
  refine z_get O z_cb4 (fx_stk h0) (v := .ref (z_ad Y (p0 + 2))) 0 (Nat.le_of_ble_eq_true rfl) tw_59 rfl dzX4_become_6 ?_
  refine z_iconst O dzX4_become_9 hcI0 ?_
  refine z_bipush O dzX4_become_10 hcB12 ?_
  obtain ⟨g1, h⟩ := z_gd_at h
  refine z_acpy O tw_729 tw_264 tw_263 tw_11 (fx_pri h1) (fx_pri h0) g1 (by omega) (Nat.le_of_ble_eq_true rfl) dzX4_become_12 ?_
  refine z_sig (fun w1 e1 => ?_)
  have h := z_lt_at e1 h
  refine z_iconst O dzX4_become_15 hcI0 ?_
  refine z_istore_n O (lv' := [(2, .int (0 : Int32)), (0, .ref (z_ad Y p0)), (1, .ref (z_ad Y p1))]) dzX4_become_16 rfl (by decide) rfl ?_
  refine z_sub [1, 2, 0] rfl ?_
  refine kX4_become_L17 O hi hr hlk (h0 := h0) (h1 := h1)  (fun w2 x1 h => ?_) _ _ _ h
  refine z_aload_n O dzX4_become_43 rfl 0 rfl ?_
  refine z_aload_n O dzX4_become_44 rfl 1 rfl ?_
  refine z_get O z_cb4 (fx_stk h1) (v := .int (w2.1 p1 2)) 2 (Nat.le_of_ble_eq_true rfl) tw_63 rfl dzX4_become_45 ?_
  refine z_put O z_cb4 (fx_stk h0) 2 (Nat.le_of_ble_eq_true rfl) tw_63 rfl rfl rfl fp_K2 dzX4_become_48 ?_
  refine z_sig (fun w3 e2 => ?_)
  have h := z_lt_at e2 h
  exact z_vret O hr hlk dzX4_become_51 h
def fX4_heldInAll_L4 (σ : zS) (q0 : Nat) (k : Int32 → Int32 → Option (Int32)) : Nat → Int32 → Int32 → Option (Int32)
  | 0, _, _ => none
  | n + 1, v1, v2 => (if (4 : Int32) ≤ v2 then k v1 v2 else z_gd (z_in v2 4) (z_lt (v1 + (σ.1 (4 * q0 + 3 + v2.toNatClampNeg) 2)) (fun (x1 : Int32) => fX4_heldInAll_L4 σ q0 k n x1 (v2 + (1 : Int32)))))
theorem kX4_heldInAll_L4 {l : Launch} {Y : zY} {fin : Int32} {p : Program} {e : Env} {s : State} {m : MethodId} {args : Array Value} {below : List Frame} {meth : Method} {c : Code} {σ : zS} (O : z_ok ΛX Y p s m args c cX4_heldInAll RX4 3) (hi : z_inj ΛX Y) (hr : meth.sig.returnType = (some .int)) (hlk : meth.locks = false) {q0 : Nat} (h0 : z_stk q0) {k : Int32 → Int32 → Option (Int32)} (hk : ∀ (z1 : Int32) (z2 : Int32), k z1 z2 = some fin → z_G p l e (z_rm 1) s m args below meth c (MQ below (z_Qi ΛX Y (fin, σ)) args s 0 0 (z_A ΛX Y)) ΛX Y 3 σ [(0, .ref (z_ad Y q0)), (1, .int z1), (2, .int z2)] 27 []) : ∀ (n : Nat) (v1 : Int32) (v2 : Int32), fX4_heldInAll_L4 σ q0 k n v1 v2 = some fin → z_G p l e (z_rm 1) s m args below meth c (MQ below (z_Qi ΛX Y (fin, σ)) args s 0 0 (z_A ΛX Y)) ΛX Y 3 σ [(0, .ref (z_ad Y q0)), (1, .int v1), (2, .int v2)] 4 [] := by
  intro n
  induction n with
  | zero =>
    intro _ _ h
    cases h
  | succ n ih =>
    intro v1 v2 h
    rw [fX4_heldInAll_L4.eq_2] at h
    refine z_iload_n O dzX4_heldInAll_4 rfl 2 rfl ?_
    refine z_iconst O dzX4_heldInAll_5 hcI4 ?_
    refine z_icmp_ge O dzX4_heldInAll_6 (fun c1 => ?_) (fun c1 => ?_)
    · have h := z_if_t c1 h
      exact hk _ _ h
    · have h := z_if_f c1 h
      refine z_iload_n O dzX4_heldInAll_9 rfl 1 rfl ?_
      refine z_aload_n O dzX4_heldInAll_10 rfl 0 rfl ?_
      refine z_get O z_cb4 (fx_stk h0) (v := .ref (z_ad Y (q0 + 4))) 1 (Nat.le_of_ble_eq_true rfl) tw_61 rfl dzX4_heldInAll_11 ?_
      refine z_iload_n O dzX4_heldInAll_14 rfl 2 rfl ?_
      obtain ⟨g1, h⟩ := z_gd_at h
      refine z_aald O (fx_fms h0) rfl rfl g1 dzX4_heldInAll_15 ?_
      refine z_get O z_cb1 (fx_fam (fx_fmi h0 g1)) (v := .int (σ.1 (4 * q0 + 3 + v2.toNatClampNeg) 2)) 2 (Nat.le_of_ble_eq_true rfl) tw_48 rfl dzX4_heldInAll_16 ?_
      refine z_iadd O dzX4_heldInAll_19 ?_
      refine z_topi (fun x1 e1 => ?_)
      have h := z_lt_at e1 h
      refine z_istore_n O (lv' := [(1, .int x1), (0, .ref (z_ad Y q0)), (2, .int v2)]) dzX4_heldInAll_20 rfl (by decide) rfl ?_
      refine z_iinc O (lv' := [(2, .int (v2 + (1 : Int32))), (1, .int x1), (0, .ref (z_ad Y q0))]) dzX4_heldInAll_21 2 rfl (congrArg _ hcI1) (by decide) rfl ?_
      refine z_goto O dzX4_heldInAll_24 ?_
      refine z_sub [2, 1, 0] rfl ?_
      exact ih _ _ h
def fX4_heldInAll (σ : zS) (p0 : Nat) : Option (Int32) :=
  fX4_heldInAll_L4 σ p0 (fun (x1 : Int32) (x2 : Int32) => some x1) z_F (0 : Int32) (0 : Int32)
theorem kX4_heldInAll {l : Launch} {Y : zY} (hi : z_inj ΛX Y) {σ : zS} {p0 : Nat} (h0 : z_stk p0) {fin : Int32} (h : fX4_heldInAll σ p0 = some fin) : Met l yX4_heldInAll (Cond.code yX4_heldInAll cX4_heldInAll 3 (some .int) :: z_TB) (z_rm 1) (z_Pc ΛX Y σ [.ref (z_ad Y p0)]) (z_Qi ΛX Y (fin, σ)) 0 0 (z_A ΛX Y) := by
  unfold fX4_heldInAll at h
  refine z_met [(0, .ref (z_ad Y p0))] rfl (Nat.le_of_ble_eq_true rfl) (plainFor_of_name (by decide)) hi ?_
  intro p e s m args below meth c O hr hlk
  refine z_iconst O dzX4_heldInAll_0 hcI0 ?_
  refine z_istore_n O (lv' := [(1, .int (0 : Int32)), (0, .ref (z_ad Y p0))]) dzX4_heldInAll_1 rfl (by decide) rfl ?_
  refine z_iconst O dzX4_heldInAll_2 hcI0 ?_
  refine z_istore_n O (lv' := [(2, .int (0 : Int32)), (1, .int (0 : Int32)), (0, .ref (z_ad Y p0))]) dzX4_heldInAll_3 rfl (by decide) rfl ?_
  refine z_sub [2, 1, 0] rfl ?_
  refine kX4_heldInAll_L4 O hi hr hlk (h0 := h0)  (fun x1 x2 h => ?_) _ _ _ h
  refine z_iload_n O dzX4_heldInAll_27 rfl 1 rfl ?_
  exact z_iret O hr hlk dzX4_heldInAll_28 (z_rf h)
def fX5_addParts_L10 (q0 : Nat) (a1 : Int32) (k : zS → Int32 → Option (zS)) : Nat → zS → Int32 → Option (zS)
  | 0, _, _ => none
  | n + 1, σ, v2 => (if (6 : Int32) ≤ v2 then k σ v2 else z_gd (z_in a1 64) (z_gd (z_in a1 64) (z_gd (z_in v2 6) (z_gd (z_in a1 64) (z_lt (z_sJ σ (q0 + 2) a1.toNatClampNeg ((σ.2 (q0 + 2) a1.toNatClampNeg) ||| (((σ.2 (q0 + 2) a1.toNatClampNeg) &&& (z_withL v2.toNatClampNeg)).toUInt64 >>> (((1 : Int32) <<< (v2 &&& 31)).toInt64.toUInt64 &&& Int64.toUInt64 63)).toInt64)) (fun (w1 : zS) => fX5_addParts_L10 q0 a1 k n w1 (v2 + (1 : Int32))))))))
theorem kX5_addParts_L10 {l : Launch} {Y : zY} {fin : zS} {p : Program} {e : Env} {s : State} {m : MethodId} {args : Array Value} {below : List Frame} {meth : Method} {c : Code} (O : z_ok ΛX Y p s m args c cX5_addParts RX5 3) (hi : z_inj ΛX Y) (hr : meth.sig.returnType = none) (hlk : meth.locks = false) {q0 : Nat} (h0 : z_tab q0) {a1 : Int32} {k : zS → Int32 → Option (zS)} (hk : ∀ (w : zS) (z2 : Int32), k w z2 = some fin → z_G p l e (z_rm 1) s m args below meth c (MQ below (z_Qv ΛX Y fin) args s 0 0 (z_A ΛX Y)) ΛX Y 3 w [(0, .ref (z_ad Y q0)), (1, .int a1), (2, .int z2)] 47 []) : ∀ (n : Nat) (σ : zS) (v2 : Int32), fX5_addParts_L10 q0 a1 k n σ v2 = some fin → z_G p l e (z_rm 1) s m args below meth c (MQ below (z_Qv ΛX Y fin) args s 0 0 (z_A ΛX Y)) ΛX Y 3 σ [(0, .ref (z_ad Y q0)), (1, .int a1), (2, .int v2)] 10 [] := by
  intro n
  induction n with
  | zero =>
    intro _ _ h
    cases h
  | succ n ih =>
    intro σ v2 h
    rw [fX5_addParts_L10.eq_2] at h
    refine z_iload_n O dzX5_addParts_10 rfl 2 rfl ?_
    refine z_bipush O dzX5_addParts_11 hcB6 ?_
    refine z_icmp_ge O dzX5_addParts_13 (fun c1 => ?_) (fun c1 => ?_)
    · have h := z_if_t c1 h
      exact hk _ _ h
    · have h := z_if_f c1 h
      refine z_aload_n O dzX5_addParts_16 rfl 0 rfl ?_
      refine z_get O z_cb5 (fx_tab h0) (v := .ref (z_ad Y (q0 + 2))) 0 (Nat.le_of_ble_eq_true rfl) tw_206 rfl dzX5_addParts_17 ?_
      refine z_iload_n O dzX5_addParts_20 rfl 1 rfl ?_
      refine z_dup2_11 O dzX5_addParts_21 rfl rfl ?_
      obtain ⟨g1, h⟩ := z_gd_at h
      refine z_lald O (fx_wor h0) g1 dzX5_addParts_22 ?_
      refine z_aload_n O dzX5_addParts_23 rfl 0 rfl ?_
      refine z_get O z_cb5 (fx_tab h0) (v := .ref (z_ad Y (q0 + 2))) 0 (Nat.le_of_ble_eq_true rfl) tw_206 rfl dzX5_addParts_24 ?_
      refine z_iload_n O dzX5_addParts_27 rfl 1 rfl ?_
      obtain ⟨g2, h⟩ := z_gd_at h
      refine z_lald O (fx_wor h0) g2 dzX5_addParts_28 ?_
      refine z_gsW O tw_415 dzX5_addParts_29 ?_
      refine z_iload_n O dzX5_addParts_32 rfl 2 rfl ?_
      obtain ⟨g3, h⟩ := z_gd_at h
      refine z_tlW O g3 dzX5_addParts_33 ?_
      refine z_land O dzX5_addParts_34 ?_
      refine z_iconst O dzX5_addParts_35 hcI1 ?_
      refine z_iload_n O dzX5_addParts_36 rfl 2 rfl ?_
      refine z_ishl O dzX5_addParts_37 ?_
      refine z_lushr O dzX5_addParts_38 ?_
      refine z_lor O dzX5_addParts_39 ?_
      obtain ⟨g4, h⟩ := z_gd_at h
      refine z_last O (fx_wor h0) g4 dzX5_addParts_40 ?_
      refine z_sig (fun w1 e1 => ?_)
      have h := z_lt_at e1 h
      refine z_iinc O (lv' := [(2, .int (v2 + (1 : Int32))), (0, .ref (z_ad Y q0)), (1, .int a1)]) dzX5_addParts_41 2 rfl (congrArg _ hcI1) (by decide) rfl ?_
      refine z_goto O dzX5_addParts_44 ?_
      refine z_sub [1, 2, 0] rfl ?_
      exact ih _ _ h
def fX5_addParts_L2 (q0 : Nat) (k : zS → Int32 → Option (zS)) : Nat → zS → Int32 → Option (zS)
  | 0, _, _ => none
  | n + 1, σ, v1 => (if (64 : Int32) ≤ v1 then k σ v1 else fX5_addParts_L10 q0 v1 (fun (w1 : zS) (x1 : Int32) => fX5_addParts_L2 q0 k n w1 (v1 + (1 : Int32))) z_F σ (0 : Int32))
theorem kX5_addParts_L2 {l : Launch} {Y : zY} {fin : zS} {p : Program} {e : Env} {s : State} {m : MethodId} {args : Array Value} {below : List Frame} {meth : Method} {c : Code} (O : z_ok ΛX Y p s m args c cX5_addParts RX5 3) (hi : z_inj ΛX Y) (hr : meth.sig.returnType = none) (hlk : meth.locks = false) {q0 : Nat} (h0 : z_tab q0) {k : zS → Int32 → Option (zS)} (hk : ∀ (w : zS) (z1 : Int32), k w z1 = some fin → z_G p l e (z_rm 1) s m args below meth c (MQ below (z_Qv ΛX Y fin) args s 0 0 (z_A ΛX Y)) ΛX Y 3 w [(0, .ref (z_ad Y q0)), (1, .int z1)] 53 []) : ∀ (n : Nat) (σ : zS) (v1 : Int32), fX5_addParts_L2 q0 k n σ v1 = some fin → z_G p l e (z_rm 1) s m args below meth c (MQ below (z_Qv ΛX Y fin) args s 0 0 (z_A ΛX Y)) ΛX Y 3 σ [(0, .ref (z_ad Y q0)), (1, .int v1)] 2 [] := by
  intro n
  induction n with
  | zero =>
    intro _ _ h
    cases h
  | succ n ih =>
    intro σ v1 h
    rw [fX5_addParts_L2.eq_2] at h
    refine z_iload_n O dzX5_addParts_2 rfl 1 rfl ?_
    refine z_bipush O dzX5_addParts_3 hcB64 ?_
    refine z_icmp_ge O dzX5_addParts_5 (fun c1 => ?_) (fun c1 => ?_)
    · have h := z_if_t c1 h
      exact hk _ _ h
    · have h := z_if_f c1 h
      refine z_iconst O dzX5_addParts_8 hcI0 ?_
      refine z_istore_n O (lv' := [(2, .int (0 : Int32)), (0, .ref (z_ad Y q0)), (1, .int v1)]) dzX5_addParts_9 rfl (by decide) rfl ?_
      refine z_sub [1, 2, 0] rfl ?_
      refine kX5_addParts_L10 O hi hr hlk (h0 := h0)  (fun w1 x1 h => ?_) _ _ _ h
      refine z_iinc O (lv' := [(1, .int (v1 + (1 : Int32))), (0, .ref (z_ad Y q0)), (2, .int x1)]) dzX5_addParts_47 1 rfl (congrArg _ hcI1) (by decide) rfl ?_
      refine z_goto O dzX5_addParts_50 ?_
      refine z_sub [1, 0] rfl ?_
      exact ih _ _ h
def fX5_addParts_L63 (q0 : Nat) (a1 : Int32) (k : zS → Int32 → Option (zS)) : Nat → zS → Int32 → Option (zS)
  | 0, _, _ => none
  | n + 1, σ, v2 => (if (64 : Int32) ≤ v2 then k σ v2 else z_gd (z_in (v2 &&& (a1 ^^^ (-1 : Int32))) 64) (z_gd (z_in v2 64) (z_gd (z_in (v2 &&& (a1 ^^^ (-1 : Int32))) 64) (z_lt (z_sJ σ (q0 + 2) (v2 &&& (a1 ^^^ (-1 : Int32))).toNatClampNeg ((σ.2 (q0 + 2) (v2 &&& (a1 ^^^ (-1 : Int32))).toNatClampNeg) ||| (σ.2 (q0 + 2) v2.toNatClampNeg))) (fun (w1 : zS) => fX5_addParts_L63 q0 a1 k n w1 (v2 + (1 : Int32)))))))
theorem kX5_addParts_L63 {l : Launch} {Y : zY} {fin : zS} {p : Program} {e : Env} {s : State} {m : MethodId} {args : Array Value} {below : List Frame} {meth : Method} {c : Code} (O : z_ok ΛX Y p s m args c cX5_addParts RX5 3) (hi : z_inj ΛX Y) (hr : meth.sig.returnType = none) (hlk : meth.locks = false) {q0 : Nat} (h0 : z_tab q0) {a1 : Int32} {k : zS → Int32 → Option (zS)} (hk : ∀ (w : zS) (z2 : Int32), k w z2 = some fin → z_G p l e (z_rm 1) s m args below meth c (MQ below (z_Qv ΛX Y fin) args s 0 0 (z_A ΛX Y)) ΛX Y 3 w [(0, .ref (z_ad Y q0)), (1, .int a1), (2, .int z2)] 94 []) : ∀ (n : Nat) (σ : zS) (v2 : Int32), fX5_addParts_L63 q0 a1 k n σ v2 = some fin → z_G p l e (z_rm 1) s m args below meth c (MQ below (z_Qv ΛX Y fin) args s 0 0 (z_A ΛX Y)) ΛX Y 3 σ [(0, .ref (z_ad Y q0)), (1, .int a1), (2, .int v2)] 63 [] := by
  intro n
  induction n with
  | zero =>
    intro _ _ h
    cases h
  | succ n ih =>
    intro σ v2 h
    rw [fX5_addParts_L63.eq_2] at h
    refine z_iload_n O dzX5_addParts_63 rfl 2 rfl ?_
    refine z_bipush O dzX5_addParts_64 hcB64 ?_
    refine z_icmp_ge O dzX5_addParts_66 (fun c1 => ?_) (fun c1 => ?_)
    · have h := z_if_t c1 h
      exact hk _ _ h
    · have h := z_if_f c1 h
      refine z_aload_n O dzX5_addParts_69 rfl 0 rfl ?_
      refine z_get O z_cb5 (fx_tab h0) (v := .ref (z_ad Y (q0 + 2))) 0 (Nat.le_of_ble_eq_true rfl) tw_206 rfl dzX5_addParts_70 ?_
      refine z_iload_n O dzX5_addParts_73 rfl 2 rfl ?_
      refine z_iload_n O dzX5_addParts_74 rfl 1 rfl ?_
      refine z_iconst O dzX5_addParts_75 hcIm1 ?_
      refine z_ixor O dzX5_addParts_76 ?_
      refine z_iand O dzX5_addParts_77 ?_
      refine z_dup2_11 O dzX5_addParts_78 rfl rfl ?_
      obtain ⟨g1, h⟩ := z_gd_at h
      refine z_lald O (fx_wor h0) g1 dzX5_addParts_79 ?_
      refine z_aload_n O dzX5_addParts_80 rfl 0 rfl ?_
      refine z_get O z_cb5 (fx_tab h0) (v := .ref (z_ad Y (q0 + 2))) 0 (Nat.le_of_ble_eq_true rfl) tw_206 rfl dzX5_addParts_81 ?_
      refine z_iload_n O dzX5_addParts_84 rfl 2 rfl ?_
      obtain ⟨g2, h⟩ := z_gd_at h
      refine z_lald O (fx_wor h0) g2 dzX5_addParts_85 ?_
      refine z_lor O dzX5_addParts_86 ?_
      obtain ⟨g3, h⟩ := z_gd_at h
      refine z_last O (fx_wor h0) g3 dzX5_addParts_87 ?_
      refine z_sig (fun w1 e1 => ?_)
      have h := z_lt_at e1 h
      refine z_iinc O (lv' := [(2, .int (v2 + (1 : Int32))), (0, .ref (z_ad Y q0)), (1, .int a1)]) dzX5_addParts_88 2 rfl (congrArg _ hcI1) (by decide) rfl ?_
      refine z_goto O dzX5_addParts_91 ?_
      refine z_sub [1, 2, 0] rfl ?_
      exact ih _ _ h
def fX5_addParts_L55 (q0 : Nat) (k : zS → Int32 → Option (zS)) : Nat → zS → Int32 → Option (zS)
  | 0, _, _ => none
  | n + 1, σ, v1 => (if (64 : Int32) ≤ v1 then k σ v1 else fX5_addParts_L63 q0 v1 (fun (w1 : zS) (x1 : Int32) => z_lt (v1 <<< ((1 : Int32) &&& 31)) (fun (x2 : Int32) => fX5_addParts_L55 q0 k n w1 x2)) z_F σ (0 : Int32))
theorem kX5_addParts_L55 {l : Launch} {Y : zY} {fin : zS} {p : Program} {e : Env} {s : State} {m : MethodId} {args : Array Value} {below : List Frame} {meth : Method} {c : Code} (O : z_ok ΛX Y p s m args c cX5_addParts RX5 3) (hi : z_inj ΛX Y) (hr : meth.sig.returnType = none) (hlk : meth.locks = false) {q0 : Nat} (h0 : z_tab q0) {k : zS → Int32 → Option (zS)} (hk : ∀ (w : zS) (z1 : Int32), k w z1 = some fin → z_G p l e (z_rm 1) s m args below meth c (MQ below (z_Qv ΛX Y fin) args s 0 0 (z_A ΛX Y)) ΛX Y 3 w [(0, .ref (z_ad Y q0)), (1, .int z1)] 101 []) : ∀ (n : Nat) (σ : zS) (v1 : Int32), fX5_addParts_L55 q0 k n σ v1 = some fin → z_G p l e (z_rm 1) s m args below meth c (MQ below (z_Qv ΛX Y fin) args s 0 0 (z_A ΛX Y)) ΛX Y 3 σ [(0, .ref (z_ad Y q0)), (1, .int v1)] 55 [] := by
  intro n
  induction n with
  | zero =>
    intro _ _ h
    cases h
  | succ n ih =>
    intro σ v1 h
    rw [fX5_addParts_L55.eq_2] at h
    refine z_iload_n O dzX5_addParts_55 rfl 1 rfl ?_
    refine z_bipush O dzX5_addParts_56 hcB64 ?_
    refine z_icmp_ge O dzX5_addParts_58 (fun c1 => ?_) (fun c1 => ?_)
    · have h := z_if_t c1 h
      exact hk _ _ h
    · have h := z_if_f c1 h
      refine z_iconst O dzX5_addParts_61 hcI0 ?_
      refine z_istore_n O (lv' := [(2, .int (0 : Int32)), (0, .ref (z_ad Y q0)), (1, .int v1)]) dzX5_addParts_62 rfl (by decide) rfl ?_
      refine z_sub [1, 2, 0] rfl ?_
      refine kX5_addParts_L63 O hi hr hlk (h0 := h0)  (fun w1 x1 h => ?_) _ _ _ h
      refine z_iload_n O dzX5_addParts_94 rfl 1 rfl ?_
      refine z_iconst O dzX5_addParts_95 hcI1 ?_
      refine z_ishl O dzX5_addParts_96 ?_
      refine z_topi (fun x2 e1 => ?_)
      have h := z_lt_at e1 h
      refine z_istore_n O (lv' := [(1, .int x2), (0, .ref (z_ad Y q0)), (2, .int x1)]) dzX5_addParts_97 rfl (by decide) rfl ?_
      refine z_goto O dzX5_addParts_98 ?_
      refine z_sub [1, 0] rfl ?_
      exact ih _ _ h
def fX5_addParts (σ : zS) (p0 : Nat) : Option (zS) :=
  fX5_addParts_L2 p0 (fun (w1 : zS) (x1 : Int32) => fX5_addParts_L55 p0 (fun (w2 : zS) (x2 : Int32) => some w2) z_F w1 (1 : Int32)) z_F σ (0 : Int32)
theorem kX5_addParts {l : Launch} {Y : zY} (hi : z_inj ΛX Y) {σ : zS} {p0 : Nat} (h0 : z_tab p0) {fin : zS} (h : fX5_addParts σ p0 = some fin) : Met l yX5_addParts (Cond.code yX5_addParts cX5_addParts 3 none :: z_TB) (z_rm 1) (z_Pc ΛX Y σ [.ref (z_ad Y p0)]) (z_Qv ΛX Y fin) 0 0 (z_A ΛX Y) := by
  unfold fX5_addParts at h
  refine z_met [(0, .ref (z_ad Y p0))] rfl (Nat.le_of_ble_eq_true rfl) (plainFor_of_name (by decide)) hi ?_
  intro p e s m args below meth c O hr hlk
  refine z_iconst O dzX5_addParts_0 hcI0 ?_
  refine z_istore_n O (lv' := [(1, .int (0 : Int32)), (0, .ref (z_ad Y p0))]) dzX5_addParts_1 rfl (by decide) rfl ?_
  refine z_sub [1, 0] rfl ?_
  refine kX5_addParts_L2 O hi hr hlk (h0 := h0)  (fun w1 x1 h => ?_) _ _ _ h
  refine z_iconst O dzX5_addParts_53 hcI1 ?_
  refine z_istore_n O (lv' := [(1, .int (1 : Int32)), (0, .ref (z_ad Y p0))]) dzX5_addParts_54 rfl (by decide) rfl ?_
  refine z_sub [1, 0] rfl ?_
  refine kX5_addParts_L55 O hi hr hlk (h0 := h0)  (fun w2 x2 h => ?_) _ _ _ h
  exact z_vret O hr hlk dzX5_addParts_101 h
def fX5_addWholes_L10 (q0 : Nat) (a1 : Int32) (k : zS → Int32 → Option (zS)) : Nat → zS → Int32 → Option (zS)
  | 0, _, _ => none
  | n + 1, σ, v2 => (if (6 : Int32) ≤ v2 then k σ v2 else z_gd (z_in a1 64) (z_gd (z_in a1 64) (z_gd (z_in v2 6) (z_gd (z_in a1 64) (z_lt (z_sJ σ (q0 + 2) a1.toNatClampNeg ((σ.2 (q0 + 2) a1.toNatClampNeg) ||| (((σ.2 (q0 + 2) a1.toNatClampNeg) &&& ((z_withL v2.toNatClampNeg) ^^^ (-1 : Int64))) <<< (((1 : Int32) <<< (v2 &&& 31)).toInt64 &&& 63)))) (fun (w1 : zS) => fX5_addWholes_L10 q0 a1 k n w1 (v2 + (1 : Int32))))))))
theorem kX5_addWholes_L10 {l : Launch} {Y : zY} {fin : zS} {p : Program} {e : Env} {s : State} {m : MethodId} {args : Array Value} {below : List Frame} {meth : Method} {c : Code} (O : z_ok ΛX Y p s m args c cX5_addWholes RX5 3) (hi : z_inj ΛX Y) (hr : meth.sig.returnType = none) (hlk : meth.locks = false) {q0 : Nat} (h0 : z_tab q0) {a1 : Int32} {k : zS → Int32 → Option (zS)} (hk : ∀ (w : zS) (z2 : Int32), k w z2 = some fin → z_G p l e (z_rm 1) s m args below meth c (MQ below (z_Qv ΛX Y fin) args s 0 0 (z_A ΛX Y)) ΛX Y 3 w [(0, .ref (z_ad Y q0)), (1, .int a1), (2, .int z2)] 51 []) : ∀ (n : Nat) (σ : zS) (v2 : Int32), fX5_addWholes_L10 q0 a1 k n σ v2 = some fin → z_G p l e (z_rm 1) s m args below meth c (MQ below (z_Qv ΛX Y fin) args s 0 0 (z_A ΛX Y)) ΛX Y 3 σ [(0, .ref (z_ad Y q0)), (1, .int a1), (2, .int v2)] 10 [] := by
  intro n
  induction n with
  | zero =>
    intro _ _ h
    cases h
  | succ n ih =>
    intro σ v2 h
    rw [fX5_addWholes_L10.eq_2] at h
    refine z_iload_n O dzX5_addWholes_10 rfl 2 rfl ?_
    refine z_bipush O dzX5_addWholes_11 hcB6 ?_
    refine z_icmp_ge O dzX5_addWholes_13 (fun c1 => ?_) (fun c1 => ?_)
    · have h := z_if_t c1 h
      exact hk _ _ h
    · have h := z_if_f c1 h
      refine z_aload_n O dzX5_addWholes_16 rfl 0 rfl ?_
      refine z_get O z_cb5 (fx_tab h0) (v := .ref (z_ad Y (q0 + 2))) 0 (Nat.le_of_ble_eq_true rfl) tw_206 rfl dzX5_addWholes_17 ?_
      refine z_iload_n O dzX5_addWholes_20 rfl 1 rfl ?_
      refine z_dup2_11 O dzX5_addWholes_21 rfl rfl ?_
      obtain ⟨g1, h⟩ := z_gd_at h
      refine z_lald O (fx_wor h0) g1 dzX5_addWholes_22 ?_
      refine z_aload_n O dzX5_addWholes_23 rfl 0 rfl ?_
      refine z_get O z_cb5 (fx_tab h0) (v := .ref (z_ad Y (q0 + 2))) 0 (Nat.le_of_ble_eq_true rfl) tw_206 rfl dzX5_addWholes_24 ?_
      refine z_iload_n O dzX5_addWholes_27 rfl 1 rfl ?_
      obtain ⟨g2, h⟩ := z_gd_at h
      refine z_lald O (fx_wor h0) g2 dzX5_addWholes_28 ?_
      refine z_gsW O tw_415 dzX5_addWholes_29 ?_
      refine z_iload_n O dzX5_addWholes_32 rfl 2 rfl ?_
      obtain ⟨g3, h⟩ := z_gd_at h
      refine z_tlW O g3 dzX5_addWholes_33 ?_
      refine z_ldc2 O tw_421 dzX5_addWholes_34 ?_
      refine z_lxor O dzX5_addWholes_37 ?_
      refine z_land O dzX5_addWholes_38 ?_
      refine z_iconst O dzX5_addWholes_39 hcI1 ?_
      refine z_iload_n O dzX5_addWholes_40 rfl 2 rfl ?_
      refine z_ishl O dzX5_addWholes_41 ?_
      refine z_lshl O dzX5_addWholes_42 ?_
      refine z_lor O dzX5_addWholes_43 ?_
      obtain ⟨g4, h⟩ := z_gd_at h
      refine z_last O (fx_wor h0) g4 dzX5_addWholes_44 ?_
      refine z_sig (fun w1 e1 => ?_)
      have h := z_lt_at e1 h
      refine z_iinc O (lv' := [(2, .int (v2 + (1 : Int32))), (0, .ref (z_ad Y q0)), (1, .int a1)]) dzX5_addWholes_45 2 rfl (congrArg _ hcI1) (by decide) rfl ?_
      refine z_goto O dzX5_addWholes_48 ?_
      refine z_sub [1, 2, 0] rfl ?_
      exact ih _ _ h
def fX5_addWholes_L2 (q0 : Nat) (k : zS → Int32 → Option (zS)) : Nat → zS → Int32 → Option (zS)
  | 0, _, _ => none
  | n + 1, σ, v1 => (if (64 : Int32) ≤ v1 then k σ v1 else fX5_addWholes_L10 q0 v1 (fun (w1 : zS) (x1 : Int32) => fX5_addWholes_L2 q0 k n w1 (v1 + (1 : Int32))) z_F σ (0 : Int32))
theorem kX5_addWholes_L2 {l : Launch} {Y : zY} {fin : zS} {p : Program} {e : Env} {s : State} {m : MethodId} {args : Array Value} {below : List Frame} {meth : Method} {c : Code} (O : z_ok ΛX Y p s m args c cX5_addWholes RX5 3) (hi : z_inj ΛX Y) (hr : meth.sig.returnType = none) (hlk : meth.locks = false) {q0 : Nat} (h0 : z_tab q0) {k : zS → Int32 → Option (zS)} (hk : ∀ (w : zS) (z1 : Int32), k w z1 = some fin → z_G p l e (z_rm 1) s m args below meth c (MQ below (z_Qv ΛX Y fin) args s 0 0 (z_A ΛX Y)) ΛX Y 3 w [(0, .ref (z_ad Y q0)), (1, .int z1)] 57 []) : ∀ (n : Nat) (σ : zS) (v1 : Int32), fX5_addWholes_L2 q0 k n σ v1 = some fin → z_G p l e (z_rm 1) s m args below meth c (MQ below (z_Qv ΛX Y fin) args s 0 0 (z_A ΛX Y)) ΛX Y 3 σ [(0, .ref (z_ad Y q0)), (1, .int v1)] 2 [] := by
  intro n
  induction n with
  | zero =>
    intro _ _ h
    cases h
  | succ n ih =>
    intro σ v1 h
    rw [fX5_addWholes_L2.eq_2] at h
    refine z_iload_n O dzX5_addWholes_2 rfl 1 rfl ?_
    refine z_bipush O dzX5_addWholes_3 hcB64 ?_
    refine z_icmp_ge O dzX5_addWholes_5 (fun c1 => ?_) (fun c1 => ?_)
    · have h := z_if_t c1 h
      exact hk _ _ h
    · have h := z_if_f c1 h
      refine z_iconst O dzX5_addWholes_8 hcI0 ?_
      refine z_istore_n O (lv' := [(2, .int (0 : Int32)), (0, .ref (z_ad Y q0)), (1, .int v1)]) dzX5_addWholes_9 rfl (by decide) rfl ?_
      refine z_sub [1, 2, 0] rfl ?_
      refine kX5_addWholes_L10 O hi hr hlk (h0 := h0)  (fun w1 x1 h => ?_) _ _ _ h
      refine z_iinc O (lv' := [(1, .int (v1 + (1 : Int32))), (0, .ref (z_ad Y q0)), (2, .int x1)]) dzX5_addWholes_51 1 rfl (congrArg _ hcI1) (by decide) rfl ?_
      refine z_goto O dzX5_addWholes_54 ?_
      refine z_sub [1, 0] rfl ?_
      exact ih _ _ h
def fX5_addWholes_L67 (q0 : Nat) (a1 : Int32) (k : zS → Int32 → Option (zS)) : Nat → zS → Int32 → Option (zS)
  | 0, _, _ => none
  | n + 1, σ, v2 => (if (64 : Int32) ≤ v2 then k σ v2 else z_gd (z_in (v2 ||| a1) 64) (z_gd (z_in v2 64) (z_gd (z_in (v2 ||| a1) 64) (z_lt (z_sJ σ (q0 + 2) (v2 ||| a1).toNatClampNeg ((σ.2 (q0 + 2) (v2 ||| a1).toNatClampNeg) ||| (σ.2 (q0 + 2) v2.toNatClampNeg))) (fun (w1 : zS) => fX5_addWholes_L67 q0 a1 k n w1 (v2 + (1 : Int32)))))))
theorem kX5_addWholes_L67 {l : Launch} {Y : zY} {fin : zS} {p : Program} {e : Env} {s : State} {m : MethodId} {args : Array Value} {below : List Frame} {meth : Method} {c : Code} (O : z_ok ΛX Y p s m args c cX5_addWholes RX5 3) (hi : z_inj ΛX Y) (hr : meth.sig.returnType = none) (hlk : meth.locks = false) {q0 : Nat} (h0 : z_tab q0) {a1 : Int32} {k : zS → Int32 → Option (zS)} (hk : ∀ (w : zS) (z2 : Int32), k w z2 = some fin → z_G p l e (z_rm 1) s m args below meth c (MQ below (z_Qv ΛX Y fin) args s 0 0 (z_A ΛX Y)) ΛX Y 3 w [(0, .ref (z_ad Y q0)), (1, .int a1), (2, .int z2)] 96 []) : ∀ (n : Nat) (σ : zS) (v2 : Int32), fX5_addWholes_L67 q0 a1 k n σ v2 = some fin → z_G p l e (z_rm 1) s m args below meth c (MQ below (z_Qv ΛX Y fin) args s 0 0 (z_A ΛX Y)) ΛX Y 3 σ [(0, .ref (z_ad Y q0)), (1, .int a1), (2, .int v2)] 67 [] := by
  intro n
  induction n with
  | zero =>
    intro _ _ h
    cases h
  | succ n ih =>
    intro σ v2 h
    rw [fX5_addWholes_L67.eq_2] at h
    refine z_iload_n O dzX5_addWholes_67 rfl 2 rfl ?_
    refine z_bipush O dzX5_addWholes_68 hcB64 ?_
    refine z_icmp_ge O dzX5_addWholes_70 (fun c1 => ?_) (fun c1 => ?_)
    · have h := z_if_t c1 h
      exact hk _ _ h
    · have h := z_if_f c1 h
      refine z_aload_n O dzX5_addWholes_73 rfl 0 rfl ?_
      refine z_get O z_cb5 (fx_tab h0) (v := .ref (z_ad Y (q0 + 2))) 0 (Nat.le_of_ble_eq_true rfl) tw_206 rfl dzX5_addWholes_74 ?_
      refine z_iload_n O dzX5_addWholes_77 rfl 2 rfl ?_
      refine z_iload_n O dzX5_addWholes_78 rfl 1 rfl ?_
      refine z_ior O dzX5_addWholes_79 ?_
      refine z_dup2_11 O dzX5_addWholes_80 rfl rfl ?_
      obtain ⟨g1, h⟩ := z_gd_at h
      refine z_lald O (fx_wor h0) g1 dzX5_addWholes_81 ?_
      refine z_aload_n O dzX5_addWholes_82 rfl 0 rfl ?_
      refine z_get O z_cb5 (fx_tab h0) (v := .ref (z_ad Y (q0 + 2))) 0 (Nat.le_of_ble_eq_true rfl) tw_206 rfl dzX5_addWholes_83 ?_
      refine z_iload_n O dzX5_addWholes_86 rfl 2 rfl ?_
      obtain ⟨g2, h⟩ := z_gd_at h
      refine z_lald O (fx_wor h0) g2 dzX5_addWholes_87 ?_
      refine z_lor O dzX5_addWholes_88 ?_
      obtain ⟨g3, h⟩ := z_gd_at h
      refine z_last O (fx_wor h0) g3 dzX5_addWholes_89 ?_
      refine z_sig (fun w1 e1 => ?_)
      have h := z_lt_at e1 h
      refine z_iinc O (lv' := [(2, .int (v2 + (1 : Int32))), (0, .ref (z_ad Y q0)), (1, .int a1)]) dzX5_addWholes_90 2 rfl (congrArg _ hcI1) (by decide) rfl ?_
      refine z_goto O dzX5_addWholes_93 ?_
      refine z_sub [1, 2, 0] rfl ?_
      exact ih _ _ h
def fX5_addWholes_L59 (q0 : Nat) (k : zS → Int32 → Option (zS)) : Nat → zS → Int32 → Option (zS)
  | 0, _, _ => none
  | n + 1, σ, v1 => (if (64 : Int32) ≤ v1 then k σ v1 else fX5_addWholes_L67 q0 v1 (fun (w1 : zS) (x1 : Int32) => z_lt (v1 <<< ((1 : Int32) &&& 31)) (fun (x2 : Int32) => fX5_addWholes_L59 q0 k n w1 x2)) z_F σ (0 : Int32))
theorem kX5_addWholes_L59 {l : Launch} {Y : zY} {fin : zS} {p : Program} {e : Env} {s : State} {m : MethodId} {args : Array Value} {below : List Frame} {meth : Method} {c : Code} (O : z_ok ΛX Y p s m args c cX5_addWholes RX5 3) (hi : z_inj ΛX Y) (hr : meth.sig.returnType = none) (hlk : meth.locks = false) {q0 : Nat} (h0 : z_tab q0) {k : zS → Int32 → Option (zS)} (hk : ∀ (w : zS) (z1 : Int32), k w z1 = some fin → z_G p l e (z_rm 1) s m args below meth c (MQ below (z_Qv ΛX Y fin) args s 0 0 (z_A ΛX Y)) ΛX Y 3 w [(0, .ref (z_ad Y q0)), (1, .int z1)] 103 []) : ∀ (n : Nat) (σ : zS) (v1 : Int32), fX5_addWholes_L59 q0 k n σ v1 = some fin → z_G p l e (z_rm 1) s m args below meth c (MQ below (z_Qv ΛX Y fin) args s 0 0 (z_A ΛX Y)) ΛX Y 3 σ [(0, .ref (z_ad Y q0)), (1, .int v1)] 59 [] := by
  intro n
  induction n with
  | zero =>
    intro _ _ h
    cases h
  | succ n ih =>
    intro σ v1 h
    rw [fX5_addWholes_L59.eq_2] at h
    refine z_iload_n O dzX5_addWholes_59 rfl 1 rfl ?_
    refine z_bipush O dzX5_addWholes_60 hcB64 ?_
    refine z_icmp_ge O dzX5_addWholes_62 (fun c1 => ?_) (fun c1 => ?_)
    · have h := z_if_t c1 h
      exact hk _ _ h
    · have h := z_if_f c1 h
      refine z_iconst O dzX5_addWholes_65 hcI0 ?_
      refine z_istore_n O (lv' := [(2, .int (0 : Int32)), (0, .ref (z_ad Y q0)), (1, .int v1)]) dzX5_addWholes_66 rfl (by decide) rfl ?_
      refine z_sub [1, 2, 0] rfl ?_
      refine kX5_addWholes_L67 O hi hr hlk (h0 := h0)  (fun w1 x1 h => ?_) _ _ _ h
      refine z_iload_n O dzX5_addWholes_96 rfl 1 rfl ?_
      refine z_iconst O dzX5_addWholes_97 hcI1 ?_
      refine z_ishl O dzX5_addWholes_98 ?_
      refine z_topi (fun x2 e1 => ?_)
      have h := z_lt_at e1 h
      refine z_istore_n O (lv' := [(1, .int x2), (0, .ref (z_ad Y q0)), (2, .int x1)]) dzX5_addWholes_99 rfl (by decide) rfl ?_
      refine z_goto O dzX5_addWholes_100 ?_
      refine z_sub [1, 0] rfl ?_
      exact ih _ _ h
def fX5_addWholes (σ : zS) (p0 : Nat) : Option (zS) :=
  fX5_addWholes_L2 p0 (fun (w1 : zS) (x1 : Int32) => fX5_addWholes_L59 p0 (fun (w2 : zS) (x2 : Int32) => some w2) z_F w1 (1 : Int32)) z_F σ (0 : Int32)
theorem kX5_addWholes {l : Launch} {Y : zY} (hi : z_inj ΛX Y) {σ : zS} {p0 : Nat} (h0 : z_tab p0) {fin : zS} (h : fX5_addWholes σ p0 = some fin) : Met l yX5_addWholes (Cond.code yX5_addWholes cX5_addWholes 3 none :: z_TB) (z_rm 1) (z_Pc ΛX Y σ [.ref (z_ad Y p0)]) (z_Qv ΛX Y fin) 0 0 (z_A ΛX Y) := by
  unfold fX5_addWholes at h
  refine z_met [(0, .ref (z_ad Y p0))] rfl (Nat.le_of_ble_eq_true rfl) (plainFor_of_name (by decide)) hi ?_
  intro p e s m args below meth c O hr hlk
  refine z_iconst O dzX5_addWholes_0 hcI0 ?_
  refine z_istore_n O (lv' := [(1, .int (0 : Int32)), (0, .ref (z_ad Y p0))]) dzX5_addWholes_1 rfl (by decide) rfl ?_
  refine z_sub [1, 0] rfl ?_
  refine kX5_addWholes_L2 O hi hr hlk (h0 := h0)  (fun w1 x1 h => ?_) _ _ _ h
  refine z_iconst O dzX5_addWholes_57 hcI1 ?_
  refine z_istore_n O (lv' := [(1, .int (1 : Int32)), (0, .ref (z_ad Y p0))]) dzX5_addWholes_58 rfl (by decide) rfl ?_
  refine z_sub [1, 0] rfl ?_
  refine kX5_addWholes_L59 O hi hr hlk (h0 := h0)  (fun w2 x2 h => ?_) _ _ _ h
  exact z_vret O hr hlk dzX5_addWholes_103 h
def fX5_commonWord_L14 (q0 : Nat) (q1 : Nat) (a3 : Int32) (k : zS → Int32 → Int32 → Option (Int64 × zS)) : Nat → zS → Int32 → Int32 → Option (Int64 × zS)
  | 0, _, _, _ => none
  | n + 1, σ, v4, v5 => (if (σ.1 q1 2) ≤ v5 then k σ v4 v5 else z_gd (z_in v5 40) ((fX7_isPart a3 ((σ.1 (q1 + 9) v5.toNatClampNeg) >>> ((6 : Int32) &&& 31))).bind (fun r1 => (if r1 = 0 then fX5_commonWord_L14 q0 q1 a3 k n σ v4 (v5 + (1 : Int32)) else z_gd (z_in v5 40) (z_gd (z_in ((σ.1 (q1 + 9) v5.toNatClampNeg) &&& (63 : Int32)) 64) (z_gd (z_in v5 40) (z_gd (z_in ((σ.1 (q1 + 9) v5.toNatClampNeg) &&& (63 : Int32)) 64) (z_lt (z_sI σ (q0 + 4) ((σ.1 (q1 + 9) v5.toNatClampNeg) &&& (63 : Int32)).toNatClampNeg ((σ.1 (q0 + 4) ((σ.1 (q1 + 9) v5.toNatClampNeg) &&& (63 : Int32)).toNatClampNeg) + (σ.1 (q1 + 18) v5.toNatClampNeg))) (fun (w1 : zS) => z_gd (z_in v5 40) (z_lt (v4 + (w1.1 (q1 + 18) v5.toNatClampNeg)) (fun (x1 : Int32) => fX5_commonWord_L14 q0 q1 a3 k n w1 x1 (v5 + (1 : Int32)))))))))))))
theorem kX5_commonWord_L14 {l : Launch} {Y : zY} {fin : Int64 × zS} {p : Program} {e : Env} {s : State} {m : MethodId} {args : Array Value} {below : List Frame} {meth : Method} {c : Code} (O : z_ok ΛX Y p s m args c cX5_commonWord RX5 8) (hi : z_inj ΛX Y) (hr : meth.sig.returnType = (some .long)) (hlk : meth.locks = false) {q0 : Nat} (h0 : z_tab q0) {q1 : Nat} (h1 : z_fam q1) {b2 : Int32} {a3 : Int32} {k : zS → Int32 → Int32 → Option (Int64 × zS)} (hk : ∀ (w : zS) (z4 : Int32) (z5 : Int32), k w z4 z5 = some fin → z_G p l e (z_rm 2) s m args below meth c (MQ below (z_Ql ΛX Y fin) args s 0 0 (z_A ΛX Y)) ΛX Y 8 w [(0, .ref (z_ad Y q0)), (1, .ref (z_ad Y q1)), (2, .int b2), (3, .int a3), (4, .int z4), (5, .int z5)] 83 []) : ∀ (n : Nat) (σ : zS) (v4 : Int32) (v5 : Int32), fX5_commonWord_L14 q0 q1 a3 k n σ v4 v5 = some fin → z_G p l e (z_rm 2) s m args below meth c (MQ below (z_Ql ΛX Y fin) args s 0 0 (z_A ΛX Y)) ΛX Y 8 σ [(0, .ref (z_ad Y q0)), (1, .ref (z_ad Y q1)), (2, .int b2), (3, .int a3), (4, .int v4), (5, .int v5)] 14 [] := by
  intro n
  induction n with
  | zero =>
    intro _ _ _ h
    cases h
  | succ n ih =>
    intro σ v4 v5 h
    rw [fX5_commonWord_L14.eq_2] at h
    refine z_iload O dzX5_commonWord_14 5 rfl ?_
    refine z_aload_n O dzX5_commonWord_16 rfl 1 rfl ?_
    refine z_get O z_cb1 (fx_fam h1) (v := .int (σ.1 q1 2)) 2 (Nat.le_of_ble_eq_true rfl) tw_49 rfl dzX5_commonWord_17 ?_
    refine z_icmp_ge O dzX5_commonWord_20 (fun c2 => ?_) (fun c2 => ?_)
    · have h := z_if_t c2 h
      exact hk _ _ _ h
    · have h := z_if_f c2 h
      refine z_iload_n O dzX5_commonWord_23 rfl 3 rfl ?_
      refine z_aload_n O dzX5_commonWord_24 rfl 1 rfl ?_
      refine z_get O z_cb1 (fx_fam h1) (v := .ref (z_ad Y (q1 + 9))) 0 (Nat.le_of_ble_eq_true rfl) tw_41 rfl dzX5_commonWord_25 ?_
      refine z_iload O dzX5_commonWord_28 5 rfl ?_
      obtain ⟨g1, h⟩ := z_gd_at h
      refine z_iald O (fx_set h1) g1 dzX5_commonWord_30 ?_
      refine z_bipush O dzX5_commonWord_31 hcB6 ?_
      refine z_ishr O dzX5_commonWord_33 ?_
      obtain ⟨r1, hc1, h⟩ := z_bd_at h
      refine z_callNiR O (As := [.int a3, .int ((σ.1 (q1 + 9) v5.toNatClampNeg) >>> ((6 : Int32) &&& 31))]) (rest := []) (kX7_isPart hi hc1) mX7_isPart (List.mem_of_getElem? (i := 6) rfl) (Nat.le_of_ble_eq_true rfl) rfl rfl (Nat.le_of_ble_eq_true rfl) dzX5_commonWord_34 ?_
      refine z_if_eq O dzX5_commonWord_37 (fun c1 => ?_) (fun c1 => ?_)
      · have h := z_if_t c1 h
        refine z_iinc O (lv' := [(5, .int (v5 + (1 : Int32))), (0, .ref (z_ad Y q0)), (1, .ref (z_ad Y q1)), (2, .int b2), (3, .int a3), (4, .int v4)]) dzX5_commonWord_77 5 rfl (congrArg _ hcI1) (by decide) rfl ?_
        refine z_goto O dzX5_commonWord_80 ?_
        refine z_sub [1, 2, 3, 4, 5, 0] rfl ?_
        exact ih _ _ _ h
      · have h := z_if_f c1 h
        refine z_aload_n O dzX5_commonWord_40 rfl 0 rfl ?_
        refine z_get O z_cb5 (fx_tab h0) (v := .ref (z_ad Y (q0 + 4))) 1 (Nat.le_of_ble_eq_true rfl) tw_207 rfl dzX5_commonWord_41 ?_
        refine z_aload_n O dzX5_commonWord_44 rfl 1 rfl ?_
        refine z_get O z_cb1 (fx_fam h1) (v := .ref (z_ad Y (q1 + 9))) 0 (Nat.le_of_ble_eq_true rfl) tw_41 rfl dzX5_commonWord_45 ?_
        refine z_iload O dzX5_commonWord_48 5 rfl ?_
        obtain ⟨g2, h⟩ := z_gd_at h
        refine z_iald O (fx_set h1) g2 dzX5_commonWord_50 ?_
        refine z_bipush O dzX5_commonWord_51 hcB63 ?_
        refine z_iand O dzX5_commonWord_53 ?_
        refine z_dup2_11 O dzX5_commonWord_54 rfl rfl ?_
        obtain ⟨g3, h⟩ := z_gd_at h
        refine z_iald O (fx_sup h0) g3 dzX5_commonWord_55 ?_
        refine z_aload_n O dzX5_commonWord_56 rfl 1 rfl ?_
        refine z_get O z_cb1 (fx_fam h1) (v := .ref (z_ad Y (q1 + 18))) 1 (Nat.le_of_ble_eq_true rfl) tw_44 rfl dzX5_commonWord_57 ?_
        refine z_iload O dzX5_commonWord_60 5 rfl ?_
        obtain ⟨g4, h⟩ := z_gd_at h
        refine z_iald O (fx_tal h1) g4 dzX5_commonWord_62 ?_
        refine z_iadd O dzX5_commonWord_63 ?_
        obtain ⟨g5, h⟩ := z_gd_at h
        refine z_iast O (fx_sup h0) g5 dzX5_commonWord_64 ?_
        refine z_sig (fun w1 e1 => ?_)
        have h := z_lt_at e1 h
        refine z_iload O dzX5_commonWord_65 4 rfl ?_
        refine z_aload_n O dzX5_commonWord_67 rfl 1 rfl ?_
        refine z_get O z_cb1 (fx_fam h1) (v := .ref (z_ad Y (q1 + 18))) 1 (Nat.le_of_ble_eq_true rfl) tw_44 rfl dzX5_commonWord_68 ?_
        refine z_iload O dzX5_commonWord_71 5 rfl ?_
        obtain ⟨g6, h⟩ := z_gd_at h
        refine z_iald O (fx_tal h1) g6 dzX5_commonWord_73 ?_
        refine z_iadd O dzX5_commonWord_74 ?_
        refine z_topi (fun x1 e2 => ?_)
        have h := z_lt_at e2 h
        refine z_istore O (lv' := [(4, .int x1), (0, .ref (z_ad Y q0)), (1, .ref (z_ad Y q1)), (2, .int b2), (3, .int a3), (5, .int v5)]) dzX5_commonWord_75 (by decide) rfl ?_
        refine z_iinc O (lv' := [(5, .int (v5 + (1 : Int32))), (4, .int x1), (0, .ref (z_ad Y q0)), (1, .ref (z_ad Y q1)), (2, .int b2), (3, .int a3)]) dzX5_commonWord_77 5 rfl (congrArg _ hcI1) (by decide) rfl ?_
        refine z_goto O dzX5_commonWord_80 ?_
        refine z_sub [2, 3, 4, 5, 1, 0] rfl ?_
        exact ih _ _ _ h
def fX5_commonWord_L104 (q0 : Nat) (a5 : Int32) (k : zS → Int32 → Option (Int64 × zS)) : Nat → zS → Int32 → Option (Int64 × zS)
  | 0, _, _ => none
  | n + 1, σ, v6 => (if (64 : Int32) ≤ v6 then k σ v6 else (if (v6 &&& a5) = 0 then z_gd (z_in v6 64) (z_gd (z_in (v6 ||| a5) 64) (z_gd (z_in v6 64) (z_lt (z_sI σ (q0 + 4) v6.toNatClampNeg ((σ.1 (q0 + 4) v6.toNatClampNeg) + (σ.1 (q0 + 4) (v6 ||| a5).toNatClampNeg))) (fun (w1 : zS) => fX5_commonWord_L104 q0 a5 k n w1 (v6 + (1 : Int32)))))) else fX5_commonWord_L104 q0 a5 k n σ (v6 + (1 : Int32))))
theorem kX5_commonWord_L104 {l : Launch} {Y : zY} {fin : Int64 × zS} {p : Program} {e : Env} {s : State} {m : MethodId} {args : Array Value} {below : List Frame} {meth : Method} {c : Code} (O : z_ok ΛX Y p s m args c cX5_commonWord RX5 8) (hi : z_inj ΛX Y) (hr : meth.sig.returnType = (some .long)) (hlk : meth.locks = false) {q0 : Nat} (h0 : z_tab q0) {b2 : Int32} {a5 : Int32} {k : zS → Int32 → Option (Int64 × zS)} (hk : ∀ (w : zS) (z6 : Int32), k w z6 = some fin → z_G p l e (z_rm 2) s m args below meth c (MQ below (z_Ql ΛX Y fin) args s 0 0 (z_A ΛX Y)) ΛX Y 8 w [(0, .ref (z_ad Y q0)), (2, .int b2), (5, .int a5), (6, .int z6)] 145 []) : ∀ (n : Nat) (σ : zS) (v6 : Int32), fX5_commonWord_L104 q0 a5 k n σ v6 = some fin → z_G p l e (z_rm 2) s m args below meth c (MQ below (z_Ql ΛX Y fin) args s 0 0 (z_A ΛX Y)) ΛX Y 8 σ [(0, .ref (z_ad Y q0)), (2, .int b2), (5, .int a5), (6, .int v6)] 104 [] := by
  intro n
  induction n with
  | zero =>
    intro _ _ h
    cases h
  | succ n ih =>
    intro σ v6 h
    rw [fX5_commonWord_L104.eq_2] at h
    refine z_iload O dzX5_commonWord_104 3 rfl ?_
    refine z_bipush O dzX5_commonWord_106 hcB64 ?_
    refine z_icmp_ge O dzX5_commonWord_108 (fun c2 => ?_) (fun c2 => ?_)
    · have h := z_if_t c2 h
      exact hk _ _ h
    · have h := z_if_f c2 h
      refine z_iload O dzX5_commonWord_111 3 rfl ?_
      refine z_iload O dzX5_commonWord_113 2 rfl ?_
      refine z_iand O dzX5_commonWord_115 ?_
      refine z_if_ne O dzX5_commonWord_116 (fun c1 => ?_) (fun c1 => ?_)
      · have h := z_if_f c1 h
        refine z_iinc O (lv' := [(6, .int (v6 + (1 : Int32))), (0, .ref (z_ad Y q0)), (2, .int b2), (5, .int a5)]) dzX5_commonWord_139 3 rfl (congrArg _ hcI1) (by decide) rfl ?_
        refine z_goto O dzX5_commonWord_142 ?_
        refine z_sub [1, 2, 3, 0] rfl ?_
        exact ih _ _ h
      · have h := z_if_t c1 h
        refine z_aload_n O dzX5_commonWord_119 rfl 0 rfl ?_
        refine z_get O z_cb5 (fx_tab h0) (v := .ref (z_ad Y (q0 + 4))) 1 (Nat.le_of_ble_eq_true rfl) tw_207 rfl dzX5_commonWord_120 ?_
        refine z_iload O dzX5_commonWord_123 3 rfl ?_
        refine z_dup2_11 O dzX5_commonWord_125 rfl rfl ?_
        obtain ⟨g1, h⟩ := z_gd_at h
        refine z_iald O (fx_sup h0) g1 dzX5_commonWord_126 ?_
        refine z_aload_n O dzX5_commonWord_127 rfl 0 rfl ?_
        refine z_get O z_cb5 (fx_tab h0) (v := .ref (z_ad Y (q0 + 4))) 1 (Nat.le_of_ble_eq_true rfl) tw_207 rfl dzX5_commonWord_128 ?_
        refine z_iload O dzX5_commonWord_131 3 rfl ?_
        refine z_iload O dzX5_commonWord_133 2 rfl ?_
        refine z_ior O dzX5_commonWord_135 ?_
        obtain ⟨g2, h⟩ := z_gd_at h
        refine z_iald O (fx_sup h0) g2 dzX5_commonWord_136 ?_
        refine z_iadd O dzX5_commonWord_137 ?_
        obtain ⟨g3, h⟩ := z_gd_at h
        refine z_iast O (fx_sup h0) g3 dzX5_commonWord_138 ?_
        refine z_sig (fun w1 e1 => ?_)
        have h := z_lt_at e1 h
        refine z_iinc O (lv' := [(6, .int (v6 + (1 : Int32))), (0, .ref (z_ad Y q0)), (2, .int b2), (5, .int a5)]) dzX5_commonWord_139 3 rfl (congrArg _ hcI1) (by decide) rfl ?_
        refine z_goto O dzX5_commonWord_142 ?_
        refine z_sub [1, 2, 3, 0] rfl ?_
        exact ih _ _ h
def fX5_commonWord_L94 (q0 : Nat) (k : zS → Int32 → Option (Int64 × zS)) : Nat → zS → Int32 → Option (Int64 × zS)
  | 0, _, _ => none
  | n + 1, σ, v5 => (if (64 : Int32) ≤ v5 then k σ v5 else fX5_commonWord_L104 q0 v5 (fun (w1 : zS) (x1 : Int32) => z_lt (v5 <<< ((1 : Int32) &&& 31)) (fun (x2 : Int32) => fX5_commonWord_L94 q0 k n w1 x2)) z_F σ (0 : Int32))
theorem kX5_commonWord_L94 {l : Launch} {Y : zY} {fin : Int64 × zS} {p : Program} {e : Env} {s : State} {m : MethodId} {args : Array Value} {below : List Frame} {meth : Method} {c : Code} (O : z_ok ΛX Y p s m args c cX5_commonWord RX5 8) (hi : z_inj ΛX Y) (hr : meth.sig.returnType = (some .long)) (hlk : meth.locks = false) {q0 : Nat} (h0 : z_tab q0) {b2 : Int32} {k : zS → Int32 → Option (Int64 × zS)} (hk : ∀ (w : zS) (z5 : Int32), k w z5 = some fin → z_G p l e (z_rm 2) s m args below meth c (MQ below (z_Ql ΛX Y fin) args s 0 0 (z_A ΛX Y)) ΛX Y 8 w [(0, .ref (z_ad Y q0)), (2, .int b2), (5, .int z5)] 154 []) : ∀ (n : Nat) (σ : zS) (v5 : Int32), fX5_commonWord_L94 q0 k n σ v5 = some fin → z_G p l e (z_rm 2) s m args below meth c (MQ below (z_Ql ΛX Y fin) args s 0 0 (z_A ΛX Y)) ΛX Y 8 σ [(0, .ref (z_ad Y q0)), (2, .int b2), (5, .int v5)] 94 [] := by
  intro n
  induction n with
  | zero =>
    intro _ _ h
    cases h
  | succ n ih =>
    intro σ v5 h
    rw [fX5_commonWord_L94.eq_2] at h
    refine z_iload O dzX5_commonWord_94 2 rfl ?_
    refine z_bipush O dzX5_commonWord_96 hcB64 ?_
    refine z_icmp_ge O dzX5_commonWord_98 (fun c1 => ?_) (fun c1 => ?_)
    · have h := z_if_t c1 h
      exact hk _ _ h
    · have h := z_if_f c1 h
      refine z_iconst O dzX5_commonWord_101 hcI0 ?_
      refine z_istore O (lv' := [(6, .int (0 : Int32)), (0, .ref (z_ad Y q0)), (2, .int b2), (5, .int v5)]) dzX5_commonWord_102 (by decide) rfl ?_
      refine z_sub [1, 2, 3, 0] rfl ?_
      refine kX5_commonWord_L104 O hi hr hlk (h0 := h0)  (fun w1 x1 h => ?_) _ _ _ h
      refine z_iload O dzX5_commonWord_145 2 rfl ?_
      refine z_iconst O dzX5_commonWord_147 hcI1 ?_
      refine z_ishl O dzX5_commonWord_148 ?_
      refine z_topi (fun x2 e1 => ?_)
      have h := z_lt_at e1 h
      refine z_istore O (lv' := [(5, .int x2), (0, .ref (z_ad Y q0)), (2, .int b2), (6, .int x1)]) dzX5_commonWord_149 (by decide) rfl ?_
      refine z_goto O dzX5_commonWord_151 ?_
      refine z_sub [1, 2, 0] rfl ?_
      exact ih _ _ h
def fX5_commonWord_L160 (σ : zS) (q0 : Nat) (a2 : Int32) (k : Int64 → Int32 → Option (Int64 × zS)) : Nat → Int64 → Int32 → Option (Int64 × zS)
  | 0, _, _ => none
  | n + 1, v5, v7 => (if (64 : Int32) ≤ v7 then k v5 v7 else z_gd (z_in v7 64) ((if (σ.1 (q0 + 4) v7.toNatClampNeg) < a2 then fX5_commonWord_L160 σ q0 a2 k n v5 (v7 + (1 : Int32)) else z_lt (v5 ||| ((1 : Int64) <<< (v7.toInt64 &&& 63))) (fun (x1 : Int64) => fX5_commonWord_L160 σ q0 a2 k n x1 (v7 + (1 : Int32))))))
theorem kX5_commonWord_L160 {l : Launch} {Y : zY} {fin : Int64 × zS} {p : Program} {e : Env} {s : State} {m : MethodId} {args : Array Value} {below : List Frame} {meth : Method} {c : Code} {σ : zS} (O : z_ok ΛX Y p s m args c cX5_commonWord RX5 8) (hi : z_inj ΛX Y) (hr : meth.sig.returnType = (some .long)) (hlk : meth.locks = false) {q0 : Nat} (h0 : z_tab q0) {a2 : Int32} {k : Int64 → Int32 → Option (Int64 × zS)} (hk : ∀ (z5 : Int64) (z7 : Int32), k z5 z7 = some fin → z_G p l e (z_rm 2) s m args below meth c (MQ below (z_Ql ΛX Y fin) args s 0 0 (z_A ΛX Y)) ΛX Y 8 σ [(0, .ref (z_ad Y q0)), (2, .int a2), (5, .long z5), (7, .int z7)] 193 []) : ∀ (n : Nat) (v5 : Int64) (v7 : Int32), fX5_commonWord_L160 σ q0 a2 k n v5 v7 = some fin → z_G p l e (z_rm 2) s m args below meth c (MQ below (z_Ql ΛX Y fin) args s 0 0 (z_A ΛX Y)) ΛX Y 8 σ [(0, .ref (z_ad Y q0)), (2, .int a2), (5, .long v5), (7, .int v7)] 160 [] := by
  intro n
  induction n with
  | zero =>
    intro _ _ h
    cases h
  | succ n ih =>
    intro v5 v7 h
    rw [fX5_commonWord_L160.eq_2] at h
    refine z_iload O dzX5_commonWord_160 3 rfl ?_
    refine z_bipush O dzX5_commonWord_162 hcB64 ?_
    refine z_icmp_ge O dzX5_commonWord_164 (fun c2 => ?_) (fun c2 => ?_)
    · have h := z_if_t c2 h
      exact hk _ _ h
    · have h := z_if_f c2 h
      refine z_aload_n O dzX5_commonWord_167 rfl 0 rfl ?_
      refine z_get O z_cb5 (fx_tab h0) (v := .ref (z_ad Y (q0 + 4))) 1 (Nat.le_of_ble_eq_true rfl) tw_207 rfl dzX5_commonWord_168 ?_
      refine z_iload O dzX5_commonWord_171 3 rfl ?_
      obtain ⟨g1, h⟩ := z_gd_at h
      refine z_iald O (fx_sup h0) g1 dzX5_commonWord_173 ?_
      refine z_iload_n O dzX5_commonWord_174 rfl 1 rfl ?_
      refine z_icmp_lt O dzX5_commonWord_175 (fun c1 => ?_) (fun c1 => ?_)
      · have h := z_if_t c1 h
        refine z_iinc O (lv' := [(7, .int (v7 + (1 : Int32))), (0, .ref (z_ad Y q0)), (2, .int a2), (5, .long v5)]) dzX5_commonWord_187 3 rfl (congrArg _ hcI1) (by decide) rfl ?_
        refine z_goto O dzX5_commonWord_190 ?_
        refine z_sub [1, 2, 3, 0] rfl ?_
        exact ih _ _ h
      · have h := z_if_f c1 h
        refine z_lload O dzX5_commonWord_178 2 rfl ?_
        refine z_lconst O dzX5_commonWord_180 (v := 1) rfl ?_
        refine z_iload O dzX5_commonWord_181 3 rfl ?_
        refine z_lshl O dzX5_commonWord_183 ?_
        refine z_lor O dzX5_commonWord_184 ?_
        refine z_topl (fun x1 e1 => ?_)
        have h := z_lt_at e1 h
        refine z_lstore O (lv' := [(5, .long x1), (0, .ref (z_ad Y q0)), (2, .int a2), (7, .int v7)]) dzX5_commonWord_185 (by decide) rfl ?_
        refine z_iinc O (lv' := [(7, .int (v7 + (1 : Int32))), (5, .long x1), (0, .ref (z_ad Y q0)), (2, .int a2)]) dzX5_commonWord_187 3 rfl (congrArg _ hcI1) (by decide) rfl ?_
        refine z_goto O dzX5_commonWord_190 ?_
        refine z_sub [2, 3, 1, 0] rfl ?_
        exact ih _ _ h
def fX5_commonWord (σ : zS) (p0 : Nat) (p1 : Nat) (a2 : Int32) (a3 : Int32) : Option (Int64 × zS) :=
  (fJ7_fill_53178 σ (p0 + 4) 64 (0 : Int32)).bind (fun r1 => fX5_commonWord_L14 p0 p1 a3 (fun (w1 : zS) (x1 : Int32) (x2 : Int32) => (if a2 ≤ x1 then fX5_commonWord_L94 p0 (fun (w2 : zS) (x3 : Int32) => fX5_commonWord_L160 w2 p0 a2 (fun (x4 : Int64) (x5 : Int32) => some (x4, w2)) z_F (0 : Int64) (0 : Int32)) z_F w1 (1 : Int32) else some ((0 : Int64), w1))) z_F r1 (0 : Int32) (0 : Int32))
theorem kX5_commonWord {l : Launch} {Y : zY} (hi : z_inj ΛX Y) {σ : zS} {p0 : Nat} (h0 : z_tab p0) {p1 : Nat} (h1 : z_fam p1) {a2 : Int32} {a3 : Int32} {fin : Int64 × zS} (h : fX5_commonWord σ p0 p1 a2 a3 = some fin) : Met l yX5_commonWord (Cond.code yX5_commonWord cX5_commonWord 8 (some .long) :: z_TB) (z_rm 2) (z_Pc ΛX Y σ [.ref (z_ad Y p0), .ref (z_ad Y p1), .int a2, .int a3]) (z_Ql ΛX Y fin) 0 0 (z_A ΛX Y) := by
  unfold fX5_commonWord at h
  refine z_met [(0, .ref (z_ad Y p0)), (1, .ref (z_ad Y p1)), (2, .int a2), (3, .int a3)] rfl (Nat.le_of_ble_eq_true rfl) (plainFor_of_name (by decide)) hi ?_
  intro p e s m args below meth c O hr hlk
  refine z_iconst O dzX5_commonWord_0 hcI0 ?_
  refine z_istore O (lv' := [(4, .int (0 : Int32)), (0, .ref (z_ad Y p0)), (1, .ref (z_ad Y p1)), (2, .int a2), (3, .int a3)]) dzX5_commonWord_1 (by decide) rfl ?_
  refine z_aload_n O dzX5_commonWord_3 rfl 1 rfl ?_
  refine z_get O z_cb5 (fx_tab h0) (v := .ref (z_ad Y (p0 + 4))) 1 (Nat.le_of_ble_eq_true rfl) tw_207 rfl dzX5_commonWord_4 ?_
  refine z_iconst O dzX5_commonWord_7 hcI0 ?_
  obtain ⟨r1, hc1, h⟩ := z_bd_at h
  refine z_callSv O (As := [.ref (z_ad Y (p0 + 4)), .int (0 : Int32)]) (rest := []) (kJ7_fill_53178 hi (fx_sup h0) hc1) mJ7_fill_53178 tw_577 (Nat.le_of_ble_eq_true rfl) rfl rfl (Nat.le_of_ble_eq_true rfl) dzX5_commonWord_8 ?_
  refine z_iconst O dzX5_commonWord_11 hcI0 ?_
  refine z_istore O (lv' := [(5, .int (0 : Int32)), (4, .int (0 : Int32)), (0, .ref (z_ad Y p0)), (1, .ref (z_ad Y p1)), (2, .int a2), (3, .int a3)]) dzX5_commonWord_12 (by decide) rfl ?_
  refine z_sub [2, 3, 4, 5, 1, 0] rfl ?_
  refine kX5_commonWord_L14 O hi hr hlk (h0 := h0) (h1 := h1)  (fun w1 x1 x2 h => ?_) _ _ _ _ h
  refine z_iload O dzX5_commonWord_83 4 rfl ?_
  refine z_iload_n O dzX5_commonWord_85 rfl 2 rfl ?_
  refine z_icmp_ge O dzX5_commonWord_86 (fun c1 => ?_) (fun c1 => ?_)
  · have h := z_if_t c1 h
    refine z_iconst O dzX5_commonWord_91 hcI1 ?_
    refine z_istore O (lv' := [(5, .int (1 : Int32)), (0, .ref (z_ad Y p0)), (1, .ref (z_ad Y p1)), (2, .int a2), (3, .int a3), (4, .int x1)]) dzX5_commonWord_92 (by decide) rfl ?_
    refine z_sub [1, 3, 0] rfl ?_
    refine kX5_commonWord_L94 O hi hr hlk (h0 := h0)  (fun w2 x3 h => ?_) _ _ _ h
    refine z_lconst O dzX5_commonWord_154 (v := 0) rfl ?_
    refine z_lstore O (lv' := [(5, .long (0 : Int64)), (0, .ref (z_ad Y p0)), (2, .int a2)]) dzX5_commonWord_155 (by decide) rfl ?_
    refine z_iconst O dzX5_commonWord_157 hcI0 ?_
    refine z_istore O (lv' := [(7, .int (0 : Int32)), (5, .long (0 : Int64)), (0, .ref (z_ad Y p0)), (2, .int a2)]) dzX5_commonWord_158 (by decide) rfl ?_
    refine z_sub [2, 3, 1, 0] rfl ?_
    refine kX5_commonWord_L160 O hi hr hlk (h0 := h0)  (fun x4 x5 h => ?_) _ _ _ h
    refine z_lload O dzX5_commonWord_193 2 rfl ?_
    exact z_lret O hr hlk dzX5_commonWord_195 h
  · have h := z_if_f c1 h
    refine z_lconst O dzX5_commonWord_89 (v := 0) rfl ?_
    exact z_lret O hr hlk dzX5_commonWord_90 h
def fX5_becomeCommon_L2 (q0 : Nat) (q1 : Nat) (a2 : Int32) (k : zS → Int32 → Option (zS)) : Nat → zS → Int32 → Option (zS)
  | 0, _, _ => none
  | n + 1, σ, v3 => (if (64 : Int32) ≤ v3 then k σ v3 else (fX5_commonWord σ q0 q1 a2 v3).bind (fun r1 => z_gd (z_in v3 64) (z_lt (z_sJ r1.2 (q0 + 2) v3.toNatClampNeg r1.1) (fun (w1 : zS) => fX5_becomeCommon_L2 q0 q1 a2 k n w1 (v3 + (1 : Int32))))))
theorem kX5_becomeCommon_L2 {l : Launch} {Y : zY} {fin : zS} {p : Program} {e : Env} {s : State} {m : MethodId} {args : Array Value} {below : List Frame} {meth : Method} {c : Code} (O : z_ok ΛX Y p s m args c cX5_becomeCommon RX5 4) (hi : z_inj ΛX Y) (hr : meth.sig.returnType = none) (hlk : meth.locks = false) {q0 : Nat} (h0 : z_tab q0) {q1 : Nat} (h1 : z_fam q1) {a2 : Int32} {k : zS → Int32 → Option (zS)} (hk : ∀ (w : zS) (z3 : Int32), k w z3 = some fin → z_G p l e (z_rm 3) s m args below meth c (MQ below (z_Qv ΛX Y fin) args s 0 0 (z_A ΛX Y)) ΛX Y 4 w [(0, .ref (z_ad Y q0)), (1, .ref (z_ad Y q1)), (2, .int a2), (3, .int z3)] 27 []) : ∀ (n : Nat) (σ : zS) (v3 : Int32), fX5_becomeCommon_L2 q0 q1 a2 k n σ v3 = some fin → z_G p l e (z_rm 3) s m args below meth c (MQ below (z_Qv ΛX Y fin) args s 0 0 (z_A ΛX Y)) ΛX Y 4 σ [(0, .ref (z_ad Y q0)), (1, .ref (z_ad Y q1)), (2, .int a2), (3, .int v3)] 2 [] := by
  intro n
  induction n with
  | zero =>
    intro _ _ h
    cases h
  | succ n ih =>
    intro σ v3 h
    rw [fX5_becomeCommon_L2.eq_2] at h
    refine z_iload_n O dzX5_becomeCommon_2 rfl 3 rfl ?_
    refine z_bipush O dzX5_becomeCommon_3 hcB64 ?_
    refine z_icmp_ge O dzX5_becomeCommon_5 (fun c1 => ?_) (fun c1 => ?_)
    · have h := z_if_t c1 h
      exact hk _ _ h
    · have h := z_if_f c1 h
      refine z_aload_n O dzX5_becomeCommon_8 rfl 0 rfl ?_
      refine z_get O z_cb5 (fx_tab h0) (v := .ref (z_ad Y (q0 + 2))) 0 (Nat.le_of_ble_eq_true rfl) tw_206 rfl dzX5_becomeCommon_9 ?_
      refine z_iload_n O dzX5_becomeCommon_12 rfl 3 rfl ?_
      refine z_aload_n O dzX5_becomeCommon_13 rfl 0 rfl ?_
      refine z_aload_n O dzX5_becomeCommon_14 rfl 1 rfl ?_
      refine z_iload_n O dzX5_becomeCommon_15 rfl 2 rfl ?_
      refine z_iload_n O dzX5_becomeCommon_16 rfl 3 rfl ?_
      obtain ⟨r1, hc1, h⟩ := z_bd_at h
      refine z_callVl O (As := [.ref (z_ad Y q1), .int a2, .int v3]) (rest := [.int v3, .ref (z_ad Y (q0 + 2))]) (kX5_commonWord hi h0 h1 hc1) mX5_commonWord tw_573 (Nat.le_of_ble_eq_true rfl) (fx_tab h0) rfl rfl rfl rfl (Nat.le_of_ble_eq_true rfl) dzX5_becomeCommon_17 ?_
      obtain ⟨g1, h⟩ := z_gd_at h
      refine z_last O (fx_wor h0) g1 dzX5_becomeCommon_20 ?_
      refine z_sig (fun w1 e1 => ?_)
      have h := z_lt_at e1 h
      refine z_iinc O (lv' := [(3, .int (v3 + (1 : Int32))), (0, .ref (z_ad Y q0)), (1, .ref (z_ad Y q1)), (2, .int a2)]) dzX5_becomeCommon_21 3 rfl (congrArg _ hcI1) (by decide) rfl ?_
      refine z_goto O dzX5_becomeCommon_24 ?_
      refine z_sub [1, 2, 3, 0] rfl ?_
      exact ih _ _ h
def fX5_becomeCommon (σ : zS) (p0 : Nat) (p1 : Nat) (a2 : Int32) : Option (zS) :=
  fX5_becomeCommon_L2 p0 p1 a2 (fun (w1 : zS) (x1 : Int32) => some w1) z_F σ (0 : Int32)
theorem kX5_becomeCommon {l : Launch} {Y : zY} (hi : z_inj ΛX Y) {σ : zS} {p0 : Nat} (h0 : z_tab p0) {p1 : Nat} (h1 : z_fam p1) {a2 : Int32} {fin : zS} (h : fX5_becomeCommon σ p0 p1 a2 = some fin) : Met l yX5_becomeCommon (Cond.code yX5_becomeCommon cX5_becomeCommon 4 none :: z_TB) (z_rm 3) (z_Pc ΛX Y σ [.ref (z_ad Y p0), .ref (z_ad Y p1), .int a2]) (z_Qv ΛX Y fin) 0 0 (z_A ΛX Y) := by
  unfold fX5_becomeCommon at h
  refine z_met [(0, .ref (z_ad Y p0)), (1, .ref (z_ad Y p1)), (2, .int a2)] rfl (Nat.le_of_ble_eq_true rfl) (plainFor_of_name (by decide)) hi ?_
  intro p e s m args below meth c O hr hlk
  refine z_iconst O dzX5_becomeCommon_0 hcI0 ?_
  refine z_istore_n O (lv' := [(3, .int (0 : Int32)), (0, .ref (z_ad Y p0)), (1, .ref (z_ad Y p1)), (2, .int a2)]) dzX5_becomeCommon_1 rfl (by decide) rfl ?_
  refine z_sub [1, 2, 3, 0] rfl ?_
  refine kX5_becomeCommon_L2 O hi hr hlk (h0 := h0) (h1 := h1)  (fun w1 x1 h => ?_) _ _ _ h
  exact z_vret O hr hlk dzX5_becomeCommon_27 h
def fX7_hasPoint (a0 : Int32) (a1 : Int32) : Option (Int32) :=
  (if ((a0 >>> (a1 &&& 31)) &&& (1 : Int32)) = 0 then some (0 : Int32) else some (1 : Int32))
theorem kX7_hasPoint {l : Launch} {Y : zY} (hi : z_inj ΛX Y) {σ : zS} {a0 : Int32} {a1 : Int32} {fin : Int32} (h : fX7_hasPoint a0 a1 = some fin) : Met l yX7_hasPoint (Cond.code yX7_hasPoint cX7_hasPoint 2 (some .boolean) :: z_TB) (z_rm 1) (z_Pc ΛX Y σ [.int a0, .int a1]) (z_Qi ΛX Y (fin, σ)) 0 0 (z_A ΛX Y) := by
  unfold fX7_hasPoint at h
  refine z_met [(0, .int a0), (1, .int a1)] rfl (Nat.le_of_ble_eq_true rfl) (plainFor_of_name (by decide)) hi ?_
  intro p e s m args below meth c O hr hlk
  refine z_iload_n O dzX7_hasPoint_0 rfl 0 rfl ?_
  refine z_iload_n O dzX7_hasPoint_1 rfl 1 rfl ?_
  refine z_ishr O dzX7_hasPoint_2 ?_
  refine z_iconst O dzX7_hasPoint_3 hcI1 ?_
  refine z_iand O dzX7_hasPoint_4 ?_
  refine z_if_eq O dzX7_hasPoint_5 (fun c1 => ?_) (fun c1 => ?_)
  · have h := z_if_t c1 h
    refine z_iconst O dzX7_hasPoint_12 hcI0 ?_
    exact z_zret O hr hlk rfl dzX7_hasPoint_13 (z_rf h)
  · have h := z_if_f c1 h
    refine z_iconst O dzX7_hasPoint_8 hcI1 ?_
    refine z_goto O dzX7_hasPoint_9 ?_
    exact z_zret O hr hlk rfl dzX7_hasPoint_13 (z_rf h)
def fX5_becomeGreatestOf_L21 (σ : zS) (q1 : Nat) (a2 : Int32) (a3 : Int64) (k : Int64 → Int32 → Option (zS)) : Nat → Int64 → Int32 → Option (zS)
  | 0, _, _ => none
  | n + 1, v5, v7 => (if (6 : Int32) ≤ v7 then k v5 v7 else z_gd (z_in v7 6) (z_lt (v5 ||| ((a3 &&& (z_withL v7.toNatClampNeg)).toUInt64 >>> (((1 : Int32) <<< (v7 &&& 31)).toInt64.toUInt64 &&& Int64.toUInt64 63)).toInt64) (fun (x1 : Int64) => (fX7_hasPoint a2 v7).bind (fun r1 => (if r1 = 0 then z_gd (z_in (a2 ||| ((1 : Int32) <<< (v7 &&& 31))) 64) (z_lt (x1 ||| (σ.2 (q1 + 2) (a2 ||| ((1 : Int32) <<< (v7 &&& 31))).toNatClampNeg)) (fun (x2 : Int64) => fX5_becomeGreatestOf_L21 σ q1 a2 a3 k n x2 (v7 + (1 : Int32)))) else fX5_becomeGreatestOf_L21 σ q1 a2 a3 k n x1 (v7 + (1 : Int32)))))))
theorem kX5_becomeGreatestOf_L21 {l : Launch} {Y : zY} {fin : zS} {p : Program} {e : Env} {s : State} {m : MethodId} {args : Array Value} {below : List Frame} {meth : Method} {c : Code} {σ : zS} (O : z_ok ΛX Y p s m args c cX5_becomeGreatestOf RX5 8) (hi : z_inj ΛX Y) (hr : meth.sig.returnType = none) (hlk : meth.locks = false) {q0 : Nat} (h0 : z_tab q0) {q1 : Nat} (h1 : z_tab q1) {a2 : Int32} {a3 : Int64} {k : Int64 → Int32 → Option (zS)} (hk : ∀ (z5 : Int64) (z7 : Int32), k z5 z7 = some fin → z_G p l e (z_rm 2) s m args below meth c (MQ below (z_Qv ΛX Y fin) args s 0 0 (z_A ΛX Y)) ΛX Y 8 σ [(0, .ref (z_ad Y q0)), (1, .ref (z_ad Y q1)), (2, .int a2), (3, .long a3), (5, .long z5), (7, .int z7)] 77 []) : ∀ (n : Nat) (v5 : Int64) (v7 : Int32), fX5_becomeGreatestOf_L21 σ q1 a2 a3 k n v5 v7 = some fin → z_G p l e (z_rm 2) s m args below meth c (MQ below (z_Qv ΛX Y fin) args s 0 0 (z_A ΛX Y)) ΛX Y 8 σ [(0, .ref (z_ad Y q0)), (1, .ref (z_ad Y q1)), (2, .int a2), (3, .long a3), (5, .long v5), (7, .int v7)] 21 [] := by
  intro n
  induction n with
  | zero =>
    intro _ _ h
    cases h
  | succ n ih =>
    intro v5 v7 h
    rw [fX5_becomeGreatestOf_L21.eq_2] at h
    refine z_iload O dzX5_becomeGreatestOf_21 5 rfl ?_
    refine z_bipush O dzX5_becomeGreatestOf_23 hcB6 ?_
    refine z_icmp_ge O dzX5_becomeGreatestOf_25 (fun c2 => ?_) (fun c2 => ?_)
    · have h := z_if_t c2 h
      exact hk _ _ h
    · have h := z_if_f c2 h
      refine z_lload O dzX5_becomeGreatestOf_28 4 rfl ?_
      refine z_lload_n O dzX5_becomeGreatestOf_30 rfl 3 rfl ?_
      refine z_gsW O tw_415 dzX5_becomeGreatestOf_31 ?_
      refine z_iload O dzX5_becomeGreatestOf_34 5 rfl ?_
      obtain ⟨g1, h⟩ := z_gd_at h
      refine z_tlW O g1 dzX5_becomeGreatestOf_36 ?_
      refine z_land O dzX5_becomeGreatestOf_37 ?_
      refine z_iconst O dzX5_becomeGreatestOf_38 hcI1 ?_
      refine z_iload O dzX5_becomeGreatestOf_39 5 rfl ?_
      refine z_ishl O dzX5_becomeGreatestOf_41 ?_
      refine z_lushr O dzX5_becomeGreatestOf_42 ?_
      refine z_lor O dzX5_becomeGreatestOf_43 ?_
      refine z_topl (fun x1 e1 => ?_)
      have h := z_lt_at e1 h
      refine z_lstore O (lv' := [(5, .long x1), (0, .ref (z_ad Y q0)), (1, .ref (z_ad Y q1)), (2, .int a2), (3, .long a3), (7, .int v7)]) dzX5_becomeGreatestOf_44 (by decide) rfl ?_
      refine z_iload_n O dzX5_becomeGreatestOf_46 rfl 3 rfl ?_
      refine z_iload O dzX5_becomeGreatestOf_47 5 rfl ?_
      obtain ⟨r1, hc1, h⟩ := z_bd_at h
      refine z_callNiR O (As := [.int a2, .int v7]) (rest := []) (kX7_hasPoint hi hc1) mX7_hasPoint (List.mem_of_getElem? (i := 1) rfl) (Nat.le_of_ble_eq_true rfl) rfl rfl (Nat.le_of_ble_eq_true rfl) dzX5_becomeGreatestOf_49 ?_
      refine z_if_ne O dzX5_becomeGreatestOf_52 (fun c1 => ?_) (fun c1 => ?_)
      · have h := z_if_f c1 h
        refine z_iinc O (lv' := [(7, .int (v7 + (1 : Int32))), (5, .long x1), (0, .ref (z_ad Y q0)), (1, .ref (z_ad Y q1)), (2, .int a2), (3, .long a3)]) dzX5_becomeGreatestOf_71 5 rfl (congrArg _ hcI1) (by decide) rfl ?_
        refine z_goto O dzX5_becomeGreatestOf_74 ?_
        refine z_sub [2, 3, 4, 5, 1, 0] rfl ?_
        exact ih _ _ h
      · have h := z_if_t c1 h
        refine z_lload O dzX5_becomeGreatestOf_55 0 rfl ?_
        refine z_aload_n O dzX5_becomeGreatestOf_57 rfl 2 rfl ?_
        refine z_get O z_cb5 (fx_tab h1) (v := .ref (z_ad Y (q1 + 2))) 0 (Nat.le_of_ble_eq_true rfl) tw_206 rfl dzX5_becomeGreatestOf_58 ?_
        refine z_iload_n O dzX5_becomeGreatestOf_61 rfl 3 rfl ?_
        refine z_iconst O dzX5_becomeGreatestOf_62 hcI1 ?_
        refine z_iload O dzX5_becomeGreatestOf_63 5 rfl ?_
        refine z_ishl O dzX5_becomeGreatestOf_65 ?_
        refine z_ior O dzX5_becomeGreatestOf_66 ?_
        obtain ⟨g2, h⟩ := z_gd_at h
        refine z_lald O (fx_wor h1) g2 dzX5_becomeGreatestOf_67 ?_
        refine z_lor O dzX5_becomeGreatestOf_68 ?_
        refine z_topl (fun x2 e2 => ?_)
        have h := z_lt_at e2 h
        refine z_lstore O (lv' := [(5, .long x2), (0, .ref (z_ad Y q0)), (1, .ref (z_ad Y q1)), (2, .int a2), (3, .long a3), (7, .int v7)]) dzX5_becomeGreatestOf_69 (by decide) rfl ?_
        refine z_iinc O (lv' := [(7, .int (v7 + (1 : Int32))), (5, .long x2), (0, .ref (z_ad Y q0)), (1, .ref (z_ad Y q1)), (2, .int a2), (3, .long a3)]) dzX5_becomeGreatestOf_71 5 rfl (congrArg _ hcI1) (by decide) rfl ?_
        refine z_goto O dzX5_becomeGreatestOf_74 ?_
        refine z_sub [2, 3, 4, 5, 1, 0] rfl ?_
        exact ih _ _ h
def fX5_becomeGreatestOf_L2 (q0 : Nat) (q1 : Nat) (k : zS → Int32 → Option (zS)) : Nat → zS → Int32 → Option (zS)
  | 0, _, _ => none
  | n + 1, σ, v2 => (if (64 : Int32) ≤ v2 then k σ v2 else z_gd (z_in v2 64) (z_lt (σ.2 (q1 + 2) v2.toNatClampNeg) (fun (x1 : Int64) => fX5_becomeGreatestOf_L21 σ q1 v2 x1 (fun (x2 : Int64) (x3 : Int32) => z_gd (z_in v2 64) (z_lt (z_sJ σ (q0 + 2) v2.toNatClampNeg (x1 &&& (x2 ^^^ (-1 : Int64)))) (fun (w1 : zS) => fX5_becomeGreatestOf_L2 q0 q1 k n w1 (v2 + (1 : Int32))))) z_F (0 : Int64) (0 : Int32))))
theorem kX5_becomeGreatestOf_L2 {l : Launch} {Y : zY} {fin : zS} {p : Program} {e : Env} {s : State} {m : MethodId} {args : Array Value} {below : List Frame} {meth : Method} {c : Code} (O : z_ok ΛX Y p s m args c cX5_becomeGreatestOf RX5 8) (hi : z_inj ΛX Y) (hr : meth.sig.returnType = none) (hlk : meth.locks = false) {q0 : Nat} (h0 : z_tab q0) {q1 : Nat} (h1 : z_tab q1) {k : zS → Int32 → Option (zS)} (hk : ∀ (w : zS) (z2 : Int32), k w z2 = some fin → z_G p l e (z_rm 2) s m args below meth c (MQ below (z_Qv ΛX Y fin) args s 0 0 (z_A ΛX Y)) ΛX Y 8 w [(0, .ref (z_ad Y q0)), (1, .ref (z_ad Y q1)), (2, .int z2)] 97 []) : ∀ (n : Nat) (σ : zS) (v2 : Int32), fX5_becomeGreatestOf_L2 q0 q1 k n σ v2 = some fin → z_G p l e (z_rm 2) s m args below meth c (MQ below (z_Qv ΛX Y fin) args s 0 0 (z_A ΛX Y)) ΛX Y 8 σ [(0, .ref (z_ad Y q0)), (1, .ref (z_ad Y q1)), (2, .int v2)] 2 [] := by
  intro n
  induction n with
  | zero =>
    intro _ _ h
    cases h
  | succ n ih =>
    intro σ v2 h
    rw [fX5_becomeGreatestOf_L2.eq_2] at h
    refine z_iload_n O dzX5_becomeGreatestOf_2 rfl 2 rfl ?_
    refine z_bipush O dzX5_becomeGreatestOf_3 hcB64 ?_
    refine z_icmp_ge O dzX5_becomeGreatestOf_5 (fun c1 => ?_) (fun c1 => ?_)
    · have h := z_if_t c1 h
      exact hk _ _ h
    · have h := z_if_f c1 h
      refine z_aload_n O dzX5_becomeGreatestOf_8 rfl 1 rfl ?_
      refine z_get O z_cb5 (fx_tab h1) (v := .ref (z_ad Y (q1 + 2))) 0 (Nat.le_of_ble_eq_true rfl) tw_206 rfl dzX5_becomeGreatestOf_9 ?_
      refine z_iload_n O dzX5_becomeGreatestOf_12 rfl 2 rfl ?_
      obtain ⟨g1, h⟩ := z_gd_at h
      refine z_lald O (fx_wor h1) g1 dzX5_becomeGreatestOf_13 ?_
      refine z_topl (fun x1 e1 => ?_)
      have h := z_lt_at e1 h
      refine z_lstore_n O (lv' := [(3, .long x1), (0, .ref (z_ad Y q0)), (1, .ref (z_ad Y q1)), (2, .int v2)]) dzX5_becomeGreatestOf_14 rfl (by decide) rfl ?_
      refine z_lconst O dzX5_becomeGreatestOf_15 (v := 0) rfl ?_
      refine z_lstore O (lv' := [(5, .long (0 : Int64)), (3, .long x1), (0, .ref (z_ad Y q0)), (1, .ref (z_ad Y q1)), (2, .int v2)]) dzX5_becomeGreatestOf_16 (by decide) rfl ?_
      refine z_iconst O dzX5_becomeGreatestOf_18 hcI0 ?_
      refine z_istore O (lv' := [(7, .int (0 : Int32)), (5, .long (0 : Int64)), (3, .long x1), (0, .ref (z_ad Y q0)), (1, .ref (z_ad Y q1)), (2, .int v2)]) dzX5_becomeGreatestOf_19 (by decide) rfl ?_
      refine z_sub [3, 4, 5, 2, 1, 0] rfl ?_
      refine kX5_becomeGreatestOf_L21 O hi hr hlk (h0 := h0) (h1 := h1)  (fun x2 x3 h => ?_) _ _ _ h
      refine z_aload_n O dzX5_becomeGreatestOf_77 rfl 0 rfl ?_
      refine z_get O z_cb5 (fx_tab h0) (v := .ref (z_ad Y (q0 + 2))) 0 (Nat.le_of_ble_eq_true rfl) tw_206 rfl dzX5_becomeGreatestOf_78 ?_
      refine z_iload_n O dzX5_becomeGreatestOf_81 rfl 2 rfl ?_
      refine z_lload_n O dzX5_becomeGreatestOf_82 rfl 3 rfl ?_
      refine z_lload O dzX5_becomeGreatestOf_83 4 rfl ?_
      refine z_ldc2 O tw_421 dzX5_becomeGreatestOf_85 ?_
      refine z_lxor O dzX5_becomeGreatestOf_88 ?_
      refine z_land O dzX5_becomeGreatestOf_89 ?_
      obtain ⟨g2, h⟩ := z_gd_at h
      refine z_last O (fx_wor h0) g2 dzX5_becomeGreatestOf_90 ?_
      refine z_sig (fun w1 e2 => ?_)
      have h := z_lt_at e2 h
      refine z_iinc O (lv' := [(2, .int (v2 + (1 : Int32))), (0, .ref (z_ad Y q0)), (1, .ref (z_ad Y q1)), (3, .long x1), (5, .long x2), (7, .int x3)]) dzX5_becomeGreatestOf_91 2 rfl (congrArg _ hcI1) (by decide) rfl ?_
      refine z_goto O dzX5_becomeGreatestOf_94 ?_
      refine z_sub [1, 2, 0] rfl ?_
      exact ih _ _ h
def fX5_becomeGreatestOf (σ : zS) (p0 : Nat) (p1 : Nat) : Option (zS) :=
  fX5_becomeGreatestOf_L2 p0 p1 (fun (w1 : zS) (x1 : Int32) => some w1) z_F σ (0 : Int32)
theorem kX5_becomeGreatestOf {l : Launch} {Y : zY} (hi : z_inj ΛX Y) {σ : zS} {p0 : Nat} (h0 : z_tab p0) {p1 : Nat} (h1 : z_tab p1) {fin : zS} (h : fX5_becomeGreatestOf σ p0 p1 = some fin) : Met l yX5_becomeGreatestOf (Cond.code yX5_becomeGreatestOf cX5_becomeGreatestOf 8 none :: z_TB) (z_rm 2) (z_Pc ΛX Y σ [.ref (z_ad Y p0), .ref (z_ad Y p1)]) (z_Qv ΛX Y fin) 0 0 (z_A ΛX Y) := by
  unfold fX5_becomeGreatestOf at h
  refine z_met [(0, .ref (z_ad Y p0)), (1, .ref (z_ad Y p1))] rfl (Nat.le_of_ble_eq_true rfl) (plainFor_of_name (by decide)) hi ?_
  intro p e s m args below meth c O hr hlk
  refine z_iconst O dzX5_becomeGreatestOf_0 hcI0 ?_
  refine z_istore_n O (lv' := [(2, .int (0 : Int32)), (0, .ref (z_ad Y p0)), (1, .ref (z_ad Y p1))]) dzX5_becomeGreatestOf_1 rfl (by decide) rfl ?_
  refine z_sub [1, 2, 0] rfl ?_
  refine kX5_becomeGreatestOf_L2 O hi hr hlk (h0 := h0) (h1 := h1)  (fun w1 x1 h => ?_) _ _ _ h
  exact z_vret O hr hlk dzX5_becomeGreatestOf_97 h
def fX5_flip_L2 (q0 : Nat) (k : zS → Int32 → Option (zS)) : Nat → zS → Int32 → Option (zS)
  | 0, _, _ => none
  | n + 1, σ, v1 => (if (64 : Int32) ≤ v1 then k σ v1 else z_gd (z_in v1 64) (z_gd (z_in v1 64) (z_lt (z_sJ σ (q0 + 2) v1.toNatClampNeg ((σ.2 (q0 + 2) v1.toNatClampNeg) ^^^ (-1 : Int64))) (fun (w1 : zS) => fX5_flip_L2 q0 k n w1 (v1 + (1 : Int32))))))
theorem kX5_flip_L2 {l : Launch} {Y : zY} {fin : zS} {p : Program} {e : Env} {s : State} {m : MethodId} {args : Array Value} {below : List Frame} {meth : Method} {c : Code} (O : z_ok ΛX Y p s m args c cX5_flip RX5 2) (hi : z_inj ΛX Y) (hr : meth.sig.returnType = none) (hlk : meth.locks = false) {q0 : Nat} (h0 : z_tab q0) {k : zS → Int32 → Option (zS)} (hk : ∀ (w : zS) (z1 : Int32), k w z1 = some fin → z_G p l e (z_rm 1) s m args below meth c (MQ below (z_Qv ΛX Y fin) args s 0 0 (z_A ΛX Y)) ΛX Y 2 w [(0, .ref (z_ad Y q0)), (1, .int z1)] 30 []) : ∀ (n : Nat) (σ : zS) (v1 : Int32), fX5_flip_L2 q0 k n σ v1 = some fin → z_G p l e (z_rm 1) s m args below meth c (MQ below (z_Qv ΛX Y fin) args s 0 0 (z_A ΛX Y)) ΛX Y 2 σ [(0, .ref (z_ad Y q0)), (1, .int v1)] 2 [] := by
  intro n
  induction n with
  | zero =>
    intro _ _ h
    cases h
  | succ n ih =>
    intro σ v1 h
    rw [fX5_flip_L2.eq_2] at h
    refine z_iload_n O dzX5_flip_2 rfl 1 rfl ?_
    refine z_bipush O dzX5_flip_3 hcB64 ?_
    refine z_icmp_ge O dzX5_flip_5 (fun c1 => ?_) (fun c1 => ?_)
    · have h := z_if_t c1 h
      exact hk _ _ h
    · have h := z_if_f c1 h
      refine z_aload_n O dzX5_flip_8 rfl 0 rfl ?_
      refine z_get O z_cb5 (fx_tab h0) (v := .ref (z_ad Y (q0 + 2))) 0 (Nat.le_of_ble_eq_true rfl) tw_206 rfl dzX5_flip_9 ?_
      refine z_iload_n O dzX5_flip_12 rfl 1 rfl ?_
      refine z_aload_n O dzX5_flip_13 rfl 0 rfl ?_
      refine z_get O z_cb5 (fx_tab h0) (v := .ref (z_ad Y (q0 + 2))) 0 (Nat.le_of_ble_eq_true rfl) tw_206 rfl dzX5_flip_14 ?_
      refine z_iload_n O dzX5_flip_17 rfl 1 rfl ?_
      obtain ⟨g1, h⟩ := z_gd_at h
      refine z_lald O (fx_wor h0) g1 dzX5_flip_18 ?_
      refine z_ldc2 O tw_421 dzX5_flip_19 ?_
      refine z_lxor O dzX5_flip_22 ?_
      obtain ⟨g2, h⟩ := z_gd_at h
      refine z_last O (fx_wor h0) g2 dzX5_flip_23 ?_
      refine z_sig (fun w1 e1 => ?_)
      have h := z_lt_at e1 h
      refine z_iinc O (lv' := [(1, .int (v1 + (1 : Int32))), (0, .ref (z_ad Y q0))]) dzX5_flip_24 1 rfl (congrArg _ hcI1) (by decide) rfl ?_
      refine z_goto O dzX5_flip_27 ?_
      refine z_sub [1, 0] rfl ?_
      exact ih _ _ h
def fX5_flip (σ : zS) (p0 : Nat) : Option (zS) :=
  fX5_flip_L2 p0 (fun (w1 : zS) (x1 : Int32) => some w1) z_F σ (0 : Int32)
theorem kX5_flip {l : Launch} {Y : zY} (hi : z_inj ΛX Y) {σ : zS} {p0 : Nat} (h0 : z_tab p0) {fin : zS} (h : fX5_flip σ p0 = some fin) : Met l yX5_flip (Cond.code yX5_flip cX5_flip 2 none :: z_TB) (z_rm 1) (z_Pc ΛX Y σ [.ref (z_ad Y p0)]) (z_Qv ΛX Y fin) 0 0 (z_A ΛX Y) := by
  unfold fX5_flip at h
  refine z_met [(0, .ref (z_ad Y p0))] rfl (Nat.le_of_ble_eq_true rfl) (plainFor_of_name (by decide)) hi ?_
  intro p e s m args below meth c O hr hlk
  refine z_iconst O dzX5_flip_0 hcI0 ?_
  refine z_istore_n O (lv' := [(1, .int (0 : Int32)), (0, .ref (z_ad Y p0))]) dzX5_flip_1 rfl (by decide) rfl ?_
  refine z_sub [1, 0] rfl ?_
  refine kX5_flip_L2 O hi hr hlk (h0 := h0)  (fun w1 x1 h => ?_) _ _ _ h
  exact z_vret O hr hlk dzX5_flip_30 h
def fX5_put (σ : zS) (p0 : Nat) (a1 : Int32) : Option (zS) :=
  z_gd (z_in ((a1 >>> ((6 : Int32) &&& 31)) &&& (63 : Int32)) 64) (z_gd (z_in ((a1 >>> ((6 : Int32) &&& 31)) &&& (63 : Int32)) 64) (z_lt (z_sJ σ (p0 + 2) ((a1 >>> ((6 : Int32) &&& 31)) &&& (63 : Int32)).toNatClampNeg ((σ.2 (p0 + 2) ((a1 >>> ((6 : Int32) &&& 31)) &&& (63 : Int32)).toNatClampNeg) ||| ((1 : Int64) <<< ((a1 &&& (63 : Int32)).toInt64 &&& 63)))) (fun (w1 : zS) => some w1)))
theorem kX5_put {l : Launch} {Y : zY} (hi : z_inj ΛX Y) {σ : zS} {p0 : Nat} (h0 : z_tab p0) {a1 : Int32} {fin : zS} (h : fX5_put σ p0 a1 = some fin) : Met l yX5_put (Cond.code yX5_put cX5_put 2 none :: z_TB) (z_rm 1) (z_Pc ΛX Y σ [.ref (z_ad Y p0), .int a1]) (z_Qv ΛX Y fin) 0 0 (z_A ΛX Y) := by
  unfold fX5_put at h
  refine z_met [(0, .ref (z_ad Y p0)), (1, .int a1)] rfl (Nat.le_of_ble_eq_true rfl) (plainFor_of_name (by decide)) hi ?_
  intro p e s m args below meth c O hr hlk
  refine z_aload_n O dzX5_put_0 rfl 0 rfl ?_
  refine z_get O z_cb5 (fx_tab h0) (v := .ref (z_ad Y (p0 + 2))) 0 (Nat.le_of_ble_eq_true rfl) tw_206 rfl dzX5_put_1 ?_
  refine z_iload_n O dzX5_put_4 rfl 1 rfl ?_
  refine z_bipush O dzX5_put_5 hcB6 ?_
  refine z_ishr O dzX5_put_7 ?_
  refine z_bipush O dzX5_put_8 hcB63 ?_
  refine z_iand O dzX5_put_10 ?_
  refine z_dup2_11 O dzX5_put_11 rfl rfl ?_
  obtain ⟨g1, h⟩ := z_gd_at h
  refine z_lald O (fx_wor h0) g1 dzX5_put_12 ?_
  refine z_lconst O dzX5_put_13 (v := 1) rfl ?_
  refine z_iload_n O dzX5_put_14 rfl 1 rfl ?_
  refine z_bipush O dzX5_put_15 hcB63 ?_
  refine z_iand O dzX5_put_17 ?_
  refine z_lshl O dzX5_put_18 ?_
  refine z_lor O dzX5_put_19 ?_
  obtain ⟨g2, h⟩ := z_gd_at h
  refine z_last O (fx_wor h0) g2 dzX5_put_20 ?_
  refine z_sig (fun w1 e1 => ?_)
  have h := z_lt_at e1 h
  exact z_vret O hr hlk dzX5_put_21 h
def fX5_becomeHitting_L10 (q0 : Nat) (q1 : Nat) (k : zS → Int32 → Option (zS)) : Nat → zS → Int32 → Option (zS)
  | 0, _, _ => none
  | n + 1, σ, v2 => (if (σ.1 q1 2) ≤ v2 then k σ v2 else z_gd (z_in v2 40) ((fX5_put σ q0 ((4095 : Int32) ^^^ (σ.1 (q1 + 9) v2.toNatClampNeg))).bind (fun r1 => fX5_becomeHitting_L10 q0 q1 k n r1 (v2 + (1 : Int32)))))
theorem kX5_becomeHitting_L10 {l : Launch} {Y : zY} {fin : zS} {p : Program} {e : Env} {s : State} {m : MethodId} {args : Array Value} {below : List Frame} {meth : Method} {c : Code} (O : z_ok ΛX Y p s m args c cX5_becomeHitting RX5 3) (hi : z_inj ΛX Y) (hr : meth.sig.returnType = none) (hlk : meth.locks = false) {q0 : Nat} (h0 : z_tab q0) {q1 : Nat} (h1 : z_fam q1) {k : zS → Int32 → Option (zS)} (hk : ∀ (w : zS) (z2 : Int32), k w z2 = some fin → z_G p l e (z_rm 2) s m args below meth c (MQ below (z_Qv ΛX Y fin) args s 0 0 (z_A ΛX Y)) ΛX Y 3 w [(0, .ref (z_ad Y q0)), (1, .ref (z_ad Y q1)), (2, .int z2)] 38 []) : ∀ (n : Nat) (σ : zS) (v2 : Int32), fX5_becomeHitting_L10 q0 q1 k n σ v2 = some fin → z_G p l e (z_rm 2) s m args below meth c (MQ below (z_Qv ΛX Y fin) args s 0 0 (z_A ΛX Y)) ΛX Y 3 σ [(0, .ref (z_ad Y q0)), (1, .ref (z_ad Y q1)), (2, .int v2)] 10 [] := by
  intro n
  induction n with
  | zero =>
    intro _ _ h
    cases h
  | succ n ih =>
    intro σ v2 h
    rw [fX5_becomeHitting_L10.eq_2] at h
    refine z_iload_n O dzX5_becomeHitting_10 rfl 2 rfl ?_
    refine z_aload_n O dzX5_becomeHitting_11 rfl 1 rfl ?_
    refine z_get O z_cb1 (fx_fam h1) (v := .int (σ.1 q1 2)) 2 (Nat.le_of_ble_eq_true rfl) tw_49 rfl dzX5_becomeHitting_12 ?_
    refine z_icmp_ge O dzX5_becomeHitting_15 (fun c1 => ?_) (fun c1 => ?_)
    · have h := z_if_t c1 h
      exact hk _ _ h
    · have h := z_if_f c1 h
      refine z_aload_n O dzX5_becomeHitting_18 rfl 0 rfl ?_
      refine z_sipush O dzX5_becomeHitting_19 hcS4095 ?_
      refine z_aload_n O dzX5_becomeHitting_22 rfl 1 rfl ?_
      refine z_get O z_cb1 (fx_fam h1) (v := .ref (z_ad Y (q1 + 9))) 0 (Nat.le_of_ble_eq_true rfl) tw_41 rfl dzX5_becomeHitting_23 ?_
      refine z_iload_n O dzX5_becomeHitting_26 rfl 2 rfl ?_
      obtain ⟨g1, h⟩ := z_gd_at h
      refine z_iald O (fx_set h1) g1 dzX5_becomeHitting_27 ?_
      refine z_ixor O dzX5_becomeHitting_28 ?_
      obtain ⟨r1, hc1, h⟩ := z_bd_at h
      refine z_callVv O (As := [.int ((4095 : Int32) ^^^ (σ.1 (q1 + 9) v2.toNatClampNeg))]) (rest := []) (kX5_put hi h0 hc1) mX5_put tw_407 (Nat.le_of_ble_eq_true rfl) (fx_tab h0) rfl rfl rfl rfl (Nat.le_of_ble_eq_true rfl) dzX5_becomeHitting_29 ?_
      refine z_iinc O (lv' := [(2, .int (v2 + (1 : Int32))), (0, .ref (z_ad Y q0)), (1, .ref (z_ad Y q1))]) dzX5_becomeHitting_32 2 rfl (congrArg _ hcI1) (by decide) rfl ?_
      refine z_goto O dzX5_becomeHitting_35 ?_
      refine z_sub [1, 2, 0] rfl ?_
      exact ih _ _ h
def fX5_becomeHitting (σ : zS) (p0 : Nat) (p1 : Nat) : Option (zS) :=
  (fJ7_fill_d0a16 σ (p0 + 2) 64 (0 : Int64)).bind (fun r1 => fX5_becomeHitting_L10 p0 p1 (fun (w1 : zS) (x1 : Int32) => (fX5_addParts w1 p0).bind (fun r2 => (fX5_flip r2 p0).bind (fun r3 => some r3))) z_F r1 (0 : Int32))
theorem kX5_becomeHitting {l : Launch} {Y : zY} (hi : z_inj ΛX Y) {σ : zS} {p0 : Nat} (h0 : z_tab p0) {p1 : Nat} (h1 : z_fam p1) {fin : zS} (h : fX5_becomeHitting σ p0 p1 = some fin) : Met l yX5_becomeHitting (Cond.code yX5_becomeHitting cX5_becomeHitting 3 none :: z_TB) (z_rm 2) (z_Pc ΛX Y σ [.ref (z_ad Y p0), .ref (z_ad Y p1)]) (z_Qv ΛX Y fin) 0 0 (z_A ΛX Y) := by
  unfold fX5_becomeHitting at h
  refine z_met [(0, .ref (z_ad Y p0)), (1, .ref (z_ad Y p1))] rfl (Nat.le_of_ble_eq_true rfl) (plainFor_of_name (by decide)) hi ?_
  intro p e s m args below meth c O hr hlk
  refine z_aload_n O dzX5_becomeHitting_0 rfl 0 rfl ?_
  refine z_get O z_cb5 (fx_tab h0) (v := .ref (z_ad Y (p0 + 2))) 0 (Nat.le_of_ble_eq_true rfl) tw_206 rfl dzX5_becomeHitting_1 ?_
  refine z_lconst O dzX5_becomeHitting_4 (v := 0) rfl ?_
  obtain ⟨r1, hc1, h⟩ := z_bd_at h
  refine z_callSv O (As := [.ref (z_ad Y (p0 + 2)), .long (0 : Int64)]) (rest := []) (kJ7_fill_d0a16 hi (fx_wor h0) hc1) mJ7_fill_d0a16 tw_404 (Nat.le_of_ble_eq_true rfl) rfl rfl (Nat.le_of_ble_eq_true rfl) dzX5_becomeHitting_5 ?_
  refine z_iconst O dzX5_becomeHitting_8 hcI0 ?_
  refine z_istore_n O (lv' := [(2, .int (0 : Int32)), (0, .ref (z_ad Y p0)), (1, .ref (z_ad Y p1))]) dzX5_becomeHitting_9 rfl (by decide) rfl ?_
  refine z_sub [1, 2, 0] rfl ?_
  refine kX5_becomeHitting_L10 O hi hr hlk (h0 := h0) (h1 := h1)  (fun w1 x1 h => ?_) _ _ _ h
  refine z_aload_n O dzX5_becomeHitting_38 rfl 0 rfl ?_
  obtain ⟨r2, hc2, h⟩ := z_bd_at h
  refine z_callVv O (As := []) (rest := []) (kX5_addParts hi h0 hc2) mX5_addParts tw_411 (Nat.le_of_ble_eq_true rfl) (fx_tab h0) rfl rfl rfl rfl (Nat.le_of_ble_eq_true rfl) dzX5_becomeHitting_39 ?_
  refine z_aload_n O dzX5_becomeHitting_42 rfl 0 rfl ?_
  obtain ⟨r3, hc3, h⟩ := z_bd_at h
  refine z_callVv O (As := []) (rest := []) (kX5_flip hi h0 hc3) mX5_flip tw_417 (Nat.le_of_ble_eq_true rfl) (fx_tab h0) rfl rfl rfl rfl (Nat.le_of_ble_eq_true rfl) dzX5_becomeHitting_43 ?_
  exact z_vret O hr hlk dzX5_becomeHitting_46 h
def fX5_becomeLeastOf_L21 (σ : zS) (q1 : Nat) (a2 : Int32) (a3 : Int64) (k : Int64 → Int32 → Option (zS)) : Nat → Int64 → Int32 → Option (zS)
  | 0, _, _ => none
  | n + 1, v5, v7 => (if (6 : Int32) ≤ v7 then k v5 v7 else z_gd (z_in v7 6) (z_lt (v5 ||| ((a3 &&& ((z_withL v7.toNatClampNeg) ^^^ (-1 : Int64))) <<< (((1 : Int32) <<< (v7 &&& 31)).toInt64 &&& 63))) (fun (x1 : Int64) => (fX7_hasPoint a2 v7).bind (fun r1 => (if r1 = 0 then fX5_becomeLeastOf_L21 σ q1 a2 a3 k n x1 (v7 + (1 : Int32)) else z_gd (z_in (a2 &&& (((1 : Int32) <<< (v7 &&& 31)) ^^^ (-1 : Int32))) 64) (z_lt (x1 ||| (σ.2 (q1 + 2) (a2 &&& (((1 : Int32) <<< (v7 &&& 31)) ^^^ (-1 : Int32))).toNatClampNeg)) (fun (x2 : Int64) => fX5_becomeLeastOf_L21 σ q1 a2 a3 k n x2 (v7 + (1 : Int32)))))))))
theorem kX5_becomeLeastOf_L21 {l : Launch} {Y : zY} {fin : zS} {p : Program} {e : Env} {s : State} {m : MethodId} {args : Array Value} {below : List Frame} {meth : Method} {c : Code} {σ : zS} (O : z_ok ΛX Y p s m args c cX5_becomeLeastOf RX5 8) (hi : z_inj ΛX Y) (hr : meth.sig.returnType = none) (hlk : meth.locks = false) {q0 : Nat} (h0 : z_tab q0) {q1 : Nat} (h1 : z_tab q1) {a2 : Int32} {a3 : Int64} {k : Int64 → Int32 → Option (zS)} (hk : ∀ (z5 : Int64) (z7 : Int32), k z5 z7 = some fin → z_G p l e (z_rm 2) s m args below meth c (MQ below (z_Qv ΛX Y fin) args s 0 0 (z_A ΛX Y)) ΛX Y 8 σ [(0, .ref (z_ad Y q0)), (1, .ref (z_ad Y q1)), (2, .int a2), (3, .long a3), (5, .long z5), (7, .int z7)] 83 []) : ∀ (n : Nat) (v5 : Int64) (v7 : Int32), fX5_becomeLeastOf_L21 σ q1 a2 a3 k n v5 v7 = some fin → z_G p l e (z_rm 2) s m args below meth c (MQ below (z_Qv ΛX Y fin) args s 0 0 (z_A ΛX Y)) ΛX Y 8 σ [(0, .ref (z_ad Y q0)), (1, .ref (z_ad Y q1)), (2, .int a2), (3, .long a3), (5, .long v5), (7, .int v7)] 21 [] := by
  intro n
  induction n with
  | zero =>
    intro _ _ h
    cases h
  | succ n ih =>
    intro v5 v7 h
    rw [fX5_becomeLeastOf_L21.eq_2] at h
    refine z_iload O dzX5_becomeLeastOf_21 5 rfl ?_
    refine z_bipush O dzX5_becomeLeastOf_23 hcB6 ?_
    refine z_icmp_ge O dzX5_becomeLeastOf_25 (fun c2 => ?_) (fun c2 => ?_)
    · have h := z_if_t c2 h
      exact hk _ _ h
    · have h := z_if_f c2 h
      refine z_lload O dzX5_becomeLeastOf_28 4 rfl ?_
      refine z_lload_n O dzX5_becomeLeastOf_30 rfl 3 rfl ?_
      refine z_gsW O tw_415 dzX5_becomeLeastOf_31 ?_
      refine z_iload O dzX5_becomeLeastOf_34 5 rfl ?_
      obtain ⟨g1, h⟩ := z_gd_at h
      refine z_tlW O g1 dzX5_becomeLeastOf_36 ?_
      refine z_ldc2 O tw_421 dzX5_becomeLeastOf_37 ?_
      refine z_lxor O dzX5_becomeLeastOf_40 ?_
      refine z_land O dzX5_becomeLeastOf_41 ?_
      refine z_iconst O dzX5_becomeLeastOf_42 hcI1 ?_
      refine z_iload O dzX5_becomeLeastOf_43 5 rfl ?_
      refine z_ishl O dzX5_becomeLeastOf_45 ?_
      refine z_lshl O dzX5_becomeLeastOf_46 ?_
      refine z_lor O dzX5_becomeLeastOf_47 ?_
      refine z_topl (fun x1 e1 => ?_)
      have h := z_lt_at e1 h
      refine z_lstore O (lv' := [(5, .long x1), (0, .ref (z_ad Y q0)), (1, .ref (z_ad Y q1)), (2, .int a2), (3, .long a3), (7, .int v7)]) dzX5_becomeLeastOf_48 (by decide) rfl ?_
      refine z_iload_n O dzX5_becomeLeastOf_50 rfl 3 rfl ?_
      refine z_iload O dzX5_becomeLeastOf_51 5 rfl ?_
      obtain ⟨r1, hc1, h⟩ := z_bd_at h
      refine z_callNiR O (As := [.int a2, .int v7]) (rest := []) (kX7_hasPoint hi hc1) mX7_hasPoint (List.mem_of_getElem? (i := 1) rfl) (Nat.le_of_ble_eq_true rfl) rfl rfl (Nat.le_of_ble_eq_true rfl) dzX5_becomeLeastOf_53 ?_
      refine z_if_eq O dzX5_becomeLeastOf_56 (fun c1 => ?_) (fun c1 => ?_)
      · have h := z_if_t c1 h
        refine z_iinc O (lv' := [(7, .int (v7 + (1 : Int32))), (5, .long x1), (0, .ref (z_ad Y q0)), (1, .ref (z_ad Y q1)), (2, .int a2), (3, .long a3)]) dzX5_becomeLeastOf_77 5 rfl (congrArg _ hcI1) (by decide) rfl ?_
        refine z_goto O dzX5_becomeLeastOf_80 ?_
        refine z_sub [2, 3, 4, 5, 1, 0] rfl ?_
        exact ih _ _ h
      · have h := z_if_f c1 h
        refine z_lload O dzX5_becomeLeastOf_59 0 rfl ?_
        refine z_aload_n O dzX5_becomeLeastOf_61 rfl 2 rfl ?_
        refine z_get O z_cb5 (fx_tab h1) (v := .ref (z_ad Y (q1 + 2))) 0 (Nat.le_of_ble_eq_true rfl) tw_206 rfl dzX5_becomeLeastOf_62 ?_
        refine z_iload_n O dzX5_becomeLeastOf_65 rfl 3 rfl ?_
        refine z_iconst O dzX5_becomeLeastOf_66 hcI1 ?_
        refine z_iload O dzX5_becomeLeastOf_67 5 rfl ?_
        refine z_ishl O dzX5_becomeLeastOf_69 ?_
        refine z_iconst O dzX5_becomeLeastOf_70 hcIm1 ?_
        refine z_ixor O dzX5_becomeLeastOf_71 ?_
        refine z_iand O dzX5_becomeLeastOf_72 ?_
        obtain ⟨g2, h⟩ := z_gd_at h
        refine z_lald O (fx_wor h1) g2 dzX5_becomeLeastOf_73 ?_
        refine z_lor O dzX5_becomeLeastOf_74 ?_
        refine z_topl (fun x2 e2 => ?_)
        have h := z_lt_at e2 h
        refine z_lstore O (lv' := [(5, .long x2), (0, .ref (z_ad Y q0)), (1, .ref (z_ad Y q1)), (2, .int a2), (3, .long a3), (7, .int v7)]) dzX5_becomeLeastOf_75 (by decide) rfl ?_
        refine z_iinc O (lv' := [(7, .int (v7 + (1 : Int32))), (5, .long x2), (0, .ref (z_ad Y q0)), (1, .ref (z_ad Y q1)), (2, .int a2), (3, .long a3)]) dzX5_becomeLeastOf_77 5 rfl (congrArg _ hcI1) (by decide) rfl ?_
        refine z_goto O dzX5_becomeLeastOf_80 ?_
        refine z_sub [2, 3, 4, 5, 1, 0] rfl ?_
        exact ih _ _ h
def fX5_becomeLeastOf_L2 (q0 : Nat) (q1 : Nat) (k : zS → Int32 → Option (zS)) : Nat → zS → Int32 → Option (zS)
  | 0, _, _ => none
  | n + 1, σ, v2 => (if (64 : Int32) ≤ v2 then k σ v2 else z_gd (z_in v2 64) (z_lt (σ.2 (q1 + 2) v2.toNatClampNeg) (fun (x1 : Int64) => fX5_becomeLeastOf_L21 σ q1 v2 x1 (fun (x2 : Int64) (x3 : Int32) => z_gd (z_in v2 64) (z_lt (z_sJ σ (q0 + 2) v2.toNatClampNeg (x1 &&& (x2 ^^^ (-1 : Int64)))) (fun (w1 : zS) => fX5_becomeLeastOf_L2 q0 q1 k n w1 (v2 + (1 : Int32))))) z_F (0 : Int64) (0 : Int32))))
theorem kX5_becomeLeastOf_L2 {l : Launch} {Y : zY} {fin : zS} {p : Program} {e : Env} {s : State} {m : MethodId} {args : Array Value} {below : List Frame} {meth : Method} {c : Code} (O : z_ok ΛX Y p s m args c cX5_becomeLeastOf RX5 8) (hi : z_inj ΛX Y) (hr : meth.sig.returnType = none) (hlk : meth.locks = false) {q0 : Nat} (h0 : z_tab q0) {q1 : Nat} (h1 : z_tab q1) {k : zS → Int32 → Option (zS)} (hk : ∀ (w : zS) (z2 : Int32), k w z2 = some fin → z_G p l e (z_rm 2) s m args below meth c (MQ below (z_Qv ΛX Y fin) args s 0 0 (z_A ΛX Y)) ΛX Y 8 w [(0, .ref (z_ad Y q0)), (1, .ref (z_ad Y q1)), (2, .int z2)] 103 []) : ∀ (n : Nat) (σ : zS) (v2 : Int32), fX5_becomeLeastOf_L2 q0 q1 k n σ v2 = some fin → z_G p l e (z_rm 2) s m args below meth c (MQ below (z_Qv ΛX Y fin) args s 0 0 (z_A ΛX Y)) ΛX Y 8 σ [(0, .ref (z_ad Y q0)), (1, .ref (z_ad Y q1)), (2, .int v2)] 2 [] := by
  intro n
  induction n with
  | zero =>
    intro _ _ h
    cases h
  | succ n ih =>
    intro σ v2 h
    rw [fX5_becomeLeastOf_L2.eq_2] at h
    refine z_iload_n O dzX5_becomeLeastOf_2 rfl 2 rfl ?_
    refine z_bipush O dzX5_becomeLeastOf_3 hcB64 ?_
    refine z_icmp_ge O dzX5_becomeLeastOf_5 (fun c1 => ?_) (fun c1 => ?_)
    · have h := z_if_t c1 h
      exact hk _ _ h
    · have h := z_if_f c1 h
      refine z_aload_n O dzX5_becomeLeastOf_8 rfl 1 rfl ?_
      refine z_get O z_cb5 (fx_tab h1) (v := .ref (z_ad Y (q1 + 2))) 0 (Nat.le_of_ble_eq_true rfl) tw_206 rfl dzX5_becomeLeastOf_9 ?_
      refine z_iload_n O dzX5_becomeLeastOf_12 rfl 2 rfl ?_
      obtain ⟨g1, h⟩ := z_gd_at h
      refine z_lald O (fx_wor h1) g1 dzX5_becomeLeastOf_13 ?_
      refine z_topl (fun x1 e1 => ?_)
      have h := z_lt_at e1 h
      refine z_lstore_n O (lv' := [(3, .long x1), (0, .ref (z_ad Y q0)), (1, .ref (z_ad Y q1)), (2, .int v2)]) dzX5_becomeLeastOf_14 rfl (by decide) rfl ?_
      refine z_lconst O dzX5_becomeLeastOf_15 (v := 0) rfl ?_
      refine z_lstore O (lv' := [(5, .long (0 : Int64)), (3, .long x1), (0, .ref (z_ad Y q0)), (1, .ref (z_ad Y q1)), (2, .int v2)]) dzX5_becomeLeastOf_16 (by decide) rfl ?_
      refine z_iconst O dzX5_becomeLeastOf_18 hcI0 ?_
      refine z_istore O (lv' := [(7, .int (0 : Int32)), (5, .long (0 : Int64)), (3, .long x1), (0, .ref (z_ad Y q0)), (1, .ref (z_ad Y q1)), (2, .int v2)]) dzX5_becomeLeastOf_19 (by decide) rfl ?_
      refine z_sub [3, 4, 5, 2, 1, 0] rfl ?_
      refine kX5_becomeLeastOf_L21 O hi hr hlk (h0 := h0) (h1 := h1)  (fun x2 x3 h => ?_) _ _ _ h
      refine z_aload_n O dzX5_becomeLeastOf_83 rfl 0 rfl ?_
      refine z_get O z_cb5 (fx_tab h0) (v := .ref (z_ad Y (q0 + 2))) 0 (Nat.le_of_ble_eq_true rfl) tw_206 rfl dzX5_becomeLeastOf_84 ?_
      refine z_iload_n O dzX5_becomeLeastOf_87 rfl 2 rfl ?_
      refine z_lload_n O dzX5_becomeLeastOf_88 rfl 3 rfl ?_
      refine z_lload O dzX5_becomeLeastOf_89 4 rfl ?_
      refine z_ldc2 O tw_421 dzX5_becomeLeastOf_91 ?_
      refine z_lxor O dzX5_becomeLeastOf_94 ?_
      refine z_land O dzX5_becomeLeastOf_95 ?_
      obtain ⟨g2, h⟩ := z_gd_at h
      refine z_last O (fx_wor h0) g2 dzX5_becomeLeastOf_96 ?_
      refine z_sig (fun w1 e2 => ?_)
      have h := z_lt_at e2 h
      refine z_iinc O (lv' := [(2, .int (v2 + (1 : Int32))), (0, .ref (z_ad Y q0)), (1, .ref (z_ad Y q1)), (3, .long x1), (5, .long x2), (7, .int x3)]) dzX5_becomeLeastOf_97 2 rfl (congrArg _ hcI1) (by decide) rfl ?_
      refine z_goto O dzX5_becomeLeastOf_100 ?_
      refine z_sub [1, 2, 0] rfl ?_
      exact ih _ _ h
def fX5_becomeLeastOf (σ : zS) (p0 : Nat) (p1 : Nat) : Option (zS) :=
  fX5_becomeLeastOf_L2 p0 p1 (fun (w1 : zS) (x1 : Int32) => some w1) z_F σ (0 : Int32)
theorem kX5_becomeLeastOf {l : Launch} {Y : zY} (hi : z_inj ΛX Y) {σ : zS} {p0 : Nat} (h0 : z_tab p0) {p1 : Nat} (h1 : z_tab p1) {fin : zS} (h : fX5_becomeLeastOf σ p0 p1 = some fin) : Met l yX5_becomeLeastOf (Cond.code yX5_becomeLeastOf cX5_becomeLeastOf 8 none :: z_TB) (z_rm 2) (z_Pc ΛX Y σ [.ref (z_ad Y p0), .ref (z_ad Y p1)]) (z_Qv ΛX Y fin) 0 0 (z_A ΛX Y) := by
  unfold fX5_becomeLeastOf at h
  refine z_met [(0, .ref (z_ad Y p0)), (1, .ref (z_ad Y p1))] rfl (Nat.le_of_ble_eq_true rfl) (plainFor_of_name (by decide)) hi ?_
  intro p e s m args below meth c O hr hlk
  refine z_iconst O dzX5_becomeLeastOf_0 hcI0 ?_
  refine z_istore_n O (lv' := [(2, .int (0 : Int32)), (0, .ref (z_ad Y p0)), (1, .ref (z_ad Y p1))]) dzX5_becomeLeastOf_1 rfl (by decide) rfl ?_
  refine z_sub [1, 2, 0] rfl ?_
  refine kX5_becomeLeastOf_L2 O hi hr hlk (h0 := h0) (h1 := h1)  (fun w1 x1 h => ?_) _ _ _ h
  exact z_vret O hr hlk dzX5_becomeLeastOf_103 h
def fX5_keepOdd_L5 (σ : zS) (a1 : Int32) (k : Int64 → Int32 → Option (zS)) : Nat → Int64 → Int32 → Option (zS)
  | 0, _, _ => none
  | n + 1, v2, v4 => (if (6 : Int32) ≤ v4 then k v2 v4 else (fX7_hasPoint a1 v4).bind (fun r1 => (if r1 = 0 then fX5_keepOdd_L5 σ a1 k n v2 (v4 + (1 : Int32)) else z_gd (z_in v4 6) (z_lt (v2 ^^^ (z_withL v4.toNatClampNeg)) (fun (x1 : Int64) => fX5_keepOdd_L5 σ a1 k n x1 (v4 + (1 : Int32)))))))
theorem kX5_keepOdd_L5 {l : Launch} {Y : zY} {fin : zS} {p : Program} {e : Env} {s : State} {m : MethodId} {args : Array Value} {below : List Frame} {meth : Method} {c : Code} {σ : zS} (O : z_ok ΛX Y p s m args c cX5_keepOdd RX5 6) (hi : z_inj ΛX Y) (hr : meth.sig.returnType = none) (hlk : meth.locks = false) {q0 : Nat} (h0 : z_tab q0) {a1 : Int32} {k : Int64 → Int32 → Option (zS)} (hk : ∀ (z2 : Int64) (z4 : Int32), k z2 z4 = some fin → z_G p l e (z_rm 2) s m args below meth c (MQ below (z_Qv ΛX Y fin) args s 0 0 (z_A ΛX Y)) ΛX Y 6 σ [(0, .ref (z_ad Y q0)), (1, .int a1), (2, .long z2), (4, .int z4)] 36 []) : ∀ (n : Nat) (v2 : Int64) (v4 : Int32), fX5_keepOdd_L5 σ a1 k n v2 v4 = some fin → z_G p l e (z_rm 2) s m args below meth c (MQ below (z_Qv ΛX Y fin) args s 0 0 (z_A ΛX Y)) ΛX Y 6 σ [(0, .ref (z_ad Y q0)), (1, .int a1), (2, .long v2), (4, .int v4)] 5 [] := by
  intro n
  induction n with
  | zero =>
    intro _ _ h
    cases h
  | succ n ih =>
    intro v2 v4 h
    rw [fX5_keepOdd_L5.eq_2] at h
    refine z_iload O dzX5_keepOdd_5 3 rfl ?_
    refine z_bipush O dzX5_keepOdd_7 hcB6 ?_
    refine z_icmp_ge O dzX5_keepOdd_9 (fun c2 => ?_) (fun c2 => ?_)
    · have h := z_if_t c2 h
      exact hk _ _ h
    · have h := z_if_f c2 h
      refine z_iload_n O dzX5_keepOdd_12 rfl 1 rfl ?_
      refine z_iload O dzX5_keepOdd_13 3 rfl ?_
      obtain ⟨r1, hc1, h⟩ := z_bd_at h
      refine z_callNiR O (As := [.int a1, .int v4]) (rest := []) (kX7_hasPoint hi hc1) mX7_hasPoint (List.mem_of_getElem? (i := 1) rfl) (Nat.le_of_ble_eq_true rfl) rfl rfl (Nat.le_of_ble_eq_true rfl) dzX5_keepOdd_15 ?_
      refine z_if_eq O dzX5_keepOdd_18 (fun c1 => ?_) (fun c1 => ?_)
      · have h := z_if_t c1 h
        refine z_iinc O (lv' := [(4, .int (v4 + (1 : Int32))), (0, .ref (z_ad Y q0)), (1, .int a1), (2, .long v2)]) dzX5_keepOdd_30 3 rfl (congrArg _ hcI1) (by decide) rfl ?_
        refine z_goto O dzX5_keepOdd_33 ?_
        refine z_sub [1, 2, 3, 0] rfl ?_
        exact ih _ _ h
      · have h := z_if_f c1 h
        refine z_lload_n O dzX5_keepOdd_21 rfl 2 rfl ?_
        refine z_gsW O tw_415 dzX5_keepOdd_22 ?_
        refine z_iload O dzX5_keepOdd_25 3 rfl ?_
        obtain ⟨g1, h⟩ := z_gd_at h
        refine z_tlW O g1 dzX5_keepOdd_27 ?_
        refine z_lxor O dzX5_keepOdd_28 ?_
        refine z_topl (fun x1 e1 => ?_)
        have h := z_lt_at e1 h
        refine z_lstore_n O (lv' := [(2, .long x1), (0, .ref (z_ad Y q0)), (1, .int a1), (4, .int v4)]) dzX5_keepOdd_29 rfl (by decide) rfl ?_
        refine z_iinc O (lv' := [(4, .int (v4 + (1 : Int32))), (2, .long x1), (0, .ref (z_ad Y q0)), (1, .int a1)]) dzX5_keepOdd_30 3 rfl (congrArg _ hcI1) (by decide) rfl ?_
        refine z_goto O dzX5_keepOdd_33 ?_
        refine z_sub [2, 3, 1, 0] rfl ?_
        exact ih _ _ h
def fX5_keepOdd_L45 (q0 : Nat) (a2 : Int64) (a4 : Int32) (k : zS → Int32 → Option (zS)) : Nat → zS → Int32 → Option (zS)
  | 0, _, _ => none
  | n + 1, σ, v5 => (if (64 : Int32) ≤ v5 then k σ v5 else z_gd (z_in v5 64) ((fJ6_bitCount_0f7a4 (a4 &&& v5)).bind (fun r1 => (if (r1 &&& (1 : Int32)) = 0 then z_gd (z_in v5 64) (z_lt (z_sJ σ (q0 + 2) v5.toNatClampNeg ((σ.2 (q0 + 2) v5.toNatClampNeg) &&& a2)) (fun (w2 : zS) => fX5_keepOdd_L45 q0 a2 a4 k n w2 (v5 + (1 : Int32)))) else z_gd (z_in v5 64) (z_lt (z_sJ σ (q0 + 2) v5.toNatClampNeg ((σ.2 (q0 + 2) v5.toNatClampNeg) &&& (a2 ^^^ (-1 : Int64)))) (fun (w1 : zS) => fX5_keepOdd_L45 q0 a2 a4 k n w1 (v5 + (1 : Int32))))))))
theorem kX5_keepOdd_L45 {l : Launch} {Y : zY} {fin : zS} {p : Program} {e : Env} {s : State} {m : MethodId} {args : Array Value} {below : List Frame} {meth : Method} {c : Code} (O : z_ok ΛX Y p s m args c cX5_keepOdd RX5 6) (hi : z_inj ΛX Y) (hr : meth.sig.returnType = none) (hlk : meth.locks = false) {q0 : Nat} (h0 : z_tab q0) {a2 : Int64} {a4 : Int32} {k : zS → Int32 → Option (zS)} (hk : ∀ (w : zS) (z5 : Int32), k w z5 = some fin → z_G p l e (z_rm 2) s m args below meth c (MQ below (z_Qv ΛX Y fin) args s 0 0 (z_A ΛX Y)) ΛX Y 6 w [(0, .ref (z_ad Y q0)), (2, .long a2), (4, .int a4), (5, .int z5)] 90 []) : ∀ (n : Nat) (σ : zS) (v5 : Int32), fX5_keepOdd_L45 q0 a2 a4 k n σ v5 = some fin → z_G p l e (z_rm 2) s m args below meth c (MQ below (z_Qv ΛX Y fin) args s 0 0 (z_A ΛX Y)) ΛX Y 6 σ [(0, .ref (z_ad Y q0)), (2, .long a2), (4, .int a4), (5, .int v5)] 45 [] := by
  intro n
  induction n with
  | zero =>
    intro _ _ h
    cases h
  | succ n ih =>
    intro σ v5 h
    rw [fX5_keepOdd_L45.eq_2] at h
    refine z_iload O dzX5_keepOdd_45 3 rfl ?_
    refine z_bipush O dzX5_keepOdd_47 hcB64 ?_
    refine z_icmp_ge O dzX5_keepOdd_49 (fun c2 => ?_) (fun c2 => ?_)
    · have h := z_if_t c2 h
      exact hk _ _ h
    · have h := z_if_f c2 h
      refine z_aload_n O dzX5_keepOdd_52 rfl 0 rfl ?_
      refine z_get O z_cb5 (fx_tab h0) (v := .ref (z_ad Y (q0 + 2))) 0 (Nat.le_of_ble_eq_true rfl) tw_206 rfl dzX5_keepOdd_53 ?_
      refine z_iload O dzX5_keepOdd_56 3 rfl ?_
      refine z_dup2_11 O dzX5_keepOdd_58 rfl rfl ?_
      obtain ⟨g1, h⟩ := z_gd_at h
      refine z_lald O (fx_wor h0) g1 dzX5_keepOdd_59 ?_
      refine z_iload O dzX5_keepOdd_60 2 rfl ?_
      refine z_iload O dzX5_keepOdd_62 3 rfl ?_
      refine z_iand O dzX5_keepOdd_64 ?_
      obtain ⟨r1, hc1, h⟩ := z_bd_at h
      refine z_callSiR O (As := [.int (a4 &&& v5)]) (rest := [.long (σ.2 (q0 + 2) v5.toNatClampNeg), .int v5, .ref (z_ad Y (q0 + 2))]) (kJ6_bitCount_0f7a4 hi hc1) mJ6_bitCount_0f7a4 tw_451 (Nat.le_of_ble_eq_true rfl) rfl rfl (Nat.le_of_ble_eq_true rfl) dzX5_keepOdd_65 ?_
      refine z_iconst O dzX5_keepOdd_68 hcI1 ?_
      refine z_iand O dzX5_keepOdd_69 ?_
      refine z_if_ne O dzX5_keepOdd_70 (fun c1 => ?_) (fun c1 => ?_)
      · have h := z_if_f c1 h
        refine z_lload_n O dzX5_keepOdd_77 rfl 1 rfl ?_
        refine z_ldc2 O tw_421 dzX5_keepOdd_78 ?_
        refine z_lxor O dzX5_keepOdd_81 ?_
        refine z_land O dzX5_keepOdd_82 ?_
        obtain ⟨g2, h⟩ := z_gd_at h
        refine z_last O (fx_wor h0) g2 dzX5_keepOdd_83 ?_
        refine z_sig (fun w1 e1 => ?_)
        have h := z_lt_at e1 h
        refine z_iinc O (lv' := [(5, .int (v5 + (1 : Int32))), (0, .ref (z_ad Y q0)), (2, .long a2), (4, .int a4)]) dzX5_keepOdd_84 3 rfl (congrArg _ hcI1) (by decide) rfl ?_
        refine z_goto O dzX5_keepOdd_87 ?_
        refine z_sub [1, 2, 3, 0] rfl ?_
        exact ih _ _ h
      · have h := z_if_t c1 h
        refine z_lload_n O dzX5_keepOdd_73 rfl 1 rfl ?_
        refine z_goto O dzX5_keepOdd_74 ?_
        refine z_land O dzX5_keepOdd_82 ?_
        obtain ⟨g3, h⟩ := z_gd_at h
        refine z_last O (fx_wor h0) g3 dzX5_keepOdd_83 ?_
        refine z_sig (fun w2 e2 => ?_)
        have h := z_lt_at e2 h
        refine z_iinc O (lv' := [(5, .int (v5 + (1 : Int32))), (0, .ref (z_ad Y q0)), (2, .long a2), (4, .int a4)]) dzX5_keepOdd_84 3 rfl (congrArg _ hcI1) (by decide) rfl ?_
        refine z_goto O dzX5_keepOdd_87 ?_
        refine z_sub [1, 2, 3, 0] rfl ?_
        exact ih _ _ h
def fX5_keepOdd (σ : zS) (p0 : Nat) (a1 : Int32) : Option (zS) :=
  fX5_keepOdd_L5 σ a1 (fun (x1 : Int64) (x2 : Int32) => z_lt (a1 >>> ((6 : Int32) &&& 31)) (fun (x3 : Int32) => fX5_keepOdd_L45 p0 x1 x3 (fun (w1 : zS) (x4 : Int32) => some w1) z_F σ (0 : Int32))) z_F (0 : Int64) (0 : Int32)
theorem kX5_keepOdd {l : Launch} {Y : zY} (hi : z_inj ΛX Y) {σ : zS} {p0 : Nat} (h0 : z_tab p0) {a1 : Int32} {fin : zS} (h : fX5_keepOdd σ p0 a1 = some fin) : Met l yX5_keepOdd (Cond.code yX5_keepOdd cX5_keepOdd 6 none :: z_TB) (z_rm 2) (z_Pc ΛX Y σ [.ref (z_ad Y p0), .int a1]) (z_Qv ΛX Y fin) 0 0 (z_A ΛX Y) := by
  unfold fX5_keepOdd at h
  refine z_met [(0, .ref (z_ad Y p0)), (1, .int a1)] rfl (Nat.le_of_ble_eq_true rfl) (plainFor_of_name (by decide)) hi ?_
  intro p e s m args below meth c O hr hlk
  refine z_lconst O dzX5_keepOdd_0 (v := 0) rfl ?_
  refine z_lstore_n O (lv' := [(2, .long (0 : Int64)), (0, .ref (z_ad Y p0)), (1, .int a1)]) dzX5_keepOdd_1 rfl (by decide) rfl ?_
  refine z_iconst O dzX5_keepOdd_2 hcI0 ?_
  refine z_istore O (lv' := [(4, .int (0 : Int32)), (2, .long (0 : Int64)), (0, .ref (z_ad Y p0)), (1, .int a1)]) dzX5_keepOdd_3 (by decide) rfl ?_
  refine z_sub [2, 3, 1, 0] rfl ?_
  refine kX5_keepOdd_L5 O hi hr hlk (h0 := h0)  (fun x1 x2 h => ?_) _ _ _ h
  refine z_iload_n O dzX5_keepOdd_36 rfl 1 rfl ?_
  refine z_bipush O dzX5_keepOdd_37 hcB6 ?_
  refine z_ishr O dzX5_keepOdd_39 ?_
  refine z_topi (fun x3 e1 => ?_)
  have h := z_lt_at e1 h
  refine z_istore O (lv' := [(4, .int x3), (0, .ref (z_ad Y p0)), (1, .int a1), (2, .long x1)]) dzX5_keepOdd_40 (by decide) rfl ?_
  refine z_iconst O dzX5_keepOdd_42 hcI0 ?_
  refine z_istore O (lv' := [(5, .int (0 : Int32)), (4, .int x3), (0, .ref (z_ad Y p0)), (1, .int a1), (2, .long x1)]) dzX5_keepOdd_43 (by decide) rfl ?_
  refine z_sub [2, 4, 1, 0] rfl ?_
  refine kX5_keepOdd_L45 O hi hr hlk (h0 := h0)  (fun w1 x4 h => ?_) _ _ _ h
  exact z_vret O hr hlk dzX5_keepOdd_90 h
def fX5_becomeOdd_L12 (q0 : Nat) (q1 : Nat) (k : zS → Int32 → Option (zS)) : Nat → zS → Int32 → Option (zS)
  | 0, _, _ => none
  | n + 1, σ, v2 => (if (σ.1 q1 2) ≤ v2 then k σ v2 else z_gd (z_in v2 40) ((fX5_keepOdd σ q0 (σ.1 (q1 + 9) v2.toNatClampNeg)).bind (fun r1 => fX5_becomeOdd_L12 q0 q1 k n r1 (v2 + (1 : Int32)))))
theorem kX5_becomeOdd_L12 {l : Launch} {Y : zY} {fin : zS} {p : Program} {e : Env} {s : State} {m : MethodId} {args : Array Value} {below : List Frame} {meth : Method} {c : Code} (O : z_ok ΛX Y p s m args c cX5_becomeOdd RX5 3) (hi : z_inj ΛX Y) (hr : meth.sig.returnType = none) (hlk : meth.locks = false) {q0 : Nat} (h0 : z_tab q0) {q1 : Nat} (h1 : z_fam q1) {k : zS → Int32 → Option (zS)} (hk : ∀ (w : zS) (z2 : Int32), k w z2 = some fin → z_G p l e (z_rm 3) s m args below meth c (MQ below (z_Qv ΛX Y fin) args s 0 0 (z_A ΛX Y)) ΛX Y 3 w [(0, .ref (z_ad Y q0)), (1, .ref (z_ad Y q1)), (2, .int z2)] 36 []) : ∀ (n : Nat) (σ : zS) (v2 : Int32), fX5_becomeOdd_L12 q0 q1 k n σ v2 = some fin → z_G p l e (z_rm 3) s m args below meth c (MQ below (z_Qv ΛX Y fin) args s 0 0 (z_A ΛX Y)) ΛX Y 3 σ [(0, .ref (z_ad Y q0)), (1, .ref (z_ad Y q1)), (2, .int v2)] 12 [] := by
  intro n
  induction n with
  | zero =>
    intro _ _ h
    cases h
  | succ n ih =>
    intro σ v2 h
    rw [fX5_becomeOdd_L12.eq_2] at h
    refine z_iload_n O dzX5_becomeOdd_12 rfl 2 rfl ?_
    refine z_aload_n O dzX5_becomeOdd_13 rfl 1 rfl ?_
    refine z_get O z_cb1 (fx_fam h1) (v := .int (σ.1 q1 2)) 2 (Nat.le_of_ble_eq_true rfl) tw_49 rfl dzX5_becomeOdd_14 ?_
    refine z_icmp_ge O dzX5_becomeOdd_17 (fun c1 => ?_) (fun c1 => ?_)
    · have h := z_if_t c1 h
      exact hk _ _ h
    · have h := z_if_f c1 h
      refine z_aload_n O dzX5_becomeOdd_20 rfl 0 rfl ?_
      refine z_aload_n O dzX5_becomeOdd_21 rfl 1 rfl ?_
      refine z_get O z_cb1 (fx_fam h1) (v := .ref (z_ad Y (q1 + 9))) 0 (Nat.le_of_ble_eq_true rfl) tw_41 rfl dzX5_becomeOdd_22 ?_
      refine z_iload_n O dzX5_becomeOdd_25 rfl 2 rfl ?_
      obtain ⟨g1, h⟩ := z_gd_at h
      refine z_iald O (fx_set h1) g1 dzX5_becomeOdd_26 ?_
      obtain ⟨r1, hc1, h⟩ := z_bd_at h
      refine z_callVv O (As := [.int (σ.1 (q1 + 9) v2.toNatClampNeg)]) (rest := []) (kX5_keepOdd hi h0 hc1) mX5_keepOdd tw_447 (Nat.le_of_ble_eq_true rfl) (fx_tab h0) rfl rfl rfl rfl (Nat.le_of_ble_eq_true rfl) dzX5_becomeOdd_27 ?_
      refine z_iinc O (lv' := [(2, .int (v2 + (1 : Int32))), (0, .ref (z_ad Y q0)), (1, .ref (z_ad Y q1))]) dzX5_becomeOdd_30 2 rfl (congrArg _ hcI1) (by decide) rfl ?_
      refine z_goto O dzX5_becomeOdd_33 ?_
      refine z_sub [1, 2, 0] rfl ?_
      exact ih _ _ h
def fX5_becomeOdd (σ : zS) (p0 : Nat) (p1 : Nat) : Option (zS) :=
  (fJ7_fill_d0a16 σ (p0 + 2) 64 (-1 : Int64)).bind (fun r1 => fX5_becomeOdd_L12 p0 p1 (fun (w1 : zS) (x1 : Int32) => some w1) z_F r1 (0 : Int32))
theorem kX5_becomeOdd {l : Launch} {Y : zY} (hi : z_inj ΛX Y) {σ : zS} {p0 : Nat} (h0 : z_tab p0) {p1 : Nat} (h1 : z_fam p1) {fin : zS} (h : fX5_becomeOdd σ p0 p1 = some fin) : Met l yX5_becomeOdd (Cond.code yX5_becomeOdd cX5_becomeOdd 3 none :: z_TB) (z_rm 3) (z_Pc ΛX Y σ [.ref (z_ad Y p0), .ref (z_ad Y p1)]) (z_Qv ΛX Y fin) 0 0 (z_A ΛX Y) := by
  unfold fX5_becomeOdd at h
  refine z_met [(0, .ref (z_ad Y p0)), (1, .ref (z_ad Y p1))] rfl (Nat.le_of_ble_eq_true rfl) (plainFor_of_name (by decide)) hi ?_
  intro p e s m args below meth c O hr hlk
  refine z_aload_n O dzX5_becomeOdd_0 rfl 0 rfl ?_
  refine z_get O z_cb5 (fx_tab h0) (v := .ref (z_ad Y (p0 + 2))) 0 (Nat.le_of_ble_eq_true rfl) tw_206 rfl dzX5_becomeOdd_1 ?_
  refine z_ldc2 O tw_421 dzX5_becomeOdd_4 ?_
  obtain ⟨r1, hc1, h⟩ := z_bd_at h
  refine z_callSv O (As := [.ref (z_ad Y (p0 + 2)), .long (-1 : Int64)]) (rest := []) (kJ7_fill_d0a16 hi (fx_wor h0) hc1) mJ7_fill_d0a16 tw_404 (Nat.le_of_ble_eq_true rfl) rfl rfl (Nat.le_of_ble_eq_true rfl) dzX5_becomeOdd_7 ?_
  refine z_iconst O dzX5_becomeOdd_10 hcI0 ?_
  refine z_istore_n O (lv' := [(2, .int (0 : Int32)), (0, .ref (z_ad Y p0)), (1, .ref (z_ad Y p1))]) dzX5_becomeOdd_11 rfl (by decide) rfl ?_
  refine z_sub [1, 2, 0] rfl ?_
  refine kX5_becomeOdd_L12 O hi hr hlk (h0 := h0) (h1 := h1)  (fun w1 x1 h => ?_) _ _ _ h
  exact z_vret O hr hlk dzX5_becomeOdd_36 h
def fX5_becomeSetsOf_L10 (q0 : Nat) (q1 : Nat) (k : zS → Int32 → Option (zS)) : Nat → zS → Int32 → Option (zS)
  | 0, _, _ => none
  | n + 1, σ, v2 => (if (σ.1 q1 2) ≤ v2 then k σ v2 else z_gd (z_in v2 40) ((fX5_put σ q0 (σ.1 (q1 + 9) v2.toNatClampNeg)).bind (fun r1 => fX5_becomeSetsOf_L10 q0 q1 k n r1 (v2 + (1 : Int32)))))
theorem kX5_becomeSetsOf_L10 {l : Launch} {Y : zY} {fin : zS} {p : Program} {e : Env} {s : State} {m : MethodId} {args : Array Value} {below : List Frame} {meth : Method} {c : Code} (O : z_ok ΛX Y p s m args c cX5_becomeSetsOf RX5 3) (hi : z_inj ΛX Y) (hr : meth.sig.returnType = none) (hlk : meth.locks = false) {q0 : Nat} (h0 : z_tab q0) {q1 : Nat} (h1 : z_fam q1) {k : zS → Int32 → Option (zS)} (hk : ∀ (w : zS) (z2 : Int32), k w z2 = some fin → z_G p l e (z_rm 2) s m args below meth c (MQ below (z_Qv ΛX Y fin) args s 0 0 (z_A ΛX Y)) ΛX Y 3 w [(0, .ref (z_ad Y q0)), (1, .ref (z_ad Y q1)), (2, .int z2)] 34 []) : ∀ (n : Nat) (σ : zS) (v2 : Int32), fX5_becomeSetsOf_L10 q0 q1 k n σ v2 = some fin → z_G p l e (z_rm 2) s m args below meth c (MQ below (z_Qv ΛX Y fin) args s 0 0 (z_A ΛX Y)) ΛX Y 3 σ [(0, .ref (z_ad Y q0)), (1, .ref (z_ad Y q1)), (2, .int v2)] 10 [] := by
  intro n
  induction n with
  | zero =>
    intro _ _ h
    cases h
  | succ n ih =>
    intro σ v2 h
    rw [fX5_becomeSetsOf_L10.eq_2] at h
    refine z_iload_n O dzX5_becomeSetsOf_10 rfl 2 rfl ?_
    refine z_aload_n O dzX5_becomeSetsOf_11 rfl 1 rfl ?_
    refine z_get O z_cb1 (fx_fam h1) (v := .int (σ.1 q1 2)) 2 (Nat.le_of_ble_eq_true rfl) tw_49 rfl dzX5_becomeSetsOf_12 ?_
    refine z_icmp_ge O dzX5_becomeSetsOf_15 (fun c1 => ?_) (fun c1 => ?_)
    · have h := z_if_t c1 h
      exact hk _ _ h
    · have h := z_if_f c1 h
      refine z_aload_n O dzX5_becomeSetsOf_18 rfl 0 rfl ?_
      refine z_aload_n O dzX5_becomeSetsOf_19 rfl 1 rfl ?_
      refine z_get O z_cb1 (fx_fam h1) (v := .ref (z_ad Y (q1 + 9))) 0 (Nat.le_of_ble_eq_true rfl) tw_41 rfl dzX5_becomeSetsOf_20 ?_
      refine z_iload_n O dzX5_becomeSetsOf_23 rfl 2 rfl ?_
      obtain ⟨g1, h⟩ := z_gd_at h
      refine z_iald O (fx_set h1) g1 dzX5_becomeSetsOf_24 ?_
      obtain ⟨r1, hc1, h⟩ := z_bd_at h
      refine z_callVv O (As := [.int (σ.1 (q1 + 9) v2.toNatClampNeg)]) (rest := []) (kX5_put hi h0 hc1) mX5_put tw_407 (Nat.le_of_ble_eq_true rfl) (fx_tab h0) rfl rfl rfl rfl (Nat.le_of_ble_eq_true rfl) dzX5_becomeSetsOf_25 ?_
      refine z_iinc O (lv' := [(2, .int (v2 + (1 : Int32))), (0, .ref (z_ad Y q0)), (1, .ref (z_ad Y q1))]) dzX5_becomeSetsOf_28 2 rfl (congrArg _ hcI1) (by decide) rfl ?_
      refine z_goto O dzX5_becomeSetsOf_31 ?_
      refine z_sub [1, 2, 0] rfl ?_
      exact ih _ _ h
def fX5_becomeSetsOf (σ : zS) (p0 : Nat) (p1 : Nat) : Option (zS) :=
  (fJ7_fill_d0a16 σ (p0 + 2) 64 (0 : Int64)).bind (fun r1 => fX5_becomeSetsOf_L10 p0 p1 (fun (w1 : zS) (x1 : Int32) => some w1) z_F r1 (0 : Int32))
theorem kX5_becomeSetsOf {l : Launch} {Y : zY} (hi : z_inj ΛX Y) {σ : zS} {p0 : Nat} (h0 : z_tab p0) {p1 : Nat} (h1 : z_fam p1) {fin : zS} (h : fX5_becomeSetsOf σ p0 p1 = some fin) : Met l yX5_becomeSetsOf (Cond.code yX5_becomeSetsOf cX5_becomeSetsOf 3 none :: z_TB) (z_rm 2) (z_Pc ΛX Y σ [.ref (z_ad Y p0), .ref (z_ad Y p1)]) (z_Qv ΛX Y fin) 0 0 (z_A ΛX Y) := by
  unfold fX5_becomeSetsOf at h
  refine z_met [(0, .ref (z_ad Y p0)), (1, .ref (z_ad Y p1))] rfl (Nat.le_of_ble_eq_true rfl) (plainFor_of_name (by decide)) hi ?_
  intro p e s m args below meth c O hr hlk
  refine z_aload_n O dzX5_becomeSetsOf_0 rfl 0 rfl ?_
  refine z_get O z_cb5 (fx_tab h0) (v := .ref (z_ad Y (p0 + 2))) 0 (Nat.le_of_ble_eq_true rfl) tw_206 rfl dzX5_becomeSetsOf_1 ?_
  refine z_lconst O dzX5_becomeSetsOf_4 (v := 0) rfl ?_
  obtain ⟨r1, hc1, h⟩ := z_bd_at h
  refine z_callSv O (As := [.ref (z_ad Y (p0 + 2)), .long (0 : Int64)]) (rest := []) (kJ7_fill_d0a16 hi (fx_wor h0) hc1) mJ7_fill_d0a16 tw_404 (Nat.le_of_ble_eq_true rfl) rfl rfl (Nat.le_of_ble_eq_true rfl) dzX5_becomeSetsOf_5 ?_
  refine z_iconst O dzX5_becomeSetsOf_8 hcI0 ?_
  refine z_istore_n O (lv' := [(2, .int (0 : Int32)), (0, .ref (z_ad Y p0)), (1, .ref (z_ad Y p1))]) dzX5_becomeSetsOf_9 rfl (by decide) rfl ?_
  refine z_sub [1, 2, 0] rfl ?_
  refine kX5_becomeSetsOf_L10 O hi hr hlk (h0 := h0) (h1 := h1)  (fun w1 x1 h => ?_) _ _ _ h
  exact z_vret O hr hlk dzX5_becomeSetsOf_34 h
def fX5_becomeTelling_L20 (q0 : Nat) (q1 : Nat) (a2 : Int32) (k : zS → Int32 → Option (zS)) : Nat → zS → Int32 → Option (zS)
  | 0, _, _ => none
  | n + 1, σ, v3 => (if a2 ≤ v3 then k σ v3 else z_gd (z_in a2 40) (z_gd (z_in v3 40) ((fX5_put σ q0 (((4095 : Int32) ^^^ (σ.1 (q1 + 9) a2.toNatClampNeg)) ^^^ (σ.1 (q1 + 9) v3.toNatClampNeg))).bind (fun r1 => fX5_becomeTelling_L20 q0 q1 a2 k n r1 (v3 + (1 : Int32))))))
theorem kX5_becomeTelling_L20 {l : Launch} {Y : zY} {fin : zS} {p : Program} {e : Env} {s : State} {m : MethodId} {args : Array Value} {below : List Frame} {meth : Method} {c : Code} (O : z_ok ΛX Y p s m args c cX5_becomeTelling RX5 4) (hi : z_inj ΛX Y) (hr : meth.sig.returnType = none) (hlk : meth.locks = false) {q0 : Nat} (h0 : z_tab q0) {q1 : Nat} (h1 : z_fam q1) {a2 : Int32} {k : zS → Int32 → Option (zS)} (hk : ∀ (w : zS) (z3 : Int32), k w z3 = some fin → z_G p l e (z_rm 2) s m args below meth c (MQ below (z_Qv ΛX Y fin) args s 0 0 (z_A ΛX Y)) ΛX Y 4 w [(0, .ref (z_ad Y q0)), (1, .ref (z_ad Y q1)), (2, .int a2), (3, .int z3)] 52 []) : ∀ (n : Nat) (σ : zS) (v3 : Int32), fX5_becomeTelling_L20 q0 q1 a2 k n σ v3 = some fin → z_G p l e (z_rm 2) s m args below meth c (MQ below (z_Qv ΛX Y fin) args s 0 0 (z_A ΛX Y)) ΛX Y 4 σ [(0, .ref (z_ad Y q0)), (1, .ref (z_ad Y q1)), (2, .int a2), (3, .int v3)] 20 [] := by
  intro n
  induction n with
  | zero =>
    intro _ _ h
    cases h
  | succ n ih =>
    intro σ v3 h
    rw [fX5_becomeTelling_L20.eq_2] at h
    refine z_iload_n O dzX5_becomeTelling_20 rfl 3 rfl ?_
    refine z_iload_n O dzX5_becomeTelling_21 rfl 2 rfl ?_
    refine z_icmp_ge O dzX5_becomeTelling_22 (fun c1 => ?_) (fun c1 => ?_)
    · have h := z_if_t c1 h
      exact hk _ _ h
    · have h := z_if_f c1 h
      refine z_aload_n O dzX5_becomeTelling_25 rfl 0 rfl ?_
      refine z_sipush O dzX5_becomeTelling_26 hcS4095 ?_
      refine z_aload_n O dzX5_becomeTelling_29 rfl 1 rfl ?_
      refine z_get O z_cb1 (fx_fam h1) (v := .ref (z_ad Y (q1 + 9))) 0 (Nat.le_of_ble_eq_true rfl) tw_41 rfl dzX5_becomeTelling_30 ?_
      refine z_iload_n O dzX5_becomeTelling_33 rfl 2 rfl ?_
      obtain ⟨g1, h⟩ := z_gd_at h
      refine z_iald O (fx_set h1) g1 dzX5_becomeTelling_34 ?_
      refine z_ixor O dzX5_becomeTelling_35 ?_
      refine z_aload_n O dzX5_becomeTelling_36 rfl 1 rfl ?_
      refine z_get O z_cb1 (fx_fam h1) (v := .ref (z_ad Y (q1 + 9))) 0 (Nat.le_of_ble_eq_true rfl) tw_41 rfl dzX5_becomeTelling_37 ?_
      refine z_iload_n O dzX5_becomeTelling_40 rfl 3 rfl ?_
      obtain ⟨g2, h⟩ := z_gd_at h
      refine z_iald O (fx_set h1) g2 dzX5_becomeTelling_41 ?_
      refine z_ixor O dzX5_becomeTelling_42 ?_
      obtain ⟨r1, hc1, h⟩ := z_bd_at h
      refine z_callVv O (As := [.int (((4095 : Int32) ^^^ (σ.1 (q1 + 9) a2.toNatClampNeg)) ^^^ (σ.1 (q1 + 9) v3.toNatClampNeg))]) (rest := []) (kX5_put hi h0 hc1) mX5_put tw_407 (Nat.le_of_ble_eq_true rfl) (fx_tab h0) rfl rfl rfl rfl (Nat.le_of_ble_eq_true rfl) dzX5_becomeTelling_43 ?_
      refine z_iinc O (lv' := [(3, .int (v3 + (1 : Int32))), (0, .ref (z_ad Y q0)), (1, .ref (z_ad Y q1)), (2, .int a2)]) dzX5_becomeTelling_46 3 rfl (congrArg _ hcI1) (by decide) rfl ?_
      refine z_goto O dzX5_becomeTelling_49 ?_
      refine z_sub [1, 2, 3, 0] rfl ?_
      exact ih _ _ h
def fX5_becomeTelling_L10 (q0 : Nat) (q1 : Nat) (k : zS → Int32 → Option (zS)) : Nat → zS → Int32 → Option (zS)
  | 0, _, _ => none
  | n + 1, σ, v2 => (if (σ.1 q1 2) ≤ v2 then k σ v2 else fX5_becomeTelling_L20 q0 q1 v2 (fun (w1 : zS) (x1 : Int32) => fX5_becomeTelling_L10 q0 q1 k n w1 (v2 + (1 : Int32))) z_F σ (0 : Int32))
theorem kX5_becomeTelling_L10 {l : Launch} {Y : zY} {fin : zS} {p : Program} {e : Env} {s : State} {m : MethodId} {args : Array Value} {below : List Frame} {meth : Method} {c : Code} (O : z_ok ΛX Y p s m args c cX5_becomeTelling RX5 4) (hi : z_inj ΛX Y) (hr : meth.sig.returnType = none) (hlk : meth.locks = false) {q0 : Nat} (h0 : z_tab q0) {q1 : Nat} (h1 : z_fam q1) {k : zS → Int32 → Option (zS)} (hk : ∀ (w : zS) (z2 : Int32), k w z2 = some fin → z_G p l e (z_rm 2) s m args below meth c (MQ below (z_Qv ΛX Y fin) args s 0 0 (z_A ΛX Y)) ΛX Y 4 w [(0, .ref (z_ad Y q0)), (1, .ref (z_ad Y q1)), (2, .int z2)] 58 []) : ∀ (n : Nat) (σ : zS) (v2 : Int32), fX5_becomeTelling_L10 q0 q1 k n σ v2 = some fin → z_G p l e (z_rm 2) s m args below meth c (MQ below (z_Qv ΛX Y fin) args s 0 0 (z_A ΛX Y)) ΛX Y 4 σ [(0, .ref (z_ad Y q0)), (1, .ref (z_ad Y q1)), (2, .int v2)] 10 [] := by
  intro n
  induction n with
  | zero =>
    intro _ _ h
    cases h
  | succ n ih =>
    intro σ v2 h
    rw [fX5_becomeTelling_L10.eq_2] at h
    refine z_iload_n O dzX5_becomeTelling_10 rfl 2 rfl ?_
    refine z_aload_n O dzX5_becomeTelling_11 rfl 1 rfl ?_
    refine z_get O z_cb1 (fx_fam h1) (v := .int (σ.1 q1 2)) 2 (Nat.le_of_ble_eq_true rfl) tw_49 rfl dzX5_becomeTelling_12 ?_
    refine z_icmp_ge O dzX5_becomeTelling_15 (fun c1 => ?_) (fun c1 => ?_)
    · have h := z_if_t c1 h
      exact hk _ _ h
    · have h := z_if_f c1 h
      refine z_iconst O dzX5_becomeTelling_18 hcI0 ?_
      refine z_istore_n O (lv' := [(3, .int (0 : Int32)), (0, .ref (z_ad Y q0)), (1, .ref (z_ad Y q1)), (2, .int v2)]) dzX5_becomeTelling_19 rfl (by decide) rfl ?_
      refine z_sub [1, 2, 3, 0] rfl ?_
      refine kX5_becomeTelling_L20 O hi hr hlk (h0 := h0) (h1 := h1)  (fun w1 x1 h => ?_) _ _ _ h
      refine z_iinc O (lv' := [(2, .int (v2 + (1 : Int32))), (0, .ref (z_ad Y q0)), (1, .ref (z_ad Y q1)), (3, .int x1)]) dzX5_becomeTelling_52 2 rfl (congrArg _ hcI1) (by decide) rfl ?_
      refine z_goto O dzX5_becomeTelling_55 ?_
      refine z_sub [1, 2, 0] rfl ?_
      exact ih _ _ h
def fX5_becomeTelling (σ : zS) (p0 : Nat) (p1 : Nat) : Option (zS) :=
  (fJ7_fill_d0a16 σ (p0 + 2) 64 (0 : Int64)).bind (fun r1 => fX5_becomeTelling_L10 p0 p1 (fun (w1 : zS) (x1 : Int32) => (fX5_addParts w1 p0).bind (fun r2 => (fX5_flip r2 p0).bind (fun r3 => some r3))) z_F r1 (1 : Int32))
theorem kX5_becomeTelling {l : Launch} {Y : zY} (hi : z_inj ΛX Y) {σ : zS} {p0 : Nat} (h0 : z_tab p0) {p1 : Nat} (h1 : z_fam p1) {fin : zS} (h : fX5_becomeTelling σ p0 p1 = some fin) : Met l yX5_becomeTelling (Cond.code yX5_becomeTelling cX5_becomeTelling 4 none :: z_TB) (z_rm 2) (z_Pc ΛX Y σ [.ref (z_ad Y p0), .ref (z_ad Y p1)]) (z_Qv ΛX Y fin) 0 0 (z_A ΛX Y) := by
  unfold fX5_becomeTelling at h
  refine z_met [(0, .ref (z_ad Y p0)), (1, .ref (z_ad Y p1))] rfl (Nat.le_of_ble_eq_true rfl) (plainFor_of_name (by decide)) hi ?_
  intro p e s m args below meth c O hr hlk
  refine z_aload_n O dzX5_becomeTelling_0 rfl 0 rfl ?_
  refine z_get O z_cb5 (fx_tab h0) (v := .ref (z_ad Y (p0 + 2))) 0 (Nat.le_of_ble_eq_true rfl) tw_206 rfl dzX5_becomeTelling_1 ?_
  refine z_lconst O dzX5_becomeTelling_4 (v := 0) rfl ?_
  obtain ⟨r1, hc1, h⟩ := z_bd_at h
  refine z_callSv O (As := [.ref (z_ad Y (p0 + 2)), .long (0 : Int64)]) (rest := []) (kJ7_fill_d0a16 hi (fx_wor h0) hc1) mJ7_fill_d0a16 tw_404 (Nat.le_of_ble_eq_true rfl) rfl rfl (Nat.le_of_ble_eq_true rfl) dzX5_becomeTelling_5 ?_
  refine z_iconst O dzX5_becomeTelling_8 hcI1 ?_
  refine z_istore_n O (lv' := [(2, .int (1 : Int32)), (0, .ref (z_ad Y p0)), (1, .ref (z_ad Y p1))]) dzX5_becomeTelling_9 rfl (by decide) rfl ?_
  refine z_sub [1, 2, 0] rfl ?_
  refine kX5_becomeTelling_L10 O hi hr hlk (h0 := h0) (h1 := h1)  (fun w1 x1 h => ?_) _ _ _ h
  refine z_aload_n O dzX5_becomeTelling_58 rfl 0 rfl ?_
  obtain ⟨r2, hc2, h⟩ := z_bd_at h
  refine z_callVv O (As := []) (rest := []) (kX5_addParts hi h0 hc2) mX5_addParts tw_411 (Nat.le_of_ble_eq_true rfl) (fx_tab h0) rfl rfl rfl rfl (Nat.le_of_ble_eq_true rfl) dzX5_becomeTelling_59 ?_
  refine z_aload_n O dzX5_becomeTelling_62 rfl 0 rfl ?_
  obtain ⟨r3, hc3, h⟩ := z_bd_at h
  refine z_callVv O (As := []) (rest := []) (kX5_flip hi h0 hc3) mX5_flip tw_417 (Nat.le_of_ble_eq_true rfl) (fx_tab h0) rfl rfl rfl rfl (Nat.le_of_ble_eq_true rfl) dzX5_becomeTelling_63 ?_
  exact z_vret O hr hlk dzX5_becomeTelling_66 h
def fX5_countAll_L4 (σ : zS) (q0 : Nat) (k : Int32 → Int32 → Option (Int32)) : Nat → Int32 → Int32 → Option (Int32)
  | 0, _, _ => none
  | n + 1, v1, v2 => (if (64 : Int32) ≤ v2 then k v1 v2 else z_gd (z_in v2 64) ((fJ13_bitCount_95d88 (σ.2 (q0 + 2) v2.toNatClampNeg)).bind (fun r1 => z_lt (v1 + r1) (fun (x1 : Int32) => fX5_countAll_L4 σ q0 k n x1 (v2 + (1 : Int32))))))
theorem kX5_countAll_L4 {l : Launch} {Y : zY} {fin : Int32} {p : Program} {e : Env} {s : State} {m : MethodId} {args : Array Value} {below : List Frame} {meth : Method} {c : Code} {σ : zS} (O : z_ok ΛX Y p s m args c cX5_countAll RX5 3) (hi : z_inj ΛX Y) (hr : meth.sig.returnType = (some .int)) (hlk : meth.locks = false) {q0 : Nat} (h0 : z_tab q0) {k : Int32 → Int32 → Option (Int32)} (hk : ∀ (z1 : Int32) (z2 : Int32), k z1 z2 = some fin → z_G p l e (z_rm 2) s m args below meth c (MQ below (z_Qi ΛX Y (fin, σ)) args s 0 0 (z_A ΛX Y)) ΛX Y 3 σ [(0, .ref (z_ad Y q0)), (1, .int z1), (2, .int z2)] 28 []) : ∀ (n : Nat) (v1 : Int32) (v2 : Int32), fX5_countAll_L4 σ q0 k n v1 v2 = some fin → z_G p l e (z_rm 2) s m args below meth c (MQ below (z_Qi ΛX Y (fin, σ)) args s 0 0 (z_A ΛX Y)) ΛX Y 3 σ [(0, .ref (z_ad Y q0)), (1, .int v1), (2, .int v2)] 4 [] := by
  intro n
  induction n with
  | zero =>
    intro _ _ h
    cases h
  | succ n ih =>
    intro v1 v2 h
    rw [fX5_countAll_L4.eq_2] at h
    refine z_iload_n O dzX5_countAll_4 rfl 2 rfl ?_
    refine z_bipush O dzX5_countAll_5 hcB64 ?_
    refine z_icmp_ge O dzX5_countAll_7 (fun c1 => ?_) (fun c1 => ?_)
    · have h := z_if_t c1 h
      exact hk _ _ h
    · have h := z_if_f c1 h
      refine z_iload_n O dzX5_countAll_10 rfl 1 rfl ?_
      refine z_aload_n O dzX5_countAll_11 rfl 0 rfl ?_
      refine z_get O z_cb5 (fx_tab h0) (v := .ref (z_ad Y (q0 + 2))) 0 (Nat.le_of_ble_eq_true rfl) tw_206 rfl dzX5_countAll_12 ?_
      refine z_iload_n O dzX5_countAll_15 rfl 2 rfl ?_
      obtain ⟨g1, h⟩ := z_gd_at h
      refine z_lald O (fx_wor h0) g1 dzX5_countAll_16 ?_
      obtain ⟨r1, hc1, h⟩ := z_bd_at h
      refine z_callSiR O (As := [.long (σ.2 (q0 + 2) v2.toNatClampNeg)]) (rest := [.int v1]) (kJ13_bitCount_95d88 hi hc1) mJ13_bitCount_95d88 tw_471 (Nat.le_of_ble_eq_true rfl) rfl rfl (Nat.le_of_ble_eq_true rfl) dzX5_countAll_17 ?_
      refine z_iadd O dzX5_countAll_20 ?_
      refine z_topi (fun x1 e1 => ?_)
      have h := z_lt_at e1 h
      refine z_istore_n O (lv' := [(1, .int x1), (0, .ref (z_ad Y q0)), (2, .int v2)]) dzX5_countAll_21 rfl (by decide) rfl ?_
      refine z_iinc O (lv' := [(2, .int (v2 + (1 : Int32))), (1, .int x1), (0, .ref (z_ad Y q0))]) dzX5_countAll_22 2 rfl (congrArg _ hcI1) (by decide) rfl ?_
      refine z_goto O dzX5_countAll_25 ?_
      refine z_sub [2, 1, 0] rfl ?_
      exact ih _ _ h
def fX5_countAll (σ : zS) (p0 : Nat) : Option (Int32) :=
  fX5_countAll_L4 σ p0 (fun (x1 : Int32) (x2 : Int32) => some x1) z_F (0 : Int32) (0 : Int32)
theorem kX5_countAll {l : Launch} {Y : zY} (hi : z_inj ΛX Y) {σ : zS} {p0 : Nat} (h0 : z_tab p0) {fin : Int32} (h : fX5_countAll σ p0 = some fin) : Met l yX5_countAll (Cond.code yX5_countAll cX5_countAll 3 (some .int) :: z_TB) (z_rm 2) (z_Pc ΛX Y σ [.ref (z_ad Y p0)]) (z_Qi ΛX Y (fin, σ)) 0 0 (z_A ΛX Y) := by
  unfold fX5_countAll at h
  refine z_met [(0, .ref (z_ad Y p0))] rfl (Nat.le_of_ble_eq_true rfl) (plainFor_of_name (by decide)) hi ?_
  intro p e s m args below meth c O hr hlk
  refine z_iconst O dzX5_countAll_0 hcI0 ?_
  refine z_istore_n O (lv' := [(1, .int (0 : Int32)), (0, .ref (z_ad Y p0))]) dzX5_countAll_1 rfl (by decide) rfl ?_
  refine z_iconst O dzX5_countAll_2 hcI0 ?_
  refine z_istore_n O (lv' := [(2, .int (0 : Int32)), (1, .int (0 : Int32)), (0, .ref (z_ad Y p0))]) dzX5_countAll_3 rfl (by decide) rfl ?_
  refine z_sub [2, 1, 0] rfl ?_
  refine kX5_countAll_L4 O hi hr hlk (h0 := h0)  (fun x1 x2 h => ?_) _ _ _ h
  refine z_iload_n O dzX5_countAll_28 rfl 1 rfl ?_
  exact z_iret O hr hlk dzX5_countAll_29 (z_rf h)
def fX5_countOf_L4 (σ : zS) (q0 : Nat) (a1 : Int32) (k : Int32 → Int32 → Option (Int32)) : Nat → Int32 → Int32 → Option (Int32)
  | 0, _, _ => none
  | n + 1, v2, v3 => (if (64 : Int32) ≤ v3 then k v2 v3 else (fJ6_bitCount_0f7a4 v3).bind (fun r1 => z_lt (a1 - r1) (fun (x1 : Int32) => (if x1 < 0 then fX5_countOf_L4 σ q0 a1 k n v2 (v3 + (1 : Int32)) else (if (6 : Int32) < x1 then fX5_countOf_L4 σ q0 a1 k n v2 (v3 + (1 : Int32)) else z_gd (z_in v3 64) (z_gd (z_in x1 7) ((fJ13_bitCount_95d88 ((σ.2 (q0 + 2) v3.toNatClampNeg) &&& (z_ofcL x1.toNatClampNeg))).bind (fun r2 => z_lt (v2 + r2) (fun (x2 : Int32) => fX5_countOf_L4 σ q0 a1 k n x2 (v3 + (1 : Int32)))))))))))
theorem kX5_countOf_L4 {l : Launch} {Y : zY} {fin : Int32} {p : Program} {e : Env} {s : State} {m : MethodId} {args : Array Value} {below : List Frame} {meth : Method} {c : Code} {σ : zS} (O : z_ok ΛX Y p s m args c cX5_countOf RX5 5) (hi : z_inj ΛX Y) (hr : meth.sig.returnType = (some .int)) (hlk : meth.locks = false) {q0 : Nat} (h0 : z_tab q0) {a1 : Int32} {k : Int32 → Int32 → Option (Int32)} (hk : ∀ (z2 : Int32) (z3 : Int32), k z2 z3 = some fin → z_G p l e (z_rm 2) s m args below meth c (MQ below (z_Qi ΛX Y (fin, σ)) args s 0 0 (z_A ΛX Y)) ΛX Y 5 σ [(0, .ref (z_ad Y q0)), (1, .int a1), (2, .int z2), (3, .int z3)] 55 []) : ∀ (n : Nat) (v2 : Int32) (v3 : Int32), fX5_countOf_L4 σ q0 a1 k n v2 v3 = some fin → z_G p l e (z_rm 2) s m args below meth c (MQ below (z_Qi ΛX Y (fin, σ)) args s 0 0 (z_A ΛX Y)) ΛX Y 5 σ [(0, .ref (z_ad Y q0)), (1, .int a1), (2, .int v2), (3, .int v3)] 4 [] := by
  intro n
  induction n with
  | zero =>
    intro _ _ h
    cases h
  | succ n ih =>
    intro v2 v3 h
    rw [fX5_countOf_L4.eq_2] at h
    refine z_iload_n O dzX5_countOf_4 rfl 3 rfl ?_
    refine z_bipush O dzX5_countOf_5 hcB64 ?_
    refine z_icmp_ge O dzX5_countOf_7 (fun c3 => ?_) (fun c3 => ?_)
    · have h := z_if_t c3 h
      exact hk _ _ h
    · have h := z_if_f c3 h
      refine z_iload_n O dzX5_countOf_10 rfl 1 rfl ?_
      refine z_iload_n O dzX5_countOf_11 rfl 3 rfl ?_
      obtain ⟨r1, hc1, h⟩ := z_bd_at h
      refine z_callSiR O (As := [.int v3]) (rest := [.int a1]) (kJ6_bitCount_0f7a4 hi hc1) mJ6_bitCount_0f7a4 tw_451 (Nat.le_of_ble_eq_true rfl) rfl rfl (Nat.le_of_ble_eq_true rfl) dzX5_countOf_12 ?_
      refine z_isub O dzX5_countOf_15 ?_
      refine z_topi (fun x1 e1 => ?_)
      have h := z_lt_at e1 h
      refine z_istore O (lv' := [(4, .int x1), (0, .ref (z_ad Y q0)), (1, .int a1), (2, .int v2), (3, .int v3)]) dzX5_countOf_16 (by decide) rfl ?_
      refine z_iload O dzX5_countOf_18 0 rfl ?_
      refine z_if_lt O dzX5_countOf_20 (fun c2 => ?_) (fun c2 => ?_)
      · have h := z_if_t c2 h
        refine z_iinc O (lv' := [(3, .int (v3 + (1 : Int32))), (4, .int x1), (0, .ref (z_ad Y q0)), (1, .int a1), (2, .int v2)]) dzX5_countOf_49 4 rfl (congrArg _ hcI1) (by decide) rfl ?_
        refine z_goto O dzX5_countOf_52 ?_
        refine z_sub [2, 3, 4, 0] rfl ?_
        exact ih _ _ h
      · have h := z_if_f c2 h
        refine z_iload O dzX5_countOf_23 0 rfl ?_
        refine z_bipush O dzX5_countOf_25 hcB6 ?_
        refine z_icmp_gt O dzX5_countOf_27 (fun c1 => ?_) (fun c1 => ?_)
        · have h := z_if_t c1 h
          refine z_iinc O (lv' := [(3, .int (v3 + (1 : Int32))), (4, .int x1), (0, .ref (z_ad Y q0)), (1, .int a1), (2, .int v2)]) dzX5_countOf_49 4 rfl (congrArg _ hcI1) (by decide) rfl ?_
          refine z_goto O dzX5_countOf_52 ?_
          refine z_sub [2, 3, 4, 0] rfl ?_
          exact ih _ _ h
        · have h := z_if_f c1 h
          refine z_iload_n O dzX5_countOf_30 rfl 3 rfl ?_
          refine z_aload_n O dzX5_countOf_31 rfl 1 rfl ?_
          refine z_get O z_cb5 (fx_tab h0) (v := .ref (z_ad Y (q0 + 2))) 0 (Nat.le_of_ble_eq_true rfl) tw_206 rfl dzX5_countOf_32 ?_
          refine z_iload_n O dzX5_countOf_35 rfl 4 rfl ?_
          obtain ⟨g1, h⟩ := z_gd_at h
          refine z_lald O (fx_wor h0) g1 dzX5_countOf_36 ?_
          refine z_gsO O tw_469 dzX5_countOf_37 ?_
          refine z_iload O dzX5_countOf_40 0 rfl ?_
          obtain ⟨g2, h⟩ := z_gd_at h
          refine z_tlO O g2 dzX5_countOf_42 ?_
          refine z_land O dzX5_countOf_43 ?_
          obtain ⟨r2, hc2, h⟩ := z_bd_at h
          refine z_callSiR O (As := [.long ((σ.2 (q0 + 2) v3.toNatClampNeg) &&& (z_ofcL x1.toNatClampNeg))]) (rest := [.int v2]) (kJ13_bitCount_95d88 hi hc2) mJ13_bitCount_95d88 tw_471 (Nat.le_of_ble_eq_true rfl) rfl rfl (Nat.le_of_ble_eq_true rfl) dzX5_countOf_44 ?_
          refine z_iadd O dzX5_countOf_47 ?_
          refine z_topi (fun x2 e2 => ?_)
          have h := z_lt_at e2 h
          refine z_istore_n O (lv' := [(2, .int x2), (4, .int x1), (0, .ref (z_ad Y q0)), (1, .int a1), (3, .int v3)]) dzX5_countOf_48 rfl (by decide) rfl ?_
          refine z_iinc O (lv' := [(3, .int (v3 + (1 : Int32))), (2, .int x2), (4, .int x1), (0, .ref (z_ad Y q0)), (1, .int a1)]) dzX5_countOf_49 4 rfl (congrArg _ hcI1) (by decide) rfl ?_
          refine z_goto O dzX5_countOf_52 ?_
          refine z_sub [3, 4, 1, 0] rfl ?_
          exact ih _ _ h
def fX5_countOf (σ : zS) (p0 : Nat) (a1 : Int32) : Option (Int32) :=
  fX5_countOf_L4 σ p0 a1 (fun (x1 : Int32) (x2 : Int32) => some x1) z_F (0 : Int32) (0 : Int32)
theorem kX5_countOf {l : Launch} {Y : zY} (hi : z_inj ΛX Y) {σ : zS} {p0 : Nat} (h0 : z_tab p0) {a1 : Int32} {fin : Int32} (h : fX5_countOf σ p0 a1 = some fin) : Met l yX5_countOf (Cond.code yX5_countOf cX5_countOf 5 (some .int) :: z_TB) (z_rm 2) (z_Pc ΛX Y σ [.ref (z_ad Y p0), .int a1]) (z_Qi ΛX Y (fin, σ)) 0 0 (z_A ΛX Y) := by
  unfold fX5_countOf at h
  refine z_met [(0, .ref (z_ad Y p0)), (1, .int a1)] rfl (Nat.le_of_ble_eq_true rfl) (plainFor_of_name (by decide)) hi ?_
  intro p e s m args below meth c O hr hlk
  refine z_iconst O dzX5_countOf_0 hcI0 ?_
  refine z_istore_n O (lv' := [(2, .int (0 : Int32)), (0, .ref (z_ad Y p0)), (1, .int a1)]) dzX5_countOf_1 rfl (by decide) rfl ?_
  refine z_iconst O dzX5_countOf_2 hcI0 ?_
  refine z_istore_n O (lv' := [(3, .int (0 : Int32)), (2, .int (0 : Int32)), (0, .ref (z_ad Y p0)), (1, .int a1)]) dzX5_countOf_3 rfl (by decide) rfl ?_
  refine z_sub [2, 3, 1, 0] rfl ?_
  refine kX5_countOf_L4 O hi hr hlk (h0 := h0)  (fun x1 x2 h => ?_) _ _ _ h
  refine z_iload_n O dzX5_countOf_55 rfl 2 rfl ?_
  exact z_iret O hr hlk dzX5_countOf_56 (z_rf h)
def fX5_placeOfBit_L5 (a2 : Int32) (k : Int64 → Int32 → Option (Int32)) : Nat → Int64 → Int32 → Option (Int32)
  | 0, _, _ => none
  | n + 1, v3, v5 => (if a2 ≤ v5 then k v3 v5 else z_lt (v3 &&& (v3 - (1 : Int64))) (fun (x1 : Int64) => fX5_placeOfBit_L5 a2 k n x1 (v5 + (1 : Int32))))
theorem kX5_placeOfBit_L5 {l : Launch} {Y : zY} {fin : Int32} {p : Program} {e : Env} {s : State} {m : MethodId} {args : Array Value} {below : List Frame} {meth : Method} {c : Code} {σ : zS} (O : z_ok ΛX Y p s m args c cX5_placeOfBit RX5 6) (hi : z_inj ΛX Y) (hr : meth.sig.returnType = (some .int)) (hlk : meth.locks = false) {a2 : Int32} {k : Int64 → Int32 → Option (Int32)} (hk : ∀ (z3 : Int64) (z5 : Int32), k z3 z5 = some fin → z_G p l e (z_rm 2) s m args below meth c (MQ below (z_Qi ΛX Y (fin, σ)) args s 0 0 (z_A ΛX Y)) ΛX Y 6 σ [(2, .int a2), (3, .long z3), (5, .int z5)] 23 []) : ∀ (n : Nat) (v3 : Int64) (v5 : Int32), fX5_placeOfBit_L5 a2 k n v3 v5 = some fin → z_G p l e (z_rm 2) s m args below meth c (MQ below (z_Qi ΛX Y (fin, σ)) args s 0 0 (z_A ΛX Y)) ΛX Y 6 σ [(2, .int a2), (3, .long v3), (5, .int v5)] 5 [] := by
  intro n
  induction n with
  | zero =>
    intro _ _ h
    cases h
  | succ n ih =>
    intro v3 v5 h
    rw [fX5_placeOfBit_L5.eq_2] at h
    refine z_iload O dzX5_placeOfBit_5 2 rfl ?_
    refine z_iload_n O dzX5_placeOfBit_7 rfl 0 rfl ?_
    refine z_icmp_ge O dzX5_placeOfBit_8 (fun c1 => ?_) (fun c1 => ?_)
    · have h := z_if_t c1 h
      exact hk _ _ h
    · have h := z_if_f c1 h
      refine z_lload_n O dzX5_placeOfBit_11 rfl 1 rfl ?_
      refine z_lload_n O dzX5_placeOfBit_12 rfl 1 rfl ?_
      refine z_lconst O dzX5_placeOfBit_13 (v := 1) rfl ?_
      refine z_lsub O dzX5_placeOfBit_14 ?_
      refine z_land O dzX5_placeOfBit_15 ?_
      refine z_topl (fun x1 e1 => ?_)
      have h := z_lt_at e1 h
      refine z_lstore_n O (lv' := [(3, .long x1), (2, .int a2), (5, .int v5)]) dzX5_placeOfBit_16 rfl (by decide) rfl ?_
      refine z_iinc O (lv' := [(5, .int (v5 + (1 : Int32))), (3, .long x1), (2, .int a2)]) dzX5_placeOfBit_17 2 rfl (congrArg _ hcI1) (by decide) rfl ?_
      refine z_goto O dzX5_placeOfBit_20 ?_
      refine z_sub [2, 1, 0] rfl ?_
      exact ih _ _ h
def fX5_placeOfBit (a0 : Int64) (a2 : Int32) : Option (Int32) :=
  fX5_placeOfBit_L5 a2 (fun (x1 : Int64) (x2 : Int32) => (fJ13_bitCount_95d88 ((x1 &&& (-x1)) - (1 : Int64))).bind (fun r1 => some r1)) z_F a0 (0 : Int32)
theorem kX5_placeOfBit {l : Launch} {Y : zY} (hi : z_inj ΛX Y) {σ : zS} {a0 : Int64} {a2 : Int32} {fin : Int32} (h : fX5_placeOfBit a0 a2 = some fin) : Met l yX5_placeOfBit (Cond.code yX5_placeOfBit cX5_placeOfBit 6 (some .int) :: z_TB) (z_rm 2) (z_Pc ΛX Y σ [.long a0, .int a2]) (z_Qi ΛX Y (fin, σ)) 0 0 (z_A ΛX Y) := by
  unfold fX5_placeOfBit at h
  refine z_met [(0, .long a0), (2, .int a2)] rfl (Nat.le_of_ble_eq_true rfl) (plainFor_of_name (by decide)) hi ?_
  intro p e s m args below meth c O hr hlk
  refine z_lload_n O dzX5_placeOfBit_0 rfl 0 rfl ?_
  refine z_lstore_n O (lv' := [(3, .long a0), (0, .long a0), (2, .int a2)]) dzX5_placeOfBit_1 rfl (by decide) rfl ?_
  refine z_iconst O dzX5_placeOfBit_2 hcI0 ?_
  refine z_istore O (lv' := [(5, .int (0 : Int32)), (3, .long a0), (0, .long a0), (2, .int a2)]) dzX5_placeOfBit_3 (by decide) rfl ?_
  refine z_sub [3, 1, 0] rfl ?_
  refine kX5_placeOfBit_L5 O hi hr hlk   (fun x1 x2 h => ?_) _ _ _ h
  refine z_lload_n O dzX5_placeOfBit_23 rfl 1 rfl ?_
  refine z_lload_n O dzX5_placeOfBit_24 rfl 1 rfl ?_
  refine z_lneg O dzX5_placeOfBit_25 ?_
  refine z_land O dzX5_placeOfBit_26 ?_
  refine z_lconst O dzX5_placeOfBit_27 (v := 1) rfl ?_
  refine z_lsub O dzX5_placeOfBit_28 ?_
  obtain ⟨r1, hc1, h⟩ := z_bd_at h
  refine z_callSiR O (As := [.long ((x1 &&& (-x1)) - (1 : Int64))]) (rest := []) (kJ13_bitCount_95d88 hi hc1) mJ13_bitCount_95d88 tw_471 (Nat.le_of_ble_eq_true rfl) rfl rfl (Nat.le_of_ble_eq_true rfl) dzX5_placeOfBit_29 ?_
  exact z_iret O hr hlk dzX5_placeOfBit_32 (z_rf h)
def fX7_isNoSet (a0 : Int32) : Option (Int32) :=
  (if a0 < 0 then some (1 : Int32) else (if a0 ≤ (4095 : Int32) then some (0 : Int32) else some (1 : Int32)))
theorem kX7_isNoSet {l : Launch} {Y : zY} (hi : z_inj ΛX Y) {σ : zS} {a0 : Int32} {fin : Int32} (h : fX7_isNoSet a0 = some fin) : Met l yX7_isNoSet (Cond.code yX7_isNoSet cX7_isNoSet 1 (some .boolean) :: z_TB) (z_rm 1) (z_Pc ΛX Y σ [.int a0]) (z_Qi ΛX Y (fin, σ)) 0 0 (z_A ΛX Y) := by
  unfold fX7_isNoSet at h
  refine z_met [(0, .int a0)] rfl (Nat.le_of_ble_eq_true rfl) (plainFor_of_name (by decide)) hi ?_
  intro p e s m args below meth c O hr hlk
  refine z_iload_n O dzX7_isNoSet_0 rfl 0 rfl ?_
  refine z_if_lt O dzX7_isNoSet_1 (fun c2 => ?_) (fun c2 => ?_)
  · have h := z_if_t c2 h
    refine z_iconst O dzX7_isNoSet_11 hcI1 ?_
    refine z_goto O dzX7_isNoSet_12 ?_
    exact z_zret O hr hlk rfl dzX7_isNoSet_16 (z_rf h)
  · have h := z_if_f c2 h
    refine z_iload_n O dzX7_isNoSet_4 rfl 0 rfl ?_
    refine z_sipush O dzX7_isNoSet_5 hcS4095 ?_
    refine z_icmp_le O dzX7_isNoSet_8 (fun c1 => ?_) (fun c1 => ?_)
    · have h := z_if_t c1 h
      refine z_iconst O dzX7_isNoSet_15 hcI0 ?_
      exact z_zret O hr hlk rfl dzX7_isNoSet_16 (z_rf h)
    · have h := z_if_f c1 h
      refine z_iconst O dzX7_isNoSet_11 hcI1 ?_
      refine z_goto O dzX7_isNoSet_12 ?_
      exact z_zret O hr hlk rfl dzX7_isNoSet_16 (z_rf h)
def fX5_next_L30 (σ : zS) (q0 : Nat) (k : Int32 → Int64 → Option (Int32)) : Nat → Int32 → Int64 → Option (Int32)
  | 0, _, _ => none
  | n + 1, v2, v3 => (if (lg_cmp v3 (0 : Int64)) = 0 then (if (63 : Int32) ≤ v2 then k v2 v3 else z_gd (z_in (v2 + (1 : Int32)) 64) (z_lt (σ.2 (q0 + 2) (v2 + (1 : Int32)).toNatClampNeg) (fun (x1 : Int64) => fX5_next_L30 σ q0 k n (v2 + (1 : Int32)) x1))) else k v2 v3)
theorem kX5_next_L30 {l : Launch} {Y : zY} {fin : Int32} {p : Program} {e : Env} {s : State} {m : MethodId} {args : Array Value} {below : List Frame} {meth : Method} {c : Code} {σ : zS} (O : z_ok ΛX Y p s m args c cX5_next RX5 5) (hi : z_inj ΛX Y) (hr : meth.sig.returnType = (some .int)) (hlk : meth.locks = false) {q0 : Nat} (h0 : z_tab q0) {k : Int32 → Int64 → Option (Int32)} (hk : ∀ (z2 : Int32) (z3 : Int64), k z2 z3 = some fin → z_G p l e (z_rm 3) s m args below meth c (MQ below (z_Qi ΛX Y (fin, σ)) args s 0 0 (z_A ΛX Y)) ΛX Y 5 σ [(0, .ref (z_ad Y q0)), (2, .int z2), (3, .long z3)] 55 []) : ∀ (n : Nat) (v2 : Int32) (v3 : Int64), fX5_next_L30 σ q0 k n v2 v3 = some fin → z_G p l e (z_rm 3) s m args below meth c (MQ below (z_Qi ΛX Y (fin, σ)) args s 0 0 (z_A ΛX Y)) ΛX Y 5 σ [(0, .ref (z_ad Y q0)), (2, .int v2), (3, .long v3)] 30 [] := by
  intro n
  induction n with
  | zero =>
    intro _ _ h
    cases h
  | succ n ih =>
    intro v2 v3 h
    rw [fX5_next_L30.eq_2] at h
    refine z_lload_n O dzX5_next_30 rfl 2 rfl ?_
    refine z_lconst O dzX5_next_31 (v := 0) rfl ?_
    refine z_lcmp O dzX5_next_32 ?_
    refine z_if_ne O dzX5_next_33 (fun c2 => ?_) (fun c2 => ?_)
    · have h := z_if_f c2 h
      exact hk _ _ h
    · have h := z_if_t c2 h
      refine z_iload_n O dzX5_next_36 rfl 1 rfl ?_
      refine z_bipush O dzX5_next_37 hcB63 ?_
      refine z_icmp_ge O dzX5_next_39 (fun c1 => ?_) (fun c1 => ?_)
      · have h := z_if_t c1 h
        exact hk _ _ h
      · have h := z_if_f c1 h
        refine z_iinc O (lv' := [(2, .int (v2 + (1 : Int32))), (0, .ref (z_ad Y q0)), (3, .long v3)]) dzX5_next_42 1 rfl (congrArg _ hcI1) (by decide) rfl ?_
        refine z_aload_n O dzX5_next_45 rfl 1 rfl ?_
        refine z_get O z_cb5 (fx_tab h0) (v := .ref (z_ad Y (q0 + 2))) 0 (Nat.le_of_ble_eq_true rfl) tw_206 rfl dzX5_next_46 ?_
        refine z_iload_n O dzX5_next_49 rfl 0 rfl ?_
        obtain ⟨g1, h⟩ := z_gd_at h
        refine z_lald O (fx_wor h0) g1 dzX5_next_50 ?_
        refine z_topl (fun x1 e1 => ?_)
        have h := z_lt_at e1 h
        refine z_lstore_n O (lv' := [(3, .long x1), (2, .int (v2 + (1 : Int32))), (0, .ref (z_ad Y q0))]) dzX5_next_51 rfl (by decide) rfl ?_
        refine z_goto O dzX5_next_52 ?_
        refine z_sub [2, 1, 0] rfl ?_
        exact ih _ _ h
def fX5_next (σ : zS) (p0 : Nat) (a1 : Int32) : Option (Int32) :=
  (fX7_isNoSet a1).bind (fun r1 => (if r1 = 0 then z_lt (a1 >>> ((6 : Int32) &&& 31)) (fun (x1 : Int32) => z_gd (z_in x1 64) (z_lt ((σ.2 (p0 + 2) x1.toNatClampNeg) &&& ((-1 : Int64) <<< ((a1 &&& (63 : Int32)).toInt64 &&& 63))) (fun (x2 : Int64) => fX5_next_L30 σ p0 (fun (x3 : Int32) (x4 : Int64) => (if (lg_cmp x4 (0 : Int64)) = 0 then some (-1 : Int32) else (fX5_placeOfBit x4 (0 : Int32)).bind (fun r2 => some ((x3 <<< ((6 : Int32) &&& 31)) + r2)))) z_F x1 x2))) else some (-1 : Int32)))
theorem kX5_next {l : Launch} {Y : zY} (hi : z_inj ΛX Y) {σ : zS} {p0 : Nat} (h0 : z_tab p0) {a1 : Int32} {fin : Int32} (h : fX5_next σ p0 a1 = some fin) : Met l yX5_next (Cond.code yX5_next cX5_next 5 (some .int) :: z_TB) (z_rm 3) (z_Pc ΛX Y σ [.ref (z_ad Y p0), .int a1]) (z_Qi ΛX Y (fin, σ)) 0 0 (z_A ΛX Y) := by
  unfold fX5_next at h
  refine z_met [(0, .ref (z_ad Y p0)), (1, .int a1)] rfl (Nat.le_of_ble_eq_true rfl) (plainFor_of_name (by decide)) hi ?_
  intro p e s m args below meth c O hr hlk
  refine z_iload_n O dzX5_next_0 rfl 1 rfl ?_
  obtain ⟨r1, hc1, h⟩ := z_bd_at h
  refine z_callNiR O (As := [.int a1]) (rest := []) (kX7_isNoSet hi hc1) mX7_isNoSet (List.mem_of_getElem? (i := 2) rfl) (Nat.le_of_ble_eq_true rfl) rfl rfl (Nat.le_of_ble_eq_true rfl) dzX5_next_1 ?_
  refine z_if_eq O dzX5_next_4 (fun c2 => ?_) (fun c2 => ?_)
  · have h := z_if_t c2 h
    refine z_iload_n O dzX5_next_9 rfl 1 rfl ?_
    refine z_bipush O dzX5_next_10 hcB6 ?_
    refine z_ishr O dzX5_next_12 ?_
    refine z_topi (fun x1 e1 => ?_)
    have h := z_lt_at e1 h
    refine z_istore_n O (lv' := [(2, .int x1), (0, .ref (z_ad Y p0)), (1, .int a1)]) dzX5_next_13 rfl (by decide) rfl ?_
    refine z_aload_n O dzX5_next_14 rfl 1 rfl ?_
    refine z_get O z_cb5 (fx_tab h0) (v := .ref (z_ad Y (p0 + 2))) 0 (Nat.le_of_ble_eq_true rfl) tw_206 rfl dzX5_next_15 ?_
    refine z_iload_n O dzX5_next_18 rfl 0 rfl ?_
    obtain ⟨g1, h⟩ := z_gd_at h
    refine z_lald O (fx_wor h0) g1 dzX5_next_19 ?_
    refine z_ldc2 O tw_421 dzX5_next_20 ?_
    refine z_iload_n O dzX5_next_23 rfl 2 rfl ?_
    refine z_bipush O dzX5_next_24 hcB63 ?_
    refine z_iand O dzX5_next_26 ?_
    refine z_lshl O dzX5_next_27 ?_
    refine z_land O dzX5_next_28 ?_
    refine z_topl (fun x2 e2 => ?_)
    have h := z_lt_at e2 h
    refine z_lstore_n O (lv' := [(3, .long x2), (2, .int x1), (0, .ref (z_ad Y p0)), (1, .int a1)]) dzX5_next_29 rfl (by decide) rfl ?_
    refine z_sub [2, 1, 0] rfl ?_
    refine kX5_next_L30 O hi hr hlk (h0 := h0)  (fun x3 x4 h => ?_) _ _ _ h
    refine z_lload_n O dzX5_next_55 rfl 2 rfl ?_
    refine z_lconst O dzX5_next_56 (v := 0) rfl ?_
    refine z_lcmp O dzX5_next_57 ?_
    refine z_if_ne O dzX5_next_58 (fun c1 => ?_) (fun c1 => ?_)
    · have h := z_if_f c1 h
      refine z_iload_n O dzX5_next_65 rfl 1 rfl ?_
      refine z_bipush O dzX5_next_66 hcB6 ?_
      refine z_ishl O dzX5_next_68 ?_
      refine z_lload_n O dzX5_next_69 rfl 2 rfl ?_
      refine z_iconst O dzX5_next_70 hcI0 ?_
      obtain ⟨r2, hc2, h⟩ := z_bd_at h
      refine z_callSiR O (As := [.long x4, .int (0 : Int32)]) (rest := [.int (x3 <<< ((6 : Int32) &&& 31))]) (kX5_placeOfBit hi hc2) mX5_placeOfBit tw_492 (Nat.le_of_ble_eq_true rfl) rfl rfl (Nat.le_of_ble_eq_true rfl) dzX5_next_71 ?_
      refine z_iadd O dzX5_next_74 ?_
      exact z_iret O hr hlk dzX5_next_75 (z_rf h)
    · have h := z_if_t c1 h
      refine z_iconst O dzX5_next_61 hcIm1 ?_
      refine z_goto O dzX5_next_62 ?_
      exact z_iret O hr hlk dzX5_next_75 (z_rf h)
  · have h := z_if_f c2 h
    refine z_iconst O dzX5_next_7 hcIm1 ?_
    exact z_iret O hr hlk dzX5_next_8 (z_rf h)
def fX5_pick_L4 (σ : zS) (q0 : Nat) (k : Int32 → Int32 → Option (Int32)) : Nat → Int32 → Int32 → Option (Int32)
  | 0, _, _ => none
  | n + 1, v2, v3 => (if (64 : Int32) ≤ v3 then k v2 v3 else z_gd (z_in v3 64) ((fJ13_bitCount_95d88 (σ.2 (q0 + 2) v3.toNatClampNeg)).bind (fun r1 => (if r1 ≤ v2 then z_lt (v2 - r1) (fun (x1 : Int32) => fX5_pick_L4 σ q0 k n x1 (v3 + (1 : Int32))) else z_gd (z_in v3 64) ((fX5_placeOfBit (σ.2 (q0 + 2) v3.toNatClampNeg) v2).bind (fun r2 => some ((v3 <<< ((6 : Int32) &&& 31)) + r2)))))))
theorem kX5_pick_L4 {l : Launch} {Y : zY} {fin : Int32} {p : Program} {e : Env} {s : State} {m : MethodId} {args : Array Value} {below : List Frame} {meth : Method} {c : Code} {σ : zS} (O : z_ok ΛX Y p s m args c cX5_pick RX5 5) (hi : z_inj ΛX Y) (hr : meth.sig.returnType = (some .int)) (hlk : meth.locks = false) {q0 : Nat} (h0 : z_tab q0) {k : Int32 → Int32 → Option (Int32)} (hk : ∀ (z2 : Int32) (z3 : Int32), k z2 z3 = some fin → z_G p l e (z_rm 3) s m args below meth c (MQ below (z_Qi ΛX Y (fin, σ)) args s 0 0 (z_A ΛX Y)) ΛX Y 5 σ [(0, .ref (z_ad Y q0)), (2, .int z2), (3, .int z3)] 54 []) : ∀ (n : Nat) (v2 : Int32) (v3 : Int32), fX5_pick_L4 σ q0 k n v2 v3 = some fin → z_G p l e (z_rm 3) s m args below meth c (MQ below (z_Qi ΛX Y (fin, σ)) args s 0 0 (z_A ΛX Y)) ΛX Y 5 σ [(0, .ref (z_ad Y q0)), (2, .int v2), (3, .int v3)] 4 [] := by
  intro n
  induction n with
  | zero =>
    intro _ _ h
    cases h
  | succ n ih =>
    intro v2 v3 h
    rw [fX5_pick_L4.eq_2] at h
    refine z_iload_n O dzX5_pick_4 rfl 2 rfl ?_
    refine z_bipush O dzX5_pick_5 hcB64 ?_
    refine z_icmp_ge O dzX5_pick_7 (fun c2 => ?_) (fun c2 => ?_)
    · have h := z_if_t c2 h
      exact hk _ _ h
    · have h := z_if_f c2 h
      refine z_aload_n O dzX5_pick_10 rfl 0 rfl ?_
      refine z_get O z_cb5 (fx_tab h0) (v := .ref (z_ad Y (q0 + 2))) 0 (Nat.le_of_ble_eq_true rfl) tw_206 rfl dzX5_pick_11 ?_
      refine z_iload_n O dzX5_pick_14 rfl 2 rfl ?_
      obtain ⟨g1, h⟩ := z_gd_at h
      refine z_lald O (fx_wor h0) g1 dzX5_pick_15 ?_
      obtain ⟨r1, hc1, h⟩ := z_bd_at h
      refine z_callSiR O (As := [.long (σ.2 (q0 + 2) v3.toNatClampNeg)]) (rest := []) (kJ13_bitCount_95d88 hi hc1) mJ13_bitCount_95d88 tw_471 (Nat.le_of_ble_eq_true rfl) rfl rfl (Nat.le_of_ble_eq_true rfl) dzX5_pick_16 ?_
      refine z_istore O (lv' := [(4, .int r1), (0, .ref (z_ad Y q0)), (2, .int v2), (3, .int v3)]) dzX5_pick_19 (by decide) rfl ?_
      refine z_iload_n O dzX5_pick_21 rfl 2 rfl ?_
      refine z_iload O dzX5_pick_22 0 rfl ?_
      refine z_icmp_ge O dzX5_pick_24 (fun c1 => ?_) (fun c1 => ?_)
      · have h := z_if_t c1 h
        refine z_iload_n O dzX5_pick_43 rfl 2 rfl ?_
        refine z_iload O dzX5_pick_44 0 rfl ?_
        refine z_isub O dzX5_pick_46 ?_
        refine z_topi (fun x1 e1 => ?_)
        have h := z_lt_at e1 h
        refine z_istore_n O (lv' := [(2, .int x1), (4, .int r1), (0, .ref (z_ad Y q0)), (3, .int v3)]) dzX5_pick_47 rfl (by decide) rfl ?_
        refine z_iinc O (lv' := [(3, .int (v3 + (1 : Int32))), (2, .int x1), (4, .int r1), (0, .ref (z_ad Y q0))]) dzX5_pick_48 3 rfl (congrArg _ hcI1) (by decide) rfl ?_
        refine z_goto O dzX5_pick_51 ?_
        refine z_sub [3, 1, 0] rfl ?_
        exact ih _ _ h
      · have h := z_if_f c1 h
        refine z_iload_n O dzX5_pick_27 rfl 3 rfl ?_
        refine z_bipush O dzX5_pick_28 hcB6 ?_
        refine z_ishl O dzX5_pick_30 ?_
        refine z_aload_n O dzX5_pick_31 rfl 1 rfl ?_
        refine z_get O z_cb5 (fx_tab h0) (v := .ref (z_ad Y (q0 + 2))) 0 (Nat.le_of_ble_eq_true rfl) tw_206 rfl dzX5_pick_32 ?_
        refine z_iload_n O dzX5_pick_35 rfl 3 rfl ?_
        obtain ⟨g2, h⟩ := z_gd_at h
        refine z_lald O (fx_wor h0) g2 dzX5_pick_36 ?_
        refine z_iload_n O dzX5_pick_37 rfl 2 rfl ?_
        obtain ⟨r2, hc2, h⟩ := z_bd_at h
        refine z_callSiR O (As := [.long (σ.2 (q0 + 2) v3.toNatClampNeg), .int v2]) (rest := [.int (v3 <<< ((6 : Int32) &&& 31))]) (kX5_placeOfBit hi hc2) mX5_placeOfBit tw_492 (Nat.le_of_ble_eq_true rfl) rfl rfl (Nat.le_of_ble_eq_true rfl) dzX5_pick_38 ?_
        refine z_iadd O dzX5_pick_41 ?_
        exact z_iret O hr hlk dzX5_pick_42 (z_rf h)
def fX5_pick (σ : zS) (p0 : Nat) (a1 : Int32) : Option (Int32) :=
  fX5_pick_L4 σ p0 (fun (x1 : Int32) (x2 : Int32) => some (-12 : Int32)) z_F a1 (0 : Int32)
theorem kX5_pick {l : Launch} {Y : zY} (hi : z_inj ΛX Y) {σ : zS} {p0 : Nat} (h0 : z_tab p0) {a1 : Int32} {fin : Int32} (h : fX5_pick σ p0 a1 = some fin) : Met l yX5_pick (Cond.code yX5_pick cX5_pick 5 (some .int) :: z_TB) (z_rm 3) (z_Pc ΛX Y σ [.ref (z_ad Y p0), .int a1]) (z_Qi ΛX Y (fin, σ)) 0 0 (z_A ΛX Y) := by
  unfold fX5_pick at h
  refine z_met [(0, .ref (z_ad Y p0)), (1, .int a1)] rfl (Nat.le_of_ble_eq_true rfl) (plainFor_of_name (by decide)) hi ?_
  intro p e s m args below meth c O hr hlk
  refine z_iload_n O dzX5_pick_0 rfl 1 rfl ?_
  refine z_istore_n O (lv' := [(2, .int a1), (0, .ref (z_ad Y p0)), (1, .int a1)]) dzX5_pick_1 rfl (by decide) rfl ?_
  refine z_iconst O dzX5_pick_2 hcI0 ?_
  refine z_istore_n O (lv' := [(3, .int (0 : Int32)), (2, .int a1), (0, .ref (z_ad Y p0)), (1, .int a1)]) dzX5_pick_3 rfl (by decide) rfl ?_
  refine z_sub [2, 1, 0] rfl ?_
  refine kX5_pick_L4 O hi hr hlk (h0 := h0)  (fun x1 x2 h => ?_) _ _ _ h
  refine z_bipush O dzX5_pick_54 hcBm12 ?_
  exact z_iret O hr hlk dzX5_pick_56 (z_rf h)
def fX6_hasPartIn_L2 (σ : zS) (q0 : Nat) (a1 : Int32) (a2 : Int32) (k : Int32 → Option (Int32)) : Nat → Int32 → Option (Int32)
  | 0, _ => none
  | n + 1, v3 => (if a1 ≤ v3 then k v3 else z_gd (z_in v3 40) ((fX7_isPart (σ.1 q0 v3.toNatClampNeg) a2).bind (fun r1 => (if r1 = 0 then fX6_hasPartIn_L2 σ q0 a1 a2 k n (v3 + (1 : Int32)) else some (1 : Int32)))))
theorem kX6_hasPartIn_L2 {l : Launch} {Y : zY} {fin : Int32} {p : Program} {e : Env} {s : State} {m : MethodId} {args : Array Value} {below : List Frame} {meth : Method} {c : Code} {σ : zS} (O : z_ok ΛX Y p s m args c cX6_hasPartIn RX6 4) (hi : z_inj ΛX Y) (hr : meth.sig.returnType = (some .boolean)) (hlk : meth.locks = false) {q0 : Nat} (h0 : z_FI ΛX q0 40) {a1 : Int32} {a2 : Int32} {k : Int32 → Option (Int32)} (hk : ∀ (z3 : Int32), k z3 = some fin → z_G p l e (z_rm 2) s m args below meth c (MQ below (z_Qi ΛX Y (fin, σ)) args s 0 0 (z_A ΛX Y)) ΛX Y 4 σ [(0, .ref (z_ad Y q0)), (1, .int a1), (2, .int a2), (3, .int z3)] 25 []) : ∀ (n : Nat) (v3 : Int32), fX6_hasPartIn_L2 σ q0 a1 a2 k n v3 = some fin → z_G p l e (z_rm 2) s m args below meth c (MQ below (z_Qi ΛX Y (fin, σ)) args s 0 0 (z_A ΛX Y)) ΛX Y 4 σ [(0, .ref (z_ad Y q0)), (1, .int a1), (2, .int a2), (3, .int v3)] 2 [] := by
  intro n
  induction n with
  | zero =>
    intro _ h
    cases h
  | succ n ih =>
    intro v3 h
    rw [fX6_hasPartIn_L2.eq_2] at h
    refine z_iload_n O dzX6_hasPartIn_2 rfl 3 rfl ?_
    refine z_iload_n O dzX6_hasPartIn_3 rfl 1 rfl ?_
    refine z_icmp_ge O dzX6_hasPartIn_4 (fun c2 => ?_) (fun c2 => ?_)
    · have h := z_if_t c2 h
      exact hk _ h
    · have h := z_if_f c2 h
      refine z_aload_n O dzX6_hasPartIn_7 rfl 0 rfl ?_
      refine z_iload_n O dzX6_hasPartIn_8 rfl 3 rfl ?_
      obtain ⟨g1, h⟩ := z_gd_at h
      refine z_iald O h0 g1 dzX6_hasPartIn_9 ?_
      refine z_iload_n O dzX6_hasPartIn_10 rfl 2 rfl ?_
      obtain ⟨r1, hc1, h⟩ := z_bd_at h
      refine z_callNiR O (As := [.int (σ.1 q0 v3.toNatClampNeg), .int a2]) (rest := []) (kX7_isPart hi hc1) mX7_isPart (List.mem_of_getElem? (i := 5) rfl) (Nat.le_of_ble_eq_true rfl) rfl rfl (Nat.le_of_ble_eq_true rfl) dzX6_hasPartIn_11 ?_
      refine z_if_eq O dzX6_hasPartIn_14 (fun c1 => ?_) (fun c1 => ?_)
      · have h := z_if_t c1 h
        refine z_iinc O (lv' := [(3, .int (v3 + (1 : Int32))), (0, .ref (z_ad Y q0)), (1, .int a1), (2, .int a2)]) dzX6_hasPartIn_19 3 rfl (congrArg _ hcI1) (by decide) rfl ?_
        refine z_goto O dzX6_hasPartIn_22 ?_
        refine z_sub [1, 2, 3, 0] rfl ?_
        exact ih _ h
      · have h := z_if_f c1 h
        refine z_iconst O dzX6_hasPartIn_17 hcI1 ?_
        exact z_zret O hr hlk rfl dzX6_hasPartIn_18 (z_rf h)
def fX6_hasPartIn (σ : zS) (p0 : Nat) (a1 : Int32) (a2 : Int32) : Option (Int32) :=
  fX6_hasPartIn_L2 σ p0 a1 a2 (fun (x1 : Int32) => some (0 : Int32)) z_F (0 : Int32)
theorem kX6_hasPartIn {l : Launch} {Y : zY} (hi : z_inj ΛX Y) {σ : zS} {p0 : Nat} (h0 : z_FI ΛX p0 40) {a1 : Int32} {a2 : Int32} {fin : Int32} (h : fX6_hasPartIn σ p0 a1 a2 = some fin) : Met l yX6_hasPartIn (Cond.code yX6_hasPartIn cX6_hasPartIn 4 (some .boolean) :: z_TB) (z_rm 2) (z_Pc ΛX Y σ [.ref (z_ad Y p0), .int a1, .int a2]) (z_Qi ΛX Y (fin, σ)) 0 0 (z_A ΛX Y) := by
  unfold fX6_hasPartIn at h
  refine z_met [(0, .ref (z_ad Y p0)), (1, .int a1), (2, .int a2)] rfl (Nat.le_of_ble_eq_true rfl) (plainFor_of_name (by decide)) hi ?_
  intro p e s m args below meth c O hr hlk
  refine z_iconst O dzX6_hasPartIn_0 hcI0 ?_
  refine z_istore_n O (lv' := [(3, .int (0 : Int32)), (0, .ref (z_ad Y p0)), (1, .int a1), (2, .int a2)]) dzX6_hasPartIn_1 rfl (by decide) rfl ?_
  refine z_sub [1, 2, 3, 0] rfl ?_
  refine kX6_hasPartIn_L2 O hi hr hlk (h0 := h0)  (fun x1 h => ?_) _ _ h
  refine z_iconst O dzX6_hasPartIn_25 hcI0 ?_
  exact z_zret O hr hlk rfl dzX6_hasPartIn_26 (z_rf h)
def fX6_keepReduced_L24 (a2 : Int32) (a3 : Int32) (q4 : Nat) (q5 : Nat) (k : zS → Int32 → Int32 → Option (Int32 × zS)) : Nat → zS → Int32 → Int32 → Option (Int32 × zS)
  | 0, _, _, _ => none
  | n + 1, σ, v6, v7 => (if a2 ≤ v7 then k σ v6 v7 else z_gd (z_in v7 40) ((fX7_hasPoint (σ.1 q4 v7.toNatClampNeg) a3).bind (fun r1 => (if r1 = 0 then fX6_keepReduced_L24 a2 a3 q4 q5 k n σ v6 (v7 + (1 : Int32)) else z_gd (z_in v7 40) (z_gd (z_in v6 40) (z_lt (z_sI σ q5 v6.toNatClampNeg ((σ.1 q4 v7.toNatClampNeg) &&& (((1 : Int32) <<< (a3 &&& 31)) ^^^ (-1 : Int32)))) (fun (w1 : zS) => fX6_keepReduced_L24 a2 a3 q4 q5 k n w1 (v6 + (1 : Int32)) (v7 + (1 : Int32)))))))))
theorem kX6_keepReduced_L24 {l : Launch} {Y : zY} {fin : Int32 × zS} {p : Program} {e : Env} {s : State} {m : MethodId} {args : Array Value} {below : List Frame} {meth : Method} {c : Code} (O : z_ok ΛX Y p s m args c cX6_keepReduced RX6 9) (hi : z_inj ΛX Y) (hr : meth.sig.returnType = (some .int)) (hlk : meth.locks = false) {a2 : Int32} {a3 : Int32} {q4 : Nat} (h4 : z_FI ΛX q4 40) {q5 : Nat} (h5 : z_FI ΛX q5 40) {k : zS → Int32 → Int32 → Option (Int32 × zS)} (hk : ∀ (w : zS) (z6 : Int32) (z7 : Int32), k w z6 z7 = some fin → z_G p l e (z_rm 3) s m args below meth c (MQ below (z_Qi ΛX Y fin) args s 0 0 (z_A ΛX Y)) ΛX Y 9 w [(2, .int a2), (3, .int a3), (4, .ref (z_ad Y q4)), (5, .ref (z_ad Y q5)), (6, .int z6), (7, .int z7)] 67 []) : ∀ (n : Nat) (σ : zS) (v6 : Int32) (v7 : Int32), fX6_keepReduced_L24 a2 a3 q4 q5 k n σ v6 v7 = some fin → z_G p l e (z_rm 3) s m args below meth c (MQ below (z_Qi ΛX Y fin) args s 0 0 (z_A ΛX Y)) ΛX Y 9 σ [(2, .int a2), (3, .int a3), (4, .ref (z_ad Y q4)), (5, .ref (z_ad Y q5)), (6, .int v6), (7, .int v7)] 24 [] := by
  intro n
  induction n with
  | zero =>
    intro _ _ _ h
    cases h
  | succ n ih =>
    intro σ v6 v7 h
    rw [fX6_keepReduced_L24.eq_2] at h
    refine z_iload O dzX6_keepReduced_24 5 rfl ?_
    refine z_iload_n O dzX6_keepReduced_26 rfl 0 rfl ?_
    refine z_icmp_ge O dzX6_keepReduced_27 (fun c2 => ?_) (fun c2 => ?_)
    · have h := z_if_t c2 h
      exact hk _ _ _ h
    · have h := z_if_f c2 h
      refine z_aload O dzX6_keepReduced_30 2 rfl ?_
      refine z_iload O dzX6_keepReduced_32 5 rfl ?_
      obtain ⟨g1, h⟩ := z_gd_at h
      refine z_iald O h4 g1 dzX6_keepReduced_34 ?_
      refine z_iload_n O dzX6_keepReduced_35 rfl 1 rfl ?_
      obtain ⟨r1, hc1, h⟩ := z_bd_at h
      refine z_callNiR O (As := [.int (σ.1 q4 v7.toNatClampNeg), .int a3]) (rest := []) (kX7_hasPoint hi hc1) mX7_hasPoint (List.mem_of_getElem? (i := 4) rfl) (Nat.le_of_ble_eq_true rfl) rfl rfl (Nat.le_of_ble_eq_true rfl) dzX6_keepReduced_36 ?_
      refine z_if_eq O dzX6_keepReduced_39 (fun c1 => ?_) (fun c1 => ?_)
      · have h := z_if_t c1 h
        refine z_iinc O (lv' := [(7, .int (v7 + (1 : Int32))), (2, .int a2), (3, .int a3), (4, .ref (z_ad Y q4)), (5, .ref (z_ad Y q5)), (6, .int v6)]) dzX6_keepReduced_61 5 rfl (congrArg _ hcI1) (by decide) rfl ?_
        refine z_goto O dzX6_keepReduced_64 ?_
        refine z_sub [1, 2, 3, 4, 5, 0] rfl ?_
        exact ih _ _ _ h
      · have h := z_if_f c1 h
        refine z_aload O dzX6_keepReduced_42 3 rfl ?_
        refine z_iload O dzX6_keepReduced_44 4 rfl ?_
        refine z_aload O dzX6_keepReduced_46 2 rfl ?_
        refine z_iload O dzX6_keepReduced_48 5 rfl ?_
        obtain ⟨g2, h⟩ := z_gd_at h
        refine z_iald O h4 g2 dzX6_keepReduced_50 ?_
        refine z_iconst O dzX6_keepReduced_51 hcI1 ?_
        refine z_iload_n O dzX6_keepReduced_52 rfl 1 rfl ?_
        refine z_ishl O dzX6_keepReduced_53 ?_
        refine z_iconst O dzX6_keepReduced_54 hcIm1 ?_
        refine z_ixor O dzX6_keepReduced_55 ?_
        refine z_iand O dzX6_keepReduced_56 ?_
        obtain ⟨g3, h⟩ := z_gd_at h
        refine z_iast O h5 g3 dzX6_keepReduced_57 ?_
        refine z_sig (fun w1 e1 => ?_)
        have h := z_lt_at e1 h
        refine z_iinc O (lv' := [(6, .int (v6 + (1 : Int32))), (2, .int a2), (3, .int a3), (4, .ref (z_ad Y q4)), (5, .ref (z_ad Y q5)), (7, .int v7)]) dzX6_keepReduced_58 4 rfl (congrArg _ hcI1) (by decide) rfl ?_
        refine z_iinc O (lv' := [(7, .int (v7 + (1 : Int32))), (6, .int (v6 + (1 : Int32))), (2, .int a2), (3, .int a3), (4, .ref (z_ad Y q4)), (5, .ref (z_ad Y q5))]) dzX6_keepReduced_61 5 rfl (congrArg _ hcI1) (by decide) rfl ?_
        refine z_goto O dzX6_keepReduced_64 ?_
        refine z_sub [2, 3, 4, 5, 1, 0] rfl ?_
        exact ih _ _ _ h
def fX6_keepReduced_L74 (a2 : Int32) (a3 : Int32) (q4 : Nat) (q5 : Nat) (a6 : Int32) (k : zS → Int32 → Int32 → Option (Int32 × zS)) : Nat → zS → Int32 → Int32 → Option (Int32 × zS)
  | 0, _, _, _ => none
  | n + 1, σ, v7, v8 => (if a2 ≤ v8 then k σ v7 v8 else z_gd (z_in v8 40) ((fX7_hasPoint (σ.1 q4 v8.toNatClampNeg) a3).bind (fun r1 => (if r1 = 0 then z_gd (z_in v8 40) ((fX6_hasPartIn σ q5 a6 (σ.1 q4 v8.toNatClampNeg)).bind (fun r2 => (if r2 = 0 then z_gd (z_in v8 40) (z_gd (z_in v7 40) (z_lt (z_sI σ q5 v7.toNatClampNeg (σ.1 q4 v8.toNatClampNeg)) (fun (w1 : zS) => fX6_keepReduced_L74 a2 a3 q4 q5 a6 k n w1 (v7 + (1 : Int32)) (v8 + (1 : Int32))))) else fX6_keepReduced_L74 a2 a3 q4 q5 a6 k n σ v7 (v8 + (1 : Int32))))) else fX6_keepReduced_L74 a2 a3 q4 q5 a6 k n σ v7 (v8 + (1 : Int32))))))
theorem kX6_keepReduced_L74 {l : Launch} {Y : zY} {fin : Int32 × zS} {p : Program} {e : Env} {s : State} {m : MethodId} {args : Array Value} {below : List Frame} {meth : Method} {c : Code} (O : z_ok ΛX Y p s m args c cX6_keepReduced RX6 9) (hi : z_inj ΛX Y) (hr : meth.sig.returnType = (some .int)) (hlk : meth.locks = false) {a2 : Int32} {a3 : Int32} {q4 : Nat} (h4 : z_FI ΛX q4 40) {q5 : Nat} (h5 : z_FI ΛX q5 40) {a6 : Int32} {k : zS → Int32 → Int32 → Option (Int32 × zS)} (hk : ∀ (w : zS) (z7 : Int32) (z8 : Int32), k w z7 z8 = some fin → z_G p l e (z_rm 3) s m args below meth c (MQ below (z_Qi ΛX Y fin) args s 0 0 (z_A ΛX Y)) ΛX Y 9 w [(2, .int a2), (3, .int a3), (4, .ref (z_ad Y q4)), (5, .ref (z_ad Y q5)), (6, .int a6), (7, .int z7), (8, .int z8)] 126 []) : ∀ (n : Nat) (σ : zS) (v7 : Int32) (v8 : Int32), fX6_keepReduced_L74 a2 a3 q4 q5 a6 k n σ v7 v8 = some fin → z_G p l e (z_rm 3) s m args below meth c (MQ below (z_Qi ΛX Y fin) args s 0 0 (z_A ΛX Y)) ΛX Y 9 σ [(2, .int a2), (3, .int a3), (4, .ref (z_ad Y q4)), (5, .ref (z_ad Y q5)), (6, .int a6), (7, .int v7), (8, .int v8)] 74 [] := by
  intro n
  induction n with
  | zero =>
    intro _ _ _ h
    cases h
  | succ n ih =>
    intro σ v7 v8 h
    rw [fX6_keepReduced_L74.eq_2] at h
    refine z_iload O dzX6_keepReduced_74 6 rfl ?_
    refine z_iload_n O dzX6_keepReduced_76 rfl 0 rfl ?_
    refine z_icmp_ge O dzX6_keepReduced_77 (fun c3 => ?_) (fun c3 => ?_)
    · have h := z_if_t c3 h
      exact hk _ _ _ h
    · have h := z_if_f c3 h
      refine z_aload O dzX6_keepReduced_80 2 rfl ?_
      refine z_iload O dzX6_keepReduced_82 6 rfl ?_
      obtain ⟨g1, h⟩ := z_gd_at h
      refine z_iald O h4 g1 dzX6_keepReduced_84 ?_
      refine z_iload_n O dzX6_keepReduced_85 rfl 1 rfl ?_
      obtain ⟨r1, hc1, h⟩ := z_bd_at h
      refine z_callNiR O (As := [.int (σ.1 q4 v8.toNatClampNeg), .int a3]) (rest := []) (kX7_hasPoint hi hc1) mX7_hasPoint (List.mem_of_getElem? (i := 4) rfl) (Nat.le_of_ble_eq_true rfl) rfl rfl (Nat.le_of_ble_eq_true rfl) dzX6_keepReduced_86 ?_
      refine z_if_ne O dzX6_keepReduced_89 (fun c2 => ?_) (fun c2 => ?_)
      · have h := z_if_f c2 h
        refine z_iinc O (lv' := [(8, .int (v8 + (1 : Int32))), (2, .int a2), (3, .int a3), (4, .ref (z_ad Y q4)), (5, .ref (z_ad Y q5)), (6, .int a6), (7, .int v7)]) dzX6_keepReduced_120 6 rfl (congrArg _ hcI1) (by decide) rfl ?_
        refine z_goto O dzX6_keepReduced_123 ?_
        refine z_sub [1, 2, 3, 4, 5, 6, 0] rfl ?_
        exact ih _ _ _ h
      · have h := z_if_t c2 h
        refine z_aload O dzX6_keepReduced_92 3 rfl ?_
        refine z_iload O dzX6_keepReduced_94 4 rfl ?_
        refine z_aload O dzX6_keepReduced_96 2 rfl ?_
        refine z_iload O dzX6_keepReduced_98 6 rfl ?_
        obtain ⟨g2, h⟩ := z_gd_at h
        refine z_iald O h4 g2 dzX6_keepReduced_100 ?_
        obtain ⟨r2, hc2, h⟩ := z_bd_at h
        refine z_callSiR O (As := [.ref (z_ad Y q5), .int a6, .int (σ.1 q4 v8.toNatClampNeg)]) (rest := []) (kX6_hasPartIn hi h5 hc2) mX6_hasPartIn tw_541 (Nat.le_of_ble_eq_true rfl) rfl rfl (Nat.le_of_ble_eq_true rfl) dzX6_keepReduced_101 ?_
        refine z_if_ne O dzX6_keepReduced_104 (fun c1 => ?_) (fun c1 => ?_)
        · have h := z_if_f c1 h
          refine z_iinc O (lv' := [(8, .int (v8 + (1 : Int32))), (2, .int a2), (3, .int a3), (4, .ref (z_ad Y q4)), (5, .ref (z_ad Y q5)), (6, .int a6), (7, .int v7)]) dzX6_keepReduced_120 6 rfl (congrArg _ hcI1) (by decide) rfl ?_
          refine z_goto O dzX6_keepReduced_123 ?_
          refine z_sub [1, 2, 3, 4, 5, 6, 0] rfl ?_
          exact ih _ _ _ h
        · have h := z_if_t c1 h
          refine z_aload O dzX6_keepReduced_107 3 rfl ?_
          refine z_iload O dzX6_keepReduced_109 5 rfl ?_
          refine z_aload O dzX6_keepReduced_111 2 rfl ?_
          refine z_iload O dzX6_keepReduced_113 6 rfl ?_
          obtain ⟨g3, h⟩ := z_gd_at h
          refine z_iald O h4 g3 dzX6_keepReduced_115 ?_
          obtain ⟨g4, h⟩ := z_gd_at h
          refine z_iast O h5 g4 dzX6_keepReduced_116 ?_
          refine z_sig (fun w1 e1 => ?_)
          have h := z_lt_at e1 h
          refine z_iinc O (lv' := [(7, .int (v7 + (1 : Int32))), (2, .int a2), (3, .int a3), (4, .ref (z_ad Y q4)), (5, .ref (z_ad Y q5)), (6, .int a6), (8, .int v8)]) dzX6_keepReduced_117 5 rfl (congrArg _ hcI1) (by decide) rfl ?_
          refine z_iinc O (lv' := [(8, .int (v8 + (1 : Int32))), (7, .int (v7 + (1 : Int32))), (2, .int a2), (3, .int a3), (4, .ref (z_ad Y q4)), (5, .ref (z_ad Y q5)), (6, .int a6)]) dzX6_keepReduced_120 6 rfl (congrArg _ hcI1) (by decide) rfl ?_
          refine z_goto O dzX6_keepReduced_123 ?_
          refine z_sub [2, 3, 4, 5, 6, 1, 0] rfl ?_
          exact ih _ _ _ h
def fX6_keepReduced (σ : zS) (a1 : Int32) (a2 : Int32) (a3 : Int32) : Option (Int32 × zS) :=
  z_gd (z_in a1 13) (z_gd (z_in (a1 + (1 : Int32)) 13) (fX6_keepReduced_L24 a2 a3 (74 + a1.toNatClampNeg) (74 + (a1 + (1 : Int32)).toNatClampNeg) (fun (w1 : zS) (x1 : Int32) (x2 : Int32) => fX6_keepReduced_L74 a2 a3 (74 + a1.toNatClampNeg) (74 + (a1 + (1 : Int32)).toNatClampNeg) x1 (fun (w2 : zS) (x3 : Int32) (x4 : Int32) => some (x3, w2)) z_F w1 x1 (0 : Int32)) z_F σ (0 : Int32) (0 : Int32)))
theorem kX6_keepReduced {l : Launch} {Y : zY} (hi : z_inj ΛX Y) {σ : zS} {a1 : Int32} {a2 : Int32} {a3 : Int32} {fin : Int32 × zS} (h : fX6_keepReduced σ a1 a2 a3 = some fin) : Met l yX6_keepReduced (Cond.code yX6_keepReduced cX6_keepReduced 9 (some .int) :: z_TB) (z_rm 3) (z_Pc ΛX Y σ [.ref (z_ad Y 72), .int a1, .int a2, .int a3]) (z_Qi ΛX Y fin) 0 0 (z_A ΛX Y) := by
  unfold fX6_keepReduced at h
  refine z_met [(0, .ref (z_ad Y 72)), (1, .int a1), (2, .int a2), (3, .int a3)] rfl (Nat.le_of_ble_eq_true rfl) (plainFor_of_name (by decide)) hi ?_
  intro p e s m args below meth c O hr hlk
  refine z_aload_n O dzX6_keepReduced_0 rfl 0 rfl ?_
  refine z_get O z_cb6 fx_wlk (v := .ref (z_ad Y 73)) 0 (Nat.le_of_ble_eq_true rfl) tw_159 rfl dzX6_keepReduced_1 ?_
  refine z_iload_n O dzX6_keepReduced_4 rfl 1 rfl ?_
  obtain ⟨g1, h⟩ := z_gd_at h
  refine z_aald O fx_wrs rfl rfl g1 dzX6_keepReduced_5 ?_
  refine z_astore O (lv' := [(4, .ref (z_ad Y (74 + a1.toNatClampNeg))), (0, .ref (z_ad Y 72)), (1, .int a1), (2, .int a2), (3, .int a3)]) dzX6_keepReduced_6 (by decide) rfl ?_
  refine z_aload_n O dzX6_keepReduced_8 rfl 1 rfl ?_
  refine z_get O z_cb6 fx_wlk (v := .ref (z_ad Y 73)) 0 (Nat.le_of_ble_eq_true rfl) tw_159 rfl dzX6_keepReduced_9 ?_
  refine z_iload_n O dzX6_keepReduced_12 rfl 2 rfl ?_
  refine z_iconst O dzX6_keepReduced_13 hcI1 ?_
  refine z_iadd O dzX6_keepReduced_14 ?_
  obtain ⟨g2, h⟩ := z_gd_at h
  refine z_aald O fx_wrs rfl rfl g2 dzX6_keepReduced_15 ?_
  refine z_astore O (lv' := [(5, .ref (z_ad Y (74 + (a1 + (1 : Int32)).toNatClampNeg))), (4, .ref (z_ad Y (74 + a1.toNatClampNeg))), (0, .ref (z_ad Y 72)), (1, .int a1), (2, .int a2), (3, .int a3)]) dzX6_keepReduced_16 (by decide) rfl ?_
  refine z_iconst O dzX6_keepReduced_18 hcI0 ?_
  refine z_istore O (lv' := [(6, .int (0 : Int32)), (5, .ref (z_ad Y (74 + (a1 + (1 : Int32)).toNatClampNeg))), (4, .ref (z_ad Y (74 + a1.toNatClampNeg))), (0, .ref (z_ad Y 72)), (1, .int a1), (2, .int a2), (3, .int a3)]) dzX6_keepReduced_19 (by decide) rfl ?_
  refine z_iconst O dzX6_keepReduced_21 hcI0 ?_
  refine z_istore O (lv' := [(7, .int (0 : Int32)), (6, .int (0 : Int32)), (5, .ref (z_ad Y (74 + (a1 + (1 : Int32)).toNatClampNeg))), (4, .ref (z_ad Y (74 + a1.toNatClampNeg))), (0, .ref (z_ad Y 72)), (1, .int a1), (2, .int a2), (3, .int a3)]) dzX6_keepReduced_22 (by decide) rfl ?_
  refine z_sub [6, 7, 3, 2, 1, 0] rfl ?_
  refine kX6_keepReduced_L24 O hi hr hlk (h4 := (fx_wri g1)) (h5 := (fx_wri g2))  (fun w1 x1 x2 h => ?_) _ _ _ _ h
  refine z_iload O dzX6_keepReduced_67 4 rfl ?_
  refine z_istore O (lv' := [(7, .int x1), (2, .int a2), (3, .int a3), (4, .ref (z_ad Y (74 + a1.toNatClampNeg))), (5, .ref (z_ad Y (74 + (a1 + (1 : Int32)).toNatClampNeg))), (6, .int x1)]) dzX6_keepReduced_69 (by decide) rfl ?_
  refine z_iconst O dzX6_keepReduced_71 hcI0 ?_
  refine z_istore O (lv' := [(8, .int (0 : Int32)), (7, .int x1), (2, .int a2), (3, .int a3), (4, .ref (z_ad Y (74 + a1.toNatClampNeg))), (5, .ref (z_ad Y (74 + (a1 + (1 : Int32)).toNatClampNeg))), (6, .int x1)]) dzX6_keepReduced_72 (by decide) rfl ?_
  refine z_sub [2, 3, 4, 5, 6, 1, 0] rfl ?_
  refine kX6_keepReduced_L74 O hi hr hlk (h4 := (fx_wri g1)) (h5 := (fx_wri g2))  (fun w2 x3 x4 h => ?_) _ _ _ _ h
  refine z_iload O dzX6_keepReduced_126 5 rfl ?_
  exact z_iret O hr hlk dzX6_keepReduced_128 h
def fX6_keepWithout_L24 (a2 : Int32) (a3 : Int32) (q4 : Nat) (q5 : Nat) (k : zS → Int32 → Int32 → Option (Int32 × zS)) : Nat → zS → Int32 → Int32 → Option (Int32 × zS)
  | 0, _, _, _ => none
  | n + 1, σ, v6, v7 => (if a2 ≤ v7 then k σ v6 v7 else z_gd (z_in v7 40) ((fX7_hasPoint (σ.1 q4 v7.toNatClampNeg) a3).bind (fun r1 => (if r1 = 0 then z_gd (z_in v7 40) (z_gd (z_in v6 40) (z_lt (z_sI σ q5 v6.toNatClampNeg (σ.1 q4 v7.toNatClampNeg)) (fun (w1 : zS) => fX6_keepWithout_L24 a2 a3 q4 q5 k n w1 (v6 + (1 : Int32)) (v7 + (1 : Int32))))) else fX6_keepWithout_L24 a2 a3 q4 q5 k n σ v6 (v7 + (1 : Int32))))))
theorem kX6_keepWithout_L24 {l : Launch} {Y : zY} {fin : Int32 × zS} {p : Program} {e : Env} {s : State} {m : MethodId} {args : Array Value} {below : List Frame} {meth : Method} {c : Code} (O : z_ok ΛX Y p s m args c cX6_keepWithout RX6 8) (hi : z_inj ΛX Y) (hr : meth.sig.returnType = (some .int)) (hlk : meth.locks = false) {a2 : Int32} {a3 : Int32} {q4 : Nat} (h4 : z_FI ΛX q4 40) {q5 : Nat} (h5 : z_FI ΛX q5 40) {k : zS → Int32 → Int32 → Option (Int32 × zS)} (hk : ∀ (w : zS) (z6 : Int32) (z7 : Int32), k w z6 z7 = some fin → z_G p l e (z_rm 2) s m args below meth c (MQ below (z_Qi ΛX Y fin) args s 0 0 (z_A ΛX Y)) ΛX Y 8 w [(2, .int a2), (3, .int a3), (4, .ref (z_ad Y q4)), (5, .ref (z_ad Y q5)), (6, .int z6), (7, .int z7)] 61 []) : ∀ (n : Nat) (σ : zS) (v6 : Int32) (v7 : Int32), fX6_keepWithout_L24 a2 a3 q4 q5 k n σ v6 v7 = some fin → z_G p l e (z_rm 2) s m args below meth c (MQ below (z_Qi ΛX Y fin) args s 0 0 (z_A ΛX Y)) ΛX Y 8 σ [(2, .int a2), (3, .int a3), (4, .ref (z_ad Y q4)), (5, .ref (z_ad Y q5)), (6, .int v6), (7, .int v7)] 24 [] := by
  intro n
  induction n with
  | zero =>
    intro _ _ _ h
    cases h
  | succ n ih =>
    intro σ v6 v7 h
    rw [fX6_keepWithout_L24.eq_2] at h
    refine z_iload O dzX6_keepWithout_24 5 rfl ?_
    refine z_iload_n O dzX6_keepWithout_26 rfl 0 rfl ?_
    refine z_icmp_ge O dzX6_keepWithout_27 (fun c2 => ?_) (fun c2 => ?_)
    · have h := z_if_t c2 h
      exact hk _ _ _ h
    · have h := z_if_f c2 h
      refine z_aload O dzX6_keepWithout_30 2 rfl ?_
      refine z_iload O dzX6_keepWithout_32 5 rfl ?_
      obtain ⟨g1, h⟩ := z_gd_at h
      refine z_iald O h4 g1 dzX6_keepWithout_34 ?_
      refine z_iload_n O dzX6_keepWithout_35 rfl 1 rfl ?_
      obtain ⟨r1, hc1, h⟩ := z_bd_at h
      refine z_callNiR O (As := [.int (σ.1 q4 v7.toNatClampNeg), .int a3]) (rest := []) (kX7_hasPoint hi hc1) mX7_hasPoint (List.mem_of_getElem? (i := 4) rfl) (Nat.le_of_ble_eq_true rfl) rfl rfl (Nat.le_of_ble_eq_true rfl) dzX6_keepWithout_36 ?_
      refine z_if_ne O dzX6_keepWithout_39 (fun c1 => ?_) (fun c1 => ?_)
      · have h := z_if_f c1 h
        refine z_iinc O (lv' := [(7, .int (v7 + (1 : Int32))), (2, .int a2), (3, .int a3), (4, .ref (z_ad Y q4)), (5, .ref (z_ad Y q5)), (6, .int v6)]) dzX6_keepWithout_55 5 rfl (congrArg _ hcI1) (by decide) rfl ?_
        refine z_goto O dzX6_keepWithout_58 ?_
        refine z_sub [1, 2, 3, 4, 5, 0] rfl ?_
        exact ih _ _ _ h
      · have h := z_if_t c1 h
        refine z_aload O dzX6_keepWithout_42 3 rfl ?_
        refine z_iload O dzX6_keepWithout_44 4 rfl ?_
        refine z_aload O dzX6_keepWithout_46 2 rfl ?_
        refine z_iload O dzX6_keepWithout_48 5 rfl ?_
        obtain ⟨g2, h⟩ := z_gd_at h
        refine z_iald O h4 g2 dzX6_keepWithout_50 ?_
        obtain ⟨g3, h⟩ := z_gd_at h
        refine z_iast O h5 g3 dzX6_keepWithout_51 ?_
        refine z_sig (fun w1 e1 => ?_)
        have h := z_lt_at e1 h
        refine z_iinc O (lv' := [(6, .int (v6 + (1 : Int32))), (2, .int a2), (3, .int a3), (4, .ref (z_ad Y q4)), (5, .ref (z_ad Y q5)), (7, .int v7)]) dzX6_keepWithout_52 4 rfl (congrArg _ hcI1) (by decide) rfl ?_
        refine z_iinc O (lv' := [(7, .int (v7 + (1 : Int32))), (6, .int (v6 + (1 : Int32))), (2, .int a2), (3, .int a3), (4, .ref (z_ad Y q4)), (5, .ref (z_ad Y q5))]) dzX6_keepWithout_55 5 rfl (congrArg _ hcI1) (by decide) rfl ?_
        refine z_goto O dzX6_keepWithout_58 ?_
        refine z_sub [2, 3, 4, 5, 1, 0] rfl ?_
        exact ih _ _ _ h
def fX6_keepWithout (σ : zS) (a1 : Int32) (a2 : Int32) (a3 : Int32) : Option (Int32 × zS) :=
  z_gd (z_in a1 13) (z_gd (z_in (a1 + (1 : Int32)) 13) (fX6_keepWithout_L24 a2 a3 (74 + a1.toNatClampNeg) (74 + (a1 + (1 : Int32)).toNatClampNeg) (fun (w1 : zS) (x1 : Int32) (x2 : Int32) => some (x1, w1)) z_F σ (0 : Int32) (0 : Int32)))
theorem kX6_keepWithout {l : Launch} {Y : zY} (hi : z_inj ΛX Y) {σ : zS} {a1 : Int32} {a2 : Int32} {a3 : Int32} {fin : Int32 × zS} (h : fX6_keepWithout σ a1 a2 a3 = some fin) : Met l yX6_keepWithout (Cond.code yX6_keepWithout cX6_keepWithout 8 (some .int) :: z_TB) (z_rm 2) (z_Pc ΛX Y σ [.ref (z_ad Y 72), .int a1, .int a2, .int a3]) (z_Qi ΛX Y fin) 0 0 (z_A ΛX Y) := by
  unfold fX6_keepWithout at h
  refine z_met [(0, .ref (z_ad Y 72)), (1, .int a1), (2, .int a2), (3, .int a3)] rfl (Nat.le_of_ble_eq_true rfl) (plainFor_of_name (by decide)) hi ?_
  intro p e s m args below meth c O hr hlk
  refine z_aload_n O dzX6_keepWithout_0 rfl 0 rfl ?_
  refine z_get O z_cb6 fx_wlk (v := .ref (z_ad Y 73)) 0 (Nat.le_of_ble_eq_true rfl) tw_159 rfl dzX6_keepWithout_1 ?_
  refine z_iload_n O dzX6_keepWithout_4 rfl 1 rfl ?_
  obtain ⟨g1, h⟩ := z_gd_at h
  refine z_aald O fx_wrs rfl rfl g1 dzX6_keepWithout_5 ?_
  refine z_astore O (lv' := [(4, .ref (z_ad Y (74 + a1.toNatClampNeg))), (0, .ref (z_ad Y 72)), (1, .int a1), (2, .int a2), (3, .int a3)]) dzX6_keepWithout_6 (by decide) rfl ?_
  refine z_aload_n O dzX6_keepWithout_8 rfl 1 rfl ?_
  refine z_get O z_cb6 fx_wlk (v := .ref (z_ad Y 73)) 0 (Nat.le_of_ble_eq_true rfl) tw_159 rfl dzX6_keepWithout_9 ?_
  refine z_iload_n O dzX6_keepWithout_12 rfl 2 rfl ?_
  refine z_iconst O dzX6_keepWithout_13 hcI1 ?_
  refine z_iadd O dzX6_keepWithout_14 ?_
  obtain ⟨g2, h⟩ := z_gd_at h
  refine z_aald O fx_wrs rfl rfl g2 dzX6_keepWithout_15 ?_
  refine z_astore O (lv' := [(5, .ref (z_ad Y (74 + (a1 + (1 : Int32)).toNatClampNeg))), (4, .ref (z_ad Y (74 + a1.toNatClampNeg))), (0, .ref (z_ad Y 72)), (1, .int a1), (2, .int a2), (3, .int a3)]) dzX6_keepWithout_16 (by decide) rfl ?_
  refine z_iconst O dzX6_keepWithout_18 hcI0 ?_
  refine z_istore O (lv' := [(6, .int (0 : Int32)), (5, .ref (z_ad Y (74 + (a1 + (1 : Int32)).toNatClampNeg))), (4, .ref (z_ad Y (74 + a1.toNatClampNeg))), (0, .ref (z_ad Y 72)), (1, .int a1), (2, .int a2), (3, .int a3)]) dzX6_keepWithout_19 (by decide) rfl ?_
  refine z_iconst O dzX6_keepWithout_21 hcI0 ?_
  refine z_istore O (lv' := [(7, .int (0 : Int32)), (6, .int (0 : Int32)), (5, .ref (z_ad Y (74 + (a1 + (1 : Int32)).toNatClampNeg))), (4, .ref (z_ad Y (74 + a1.toNatClampNeg))), (0, .ref (z_ad Y 72)), (1, .int a1), (2, .int a2), (3, .int a3)]) dzX6_keepWithout_22 (by decide) rfl ?_
  refine z_sub [6, 7, 3, 2, 1, 0] rfl ?_
  refine kX6_keepWithout_L24 O hi hr hlk (h4 := (fx_wri g1)) (h5 := (fx_wri g2))  (fun w1 x1 x2 h => ?_) _ _ _ _ h
  refine z_iload O dzX6_keepWithout_61 4 rfl ?_
  exact z_iret O hr hlk dzX6_keepWithout_63 h
def fX7_topPoint_L20 (σ : zS) (q0 : Nat) (a1 : Int32) (a4 : Int32) (k : Int32 → Int32 → Option (Int32)) : Nat → Int32 → Int32 → Option (Int32)
  | 0, _, _ => none
  | n + 1, v5, v6 => (if a1 ≤ v6 then k v5 v6 else z_gd (z_in v6 40) (z_lt (v5 + (((σ.1 q0 v6.toNatClampNeg) >>> (a4 &&& 31)) &&& (1 : Int32))) (fun (x1 : Int32) => fX7_topPoint_L20 σ q0 a1 a4 k n x1 (v6 + (1 : Int32)))))
theorem kX7_topPoint_L20 {l : Launch} {Y : zY} {fin : Int32} {p : Program} {e : Env} {s : State} {m : MethodId} {args : Array Value} {below : List Frame} {meth : Method} {c : Code} {σ : zS} (O : z_ok ΛX Y p s m args c cX7_topPoint RX7 7) (hi : z_inj ΛX Y) (hr : meth.sig.returnType = (some .int)) (hlk : meth.locks = false) {q0 : Nat} (h0 : z_FI ΛX q0 40) {a1 : Int32} {b2 : Int32} {b3 : Int32} {a4 : Int32} {k : Int32 → Int32 → Option (Int32)} (hk : ∀ (z5 : Int32) (z6 : Int32), k z5 z6 = some fin → z_G p l e (z_rm 1) s m args below meth c (MQ below (z_Qi ΛX Y (fin, σ)) args s 0 0 (z_A ΛX Y)) ΛX Y 7 σ [(0, .ref (z_ad Y q0)), (1, .int a1), (2, .int b2), (3, .int b3), (4, .int a4), (5, .int z5), (6, .int z6)] 46 []) : ∀ (n : Nat) (v5 : Int32) (v6 : Int32), fX7_topPoint_L20 σ q0 a1 a4 k n v5 v6 = some fin → z_G p l e (z_rm 1) s m args below meth c (MQ below (z_Qi ΛX Y (fin, σ)) args s 0 0 (z_A ΛX Y)) ΛX Y 7 σ [(0, .ref (z_ad Y q0)), (1, .int a1), (2, .int b2), (3, .int b3), (4, .int a4), (5, .int v5), (6, .int v6)] 20 [] := by
  intro n
  induction n with
  | zero =>
    intro _ _ h
    cases h
  | succ n ih =>
    intro v5 v6 h
    rw [fX7_topPoint_L20.eq_2] at h
    refine z_iload O dzX7_topPoint_20 6 rfl ?_
    refine z_iload_n O dzX7_topPoint_22 rfl 1 rfl ?_
    refine z_icmp_ge O dzX7_topPoint_23 (fun c1 => ?_) (fun c1 => ?_)
    · have h := z_if_t c1 h
      exact hk _ _ h
    · have h := z_if_f c1 h
      refine z_iload O dzX7_topPoint_26 5 rfl ?_
      refine z_aload_n O dzX7_topPoint_28 rfl 0 rfl ?_
      refine z_iload O dzX7_topPoint_29 6 rfl ?_
      obtain ⟨g1, h⟩ := z_gd_at h
      refine z_iald O h0 g1 dzX7_topPoint_31 ?_
      refine z_iload O dzX7_topPoint_32 4 rfl ?_
      refine z_ishr O dzX7_topPoint_34 ?_
      refine z_iconst O dzX7_topPoint_35 hcI1 ?_
      refine z_iand O dzX7_topPoint_36 ?_
      refine z_iadd O dzX7_topPoint_37 ?_
      refine z_topi (fun x1 e1 => ?_)
      have h := z_lt_at e1 h
      refine z_istore O (lv' := [(5, .int x1), (0, .ref (z_ad Y q0)), (1, .int a1), (2, .int b2), (3, .int b3), (4, .int a4), (6, .int v6)]) dzX7_topPoint_38 (by decide) rfl ?_
      refine z_iinc O (lv' := [(6, .int (v6 + (1 : Int32))), (5, .int x1), (0, .ref (z_ad Y q0)), (1, .int a1), (2, .int b2), (3, .int b3), (4, .int a4)]) dzX7_topPoint_40 6 rfl (congrArg _ hcI1) (by decide) rfl ?_
      refine z_goto O dzX7_topPoint_43 ?_
      refine z_sub [2, 3, 4, 5, 6, 1, 0] rfl ?_
      exact ih _ _ h
def fX7_topPoint_L7 (σ : zS) (q0 : Nat) (a1 : Int32) (k : Int32 → Int32 → Int32 → Option (Int32)) : Nat → Int32 → Int32 → Int32 → Option (Int32)
  | 0, _, _, _ => none
  | n + 1, v2, v3, v4 => (if (12 : Int32) ≤ v4 then k v2 v3 v4 else fX7_topPoint_L20 σ q0 a1 v4 (fun (x1 : Int32) (x2 : Int32) => (if x1 ≤ v3 then fX7_topPoint_L7 σ q0 a1 k n v2 v3 (v4 + (1 : Int32)) else fX7_topPoint_L7 σ q0 a1 k n v4 x1 (v4 + (1 : Int32)))) z_F (0 : Int32) (0 : Int32))
theorem kX7_topPoint_L7 {l : Launch} {Y : zY} {fin : Int32} {p : Program} {e : Env} {s : State} {m : MethodId} {args : Array Value} {below : List Frame} {meth : Method} {c : Code} {σ : zS} (O : z_ok ΛX Y p s m args c cX7_topPoint RX7 7) (hi : z_inj ΛX Y) (hr : meth.sig.returnType = (some .int)) (hlk : meth.locks = false) {q0 : Nat} (h0 : z_FI ΛX q0 40) {a1 : Int32} {k : Int32 → Int32 → Int32 → Option (Int32)} (hk : ∀ (z2 : Int32) (z3 : Int32) (z4 : Int32), k z2 z3 z4 = some fin → z_G p l e (z_rm 1) s m args below meth c (MQ below (z_Qi ΛX Y (fin, σ)) args s 0 0 (z_A ΛX Y)) ΛX Y 7 σ [(0, .ref (z_ad Y q0)), (1, .int a1), (2, .int z2), (3, .int z3), (4, .int z4)] 64 []) : ∀ (n : Nat) (v2 : Int32) (v3 : Int32) (v4 : Int32), fX7_topPoint_L7 σ q0 a1 k n v2 v3 v4 = some fin → z_G p l e (z_rm 1) s m args below meth c (MQ below (z_Qi ΛX Y (fin, σ)) args s 0 0 (z_A ΛX Y)) ΛX Y 7 σ [(0, .ref (z_ad Y q0)), (1, .int a1), (2, .int v2), (3, .int v3), (4, .int v4)] 7 [] := by
  intro n
  induction n with
  | zero =>
    intro _ _ _ h
    cases h
  | succ n ih =>
    intro v2 v3 v4 h
    rw [fX7_topPoint_L7.eq_2] at h
    refine z_iload O dzX7_topPoint_7 4 rfl ?_
    refine z_bipush O dzX7_topPoint_9 hcB12 ?_
    refine z_icmp_ge O dzX7_topPoint_11 (fun c2 => ?_) (fun c2 => ?_)
    · have h := z_if_t c2 h
      exact hk _ _ _ h
    · have h := z_if_f c2 h
      refine z_iconst O dzX7_topPoint_14 hcI0 ?_
      refine z_istore O (lv' := [(5, .int (0 : Int32)), (0, .ref (z_ad Y q0)), (1, .int a1), (2, .int v2), (3, .int v3), (4, .int v4)]) dzX7_topPoint_15 (by decide) rfl ?_
      refine z_iconst O dzX7_topPoint_17 hcI0 ?_
      refine z_istore O (lv' := [(6, .int (0 : Int32)), (5, .int (0 : Int32)), (0, .ref (z_ad Y q0)), (1, .int a1), (2, .int v2), (3, .int v3), (4, .int v4)]) dzX7_topPoint_18 (by decide) rfl ?_
      refine z_sub [2, 3, 4, 5, 6, 1, 0] rfl ?_
      refine kX7_topPoint_L20 O hi hr hlk (h0 := h0)  (fun x1 x2 h => ?_) _ _ _ h
      refine z_iload O dzX7_topPoint_46 5 rfl ?_
      refine z_iload_n O dzX7_topPoint_48 rfl 3 rfl ?_
      refine z_icmp_le O dzX7_topPoint_49 (fun c1 => ?_) (fun c1 => ?_)
      · have h := z_if_t c1 h
        refine z_iinc O (lv' := [(4, .int (v4 + (1 : Int32))), (0, .ref (z_ad Y q0)), (1, .int a1), (2, .int v2), (3, .int v3), (5, .int x1), (6, .int x2)]) dzX7_topPoint_58 4 rfl (congrArg _ hcI1) (by decide) rfl ?_
        refine z_goto O dzX7_topPoint_61 ?_
        refine z_sub [1, 2, 3, 4, 0] rfl ?_
        exact ih _ _ _ h
      · have h := z_if_f c1 h
        refine z_iload O dzX7_topPoint_52 5 rfl ?_
        refine z_istore_n O (lv' := [(3, .int x1), (0, .ref (z_ad Y q0)), (1, .int a1), (2, .int v2), (4, .int v4), (5, .int x1), (6, .int x2)]) dzX7_topPoint_54 rfl (by decide) rfl ?_
        refine z_iload O dzX7_topPoint_55 4 rfl ?_
        refine z_istore_n O (lv' := [(2, .int v4), (3, .int x1), (0, .ref (z_ad Y q0)), (1, .int a1), (4, .int v4), (5, .int x1), (6, .int x2)]) dzX7_topPoint_57 rfl (by decide) rfl ?_
        refine z_iinc O (lv' := [(4, .int (v4 + (1 : Int32))), (2, .int v4), (3, .int x1), (0, .ref (z_ad Y q0)), (1, .int a1), (5, .int x1), (6, .int x2)]) dzX7_topPoint_58 4 rfl (congrArg _ hcI1) (by decide) rfl ?_
        refine z_goto O dzX7_topPoint_61 ?_
        refine z_sub [3, 4, 1, 2, 0] rfl ?_
        exact ih _ _ _ h
def fX7_topPoint (σ : zS) (p0 : Nat) (a1 : Int32) : Option (Int32) :=
  fX7_topPoint_L7 σ p0 a1 (fun (x1 : Int32) (x2 : Int32) (x3 : Int32) => some x1) z_F (-1 : Int32) (0 : Int32) (0 : Int32)
theorem kX7_topPoint {l : Launch} {Y : zY} (hi : z_inj ΛX Y) {σ : zS} {p0 : Nat} (h0 : z_FI ΛX p0 40) {a1 : Int32} {fin : Int32} (h : fX7_topPoint σ p0 a1 = some fin) : Met l yX7_topPoint (Cond.code yX7_topPoint cX7_topPoint 7 (some .int) :: z_TB) (z_rm 1) (z_Pc ΛX Y σ [.ref (z_ad Y p0), .int a1]) (z_Qi ΛX Y (fin, σ)) 0 0 (z_A ΛX Y) := by
  unfold fX7_topPoint at h
  refine z_met [(0, .ref (z_ad Y p0)), (1, .int a1)] rfl (Nat.le_of_ble_eq_true rfl) (plainFor_of_name (by decide)) hi ?_
  intro p e s m args below meth c O hr hlk
  refine z_iconst O dzX7_topPoint_0 hcIm1 ?_
  refine z_istore_n O (lv' := [(2, .int (-1 : Int32)), (0, .ref (z_ad Y p0)), (1, .int a1)]) dzX7_topPoint_1 rfl (by decide) rfl ?_
  refine z_iconst O dzX7_topPoint_2 hcI0 ?_
  refine z_istore_n O (lv' := [(3, .int (0 : Int32)), (2, .int (-1 : Int32)), (0, .ref (z_ad Y p0)), (1, .int a1)]) dzX7_topPoint_3 rfl (by decide) rfl ?_
  refine z_iconst O dzX7_topPoint_4 hcI0 ?_
  refine z_istore O (lv' := [(4, .int (0 : Int32)), (3, .int (0 : Int32)), (2, .int (-1 : Int32)), (0, .ref (z_ad Y p0)), (1, .int a1)]) dzX7_topPoint_5 (by decide) rfl ?_
  refine z_sub [3, 4, 2, 1, 0] rfl ?_
  refine kX7_topPoint_L7 O hi hr hlk (h0 := h0)  (fun x1 x2 x3 h => ?_) _ _ _ _ h
  refine z_iload_n O dzX7_topPoint_64 rfl 2 rfl ?_
  exact z_iret O hr hlk dzX7_topPoint_65 (z_rf h)
def fX6_visit : Nat → zS → Int32 → Int32 → Int32 → Option (zS)
  | 0, _, _, _, _ => none
  | d + 1, σ, a1, a2, a3 => (if (σ.1 72 5) = 0 then (if a1 ≤ (12 : Int32) then z_gd (z_in a1 13) ((fX7_topPoint σ (74 + a1.toNatClampNeg) a2).bind (fun r1 => z_jn (fun (x1 : Int32) => z_gd (z_bz x1) (z_lt (z_sI σ 72 5 x1) (fun (w1 : zS) => (if (w1.1 72 5) = 0 then z_lt (z_sI w1 72 2 ((w1.1 72 2) + (1 : Int32))) (fun (w2 : zS) => (fJ9_max_7cf53 (w2.1 72 3) a1).bind (fun r2 => z_lt (z_sI w2 72 3 r2) (fun (w3 : zS) => z_jn (fun (w4 : zS) => (if r1 = (-1 : Int32) then some w4 else (if a1 = (12 : Int32) then some w4 else (fX6_keepWithout w4 a1 a2 r1).bind (fun r3 => (fX6_visit d r3.2 (a1 + (1 : Int32)) r3.1 (a3 ||| ((1 : Int32) <<< (r1 &&& 31)))).bind (fun r4 => (fX6_keepReduced r4 a1 a2 r1).bind (fun r5 => (fX6_visit d r5.2 (a1 + (1 : Int32)) r5.1 a3).bind (fun r6 => some r6))))))) (fun j1 => (if a2 = 0 then z_lt (z_sI w3 72 4 ((w3.1 72 4) + (1 : Int32))) (fun (w5 : zS) => j1 w5) else j1 w3))))) else z_lt (z_sI w1 72 6 r1) (fun (w6 : zS) => z_lt (z_sI w6 72 7 a2) (fun (w7 : zS) => z_lt (z_sI w7 72 8 a1) (fun (w8 : zS) => z_lt (z_sI w8 72 9 a3) (fun (w9 : zS) => some w9)))))))) (fun j2 => (if (σ.1 72 2) = (σ.1 72 1) then j2 (1 : Int32) else j2 (0 : Int32))))) else some σ) else some σ)
theorem kX6_visit {l : Launch} {Y : zY} (hi : z_inj ΛX Y) : ∀ (d : Nat) {σ : zS} {a1 : Int32} {a2 : Int32} {a3 : Int32} {fin : zS} (h : fX6_visit d σ a1 a2 a3 = some fin), Met l yX6_visit (Cond.code yX6_visit cX6_visit 5 none :: z_TB) (z_rm (4 + d)) (z_Pc ΛX Y σ [.ref (z_ad Y 72), .int a1, .int a2, .int a3]) (z_Qv ΛX Y fin) 0 0 (z_A ΛX Y) := by
  intro d
  induction d with
  | zero =>
    intro σ a1 a2 a3 fin h
    cases h
  | succ d ih =>
    intro σ a1 a2 a3 fin h
    rw [fX6_visit.eq_2] at h
    refine z_met [(0, .ref (z_ad Y 72)), (1, .int a1), (2, .int a2), (3, .int a3)] rfl (Nat.le_of_ble_eq_true rfl) (plainFor_of_name (by decide)) hi ?_
    intro p e s m args below meth c O hr hlk
    refine z_aload_n O dzX6_visit_0 rfl 0 rfl ?_
    refine z_get O z_cb6 fx_wlk (v := .int (σ.1 72 5)) 5 (Nat.le_of_ble_eq_true rfl) tw_167 rfl dzX6_visit_1 ?_
    refine z_if_ne O dzX6_visit_4 (fun c7 => ?_) (fun c7 => ?_)
    · have h := z_if_f c7 h
      exact z_vret O hr hlk dzX6_visit_13 h
    · have h := z_if_t c7 h
      refine z_iload_n O dzX6_visit_7 rfl 1 rfl ?_
      refine z_bipush O dzX6_visit_8 hcB12 ?_
      refine z_icmp_le O dzX6_visit_10 (fun c6 => ?_) (fun c6 => ?_)
      · have h := z_if_t c6 h
        refine z_aload_n O dzX6_visit_14 rfl 0 rfl ?_
        refine z_get O z_cb6 fx_wlk (v := .ref (z_ad Y 73)) 0 (Nat.le_of_ble_eq_true rfl) tw_159 rfl dzX6_visit_15 ?_
        refine z_iload_n O dzX6_visit_18 rfl 1 rfl ?_
        obtain ⟨g1, h⟩ := z_gd_at h
        refine z_aald O fx_wrs rfl rfl g1 dzX6_visit_19 ?_
        refine z_iload_n O dzX6_visit_20 rfl 2 rfl ?_
        obtain ⟨r1, hc1, h⟩ := z_bd_at h
        refine z_callNiR O (As := [.ref (z_ad Y (74 + a1.toNatClampNeg)), .int a2]) (rest := []) (kX7_topPoint hi (fx_wri g1) hc1) mX7_topPoint (List.mem_of_getElem? (i := 3) rfl) (by omega) rfl rfl (Nat.le_of_ble_eq_true rfl) dzX6_visit_21 ?_
        refine z_istore O (lv' := [(4, .int r1), (0, .ref (z_ad Y 72)), (1, .int a1), (2, .int a2), (3, .int a3)]) dzX6_visit_24 (by decide) rfl ?_
        refine z_aload_n O dzX6_visit_26 rfl 1 rfl ?_
        refine z_aload_n O dzX6_visit_27 rfl 1 rfl ?_
        refine z_get O z_cb6 fx_wlk (v := .int (σ.1 72 2)) 2 (Nat.le_of_ble_eq_true rfl) tw_161 rfl dzX6_visit_28 ?_
        refine z_aload_n O dzX6_visit_31 rfl 1 rfl ?_
        refine z_get O z_cb6 fx_wlk (v := .int (σ.1 72 1)) 1 (Nat.le_of_ble_eq_true rfl) tw_160 rfl dzX6_visit_32 ?_
        refine z_jn_at (P := fun j2 => ∀ (x1 : Int32), j2 x1 = some fin → z_G p l e (z_rm (4 + d + 1)) s m args below meth c (MQ below (z_Qv ΛX Y fin) args s 0 0 (z_A ΛX Y)) ΛX Y 5 σ [(4, .int r1), (0, .ref (z_ad Y 72)), (1, .int a1), (2, .int a2), (3, .int a3)] 43 [.int x1, .ref (z_ad Y 72)]) h ?_ (fun j2 J2 h => ?_)
        · intro x1 h
          obtain ⟨g2, h⟩ := z_gd_at h
          refine z_put O z_cb6 fx_wlk 5 (Nat.le_of_ble_eq_true rfl) tw_167 rfl (z_bz_n g2) (z_bz_f g2) fp_W5 dzX6_visit_43 ?_
          refine z_sig (fun w1 e1 => ?_)
          have h := z_lt_at e1 h
          refine z_aload_n O dzX6_visit_46 rfl 1 rfl ?_
          refine z_get O z_cb6 fx_wlk (v := .int (w1.1 72 5)) 5 (Nat.le_of_ble_eq_true rfl) tw_167 rfl dzX6_visit_47 ?_
          refine z_if_eq O dzX6_visit_50 (fun c4 => ?_) (fun c4 => ?_)
          · have h := z_if_t c4 h
            refine z_aload_n O dzX6_visit_75 rfl 1 rfl ?_
            refine z_dup O dzX6_visit_76 rfl ?_
            refine z_get O z_cb6 fx_wlk (v := .int (w1.1 72 2)) 2 (Nat.le_of_ble_eq_true rfl) tw_161 rfl dzX6_visit_77 ?_
            refine z_iconst O dzX6_visit_80 hcI1 ?_
            refine z_iadd O dzX6_visit_81 ?_
            refine z_put O z_cb6 fx_wlk 2 (Nat.le_of_ble_eq_true rfl) tw_161 rfl rfl rfl fp_W2 dzX6_visit_82 ?_
            refine z_sig (fun w2 e2 => ?_)
            have h := z_lt_at e2 h
            refine z_aload_n O dzX6_visit_85 rfl 1 rfl ?_
            refine z_aload_n O dzX6_visit_86 rfl 1 rfl ?_
            refine z_get O z_cb6 fx_wlk (v := .int (w2.1 72 3)) 3 (Nat.le_of_ble_eq_true rfl) tw_163 rfl dzX6_visit_87 ?_
            refine z_iload_n O dzX6_visit_90 rfl 2 rfl ?_
            obtain ⟨r2, hc2, h⟩ := z_bd_at h
            refine z_callSiR O (As := [.int (w2.1 72 3), .int a1]) (rest := [.ref (z_ad Y 72)]) (kJ9_max_7cf53 hi hc2) mJ9_max_7cf53 tw_531 (by omega) rfl rfl (Nat.le_of_ble_eq_true rfl) dzX6_visit_91 ?_
            refine z_put O z_cb6 fx_wlk 3 (Nat.le_of_ble_eq_true rfl) tw_163 rfl rfl rfl fp_W3 dzX6_visit_94 ?_
            refine z_sig (fun w3 e3 => ?_)
            have h := z_lt_at e3 h
            refine z_iload_n O dzX6_visit_97 rfl 3 rfl ?_
            refine z_jn_at (P := fun j1 => ∀ (w4 : zS), j1 w4 = some fin → z_G p l e (z_rm (4 + d + 1)) s m args below meth c (MQ below (z_Qv ΛX Y fin) args s 0 0 (z_A ΛX Y)) ΛX Y 5 w4 [(4, .int r1), (0, .ref (z_ad Y 72)), (1, .int a1), (2, .int a2), (3, .int a3)] 111 []) h ?_ (fun j1 J1 h => ?_)
            · intro w4 h
              refine z_iload O dzX6_visit_111 0 rfl ?_
              refine z_iconst O dzX6_visit_113 hcIm1 ?_
              refine z_icmp_eq O dzX6_visit_114 (fun c2 => ?_) (fun c2 => ?_)
              · have h := z_if_t c2 h
                exact z_vret O hr hlk dzX6_visit_123 h
              · have h := z_if_f c2 h
                refine z_iload_n O dzX6_visit_117 rfl 2 rfl ?_
                refine z_bipush O dzX6_visit_118 hcB12 ?_
                refine z_icmp_ne O dzX6_visit_120 (fun c1 => ?_) (fun c1 => ?_)
                · have h := z_if_f c1 h
                  refine z_aload_n O dzX6_visit_124 rfl 1 rfl ?_
                  refine z_iload_n O dzX6_visit_125 rfl 2 rfl ?_
                  refine z_iconst O dzX6_visit_126 hcI1 ?_
                  refine z_iadd O dzX6_visit_127 ?_
                  refine z_aload_n O dzX6_visit_128 rfl 1 rfl ?_
                  refine z_iload_n O dzX6_visit_129 rfl 2 rfl ?_
                  refine z_iload_n O dzX6_visit_130 rfl 3 rfl ?_
                  refine z_iload O dzX6_visit_131 0 rfl ?_
                  obtain ⟨r3, hc3, h⟩ := z_bd_at h
                  refine z_callVi O (As := [.int a1, .int a2, .int r1]) (rest := [.int (a1 + (1 : Int32)), .ref (z_ad Y 72)]) (kX6_keepWithout hi hc3) mX6_keepWithout tw_532 (by omega) fx_wlk rfl rfl rfl rfl (Nat.le_of_ble_eq_true rfl) dzX6_visit_133 ?_
                  refine z_iload_n O dzX6_visit_136 rfl 4 rfl ?_
                  refine z_iconst O dzX6_visit_137 hcI1 ?_
                  refine z_iload O dzX6_visit_138 0 rfl ?_
                  refine z_ishl O dzX6_visit_140 ?_
                  refine z_ior O dzX6_visit_141 ?_
                  obtain ⟨r4, hc4, h⟩ := z_bd_at h
                  refine z_callVv O (As := [.int (a1 + (1 : Int32)), .int r3.1, .int (a3 ||| ((1 : Int32) <<< (r1 &&& 31)))]) (rest := []) (ih hc4) mX6_visit tw_526 (by omega) fx_wlk rfl rfl rfl rfl (Nat.le_of_ble_eq_true rfl) dzX6_visit_142 ?_
                  refine z_aload_n O dzX6_visit_145 rfl 1 rfl ?_
                  refine z_iload_n O dzX6_visit_146 rfl 2 rfl ?_
                  refine z_iconst O dzX6_visit_147 hcI1 ?_
                  refine z_iadd O dzX6_visit_148 ?_
                  refine z_aload_n O dzX6_visit_149 rfl 1 rfl ?_
                  refine z_iload_n O dzX6_visit_150 rfl 2 rfl ?_
                  refine z_iload_n O dzX6_visit_151 rfl 3 rfl ?_
                  refine z_iload O dzX6_visit_152 0 rfl ?_
                  obtain ⟨r5, hc5, h⟩ := z_bd_at h
                  refine z_callVi O (As := [.int a1, .int a2, .int r1]) (rest := [.int (a1 + (1 : Int32)), .ref (z_ad Y 72)]) (kX6_keepReduced hi hc5) mX6_keepReduced tw_537 (by omega) fx_wlk rfl rfl rfl rfl (Nat.le_of_ble_eq_true rfl) dzX6_visit_154 ?_
                  refine z_iload_n O dzX6_visit_157 rfl 4 rfl ?_
                  obtain ⟨r6, hc6, h⟩ := z_bd_at h
                  refine z_callVv O (As := [.int (a1 + (1 : Int32)), .int r5.1, .int a3]) (rest := []) (ih hc6) mX6_visit tw_526 (by omega) fx_wlk rfl rfl rfl rfl (Nat.le_of_ble_eq_true rfl) dzX6_visit_158 ?_
                  exact z_vret O hr hlk dzX6_visit_161 h
                · have h := z_if_t c1 h
                  exact z_vret O hr hlk dzX6_visit_123 h
            · refine z_if_ne O dzX6_visit_98 (fun c3 => ?_) (fun c3 => ?_)
              · have h := z_if_f c3 h
                exact J1 w3 h
              · have h := z_if_t c3 h
                refine z_aload_n O dzX6_visit_101 rfl 1 rfl ?_
                refine z_dup O dzX6_visit_102 rfl ?_
                refine z_get O z_cb6 fx_wlk (v := .int (w3.1 72 4)) 4 (Nat.le_of_ble_eq_true rfl) tw_165 rfl dzX6_visit_103 ?_
                refine z_iconst O dzX6_visit_106 hcI1 ?_
                refine z_iadd O dzX6_visit_107 ?_
                refine z_put O z_cb6 fx_wlk 4 (Nat.le_of_ble_eq_true rfl) tw_165 rfl rfl rfl fp_W4 dzX6_visit_108 ?_
                refine z_sig (fun w5 e4 => ?_)
                have h := z_lt_at e4 h
                exact J1 w5 h
          · have h := z_if_f c4 h
            refine z_aload_n O dzX6_visit_53 rfl 1 rfl ?_
            refine z_iload O dzX6_visit_54 0 rfl ?_
            refine z_put O z_cb6 fx_wlk 6 (Nat.le_of_ble_eq_true rfl) tw_169 rfl rfl rfl fp_W6 dzX6_visit_56 ?_
            refine z_sig (fun w6 e5 => ?_)
            have h := z_lt_at e5 h
            refine z_aload_n O dzX6_visit_59 rfl 1 rfl ?_
            refine z_iload_n O dzX6_visit_60 rfl 3 rfl ?_
            refine z_put O z_cb6 fx_wlk 7 (Nat.le_of_ble_eq_true rfl) tw_171 rfl rfl rfl fp_W7 dzX6_visit_61 ?_
            refine z_sig (fun w7 e6 => ?_)
            have h := z_lt_at e6 h
            refine z_aload_n O dzX6_visit_64 rfl 1 rfl ?_
            refine z_iload_n O dzX6_visit_65 rfl 2 rfl ?_
            refine z_put O z_cb6 fx_wlk 8 (Nat.le_of_ble_eq_true rfl) tw_173 rfl rfl rfl fp_W8 dzX6_visit_66 ?_
            refine z_sig (fun w8 e7 => ?_)
            have h := z_lt_at e7 h
            refine z_aload_n O dzX6_visit_69 rfl 1 rfl ?_
            refine z_iload_n O dzX6_visit_70 rfl 4 rfl ?_
            refine z_put O z_cb6 fx_wlk 9 (Nat.le_of_ble_eq_true rfl) tw_175 rfl rfl rfl fp_W9 dzX6_visit_71 ?_
            refine z_sig (fun w9 e8 => ?_)
            have h := z_lt_at e8 h
            exact z_vret O hr hlk dzX6_visit_74 h
        · refine z_icmp_ne O dzX6_visit_35 (fun c5 => ?_) (fun c5 => ?_)
          · have h := z_if_f c5 h
            refine z_iconst O dzX6_visit_42 hcI0 ?_
            exact J2 (0 : Int32) h
          · have h := z_if_t c5 h
            refine z_iconst O dzX6_visit_38 hcI1 ?_
            refine z_goto O dzX6_visit_39 ?_
            exact J2 (1 : Int32) h
      · have h := z_if_f c6 h
        exact z_vret O hr hlk dzX6_visit_13 h
def fX6_start_L30 (q1 : Nat) (k : zS → Int32 → Int32 → Option (zS)) : Nat → zS → Int32 → Int32 → Option (zS)
  | 0, _, _, _ => none
  | n + 1, σ, v3, v4 => (if (σ.1 q1 2) ≤ v4 then k σ v3 v4 else (fX1_hasPart σ q1 v4).bind (fun r1 => (if r1 = 0 then z_gd (z_in (0 : Int32) 13) (z_gd (z_in v4 40) (z_gd (z_in v3 40) (z_lt (z_sI σ (74 + (0 : Int32).toNatClampNeg) v3.toNatClampNeg (σ.1 (q1 + 9) v4.toNatClampNeg)) (fun (w1 : zS) => fX6_start_L30 q1 k n w1 (v3 + (1 : Int32)) (v4 + (1 : Int32)))))) else fX6_start_L30 q1 k n σ v3 (v4 + (1 : Int32)))))
theorem kX6_start_L30 {l : Launch} {Y : zY} {fin : zS} {p : Program} {e : Env} {s : State} {m : MethodId} {args : Array Value} {below : List Frame} {meth : Method} {c : Code} (O : z_ok ΛX Y p s m args c cX6_start RX6 5) (hi : z_inj ΛX Y) (hr : meth.sig.returnType = none) (hlk : meth.locks = false) {q1 : Nat} (h1 : z_fam q1) {k : zS → Int32 → Int32 → Option (zS)} (hk : ∀ (w : zS) (z3 : Int32) (z4 : Int32), k w z3 z4 = some fin → z_G p l e (z_rm 20) s m args below meth c (MQ below (z_Qv ΛX Y fin) args s 0 0 (z_A ΛX Y)) ΛX Y 5 w [(0, .ref (z_ad Y 72)), (1, .ref (z_ad Y q1)), (3, .int z3), (4, .int z4)] 72 []) : ∀ (n : Nat) (σ : zS) (v3 : Int32) (v4 : Int32), fX6_start_L30 q1 k n σ v3 v4 = some fin → z_G p l e (z_rm 20) s m args below meth c (MQ below (z_Qv ΛX Y fin) args s 0 0 (z_A ΛX Y)) ΛX Y 5 σ [(0, .ref (z_ad Y 72)), (1, .ref (z_ad Y q1)), (3, .int v3), (4, .int v4)] 30 [] := by
  intro n
  induction n with
  | zero =>
    intro _ _ _ h
    cases h
  | succ n ih =>
    intro σ v3 v4 h
    rw [fX6_start_L30.eq_2] at h
    refine z_iload O dzX6_start_30 3 rfl ?_
    refine z_aload_n O dzX6_start_32 rfl 1 rfl ?_
    refine z_get O z_cb1 (fx_fam h1) (v := .int (σ.1 q1 2)) 2 (Nat.le_of_ble_eq_true rfl) tw_47 rfl dzX6_start_33 ?_
    refine z_icmp_ge O dzX6_start_36 (fun c2 => ?_) (fun c2 => ?_)
    · have h := z_if_t c2 h
      exact hk _ _ _ h
    · have h := z_if_f c2 h
      refine z_aload_n O dzX6_start_39 rfl 1 rfl ?_
      refine z_iload O dzX6_start_40 3 rfl ?_
      obtain ⟨r1, hc1, h⟩ := z_bd_at h
      refine z_callViR O (As := [.int v4]) (rest := []) (kX1_hasPart hi h1 hc1) mX1_hasPart tw_525 (Nat.le_of_ble_eq_true rfl) (fx_fam h1) rfl rfl rfl rfl (Nat.le_of_ble_eq_true rfl) dzX6_start_42 ?_
      refine z_if_ne O dzX6_start_45 (fun c1 => ?_) (fun c1 => ?_)
      · have h := z_if_f c1 h
        refine z_iinc O (lv' := [(4, .int (v4 + (1 : Int32))), (0, .ref (z_ad Y 72)), (1, .ref (z_ad Y q1)), (3, .int v3)]) dzX6_start_66 3 rfl (congrArg _ hcI1) (by decide) rfl ?_
        refine z_goto O dzX6_start_69 ?_
        refine z_sub [1, 2, 3, 0] rfl ?_
        exact ih _ _ _ h
      · have h := z_if_t c1 h
        refine z_aload_n O dzX6_start_48 rfl 0 rfl ?_
        refine z_get O z_cb6 fx_wlk (v := .ref (z_ad Y 73)) 0 (Nat.le_of_ble_eq_true rfl) tw_159 rfl dzX6_start_49 ?_
        refine z_iconst O dzX6_start_52 hcI0 ?_
        obtain ⟨g1, h⟩ := z_gd_at h
        refine z_aald O fx_wrs rfl rfl g1 dzX6_start_53 ?_
        refine z_iload_n O dzX6_start_54 rfl 2 rfl ?_
        refine z_aload_n O dzX6_start_55 rfl 1 rfl ?_
        refine z_get O z_cb1 (fx_fam h1) (v := .ref (z_ad Y (q1 + 9))) 0 (Nat.le_of_ble_eq_true rfl) tw_40 rfl dzX6_start_56 ?_
        refine z_iload O dzX6_start_59 3 rfl ?_
        obtain ⟨g2, h⟩ := z_gd_at h
        refine z_iald O (fx_set h1) g2 dzX6_start_61 ?_
        obtain ⟨g3, h⟩ := z_gd_at h
        refine z_iast O (fx_wri g1) g3 dzX6_start_62 ?_
        refine z_sig (fun w1 e1 => ?_)
        have h := z_lt_at e1 h
        refine z_iinc O (lv' := [(3, .int (v3 + (1 : Int32))), (0, .ref (z_ad Y 72)), (1, .ref (z_ad Y q1)), (4, .int v4)]) dzX6_start_63 2 rfl (congrArg _ hcI1) (by decide) rfl ?_
        refine z_iinc O (lv' := [(4, .int (v4 + (1 : Int32))), (3, .int (v3 + (1 : Int32))), (0, .ref (z_ad Y 72)), (1, .ref (z_ad Y q1))]) dzX6_start_66 3 rfl (congrArg _ hcI1) (by decide) rfl ?_
        refine z_goto O dzX6_start_69 ?_
        refine z_sub [2, 3, 1, 0] rfl ?_
        exact ih _ _ _ h
def fX6_start (σ : zS) (p1 : Nat) (a2 : Int32) : Option (zS) :=
  z_lt (z_sI σ 72 1 a2) (fun (w1 : zS) => z_lt (z_sI w1 72 2 (0 : Int32)) (fun (w2 : zS) => z_lt (z_sI w2 72 3 (0 : Int32)) (fun (w3 : zS) => z_lt (z_sI w3 72 4 (0 : Int32)) (fun (w4 : zS) => z_lt (z_sI w4 72 5 (0 : Int32)) (fun (w5 : zS) => fX6_start_L30 p1 (fun (w6 : zS) (x1 : Int32) (x2 : Int32) => (fX6_visit 15 w6 (0 : Int32) x1 (0 : Int32)).bind (fun r1 => some r1)) z_F w5 (0 : Int32) (0 : Int32))))))
theorem kX6_start {l : Launch} {Y : zY} (hi : z_inj ΛX Y) {σ : zS} {p1 : Nat} (h1 : z_fam p1) {a2 : Int32} {fin : zS} (h : fX6_start σ p1 a2 = some fin) : Met l yX6_start (Cond.code yX6_start cX6_start 5 none :: z_TB) (z_rm 20) (z_Pc ΛX Y σ [.ref (z_ad Y 72), .ref (z_ad Y p1), .int a2]) (z_Qv ΛX Y fin) 0 0 (z_A ΛX Y) := by
  unfold fX6_start at h
  refine z_met [(0, .ref (z_ad Y 72)), (1, .ref (z_ad Y p1)), (2, .int a2)] rfl (Nat.le_of_ble_eq_true rfl) (plainFor_of_name (by decide)) hi ?_
  intro p e s m args below meth c O hr hlk
  refine z_aload_n O dzX6_start_0 rfl 0 rfl ?_
  refine z_iload_n O dzX6_start_1 rfl 2 rfl ?_
  refine z_put O z_cb6 fx_wlk 1 (Nat.le_of_ble_eq_true rfl) tw_160 rfl rfl rfl fp_W1 dzX6_start_2 ?_
  refine z_sig (fun w1 e1 => ?_)
  have h := z_lt_at e1 h
  refine z_aload_n O dzX6_start_5 rfl 0 rfl ?_
  refine z_iconst O dzX6_start_6 hcI0 ?_
  refine z_put O z_cb6 fx_wlk 2 (Nat.le_of_ble_eq_true rfl) tw_161 rfl rfl rfl fp_W2 dzX6_start_7 ?_
  refine z_sig (fun w2 e2 => ?_)
  have h := z_lt_at e2 h
  refine z_aload_n O dzX6_start_10 rfl 0 rfl ?_
  refine z_iconst O dzX6_start_11 hcI0 ?_
  refine z_put O z_cb6 fx_wlk 3 (Nat.le_of_ble_eq_true rfl) tw_163 rfl rfl rfl fp_W3 dzX6_start_12 ?_
  refine z_sig (fun w3 e3 => ?_)
  have h := z_lt_at e3 h
  refine z_aload_n O dzX6_start_15 rfl 0 rfl ?_
  refine z_iconst O dzX6_start_16 hcI0 ?_
  refine z_put O z_cb6 fx_wlk 4 (Nat.le_of_ble_eq_true rfl) tw_165 rfl rfl rfl fp_W4 dzX6_start_17 ?_
  refine z_sig (fun w4 e4 => ?_)
  have h := z_lt_at e4 h
  refine z_aload_n O dzX6_start_20 rfl 0 rfl ?_
  refine z_iconst O dzX6_start_21 hcI0 ?_
  refine z_put O z_cb6 fx_wlk 5 (Nat.le_of_ble_eq_true rfl) tw_167 rfl rfl rfl fp_W5 dzX6_start_22 ?_
  refine z_sig (fun w5 e5 => ?_)
  have h := z_lt_at e5 h
  refine z_iconst O dzX6_start_25 hcI0 ?_
  refine z_istore_n O (lv' := [(3, .int (0 : Int32)), (0, .ref (z_ad Y 72)), (1, .ref (z_ad Y p1)), (2, .int a2)]) dzX6_start_26 rfl (by decide) rfl ?_
  refine z_iconst O dzX6_start_27 hcI0 ?_
  refine z_istore O (lv' := [(4, .int (0 : Int32)), (3, .int (0 : Int32)), (0, .ref (z_ad Y 72)), (1, .ref (z_ad Y p1)), (2, .int a2)]) dzX6_start_28 (by decide) rfl ?_
  refine z_sub [2, 3, 1, 0] rfl ?_
  refine kX6_start_L30 O hi hr hlk (h1 := h1)  (fun w6 x1 x2 h => ?_) _ _ _ _ h
  refine z_aload_n O dzX6_start_72 rfl 0 rfl ?_
  refine z_iconst O dzX6_start_73 hcI0 ?_
  refine z_iload_n O dzX6_start_74 rfl 2 rfl ?_
  refine z_iconst O dzX6_start_75 hcI0 ?_
  obtain ⟨r1, hc1, h⟩ := z_bd_at h
  refine z_callVv O (As := [.int (0 : Int32), .int x1, .int (0 : Int32)]) (rest := []) (kX6_visit hi 15 hc1) mX6_visit tw_526 (Nat.le_of_ble_eq_true rfl) fx_wlk rfl rfl rfl rfl (Nat.le_of_ble_eq_true rfl) dzX6_start_76 ?_
  exact z_vret O hr hlk dzX6_start_79 h
