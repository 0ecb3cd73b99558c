def fX7_asksFirst (a0 : Int32) : Option (Int32) :=
  (if a0 ≤ (5 : Int32) then some (1 : Int32) else (if a0 = (8 : Int32) then some (1 : Int32) else some (0 : Int32)))
theorem kX7_asksFirst {l : Launch} {Y : zY} (hi : z_inj ΛX Y) {σ : zS} {a0 : Int32} {fin : Int32} (h : fX7_asksFirst a0 = some fin) : Met l yX7_asksFirst (Cond.code yX7_asksFirst cX7_asksFirst 1 (some .boolean) :: z_TB) (z_rm 1) (z_Pc ΛX Y σ [.int a0]) (z_Qi ΛX Y (fin, σ)) 0 0 (z_A ΛX Y) := by
  unfold fX7_asksFirst at h
  refine z_met [(0, .int a0)] rfl (Nat.le_of_ble_eq_true rfl) (plainFor_of_name (by decide)) hi ?_
  intro p e s m args below meth c O hr hlk
  refine z_iload_n O dzX7_asksFirst_0 rfl 0 rfl ?_
  refine z_iconst O dzX7_asksFirst_1 hcI5 ?_
  refine z_icmp_le O dzX7_asksFirst_2 (fun c2 => ?_) (fun c2 => ?_)
  · have h := z_if_t c2 h
    refine z_iconst O dzX7_asksFirst_11 hcI1 ?_
    refine z_goto O dzX7_asksFirst_12 ?_
    exact z_zret O hr hlk rfl dzX7_asksFirst_16 (z_rf h)
  · have h := z_if_f c2 h
    refine z_iload_n O dzX7_asksFirst_5 rfl 0 rfl ?_
    refine z_bipush O dzX7_asksFirst_6 hcB8 ?_
    refine z_icmp_ne O dzX7_asksFirst_8 (fun c1 => ?_) (fun c1 => ?_)
    · have h := z_if_f c1 h
      refine z_iconst O dzX7_asksFirst_15 hcI0 ?_
      exact z_zret O hr hlk rfl dzX7_asksFirst_16 (z_rf h)
    · have h := z_if_t c1 h
      refine z_iconst O dzX7_asksFirst_11 hcI1 ?_
      refine z_goto O dzX7_asksFirst_12 ?_
      exact z_zret O hr hlk rfl dzX7_asksFirst_16 (z_rf h)
def fX7_asksSecond (a0 : Int32) : Option (Int32) :=
  (if a0 = 0 then some (1 : Int32) else (if a0 = (1 : Int32) then some (1 : Int32) else (if a0 = (5 : Int32) then some (1 : Int32) else some (0 : Int32))))
theorem kX7_asksSecond {l : Launch} {Y : zY} (hi : z_inj ΛX Y) {σ : zS} {a0 : Int32} {fin : Int32} (h : fX7_asksSecond a0 = some fin) : Met l yX7_asksSecond (Cond.code yX7_asksSecond cX7_asksSecond 1 (some .boolean) :: z_TB) (z_rm 1) (z_Pc ΛX Y σ [.int a0]) (z_Qi ΛX Y (fin, σ)) 0 0 (z_A ΛX Y) := by
  unfold fX7_asksSecond at h
  refine z_met [(0, .int a0)] rfl (Nat.le_of_ble_eq_true rfl) (plainFor_of_name (by decide)) hi ?_
  intro p e s m args below meth c O hr hlk
  refine z_iload_n O dzX7_asksSecond_0 rfl 0 rfl ?_
  refine z_if_eq O dzX7_asksSecond_1 (fun c3 => ?_) (fun c3 => ?_)
  · have h := z_if_t c3 h
    refine z_iconst O dzX7_asksSecond_14 hcI1 ?_
    refine z_goto O dzX7_asksSecond_15 ?_
    exact z_zret O hr hlk rfl dzX7_asksSecond_19 (z_rf h)
  · have h := z_if_f c3 h
    refine z_iload_n O dzX7_asksSecond_4 rfl 0 rfl ?_
    refine z_iconst O dzX7_asksSecond_5 hcI1 ?_
    refine z_icmp_eq O dzX7_asksSecond_6 (fun c2 => ?_) (fun c2 => ?_)
    · have h := z_if_t c2 h
      refine z_iconst O dzX7_asksSecond_14 hcI1 ?_
      refine z_goto O dzX7_asksSecond_15 ?_
      exact z_zret O hr hlk rfl dzX7_asksSecond_19 (z_rf h)
    · have h := z_if_f c2 h
      refine z_iload_n O dzX7_asksSecond_9 rfl 0 rfl ?_
      refine z_iconst O dzX7_asksSecond_10 hcI5 ?_
      refine z_icmp_ne O dzX7_asksSecond_11 (fun c1 => ?_) (fun c1 => ?_)
      · have h := z_if_f c1 h
        refine z_iconst O dzX7_asksSecond_18 hcI0 ?_
        exact z_zret O hr hlk rfl dzX7_asksSecond_19 (z_rf h)
      · have h := z_if_t c1 h
        refine z_iconst O dzX7_asksSecond_14 hcI1 ?_
        refine z_goto O dzX7_asksSecond_15 ?_
        exact z_zret O hr hlk rfl dzX7_asksSecond_19 (z_rf h)
def fX7_isNoFamily (a0 : Int32) : Option (Int32) :=
  (if a0 < 0 then some (1 : Int32) else (if a0 < (4 : Int32) then some (0 : Int32) else some (1 : Int32)))
theorem kX7_isNoFamily {l : Launch} {Y : zY} (hi : z_inj ΛX Y) {σ : zS} {a0 : Int32} {fin : Int32} (h : fX7_isNoFamily a0 = some fin) : Met l yX7_isNoFamily (Cond.code yX7_isNoFamily cX7_isNoFamily 1 (some .boolean) :: z_TB) (z_rm 1) (z_Pc ΛX Y σ [.int a0]) (z_Qi ΛX Y (fin, σ)) 0 0 (z_A ΛX Y) := by
  unfold fX7_isNoFamily at h
  refine z_met [(0, .int a0)] rfl (Nat.le_of_ble_eq_true rfl) (plainFor_of_name (by decide)) hi ?_
  intro p e s m args below meth c O hr hlk
  refine z_iload_n O dzX7_isNoFamily_0 rfl 0 rfl ?_
  refine z_if_lt O dzX7_isNoFamily_1 (fun c2 => ?_) (fun c2 => ?_)
  · have h := z_if_t c2 h
    refine z_iconst O dzX7_isNoFamily_9 hcI1 ?_
    refine z_goto O dzX7_isNoFamily_10 ?_
    exact z_zret O hr hlk rfl dzX7_isNoFamily_14 (z_rf h)
  · have h := z_if_f c2 h
    refine z_iload_n O dzX7_isNoFamily_4 rfl 0 rfl ?_
    refine z_iconst O dzX7_isNoFamily_5 hcI4 ?_
    refine z_icmp_lt O dzX7_isNoFamily_6 (fun c1 => ?_) (fun c1 => ?_)
    · have h := z_if_t c1 h
      refine z_iconst O dzX7_isNoFamily_13 hcI0 ?_
      exact z_zret O hr hlk rfl dzX7_isNoFamily_14 (z_rf h)
    · have h := z_if_f c1 h
      refine z_iconst O dzX7_isNoFamily_9 hcI1 ?_
      refine z_goto O dzX7_isNoFamily_10 ?_
      exact z_zret O hr hlk rfl dzX7_isNoFamily_14 (z_rf h)
def fX7_at (σ : zS) (a1 : Int32) (a2 : Int32) : Option (Int32) :=
  (fX7_isNoFamily a1).bind (fun r1 => (if r1 = 0 then z_gd (z_in a1 4) ((if a2 < 0 then some (-12 : Int32) else (if a2 < (σ.1 (7 + a1.toNatClampNeg) 2) then z_gd (z_in a2 40) (some (σ.1 ((7 + a1.toNatClampNeg) + 9) a2.toNatClampNeg)) else some (-12 : Int32)))) else some (-2 : Int32)))
theorem kX7_at {l : Launch} {Y : zY} (hi : z_inj ΛX Y) {σ : zS} {a1 : Int32} {a2 : Int32} {fin : Int32} (h : fX7_at σ a1 a2 = some fin) : Met l yX7_at (Cond.code yX7_at cX7_at 4 (some .int) :: z_TB) (z_rm 2) (z_Pc ΛX Y σ [.ref (z_ad Y 0), .int a1, .int a2]) (z_Qi ΛX Y (fin, σ)) 0 0 (z_A ΛX Y) := by
  unfold fX7_at at h
  refine z_met [(0, .ref (z_ad Y 0)), (1, .int a1), (2, .int a2)] rfl (Nat.le_of_ble_eq_true rfl) (plainFor_of_name (by decide)) hi ?_
  intro p e s m args below meth c O hr hlk
  refine z_iload_n O dzX7_at_0 rfl 1 rfl ?_
  obtain ⟨r1, hc1, h⟩ := z_bd_at h
  refine z_callSiR O (As := [.int a1]) (rest := []) (kX7_isNoFamily hi hc1) mX7_isNoFamily tw_273 (Nat.le_of_ble_eq_true rfl) rfl rfl (Nat.le_of_ble_eq_true rfl) dzX7_at_1 ?_
  refine z_if_eq O dzX7_at_4 (fun c3 => ?_) (fun c3 => ?_)
  · have h := z_if_t c3 h
    refine z_aload_n O dzX7_at_10 rfl 0 rfl ?_
    refine z_get O z_cb7 fx_obj (v := .ref (z_ad Y 1)) 0 (Nat.le_of_ble_eq_true rfl) tw_213 rfl dzX7_at_11 ?_
    refine z_get O z_cb4 (fx_stk z_stk_1) (v := .ref (z_ad Y 5)) 1 (Nat.le_of_ble_eq_true rfl) tw_62 rfl dzX7_at_14 ?_
    refine z_iload_n O dzX7_at_17 rfl 1 rfl ?_
    obtain ⟨g1, h⟩ := z_gd_at h
    refine z_aald O fx_fms1 rfl rfl g1 dzX7_at_18 ?_
    refine z_astore_n O (lv' := [(3, .ref (z_ad Y (7 + a1.toNatClampNeg))), (0, .ref (z_ad Y 0)), (1, .int a1), (2, .int a2)]) dzX7_at_19 rfl (by decide) rfl ?_
    refine z_iload_n O dzX7_at_20 rfl 3 rfl ?_
    refine z_if_lt O dzX7_at_21 (fun c2 => ?_) (fun c2 => ?_)
    · have h := z_if_t c2 h
      refine z_bipush O dzX7_at_32 hcBm12 ?_
      refine z_goto O dzX7_at_34 ?_
      exact z_iret O hr hlk dzX7_at_43 (z_rf h)
    · have h := z_if_f c2 h
      refine z_iload_n O dzX7_at_24 rfl 3 rfl ?_
      refine z_aload_n O dzX7_at_25 rfl 0 rfl ?_
      refine z_get O z_cb1 (fx_fam (fx_fmi1 g1)) (v := .int (σ.1 (7 + a1.toNatClampNeg) 2)) 2 (Nat.le_of_ble_eq_true rfl) tw_50 rfl dzX7_at_26 ?_
      refine z_icmp_lt O dzX7_at_29 (fun c1 => ?_) (fun c1 => ?_)
      · have h := z_if_t c1 h
        refine z_aload_n O dzX7_at_37 rfl 0 rfl ?_
        refine z_get O z_cb1 (fx_fam (fx_fmi1 g1)) (v := .ref (z_ad Y ((7 + a1.toNatClampNeg) + 9))) 0 (Nat.le_of_ble_eq_true rfl) tw_42 rfl dzX7_at_38 ?_
        refine z_iload_n O dzX7_at_41 rfl 3 rfl ?_
        obtain ⟨g2, h⟩ := z_gd_at h
        refine z_iald O (fx_set (fx_fmi1 g1)) g2 dzX7_at_42 ?_
        exact z_iret O hr hlk dzX7_at_43 (z_rf h)
      · have h := z_if_f c1 h
        refine z_bipush O dzX7_at_32 hcBm12 ?_
        refine z_goto O dzX7_at_34 ?_
        exact z_iret O hr hlk dzX7_at_43 (z_rf h)
  · have h := z_if_f c3 h
    refine z_bipush O dzX7_at_7 hcBm2 ?_
    exact z_iret O hr hlk dzX7_at_9 (z_rf h)
def fX7_back (σ : zS) : Option (Int32 × zS) :=
  (if (σ.1 0 2) = 0 then some ((-3 : Int32), σ) else (fX4_become σ 1 2).bind (fun r1 => (fX0_forgetAll r1).bind (fun r2 => (fX4_heldInAll r2 1).bind (fun r3 => some (r3, r2)))))
theorem kX7_back {l : Launch} {Y : zY} (hi : z_inj ΛX Y) {σ : zS}  {fin : Int32 × zS} (h : fX7_back σ = some fin) : Met l yX7_back (Cond.code yX7_back cX7_back 1 (some .int) :: z_TB) (z_rm 3) (z_Pc ΛX Y σ [.ref (z_ad Y 0)]) (z_Qi ΛX Y fin) 0 0 (z_A ΛX Y) := by
  unfold fX7_back at h
  refine z_met [(0, .ref (z_ad Y 0))] rfl (Nat.le_of_ble_eq_true rfl) (plainFor_of_name (by decide)) hi ?_
  intro p e s m args below meth c O hr hlk
  refine z_aload_n O dzX7_back_0 rfl 0 rfl ?_
  refine z_get O z_cb7 fx_obj (v := .int (σ.1 0 2)) 2 (Nat.le_of_ble_eq_true rfl) tw_215 rfl dzX7_back_1 ?_
  refine z_if_ne O dzX7_back_4 (fun c1 => ?_) (fun c1 => ?_)
  · have h := z_if_f c1 h
    refine z_aload_n O dzX7_back_10 rfl 0 rfl ?_
    refine z_get O z_cb7 fx_obj (v := .ref (z_ad Y 1)) 0 (Nat.le_of_ble_eq_true rfl) tw_213 rfl dzX7_back_11 ?_
    refine z_aload_n O dzX7_back_14 rfl 0 rfl ?_
    refine z_get O z_cb7 fx_obj (v := .ref (z_ad Y 2)) 1 (Nat.le_of_ble_eq_true rfl) tw_214 rfl dzX7_back_15 ?_
    obtain ⟨r1, hc1, h⟩ := z_bd_at h
    refine z_callVv O (As := [.ref (z_ad Y 2)]) (rest := []) (kX4_become hi z_stk_1 z_stk_2 hc1) mX4_become tw_725 (Nat.le_of_ble_eq_true rfl) (fx_stk z_stk_1) rfl rfl rfl rfl (Nat.le_of_ble_eq_true rfl) dzX7_back_18 ?_
    refine z_aload_n O dzX7_back_21 rfl 0 rfl ?_
    refine z_get O z_cb7 fx_obj (v := .ref (z_ad Y 59)) 4 (Nat.le_of_ble_eq_true rfl) tw_217 rfl dzX7_back_22 ?_
    obtain ⟨r2, hc2, h⟩ := z_bd_at h
    refine z_callVv O (As := []) (rest := []) (kX0_forgetAll hi hc2) mX0_forgetAll tw_330 (Nat.le_of_ble_eq_true rfl) fx_act rfl rfl rfl rfl (Nat.le_of_ble_eq_true rfl) dzX7_back_25 ?_
    refine z_aload_n O dzX7_back_28 rfl 0 rfl ?_
    refine z_get O z_cb7 fx_obj (v := .ref (z_ad Y 1)) 0 (Nat.le_of_ble_eq_true rfl) tw_213 rfl dzX7_back_29 ?_
    obtain ⟨r3, hc3, h⟩ := z_bd_at h
    refine z_callViR O (As := []) (rest := []) (kX4_heldInAll hi z_stk_1 hc3) mX4_heldInAll tw_731 (Nat.le_of_ble_eq_true rfl) (fx_stk z_stk_1) rfl rfl rfl rfl (Nat.le_of_ble_eq_true rfl) dzX7_back_32 ?_
    exact z_iret O hr hlk dzX7_back_35 h
  · have h := z_if_t c1 h
    refine z_bipush O dzX7_back_7 hcBm3 ?_
    exact z_iret O hr hlk dzX7_back_9 h
def fX7_findDual (σ : zS) (p1 : Nat) : Option (zS) :=
  (fX5_becomeHitting σ 87 p1).bind (fun r1 => (fX5_becomeLeastOf r1 88 87).bind (fun r2 => some r2))
theorem kX7_findDual {l : Launch} {Y : zY} (hi : z_inj ΛX Y) {σ : zS} {p1 : Nat} (h1 : z_fam p1) {fin : zS} (h : fX7_findDual σ p1 = some fin) : Met l yX7_findDual (Cond.code yX7_findDual cX7_findDual 2 none :: z_TB) (z_rm 3) (z_Pc ΛX Y σ [.ref (z_ad Y 0), .ref (z_ad Y p1)]) (z_Qv ΛX Y fin) 0 0 (z_A ΛX Y) := by
  unfold fX7_findDual at h
  refine z_met [(0, .ref (z_ad Y 0)), (1, .ref (z_ad Y p1))] rfl (Nat.le_of_ble_eq_true rfl) (plainFor_of_name (by decide)) hi ?_
  intro p e s m args below meth c O hr hlk
  refine z_aload_n O dzX7_findDual_0 rfl 0 rfl ?_
  refine z_get O z_cb7 fx_obj (v := .ref (z_ad Y 87)) 8 (Nat.le_of_ble_eq_true rfl) tw_221 rfl dzX7_findDual_1 ?_
  refine z_aload_n O dzX7_findDual_4 rfl 1 rfl ?_
  obtain ⟨r1, hc1, h⟩ := z_bd_at h
  refine z_callVv O (As := [.ref (z_ad Y p1)]) (rest := []) (kX5_becomeHitting hi z_tab_87 h1 hc1) mX5_becomeHitting tw_400 (Nat.le_of_ble_eq_true rfl) (fx_tab z_tab_87) rfl rfl rfl rfl (Nat.le_of_ble_eq_true rfl) dzX7_findDual_5 ?_
  refine z_aload_n O dzX7_findDual_8 rfl 0 rfl ?_
  refine z_get O z_cb7 fx_obj (v := .ref (z_ad Y 88)) 9 (Nat.le_of_ble_eq_true rfl) tw_222 rfl dzX7_findDual_9 ?_
  refine z_aload_n O dzX7_findDual_12 rfl 0 rfl ?_
  refine z_get O z_cb7 fx_obj (v := .ref (z_ad Y 87)) 8 (Nat.le_of_ble_eq_true rfl) tw_221 rfl dzX7_findDual_13 ?_
  obtain ⟨r2, hc2, h⟩ := z_bd_at h
  refine z_callVv O (As := [.ref (z_ad Y 87)]) (rest := []) (kX5_becomeLeastOf hi z_tab_88 z_tab_87 hc2) mX5_becomeLeastOf tw_426 (Nat.le_of_ble_eq_true rfl) (fx_tab z_tab_88) rfl rfl rfl rfl (Nat.le_of_ble_eq_true rfl) dzX7_findDual_16 ?_
  exact z_vret O hr hlk dzX7_findDual_19 h
def fX7_isNoRule (σ : zS) (a1 : Int32) : Option (Int32) :=
  (if a1 < 0 then some (1 : Int32) else (if a1 < (σ.1 1 2) then some (0 : Int32) else some (1 : Int32)))
theorem kX7_isNoRule {l : Launch} {Y : zY} (hi : z_inj ΛX Y) {σ : zS} {a1 : Int32} {fin : Int32} (h : fX7_isNoRule σ a1 = some fin) : Met l yX7_isNoRule (Cond.code yX7_isNoRule cX7_isNoRule 2 (some .boolean) :: z_TB) (z_rm 1) (z_Pc ΛX Y σ [.ref (z_ad Y 0), .int a1]) (z_Qi ΛX Y (fin, σ)) 0 0 (z_A ΛX Y) := by
  unfold fX7_isNoRule at h
  refine z_met [(0, .ref (z_ad Y 0)), (1, .int a1)] rfl (Nat.le_of_ble_eq_true rfl) (plainFor_of_name (by decide)) hi ?_
  intro p e s m args below meth c O hr hlk
  refine z_iload_n O dzX7_isNoRule_0 rfl 1 rfl ?_
  refine z_if_lt O dzX7_isNoRule_1 (fun c2 => ?_) (fun c2 => ?_)
  · have h := z_if_t c2 h
    refine z_iconst O dzX7_isNoRule_15 hcI1 ?_
    refine z_goto O dzX7_isNoRule_16 ?_
    exact z_zret O hr hlk rfl dzX7_isNoRule_20 (z_rf h)
  · have h := z_if_f c2 h
    refine z_iload_n O dzX7_isNoRule_4 rfl 1 rfl ?_
    refine z_aload_n O dzX7_isNoRule_5 rfl 0 rfl ?_
    refine z_get O z_cb7 fx_obj (v := .ref (z_ad Y 1)) 0 (Nat.le_of_ble_eq_true rfl) tw_213 rfl dzX7_isNoRule_6 ?_
    refine z_get O z_cb4 (fx_stk z_stk_1) (v := .int (σ.1 1 2)) 2 (Nat.le_of_ble_eq_true rfl) tw_64 rfl dzX7_isNoRule_9 ?_
    refine z_icmp_lt O dzX7_isNoRule_12 (fun c1 => ?_) (fun c1 => ?_)
    · have h := z_if_t c1 h
      refine z_iconst O dzX7_isNoRule_19 hcI0 ?_
      exact z_zret O hr hlk rfl dzX7_isNoRule_20 (z_rf h)
    · have h := z_if_f c1 h
      refine z_iconst O dzX7_isNoRule_15 hcI1 ?_
      refine z_goto O dzX7_isNoRule_16 ?_
      exact z_zret O hr hlk rfl dzX7_isNoRule_20 (z_rf h)
def fX7_shifted (a0 : Int32) (a1 : Int32) : Option (Int32) :=
  (if a1 < 0 then some (a0 >>> ((-a1) &&& 31)) else some ((a0 <<< (a1 &&& 31)) &&& (4095 : Int32)))
theorem kX7_shifted {l : Launch} {Y : zY} (hi : z_inj ΛX Y) {σ : zS} {a0 : Int32} {a1 : Int32} {fin : Int32} (h : fX7_shifted a0 a1 = some fin) : Met l yX7_shifted (Cond.code yX7_shifted cX7_shifted 2 (some .int) :: z_TB) (z_rm 1) (z_Pc ΛX Y σ [.int a0, .int a1]) (z_Qi ΛX Y (fin, σ)) 0 0 (z_A ΛX Y) := by
  unfold fX7_shifted at h
  refine z_met [(0, .int a0), (1, .int a1)] rfl (Nat.le_of_ble_eq_true rfl) (plainFor_of_name (by decide)) hi ?_
  intro p e s m args below meth c O hr hlk
  refine z_iload_n O dzX7_shifted_0 rfl 1 rfl ?_
  refine z_if_lt O dzX7_shifted_1 (fun c1 => ?_) (fun c1 => ?_)
  · have h := z_if_t c1 h
    refine z_iload_n O dzX7_shifted_14 rfl 0 rfl ?_
    refine z_iload_n O dzX7_shifted_15 rfl 1 rfl ?_
    refine z_ineg O dzX7_shifted_16 ?_
    refine z_ishr O dzX7_shifted_17 ?_
    exact z_iret O hr hlk dzX7_shifted_18 (z_rf h)
  · have h := z_if_f c1 h
    refine z_iload_n O dzX7_shifted_4 rfl 0 rfl ?_
    refine z_iload_n O dzX7_shifted_5 rfl 1 rfl ?_
    refine z_ishl O dzX7_shifted_6 ?_
    refine z_sipush O dzX7_shifted_7 hcS4095 ?_
    refine z_iand O dzX7_shifted_10 ?_
    refine z_goto O dzX7_shifted_11 ?_
    exact z_iret O hr hlk dzX7_shifted_18 (z_rf h)
def fX7_dearest_L4 (σ : zS) (a0 : Int32) (q1 : Nat) (k : Int32 → Int32 → Option (Int32)) : Nat → Int32 → Int32 → Option (Int32)
  | 0, _, _ => none
  | n + 1, v2, v3 => (if (12 : Int32) ≤ v3 then k v2 v3 else (fX7_hasPoint a0 v3).bind (fun r1 => (if r1 = 0 then fX7_dearest_L4 σ a0 q1 k n v2 (v3 + (1 : Int32)) else z_gd (z_in v3 12) ((fJ9_max_7cf53 v2 (σ.1 q1 v3.toNatClampNeg)).bind (fun r2 => fX7_dearest_L4 σ a0 q1 k n r2 (v3 + (1 : Int32)))))))
theorem kX7_dearest_L4 {l : Launch} {Y : zY} {fin : Int32} {p : Program} {e : Env} {s : State} {m : MethodId} {args : Array Value} {below : List Frame} {meth : Method} {c : Code} {σ : zS} (O : z_ok ΛX Y p s m args c cX7_dearest RX7 4) (hi : z_inj ΛX Y) (hr : meth.sig.returnType = (some .int)) (hlk : meth.locks = false) {a0 : Int32} {q1 : Nat} (h1 : z_FI ΛX q1 12) {k : Int32 → Int32 → Option (Int32)} (hk : ∀ (z2 : Int32) (z3 : Int32), k z2 z3 = some fin → z_G p l e (z_rm 2) s m args below meth c (MQ below (z_Qi ΛX Y (fin, σ)) args s 0 0 (z_A ΛX Y)) ΛX Y 4 σ [(0, .int a0), (1, .ref (z_ad Y q1)), (2, .int z2), (3, .int z3)] 32 []) : ∀ (n : Nat) (v2 : Int32) (v3 : Int32), fX7_dearest_L4 σ a0 q1 k n v2 v3 = some fin → z_G p l e (z_rm 2) s m args below meth c (MQ below (z_Qi ΛX Y (fin, σ)) args s 0 0 (z_A ΛX Y)) ΛX Y 4 σ [(0, .int a0), (1, .ref (z_ad Y q1)), (2, .int v2), (3, .int v3)] 4 [] := by
  intro n
  induction n with
  | zero =>
    intro _ _ h
    cases h
  | succ n ih =>
    intro v2 v3 h
    rw [fX7_dearest_L4.eq_2] at h
    refine z_iload_n O dzX7_dearest_4 rfl 3 rfl ?_
    refine z_bipush O dzX7_dearest_5 hcB12 ?_
    refine z_icmp_ge O dzX7_dearest_7 (fun c2 => ?_) (fun c2 => ?_)
    · have h := z_if_t c2 h
      exact hk _ _ h
    · have h := z_if_f c2 h
      refine z_iload_n O dzX7_dearest_10 rfl 0 rfl ?_
      refine z_iload_n O dzX7_dearest_11 rfl 3 rfl ?_
      obtain ⟨r1, hc1, h⟩ := z_bd_at h
      refine z_callSiR O (As := [.int a0, .int v3]) (rest := []) (kX7_hasPoint hi hc1) mX7_hasPoint tw_646 (Nat.le_of_ble_eq_true rfl) rfl rfl (Nat.le_of_ble_eq_true rfl) dzX7_dearest_12 ?_
      refine z_if_eq O dzX7_dearest_15 (fun c1 => ?_) (fun c1 => ?_)
      · have h := z_if_t c1 h
        refine z_iinc O (lv' := [(3, .int (v3 + (1 : Int32))), (0, .int a0), (1, .ref (z_ad Y q1)), (2, .int v2)]) dzX7_dearest_26 3 rfl (congrArg _ hcI1) (by decide) rfl ?_
        refine z_goto O dzX7_dearest_29 ?_
        refine z_sub [1, 2, 3, 0] rfl ?_
        exact ih _ _ h
      · have h := z_if_f c1 h
        refine z_iload_n O dzX7_dearest_18 rfl 2 rfl ?_
        refine z_aload_n O dzX7_dearest_19 rfl 1 rfl ?_
        refine z_iload_n O dzX7_dearest_20 rfl 3 rfl ?_
        obtain ⟨g1, h⟩ := z_gd_at h
        refine z_iald O h1 g1 dzX7_dearest_21 ?_
        obtain ⟨r2, hc2, h⟩ := z_bd_at h
        refine z_callSiR O (As := [.int v2, .int (σ.1 q1 v3.toNatClampNeg)]) (rest := []) (kJ9_max_7cf53 hi hc2) mJ9_max_7cf53 tw_642 (Nat.le_of_ble_eq_true rfl) rfl rfl (Nat.le_of_ble_eq_true rfl) dzX7_dearest_22 ?_
        refine z_istore_n O (lv' := [(2, .int r2), (0, .int a0), (1, .ref (z_ad Y q1)), (3, .int v3)]) dzX7_dearest_25 rfl (by decide) rfl ?_
        refine z_iinc O (lv' := [(3, .int (v3 + (1 : Int32))), (2, .int r2), (0, .int a0), (1, .ref (z_ad Y q1))]) dzX7_dearest_26 3 rfl (congrArg _ hcI1) (by decide) rfl ?_
        refine z_goto O dzX7_dearest_29 ?_
        refine z_sub [2, 3, 1, 0] rfl ?_
        exact ih _ _ h
def fX7_dearest (σ : zS) (a0 : Int32) (p1 : Nat) : Option (Int32) :=
  fX7_dearest_L4 σ a0 p1 (fun (x1 : Int32) (x2 : Int32) => some x1) z_F (0 : Int32) (0 : Int32)
theorem kX7_dearest {l : Launch} {Y : zY} (hi : z_inj ΛX Y) {σ : zS} {a0 : Int32} {p1 : Nat} (h1 : z_FI ΛX p1 12) {fin : Int32} (h : fX7_dearest σ a0 p1 = some fin) : Met l yX7_dearest (Cond.code yX7_dearest cX7_dearest 4 (some .int) :: z_TB) (z_rm 2) (z_Pc ΛX Y σ [.int a0, .ref (z_ad Y p1)]) (z_Qi ΛX Y (fin, σ)) 0 0 (z_A ΛX Y) := by
  unfold fX7_dearest at h
  refine z_met [(0, .int a0), (1, .ref (z_ad Y p1))] rfl (Nat.le_of_ble_eq_true rfl) (plainFor_of_name (by decide)) hi ?_
  intro p e s m args below meth c O hr hlk
  refine z_iconst O dzX7_dearest_0 hcI0 ?_
  refine z_istore_n O (lv' := [(2, .int (0 : Int32)), (0, .int a0), (1, .ref (z_ad Y p1))]) dzX7_dearest_1 rfl (by decide) rfl ?_
  refine z_iconst O dzX7_dearest_2 hcI0 ?_
  refine z_istore_n O (lv' := [(3, .int (0 : Int32)), (2, .int (0 : Int32)), (0, .int a0), (1, .ref (z_ad Y p1))]) dzX7_dearest_3 rfl (by decide) rfl ?_
  refine z_sub [2, 3, 1, 0] rfl ?_
  refine kX7_dearest_L4 O hi hr hlk (h1 := h1)  (fun x1 x2 h => ?_) _ _ _ h
  refine z_iload_n O dzX7_dearest_32 rfl 2 rfl ?_
  exact z_iret O hr hlk dzX7_dearest_33 (z_rf h)
def fX7_priceOfAll_L4 (σ : zS) (a0 : Int32) (q1 : Nat) (k : Int32 → Int32 → Option (Int32)) : Nat → Int32 → Int32 → Option (Int32)
  | 0, _, _ => none
  | n + 1, v2, v3 => (if (12 : Int32) ≤ v3 then k v2 v3 else (fX7_hasPoint a0 v3).bind (fun r1 => (if r1 = 0 then fX7_priceOfAll_L4 σ a0 q1 k n v2 (v3 + (1 : Int32)) else z_gd (z_in v3 12) (z_lt (v2 + (σ.1 q1 v3.toNatClampNeg)) (fun (x1 : Int32) => fX7_priceOfAll_L4 σ a0 q1 k n x1 (v3 + (1 : Int32)))))))
theorem kX7_priceOfAll_L4 {l : Launch} {Y : zY} {fin : Int32} {p : Program} {e : Env} {s : State} {m : MethodId} {args : Array Value} {below : List Frame} {meth : Method} {c : Code} {σ : zS} (O : z_ok ΛX Y p s m args c cX7_priceOfAll RX7 4) (hi : z_inj ΛX Y) (hr : meth.sig.returnType = (some .int)) (hlk : meth.locks = false) {a0 : Int32} {q1 : Nat} (h1 : z_FI ΛX q1 12) {k : Int32 → Int32 → Option (Int32)} (hk : ∀ (z2 : Int32) (z3 : Int32), k z2 z3 = some fin → z_G p l e (z_rm 2) s m args below meth c (MQ below (z_Qi ΛX Y (fin, σ)) args s 0 0 (z_A ΛX Y)) ΛX Y 4 σ [(0, .int a0), (1, .ref (z_ad Y q1)), (2, .int z2), (3, .int z3)] 30 []) : ∀ (n : Nat) (v2 : Int32) (v3 : Int32), fX7_priceOfAll_L4 σ a0 q1 k n v2 v3 = some fin → z_G p l e (z_rm 2) s m args below meth c (MQ below (z_Qi ΛX Y (fin, σ)) args s 0 0 (z_A ΛX Y)) ΛX Y 4 σ [(0, .int a0), (1, .ref (z_ad Y q1)), (2, .int v2), (3, .int v3)] 4 [] := by
  intro n
  induction n with
  | zero =>
    intro _ _ h
    cases h
  | succ n ih =>
    intro v2 v3 h
    rw [fX7_priceOfAll_L4.eq_2] at h
    refine z_iload_n O dzX7_priceOfAll_4 rfl 3 rfl ?_
    refine z_bipush O dzX7_priceOfAll_5 hcB12 ?_
    refine z_icmp_ge O dzX7_priceOfAll_7 (fun c2 => ?_) (fun c2 => ?_)
    · have h := z_if_t c2 h
      exact hk _ _ h
    · have h := z_if_f c2 h
      refine z_iload_n O dzX7_priceOfAll_10 rfl 0 rfl ?_
      refine z_iload_n O dzX7_priceOfAll_11 rfl 3 rfl ?_
      obtain ⟨r1, hc1, h⟩ := z_bd_at h
      refine z_callSiR O (As := [.int a0, .int v3]) (rest := []) (kX7_hasPoint hi hc1) mX7_hasPoint tw_646 (Nat.le_of_ble_eq_true rfl) rfl rfl (Nat.le_of_ble_eq_true rfl) dzX7_priceOfAll_12 ?_
      refine z_if_eq O dzX7_priceOfAll_15 (fun c1 => ?_) (fun c1 => ?_)
      · have h := z_if_t c1 h
        refine z_iinc O (lv' := [(3, .int (v3 + (1 : Int32))), (0, .int a0), (1, .ref (z_ad Y q1)), (2, .int v2)]) dzX7_priceOfAll_24 3 rfl (congrArg _ hcI1) (by decide) rfl ?_
        refine z_goto O dzX7_priceOfAll_27 ?_
        refine z_sub [1, 2, 3, 0] rfl ?_
        exact ih _ _ h
      · have h := z_if_f c1 h
        refine z_iload_n O dzX7_priceOfAll_18 rfl 2 rfl ?_
        refine z_aload_n O dzX7_priceOfAll_19 rfl 1 rfl ?_
        refine z_iload_n O dzX7_priceOfAll_20 rfl 3 rfl ?_
        obtain ⟨g1, h⟩ := z_gd_at h
        refine z_iald O h1 g1 dzX7_priceOfAll_21 ?_
        refine z_iadd O dzX7_priceOfAll_22 ?_
        refine z_topi (fun x1 e1 => ?_)
        have h := z_lt_at e1 h
        refine z_istore_n O (lv' := [(2, .int x1), (0, .int a0), (1, .ref (z_ad Y q1)), (3, .int v3)]) dzX7_priceOfAll_23 rfl (by decide) rfl ?_
        refine z_iinc O (lv' := [(3, .int (v3 + (1 : Int32))), (2, .int x1), (0, .int a0), (1, .ref (z_ad Y q1))]) dzX7_priceOfAll_24 3 rfl (congrArg _ hcI1) (by decide) rfl ?_
        refine z_goto O dzX7_priceOfAll_27 ?_
        refine z_sub [2, 3, 1, 0] rfl ?_
        exact ih _ _ h
def fX7_priceOfAll (σ : zS) (a0 : Int32) (p1 : Nat) : Option (Int32) :=
  fX7_priceOfAll_L4 σ a0 p1 (fun (x1 : Int32) (x2 : Int32) => some x1) z_F (0 : Int32) (0 : Int32)
theorem kX7_priceOfAll {l : Launch} {Y : zY} (hi : z_inj ΛX Y) {σ : zS} {a0 : Int32} {p1 : Nat} (h1 : z_FI ΛX p1 12) {fin : Int32} (h : fX7_priceOfAll σ a0 p1 = some fin) : Met l yX7_priceOfAll (Cond.code yX7_priceOfAll cX7_priceOfAll 4 (some .int) :: z_TB) (z_rm 2) (z_Pc ΛX Y σ [.int a0, .ref (z_ad Y p1)]) (z_Qi ΛX Y (fin, σ)) 0 0 (z_A ΛX Y) := by
  unfold fX7_priceOfAll at h
  refine z_met [(0, .int a0), (1, .ref (z_ad Y p1))] rfl (Nat.le_of_ble_eq_true rfl) (plainFor_of_name (by decide)) hi ?_
  intro p e s m args below meth c O hr hlk
  refine z_iconst O dzX7_priceOfAll_0 hcI0 ?_
  refine z_istore_n O (lv' := [(2, .int (0 : Int32)), (0, .int a0), (1, .ref (z_ad Y p1))]) dzX7_priceOfAll_1 rfl (by decide) rfl ?_
  refine z_iconst O dzX7_priceOfAll_2 hcI0 ?_
  refine z_istore_n O (lv' := [(3, .int (0 : Int32)), (2, .int (0 : Int32)), (0, .int a0), (1, .ref (z_ad Y p1))]) dzX7_priceOfAll_3 rfl (by decide) rfl ?_
  refine z_sub [2, 3, 1, 0] rfl ?_
  refine kX7_priceOfAll_L4 O hi hr hlk (h1 := h1)  (fun x1 x2 h => ?_) _ _ _ h
  refine z_iload_n O dzX7_priceOfAll_30 rfl 2 rfl ?_
  exact z_iret O hr hlk dzX7_priceOfAll_31 (z_rf h)
def fX7_tellsAlone (σ : zS) (p1 : Nat) (a2 : Int32) : Option (Int32) :=
  (if (σ.1 p1 0) = 6 then (fX7_priceOfAll σ a2 (p1 + 12)).bind (fun r1 => some r1) else (if (σ.1 p1 0) = 7 then (fX7_isNoFamily (σ.1 p1 3)).bind (fun r2 => (if r2 = 0 then z_gd (z_in (σ.1 p1 3) 4) ((fX1_countMet σ (7 + (σ.1 p1 3).toNatClampNeg) a2).bind (fun r3 => some r3)) else some (0 : Int32))) else (if (σ.1 p1 0) = 8 then some a2 else (if (σ.1 p1 0) = 9 then (fJ6_bitCount_0f7a4 a2).bind (fun r4 => some r4) else (if (σ.1 p1 0) = 10 then (fX7_priceOfAll σ a2 3).bind (fun r5 => some r5) else (if (σ.1 p1 0) = 11 then (fX7_dearest σ a2 3).bind (fun r6 => some r6) else some a2))))))
theorem kX7_tellsAlone {l : Launch} {Y : zY} (hi : z_inj ΛX Y) {σ : zS} {p1 : Nat} (h1 : z_rul p1) {a2 : Int32} {fin : Int32} (h : fX7_tellsAlone σ p1 a2 = some fin) : Met l yX7_tellsAlone (Cond.code yX7_tellsAlone cX7_tellsAlone 3 (some .int) :: z_TB) (z_rm 3) (z_Pc ΛX Y σ [.ref (z_ad Y 0), .ref (z_ad Y p1), .int a2]) (z_Qi ΛX Y (fin, σ)) 0 0 (z_A ΛX Y) := by
  unfold fX7_tellsAlone at h
  refine z_met [(0, .ref (z_ad Y 0)), (1, .ref (z_ad Y p1)), (2, .int a2)] rfl (Nat.le_of_ble_eq_true rfl) (plainFor_of_name (by decide)) hi ?_
  intro p e s m args below meth c O hr hlk
  refine z_aload_n O dzX7_tellsAlone_0 rfl 1 rfl ?_
  refine z_get O z_cb2 (fx_rul h1) (v := .int (σ.1 p1 0)) 0 (Nat.le_of_ble_eq_true rfl) tw_80 rfl dzX7_tellsAlone_1 ?_
  by_cases c1 : (σ.1 p1 0) = 6
  · have h := z_if_t c1 h
    refine z_tabI O dzX7_tellsAlone_4 (x := (σ.1 p1 0)) (by rw [c1]; decide) (by rw [c1]; decide) (off := 40) (by rw [c1]; rfl) (tgt := 44) rfl ?_
    refine z_iload_n O dzX7_tellsAlone_44 rfl 2 rfl ?_
    refine z_aload_n O dzX7_tellsAlone_45 rfl 1 rfl ?_
    refine z_get O z_cb2 (fx_rul h1) (v := .ref (z_ad Y (p1 + 12))) 4 (Nat.le_of_ble_eq_true rfl) tw_88 rfl dzX7_tellsAlone_46 ?_
    obtain ⟨r1, hc1, h⟩ := z_bd_at h
    refine z_callSiR O (As := [.int a2, .ref (z_ad Y (p1 + 12))]) (rest := []) (kX7_priceOfAll hi (fx_rlp h1) hc1) mX7_priceOfAll tw_651 (Nat.le_of_ble_eq_true rfl) rfl rfl (Nat.le_of_ble_eq_true rfl) dzX7_tellsAlone_49 ?_
    exact z_iret O hr hlk dzX7_tellsAlone_52 (z_rf h)
  have h := z_if_f c1 h
  by_cases c2 : (σ.1 p1 0) = 7
  · have h := z_if_t c2 h
    refine z_tabI O dzX7_tellsAlone_4 (x := (σ.1 p1 0)) (by rw [c2]; decide) (by rw [c2]; decide) (off := 49) (by rw [c2]; rfl) (tgt := 53) rfl ?_
    refine z_aload_n O dzX7_tellsAlone_53 rfl 1 rfl ?_
    refine z_get O z_cb2 (fx_rul h1) (v := .int (σ.1 p1 3)) 3 (Nat.le_of_ble_eq_true rfl) tw_86 rfl dzX7_tellsAlone_54 ?_
    obtain ⟨r2, hc2, h⟩ := z_bd_at h
    refine z_callSiR O (As := [.int (σ.1 p1 3)]) (rest := []) (kX7_isNoFamily hi hc2) mX7_isNoFamily tw_273 (Nat.le_of_ble_eq_true rfl) rfl rfl (Nat.le_of_ble_eq_true rfl) dzX7_tellsAlone_57 ?_
    refine z_if_eq O dzX7_tellsAlone_60 (fun c3 => ?_) (fun c3 => ?_)
    · have h := z_if_t c3 h
      refine z_aload_n O dzX7_tellsAlone_67 rfl 0 rfl ?_
      refine z_get O z_cb7 fx_obj (v := .ref (z_ad Y 1)) 0 (Nat.le_of_ble_eq_true rfl) tw_213 rfl dzX7_tellsAlone_68 ?_
      refine z_get O z_cb4 (fx_stk z_stk_1) (v := .ref (z_ad Y 5)) 1 (Nat.le_of_ble_eq_true rfl) tw_62 rfl dzX7_tellsAlone_71 ?_
      refine z_aload_n O dzX7_tellsAlone_74 rfl 1 rfl ?_
      refine z_get O z_cb2 (fx_rul h1) (v := .int (σ.1 p1 3)) 3 (Nat.le_of_ble_eq_true rfl) tw_86 rfl dzX7_tellsAlone_75 ?_
      obtain ⟨g1, h⟩ := z_gd_at h
      refine z_aald O fx_fms1 rfl rfl g1 dzX7_tellsAlone_78 ?_
      refine z_iload_n O dzX7_tellsAlone_79 rfl 2 rfl ?_
      obtain ⟨r3, hc3, h⟩ := z_bd_at h
      refine z_callViR O (As := [.int a2]) (rest := []) (kX1_countMet hi (fx_fmi1 g1) hc3) mX1_countMet tw_654 (Nat.le_of_ble_eq_true rfl) (fx_fam (fx_fmi1 g1)) rfl rfl rfl rfl (Nat.le_of_ble_eq_true rfl) dzX7_tellsAlone_80 ?_
      exact z_iret O hr hlk dzX7_tellsAlone_83 (z_rf h)
    · have h := z_if_f c3 h
      refine z_iconst O dzX7_tellsAlone_63 hcI0 ?_
      refine z_goto O dzX7_tellsAlone_64 ?_
      exact z_iret O hr hlk dzX7_tellsAlone_83 (z_rf h)
  have h := z_if_f c2 h
  by_cases c4 : (σ.1 p1 0) = 8
  · have h := z_if_t c4 h
    refine z_tabI O dzX7_tellsAlone_4 (x := (σ.1 p1 0)) (by rw [c4]; decide) (by rw [c4]; decide) (off := 109) (by rw [c4]; rfl) (tgt := 113) rfl ?_
    refine z_iload_n O dzX7_tellsAlone_113 rfl 2 rfl ?_
    exact z_iret O hr hlk dzX7_tellsAlone_114 (z_rf h)
  have h := z_if_f c4 h
  by_cases c5 : (σ.1 p1 0) = 9
  · have h := z_if_t c5 h
    refine z_tabI O dzX7_tellsAlone_4 (x := (σ.1 p1 0)) (by rw [c5]; decide) (by rw [c5]; decide) (off := 80) (by rw [c5]; rfl) (tgt := 84) rfl ?_
    refine z_iload_n O dzX7_tellsAlone_84 rfl 2 rfl ?_
    obtain ⟨r4, hc4, h⟩ := z_bd_at h
    refine z_callSiR O (As := [.int a2]) (rest := []) (kJ6_bitCount_0f7a4 hi hc4) mJ6_bitCount_0f7a4 tw_594 (Nat.le_of_ble_eq_true rfl) rfl rfl (Nat.le_of_ble_eq_true rfl) dzX7_tellsAlone_85 ?_
    exact z_iret O hr hlk dzX7_tellsAlone_88 (z_rf h)
  have h := z_if_f c5 h
  by_cases c6 : (σ.1 p1 0) = 10
  · have h := z_if_t c6 h
    refine z_tabI O dzX7_tellsAlone_4 (x := (σ.1 p1 0)) (by rw [c6]; decide) (by rw [c6]; decide) (off := 85) (by rw [c6]; rfl) (tgt := 89) rfl ?_
    refine z_iload_n O dzX7_tellsAlone_89 rfl 2 rfl ?_
    refine z_aload_n O dzX7_tellsAlone_90 rfl 0 rfl ?_
    refine z_get O z_cb7 fx_obj (v := .ref (z_ad Y 1)) 0 (Nat.le_of_ble_eq_true rfl) tw_213 rfl dzX7_tellsAlone_91 ?_
    refine z_get O z_cb4 (fx_stk z_stk_1) (v := .ref (z_ad Y 3)) 0 (Nat.le_of_ble_eq_true rfl) tw_60 rfl dzX7_tellsAlone_94 ?_
    obtain ⟨r5, hc5, h⟩ := z_bd_at h
    refine z_callSiR O (As := [.int a2, .ref (z_ad Y 3)]) (rest := []) (kX7_priceOfAll hi (fx_pri z_stk_1) hc5) mX7_priceOfAll tw_651 (Nat.le_of_ble_eq_true rfl) rfl rfl (Nat.le_of_ble_eq_true rfl) dzX7_tellsAlone_97 ?_
    exact z_iret O hr hlk dzX7_tellsAlone_100 (z_rf h)
  have h := z_if_f c6 h
  by_cases c7 : (σ.1 p1 0) = 11
  · have h := z_if_t c7 h
    refine z_tabI O dzX7_tellsAlone_4 (x := (σ.1 p1 0)) (by rw [c7]; decide) (by rw [c7]; decide) (off := 97) (by rw [c7]; rfl) (tgt := 101) rfl ?_
    refine z_iload_n O dzX7_tellsAlone_101 rfl 2 rfl ?_
    refine z_aload_n O dzX7_tellsAlone_102 rfl 0 rfl ?_
    refine z_get O z_cb7 fx_obj (v := .ref (z_ad Y 1)) 0 (Nat.le_of_ble_eq_true rfl) tw_213 rfl dzX7_tellsAlone_103 ?_
    refine z_get O z_cb4 (fx_stk z_stk_1) (v := .ref (z_ad Y 3)) 0 (Nat.le_of_ble_eq_true rfl) tw_60 rfl dzX7_tellsAlone_106 ?_
    obtain ⟨r6, hc6, h⟩ := z_bd_at h
    refine z_callSiR O (As := [.int a2, .ref (z_ad Y 3)]) (rest := []) (kX7_dearest hi (fx_pri z_stk_1) hc6) mX7_dearest tw_655 (Nat.le_of_ble_eq_true rfl) rfl rfl (Nat.le_of_ble_eq_true rfl) dzX7_tellsAlone_109 ?_
    exact z_iret O hr hlk dzX7_tellsAlone_112 (z_rf h)
  have h := z_if_f c7 h
  have qc1 := z_ne (z := 6) rfl c1
  have qc2 := z_ne (z := 7) rfl c2
  have qc4 := z_ne (z := 8) rfl c4
  have qc5 := z_ne (z := 9) rfl c5
  have qc6 := z_ne (z := 10) rfl c6
  have qc7 := z_ne (z := 11) rfl c7
  refine z_tabO O dzX7_tellsAlone_4 (by omega) (tgt := 113) rfl ?_
  refine z_iload_n O dzX7_tellsAlone_113 rfl 2 rfl ?_
  exact z_iret O hr hlk dzX7_tellsAlone_114 (z_rf h)
def fX7_tellsByParts (rc : zS → Int32 → Int32 → Int32 → Option (Int32 × zS)) (σ : zS) (p1 : Nat) (a2 : Int32) (a3 : Int32) : Option (Int32 × zS) :=
  (if (σ.1 p1 0) = 0 then (rc σ (σ.1 p1 1) a2 (a3 + (1 : Int32))).bind (fun r1 => (rc r1.2 (r1.2.1 p1 2) a2 (a3 + (1 : Int32))).bind (fun r2 => some ((r1.1 + r2.1), r2.2))) else (if (σ.1 p1 0) = 1 then (rc σ (σ.1 p1 1) a2 (a3 + (1 : Int32))).bind (fun r3 => (rc r3.2 (r3.2.1 p1 2) a2 (a3 + (1 : Int32))).bind (fun r4 => (fJ9_max_7cf53 r3.1 r4.1).bind (fun r5 => some (r5, r4.2)))) else (if (σ.1 p1 0) = 2 then (rc σ (σ.1 p1 1) a2 (a3 + (1 : Int32))).bind (fun r6 => some (((σ.1 p1 3) * r6.1), r6.2)) else (if (σ.1 p1 0) = 3 then (rc σ (σ.1 p1 1) (a2 &&& (((1 : Int32) <<< ((σ.1 p1 3) &&& 31)) ^^^ (-1 : Int32))) (a3 + (1 : Int32))).bind (fun r7 => some (r7.1, r7.2)) else (if (σ.1 p1 0) = 4 then (fX7_shifted a2 (σ.1 p1 3)).bind (fun r8 => (rc σ (σ.1 p1 1) r8 (a3 + (1 : Int32))).bind (fun r9 => some (r9.1, r9.2))) else (if (σ.1 p1 0) = 5 then (fX7_hasPoint a2 (σ.1 p1 3)).bind (fun r10 => (if r10 = 0 then (rc σ (σ.1 p1 2) a2 (a3 + (1 : Int32))).bind (fun r11 => some (r11.1, r11.2)) else (rc σ (σ.1 p1 1) a2 (a3 + (1 : Int32))).bind (fun r12 => some (r12.1, r12.2)))) else (if (σ.1 p1 0) = 6 then (fX7_tellsAlone σ p1 a2).bind (fun r13 => some (r13, σ)) else (if (σ.1 p1 0) = 7 then (fX7_tellsAlone σ p1 a2).bind (fun r14 => some (r14, σ)) else (if (σ.1 p1 0) = 8 then (rc σ (σ.1 p1 1) ((4095 : Int32) &&& (a2 ^^^ (-1 : Int32))) (a3 + (1 : Int32))).bind (fun r15 => some (r15.1, r15.2)) else (fX7_tellsAlone σ p1 a2).bind (fun r16 => some (r16, σ)))))))))))
theorem kX7_tellsByParts {l : Launch} {Y : zY} (hi : z_inj ΛX Y) {d : Nat} {rc : zS → Int32 → Int32 → Int32 → Option (Int32 × zS)} (ih : ∀ {σ : zS} {a1 a2 a3 : Int32} {fin : Int32 × zS}, rc σ a1 a2 a3 = some fin → Met l yX7_tells (Cond.code yX7_tells cX7_tells 5 (some .int) :: z_TB) (z_rm (6 + 2 * d)) (z_Pc ΛX Y σ [.ref (z_ad Y 0), .int a1, .int a2, .int a3]) (z_Qi ΛX Y fin) 0 0 (z_A ΛX Y)) {σ : zS} {p1 : Nat} (h1 : z_rul p1) {a2 : Int32} {a3 : Int32} {fin : Int32 × zS} (h : fX7_tellsByParts rc σ p1 a2 a3 = some fin) : Met l yX7_tellsByParts (Cond.code yX7_tellsByParts cX7_tellsByParts 4 (some .int) :: z_TB) (z_rm (6 + 2 * d + 1)) (z_Pc ΛX Y σ [.ref (z_ad Y 0), .ref (z_ad Y p1), .int a2, .int a3]) (z_Qi ΛX Y fin) 0 0 (z_A ΛX Y) := by
  unfold fX7_tellsByParts at h
  refine z_met [(0, .ref (z_ad Y 0)), (1, .ref (z_ad Y p1)), (2, .int a2), (3, .int a3)] rfl (Nat.le_of_ble_eq_true rfl) (plainFor_of_name (by decide)) hi ?_
  intro p e s m args below meth c O hr hlk
  refine z_aload_n O dzX7_tellsByParts_0 rfl 1 rfl ?_
  refine z_get O z_cb2 (fx_rul h1) (v := .int (σ.1 p1 0)) 0 (Nat.le_of_ble_eq_true rfl) tw_80 rfl dzX7_tellsByParts_1 ?_
  by_cases c1 : (σ.1 p1 0) = 0
  · have h := z_if_t c1 h
    refine z_tabI O dzX7_tellsByParts_4 (x := (σ.1 p1 0)) (by rw [c1]; decide) (by rw [c1]; decide) (off := 52) (by rw [c1]; rfl) (tgt := 56) rfl ?_
    refine z_aload_n O dzX7_tellsByParts_56 rfl 0 rfl ?_
    refine z_aload_n O dzX7_tellsByParts_57 rfl 1 rfl ?_
    refine z_get O z_cb2 (fx_rul h1) (v := .int (σ.1 p1 1)) 1 (Nat.le_of_ble_eq_true rfl) tw_82 rfl dzX7_tellsByParts_58 ?_
    refine z_iload_n O dzX7_tellsByParts_61 rfl 2 rfl ?_
    refine z_iload_n O dzX7_tellsByParts_62 rfl 3 rfl ?_
    refine z_iconst O dzX7_tellsByParts_63 hcI1 ?_
    refine z_iadd O dzX7_tellsByParts_64 ?_
    obtain ⟨r1, hc1, h⟩ := z_bd_at h
    refine z_callVi O (As := [.int (σ.1 p1 1), .int a2, .int (a3 + (1 : Int32))]) (rest := []) (ih hc1) mX7_tells tw_634 (by omega) fx_obj rfl rfl rfl rfl (Nat.le_of_ble_eq_true rfl) dzX7_tellsByParts_65 ?_
    refine z_aload_n O dzX7_tellsByParts_68 rfl 0 rfl ?_
    refine z_aload_n O dzX7_tellsByParts_69 rfl 1 rfl ?_
    refine z_get O z_cb2 (fx_rul h1) (v := .int (r1.2.1 p1 2)) 2 (Nat.le_of_ble_eq_true rfl) tw_84 rfl dzX7_tellsByParts_70 ?_
    refine z_iload_n O dzX7_tellsByParts_73 rfl 2 rfl ?_
    refine z_iload_n O dzX7_tellsByParts_74 rfl 3 rfl ?_
    refine z_iconst O dzX7_tellsByParts_75 hcI1 ?_
    refine z_iadd O dzX7_tellsByParts_76 ?_
    obtain ⟨r2, hc2, h⟩ := z_bd_at h
    refine z_callVi O (As := [.int (r1.2.1 p1 2), .int a2, .int (a3 + (1 : Int32))]) (rest := [.int r1.1]) (ih hc2) mX7_tells tw_634 (by omega) fx_obj rfl rfl rfl rfl (Nat.le_of_ble_eq_true rfl) dzX7_tellsByParts_77 ?_
    refine z_iadd O dzX7_tellsByParts_80 ?_
    exact z_iret O hr hlk dzX7_tellsByParts_81 h
  have h := z_if_f c1 h
  by_cases c2 : (σ.1 p1 0) = 1
  · have h := z_if_t c2 h
    refine z_tabI O dzX7_tellsByParts_4 (x := (σ.1 p1 0)) (by rw [c2]; decide) (by rw [c2]; decide) (off := 78) (by rw [c2]; rfl) (tgt := 82) rfl ?_
    refine z_aload_n O dzX7_tellsByParts_82 rfl 0 rfl ?_
    refine z_aload_n O dzX7_tellsByParts_83 rfl 1 rfl ?_
    refine z_get O z_cb2 (fx_rul h1) (v := .int (σ.1 p1 1)) 1 (Nat.le_of_ble_eq_true rfl) tw_82 rfl dzX7_tellsByParts_84 ?_
    refine z_iload_n O dzX7_tellsByParts_87 rfl 2 rfl ?_
    refine z_iload_n O dzX7_tellsByParts_88 rfl 3 rfl ?_
    refine z_iconst O dzX7_tellsByParts_89 hcI1 ?_
    refine z_iadd O dzX7_tellsByParts_90 ?_
    obtain ⟨r3, hc3, h⟩ := z_bd_at h
    refine z_callVi O (As := [.int (σ.1 p1 1), .int a2, .int (a3 + (1 : Int32))]) (rest := []) (ih hc3) mX7_tells tw_634 (by omega) fx_obj rfl rfl rfl rfl (Nat.le_of_ble_eq_true rfl) dzX7_tellsByParts_91 ?_
    refine z_aload_n O dzX7_tellsByParts_94 rfl 0 rfl ?_
    refine z_aload_n O dzX7_tellsByParts_95 rfl 1 rfl ?_
    refine z_get O z_cb2 (fx_rul h1) (v := .int (r3.2.1 p1 2)) 2 (Nat.le_of_ble_eq_true rfl) tw_84 rfl dzX7_tellsByParts_96 ?_
    refine z_iload_n O dzX7_tellsByParts_99 rfl 2 rfl ?_
    refine z_iload_n O dzX7_tellsByParts_100 rfl 3 rfl ?_
    refine z_iconst O dzX7_tellsByParts_101 hcI1 ?_
    refine z_iadd O dzX7_tellsByParts_102 ?_
    obtain ⟨r4, hc4, h⟩ := z_bd_at h
    refine z_callVi O (As := [.int (r3.2.1 p1 2), .int a2, .int (a3 + (1 : Int32))]) (rest := [.int r3.1]) (ih hc4) mX7_tells tw_634 (by omega) fx_obj rfl rfl rfl rfl (Nat.le_of_ble_eq_true rfl) dzX7_tellsByParts_103 ?_
    obtain ⟨r5, hc5, h⟩ := z_bd_at h
    refine z_callSiR O (As := [.int r3.1, .int r4.1]) (rest := []) (kJ9_max_7cf53 hi hc5) mJ9_max_7cf53 tw_642 (by omega) rfl rfl (Nat.le_of_ble_eq_true rfl) dzX7_tellsByParts_106 ?_
    exact z_iret O hr hlk dzX7_tellsByParts_109 h
  have h := z_if_f c2 h
  by_cases c3 : (σ.1 p1 0) = 2
  · have h := z_if_t c3 h
    refine z_tabI O dzX7_tellsByParts_4 (x := (σ.1 p1 0)) (by rw [c3]; decide) (by rw [c3]; decide) (off := 106) (by rw [c3]; rfl) (tgt := 110) rfl ?_
    refine z_aload_n O dzX7_tellsByParts_110 rfl 1 rfl ?_
    refine z_get O z_cb2 (fx_rul h1) (v := .int (σ.1 p1 3)) 3 (Nat.le_of_ble_eq_true rfl) tw_86 rfl dzX7_tellsByParts_111 ?_
    refine z_aload_n O dzX7_tellsByParts_114 rfl 0 rfl ?_
    refine z_aload_n O dzX7_tellsByParts_115 rfl 1 rfl ?_
    refine z_get O z_cb2 (fx_rul h1) (v := .int (σ.1 p1 1)) 1 (Nat.le_of_ble_eq_true rfl) tw_82 rfl dzX7_tellsByParts_116 ?_
    refine z_iload_n O dzX7_tellsByParts_119 rfl 2 rfl ?_
    refine z_iload_n O dzX7_tellsByParts_120 rfl 3 rfl ?_
    refine z_iconst O dzX7_tellsByParts_121 hcI1 ?_
    refine z_iadd O dzX7_tellsByParts_122 ?_
    obtain ⟨r6, hc6, h⟩ := z_bd_at h
    refine z_callVi O (As := [.int (σ.1 p1 1), .int a2, .int (a3 + (1 : Int32))]) (rest := [.int (σ.1 p1 3)]) (ih hc6) mX7_tells tw_634 (by omega) fx_obj rfl rfl rfl rfl (Nat.le_of_ble_eq_true rfl) dzX7_tellsByParts_123 ?_
    refine z_imul O dzX7_tellsByParts_126 ?_
    exact z_iret O hr hlk dzX7_tellsByParts_127 h
  have h := z_if_f c3 h
  by_cases c4 : (σ.1 p1 0) = 3
  · have h := z_if_t c4 h
    refine z_tabI O dzX7_tellsByParts_4 (x := (σ.1 p1 0)) (by rw [c4]; decide) (by rw [c4]; decide) (off := 124) (by rw [c4]; rfl) (tgt := 128) rfl ?_
    refine z_aload_n O dzX7_tellsByParts_128 rfl 0 rfl ?_
    refine z_aload_n O dzX7_tellsByParts_129 rfl 1 rfl ?_
    refine z_get O z_cb2 (fx_rul h1) (v := .int (σ.1 p1 1)) 1 (Nat.le_of_ble_eq_true rfl) tw_82 rfl dzX7_tellsByParts_130 ?_
    refine z_iload_n O dzX7_tellsByParts_133 rfl 2 rfl ?_
    refine z_iconst O dzX7_tellsByParts_134 hcI1 ?_
    refine z_aload_n O dzX7_tellsByParts_135 rfl 1 rfl ?_
    refine z_get O z_cb2 (fx_rul h1) (v := .int (σ.1 p1 3)) 3 (Nat.le_of_ble_eq_true rfl) tw_86 rfl dzX7_tellsByParts_136 ?_
    refine z_ishl O dzX7_tellsByParts_139 ?_
    refine z_iconst O dzX7_tellsByParts_140 hcIm1 ?_
    refine z_ixor O dzX7_tellsByParts_141 ?_
    refine z_iand O dzX7_tellsByParts_142 ?_
    refine z_iload_n O dzX7_tellsByParts_143 rfl 3 rfl ?_
    refine z_iconst O dzX7_tellsByParts_144 hcI1 ?_
    refine z_iadd O dzX7_tellsByParts_145 ?_
    obtain ⟨r7, hc7, h⟩ := z_bd_at h
    refine z_callVi O (As := [.int (σ.1 p1 1), .int (a2 &&& (((1 : Int32) <<< ((σ.1 p1 3) &&& 31)) ^^^ (-1 : Int32))), .int (a3 + (1 : Int32))]) (rest := []) (ih hc7) mX7_tells tw_634 (by omega) fx_obj rfl rfl rfl rfl (Nat.le_of_ble_eq_true rfl) dzX7_tellsByParts_146 ?_
    exact z_iret O hr hlk dzX7_tellsByParts_149 h
  have h := z_if_f c4 h
  by_cases c5 : (σ.1 p1 0) = 4
  · have h := z_if_t c5 h
    refine z_tabI O dzX7_tellsByParts_4 (x := (σ.1 p1 0)) (by rw [c5]; decide) (by rw [c5]; decide) (off := 146) (by rw [c5]; rfl) (tgt := 150) rfl ?_
    refine z_aload_n O dzX7_tellsByParts_150 rfl 0 rfl ?_
    refine z_aload_n O dzX7_tellsByParts_151 rfl 1 rfl ?_
    refine z_get O z_cb2 (fx_rul h1) (v := .int (σ.1 p1 1)) 1 (Nat.le_of_ble_eq_true rfl) tw_82 rfl dzX7_tellsByParts_152 ?_
    refine z_iload_n O dzX7_tellsByParts_155 rfl 2 rfl ?_
    refine z_aload_n O dzX7_tellsByParts_156 rfl 1 rfl ?_
    refine z_get O z_cb2 (fx_rul h1) (v := .int (σ.1 p1 3)) 3 (Nat.le_of_ble_eq_true rfl) tw_86 rfl dzX7_tellsByParts_157 ?_
    obtain ⟨r8, hc8, h⟩ := z_bd_at h
    refine z_callSiR O (As := [.int a2, .int (σ.1 p1 3)]) (rest := [.int (σ.1 p1 1), .ref (z_ad Y 0)]) (kX7_shifted hi hc8) mX7_shifted tw_643 (by omega) rfl rfl (Nat.le_of_ble_eq_true rfl) dzX7_tellsByParts_160 ?_
    refine z_iload_n O dzX7_tellsByParts_163 rfl 3 rfl ?_
    refine z_iconst O dzX7_tellsByParts_164 hcI1 ?_
    refine z_iadd O dzX7_tellsByParts_165 ?_
    obtain ⟨r9, hc9, h⟩ := z_bd_at h
    refine z_callVi O (As := [.int (σ.1 p1 1), .int r8, .int (a3 + (1 : Int32))]) (rest := []) (ih hc9) mX7_tells tw_634 (by omega) fx_obj rfl rfl rfl rfl (Nat.le_of_ble_eq_true rfl) dzX7_tellsByParts_166 ?_
    exact z_iret O hr hlk dzX7_tellsByParts_169 h
  have h := z_if_f c5 h
  by_cases c6 : (σ.1 p1 0) = 5
  · have h := z_if_t c6 h
    refine z_tabI O dzX7_tellsByParts_4 (x := (σ.1 p1 0)) (by rw [c6]; decide) (by rw [c6]; decide) (off := 166) (by rw [c6]; rfl) (tgt := 170) rfl ?_
    refine z_aload_n O dzX7_tellsByParts_170 rfl 0 rfl ?_
    refine z_iload_n O dzX7_tellsByParts_171 rfl 2 rfl ?_
    refine z_aload_n O dzX7_tellsByParts_172 rfl 1 rfl ?_
    refine z_get O z_cb2 (fx_rul h1) (v := .int (σ.1 p1 3)) 3 (Nat.le_of_ble_eq_true rfl) tw_86 rfl dzX7_tellsByParts_173 ?_
    obtain ⟨r10, hc10, h⟩ := z_bd_at h
    refine z_callSiR O (As := [.int a2, .int (σ.1 p1 3)]) (rest := [.ref (z_ad Y 0)]) (kX7_hasPoint hi hc10) mX7_hasPoint tw_646 (by omega) rfl rfl (Nat.le_of_ble_eq_true rfl) dzX7_tellsByParts_176 ?_
    refine z_if_eq O dzX7_tellsByParts_179 (fun c7 => ?_) (fun c7 => ?_)
    · have h := z_if_t c7 h
      refine z_aload_n O dzX7_tellsByParts_189 rfl 1 rfl ?_
      refine z_get O z_cb2 (fx_rul h1) (v := .int (σ.1 p1 2)) 2 (Nat.le_of_ble_eq_true rfl) tw_84 rfl dzX7_tellsByParts_190 ?_
      refine z_iload_n O dzX7_tellsByParts_193 rfl 2 rfl ?_
      refine z_iload_n O dzX7_tellsByParts_194 rfl 3 rfl ?_
      refine z_iconst O dzX7_tellsByParts_195 hcI1 ?_
      refine z_iadd O dzX7_tellsByParts_196 ?_
      obtain ⟨r11, hc11, h⟩ := z_bd_at h
      refine z_callVi O (As := [.int (σ.1 p1 2), .int a2, .int (a3 + (1 : Int32))]) (rest := []) (ih hc11) mX7_tells tw_634 (by omega) fx_obj rfl rfl rfl rfl (Nat.le_of_ble_eq_true rfl) dzX7_tellsByParts_197 ?_
      exact z_iret O hr hlk dzX7_tellsByParts_200 h
    · have h := z_if_f c7 h
      refine z_aload_n O dzX7_tellsByParts_182 rfl 1 rfl ?_
      refine z_get O z_cb2 (fx_rul h1) (v := .int (σ.1 p1 1)) 1 (Nat.le_of_ble_eq_true rfl) tw_82 rfl dzX7_tellsByParts_183 ?_
      refine z_goto O dzX7_tellsByParts_186 ?_
      refine z_iload_n O dzX7_tellsByParts_193 rfl 2 rfl ?_
      refine z_iload_n O dzX7_tellsByParts_194 rfl 3 rfl ?_
      refine z_iconst O dzX7_tellsByParts_195 hcI1 ?_
      refine z_iadd O dzX7_tellsByParts_196 ?_
      obtain ⟨r12, hc12, h⟩ := z_bd_at h
      refine z_callVi O (As := [.int (σ.1 p1 1), .int a2, .int (a3 + (1 : Int32))]) (rest := []) (ih hc12) mX7_tells tw_634 (by omega) fx_obj rfl rfl rfl rfl (Nat.le_of_ble_eq_true rfl) dzX7_tellsByParts_197 ?_
      exact z_iret O hr hlk dzX7_tellsByParts_200 h
  have h := z_if_f c6 h
  by_cases c8 : (σ.1 p1 0) = 6
  · have h := z_if_t c8 h
    refine z_tabI O dzX7_tellsByParts_4 (x := (σ.1 p1 0)) (by rw [c8]; decide) (by rw [c8]; decide) (off := 216) (by rw [c8]; rfl) (tgt := 220) rfl ?_
    refine z_aload_n O dzX7_tellsByParts_220 rfl 0 rfl ?_
    refine z_aload_n O dzX7_tellsByParts_221 rfl 1 rfl ?_
    refine z_iload_n O dzX7_tellsByParts_222 rfl 2 rfl ?_
    obtain ⟨r13, hc13, h⟩ := z_bd_at h
    refine z_callViR O (As := [.ref (z_ad Y p1), .int a2]) (rest := []) (kX7_tellsAlone hi h1 hc13) mX7_tellsAlone tw_647 (by omega) fx_obj rfl rfl rfl rfl (Nat.le_of_ble_eq_true rfl) dzX7_tellsByParts_223 ?_
    exact z_iret O hr hlk dzX7_tellsByParts_226 h
  have h := z_if_f c8 h
  by_cases c9 : (σ.1 p1 0) = 7
  · have h := z_if_t c9 h
    refine z_tabI O dzX7_tellsByParts_4 (x := (σ.1 p1 0)) (by rw [c9]; decide) (by rw [c9]; decide) (off := 216) (by rw [c9]; rfl) (tgt := 220) rfl ?_
    refine z_aload_n O dzX7_tellsByParts_220 rfl 0 rfl ?_
    refine z_aload_n O dzX7_tellsByParts_221 rfl 1 rfl ?_
    refine z_iload_n O dzX7_tellsByParts_222 rfl 2 rfl ?_
    obtain ⟨r14, hc14, h⟩ := z_bd_at h
    refine z_callViR O (As := [.ref (z_ad Y p1), .int a2]) (rest := []) (kX7_tellsAlone hi h1 hc14) mX7_tellsAlone tw_647 (by omega) fx_obj rfl rfl rfl rfl (Nat.le_of_ble_eq_true rfl) dzX7_tellsByParts_223 ?_
    exact z_iret O hr hlk dzX7_tellsByParts_226 h
  have h := z_if_f c9 h
  by_cases c10 : (σ.1 p1 0) = 8
  · have h := z_if_t c10 h
    refine z_tabI O dzX7_tellsByParts_4 (x := (σ.1 p1 0)) (by rw [c10]; decide) (by rw [c10]; decide) (off := 197) (by rw [c10]; rfl) (tgt := 201) rfl ?_
    refine z_aload_n O dzX7_tellsByParts_201 rfl 0 rfl ?_
    refine z_aload_n O dzX7_tellsByParts_202 rfl 1 rfl ?_
    refine z_get O z_cb2 (fx_rul h1) (v := .int (σ.1 p1 1)) 1 (Nat.le_of_ble_eq_true rfl) tw_82 rfl dzX7_tellsByParts_203 ?_
    refine z_sipush O dzX7_tellsByParts_206 hcS4095 ?_
    refine z_iload_n O dzX7_tellsByParts_209 rfl 2 rfl ?_
    refine z_iconst O dzX7_tellsByParts_210 hcIm1 ?_
    refine z_ixor O dzX7_tellsByParts_211 ?_
    refine z_iand O dzX7_tellsByParts_212 ?_
    refine z_iload_n O dzX7_tellsByParts_213 rfl 3 rfl ?_
    refine z_iconst O dzX7_tellsByParts_214 hcI1 ?_
    refine z_iadd O dzX7_tellsByParts_215 ?_
    obtain ⟨r15, hc15, h⟩ := z_bd_at h
    refine z_callVi O (As := [.int (σ.1 p1 1), .int ((4095 : Int32) &&& (a2 ^^^ (-1 : Int32))), .int (a3 + (1 : Int32))]) (rest := []) (ih hc15) mX7_tells tw_634 (by omega) fx_obj rfl rfl rfl rfl (Nat.le_of_ble_eq_true rfl) dzX7_tellsByParts_216 ?_
    exact z_iret O hr hlk dzX7_tellsByParts_219 h
  have h := z_if_f c10 h
  have qc1 := z_ne (z := 0) rfl c1
  have qc2 := z_ne (z := 1) rfl c2
  have qc3 := z_ne (z := 2) rfl c3
  have qc4 := z_ne (z := 3) rfl c4
  have qc5 := z_ne (z := 4) rfl c5
  have qc6 := z_ne (z := 5) rfl c6
  have qc8 := z_ne (z := 6) rfl c8
  have qc9 := z_ne (z := 7) rfl c9
  have qc10 := z_ne (z := 8) rfl c10
  refine z_tabO O dzX7_tellsByParts_4 (by omega) (tgt := 220) rfl ?_
  refine z_aload_n O dzX7_tellsByParts_220 rfl 0 rfl ?_
  refine z_aload_n O dzX7_tellsByParts_221 rfl 1 rfl ?_
  refine z_iload_n O dzX7_tellsByParts_222 rfl 2 rfl ?_
  obtain ⟨r16, hc16, h⟩ := z_bd_at h
  refine z_callViR O (As := [.ref (z_ad Y p1), .int a2]) (rest := []) (kX7_tellsAlone hi h1 hc16) mX7_tellsAlone tw_647 (by omega) fx_obj rfl rfl rfl rfl (Nat.le_of_ble_eq_true rfl) dzX7_tellsByParts_223 ?_
  exact z_iret O hr hlk dzX7_tellsByParts_226 h
def fX7_tells : Nat → zS → Int32 → Int32 → Int32 → Option (Int32 × zS)
  | 0, _, _, _, _ => none
  | d + 1, σ, a1, a2, a3 => (fX7_isNoRule σ a1).bind (fun r1 => (if r1 = 0 then (if a3 < (12 : Int32) then z_gd (z_in a1 12) ((if (σ.1 (35 + a1.toNatClampNeg) 5) = a2 then some ((σ.1 (35 + a1.toNatClampNeg) 6), σ) else (fX7_tellsByParts (fX7_tells d) σ (35 + a1.toNatClampNeg) a2 a3).bind (fun r2 => z_lt (z_sI r2.2 (35 + a1.toNatClampNeg) 6 r2.1) (fun (w1 : zS) => z_lt (z_sI w1 (35 + a1.toNatClampNeg) 5 a2) (fun (w2 : zS) => some ((w2.1 (35 + a1.toNatClampNeg) 6), w2)))))) else some ((0 : Int32), σ)) else some ((0 : Int32), σ)))
theorem kX7_tells {l : Launch} {Y : zY} (hi : z_inj ΛX Y) : ∀ (d : Nat) {σ : zS} {a1 : Int32} {a2 : Int32} {a3 : Int32} {fin : Int32 × zS} (h : fX7_tells d σ a1 a2 a3 = some fin), Met l yX7_tells (Cond.code yX7_tells cX7_tells 5 (some .int) :: z_TB) (z_rm (6 + 2 * d)) (z_Pc ΛX Y σ [.ref (z_ad Y 0), .int a1, .int a2, .int a3]) (z_Qi ΛX Y fin) 0 0 (z_A ΛX Y) := by
  intro d
  induction d with
  | zero =>
    intro σ a1 a2 a3 fin h
    cases h
  | succ d ih =>
    intro σ a1 a2 a3 fin h
    rw [fX7_tells.eq_2] at h
    refine z_met [(0, .ref (z_ad Y 0)), (1, .int a1), (2, .int a2), (3, .int a3)] rfl (Nat.le_of_ble_eq_true rfl) (plainFor_of_name (by decide)) hi ?_
    intro p e s m args below meth c O hr hlk
    refine z_aload_n O dzX7_tells_0 rfl 0 rfl ?_
    refine z_iload_n O dzX7_tells_1 rfl 1 rfl ?_
    obtain ⟨r1, hc1, h⟩ := z_bd_at h
    refine z_callViR O (As := [.int a1]) (rest := []) (kX7_isNoRule hi hc1) mX7_isNoRule tw_614 (by omega) fx_obj rfl rfl rfl rfl (Nat.le_of_ble_eq_true rfl) dzX7_tells_2 ?_
    refine z_if_ne O dzX7_tells_5 (fun c3 => ?_) (fun c3 => ?_)
    · have h := z_if_f c3 h
      refine z_iconst O dzX7_tells_14 hcI0 ?_
      exact z_iret O hr hlk dzX7_tells_15 h
    · have h := z_if_t c3 h
      refine z_iload_n O dzX7_tells_8 rfl 3 rfl ?_
      refine z_bipush O dzX7_tells_9 hcB12 ?_
      refine z_icmp_lt O dzX7_tells_11 (fun c2 => ?_) (fun c2 => ?_)
      · have h := z_if_t c2 h
        refine z_aload_n O dzX7_tells_16 rfl 0 rfl ?_
        refine z_get O z_cb7 fx_obj (v := .ref (z_ad Y 34)) 3 (Nat.le_of_ble_eq_true rfl) tw_216 rfl dzX7_tells_17 ?_
        refine z_iload_n O dzX7_tells_20 rfl 1 rfl ?_
        obtain ⟨g1, h⟩ := z_gd_at h
        refine z_aald O fx_rls rfl rfl g1 dzX7_tells_21 ?_
        refine z_astore O (lv' := [(4, .ref (z_ad Y (35 + a1.toNatClampNeg))), (0, .ref (z_ad Y 0)), (1, .int a1), (2, .int a2), (3, .int a3)]) dzX7_tells_22 (by decide) rfl ?_
        refine z_aload O dzX7_tells_24 0 rfl ?_
        refine z_get O z_cb2 (fx_rul (fx_rli g1)) (v := .int (σ.1 (35 + a1.toNatClampNeg) 5)) 5 (Nat.le_of_ble_eq_true rfl) tw_90 rfl dzX7_tells_26 ?_
        refine z_iload_n O dzX7_tells_29 rfl 3 rfl ?_
        refine z_icmp_eq O dzX7_tells_30 (fun c1 => ?_) (fun c1 => ?_)
        · have h := z_if_t c1 h
          refine z_aload O dzX7_tells_52 0 rfl ?_
          refine z_get O z_cb2 (fx_rul (fx_rli g1)) (v := .int (σ.1 (35 + a1.toNatClampNeg) 6)) 6 (Nat.le_of_ble_eq_true rfl) tw_91 rfl dzX7_tells_54 ?_
          exact z_iret O hr hlk dzX7_tells_57 h
        · have h := z_if_f c1 h
          refine z_aload O dzX7_tells_33 0 rfl ?_
          refine z_aload_n O dzX7_tells_35 rfl 1 rfl ?_
          refine z_aload O dzX7_tells_36 0 rfl ?_
          refine z_iload_n O dzX7_tells_38 rfl 3 rfl ?_
          refine z_iload_n O dzX7_tells_39 rfl 4 rfl ?_
          obtain ⟨r2, hc2, h⟩ := z_bd_at h
          refine z_callVi O (As := [.ref (z_ad Y (35 + a1.toNatClampNeg)), .int a2, .int a3]) (rest := [.ref (z_ad Y (35 + a1.toNatClampNeg))]) (kX7_tellsByParts hi ih (fx_rli g1) hc2) mX7_tellsByParts tw_638 (by omega) fx_obj rfl rfl rfl rfl (Nat.le_of_ble_eq_true rfl) dzX7_tells_40 ?_
          refine z_put O z_cb2 (fx_rul (fx_rli g1)) 6 (Nat.le_of_ble_eq_true rfl) tw_91 rfl rfl rfl fp_R6 dzX7_tells_43 ?_
          refine z_sig (fun w1 e1 => ?_)
          have h := z_lt_at e1 h
          refine z_aload O dzX7_tells_46 0 rfl ?_
          refine z_iload_n O dzX7_tells_48 rfl 3 rfl ?_
          refine z_put O z_cb2 (fx_rul (fx_rli g1)) 5 (Nat.le_of_ble_eq_true rfl) tw_90 rfl rfl rfl fp_R5 dzX7_tells_49 ?_
          refine z_sig (fun w2 e2 => ?_)
          have h := z_lt_at e2 h
          refine z_aload O dzX7_tells_52 0 rfl ?_
          refine z_get O z_cb2 (fx_rul (fx_rli g1)) (v := .int (w2.1 (35 + a1.toNatClampNeg) 6)) 6 (Nat.le_of_ble_eq_true rfl) tw_91 rfl dzX7_tells_54 ?_
          exact z_iret O hr hlk dzX7_tells_57 h
      · have h := z_if_f c2 h
        refine z_iconst O dzX7_tells_14 hcI0 ?_
        exact z_iret O hr hlk dzX7_tells_15 h
def fX7_tellsNow_L2 (k : zS → Int32 → Option (Int32 × zS)) : Nat → zS → Int32 → Option (Int32 × zS)
  | 0, _, _ => none
  | n + 1, σ, v3 => (if (12 : Int32) ≤ v3 then k σ v3 else z_gd (z_in v3 12) (z_lt (z_sI σ (35 + v3.toNatClampNeg) 5 (-1 : Int32)) (fun (w1 : zS) => fX7_tellsNow_L2 k n w1 (v3 + (1 : Int32)))))
theorem kX7_tellsNow_L2 {l : Launch} {Y : zY} {fin : Int32 × zS} {p : Program} {e : Env} {s : State} {m : MethodId} {args : Array Value} {below : List Frame} {meth : Method} {c : Code} (O : z_ok ΛX Y p s m args c cX7_tellsNow RX7 4) (hi : z_inj ΛX Y) (hr : meth.sig.returnType = (some .int)) (hlk : meth.locks = false) {b1 : Int32} {b2 : Int32} {k : zS → Int32 → Option (Int32 × zS)} (hk : ∀ (w : zS) (z3 : Int32), k w z3 = some fin → z_G p l e (z_rm 35) s m args below meth c (MQ below (z_Qi ΛX Y fin) args s 0 0 (z_A ΛX Y)) ΛX Y 4 w [(0, .ref (z_ad Y 0)), (1, .int b1), (2, .int b2), (3, .int z3)] 24 []) : ∀ (n : Nat) (σ : zS) (v3 : Int32), fX7_tellsNow_L2 k n σ v3 = some fin → z_G p l e (z_rm 35) s m args below meth c (MQ below (z_Qi ΛX Y fin) args s 0 0 (z_A ΛX Y)) ΛX Y 4 σ [(0, .ref (z_ad Y 0)), (1, .int b1), (2, .int b2), (3, .int v3)] 2 [] := by
  intro n
  induction n with
  | zero =>
    intro _ _ h
    cases h
  | succ n ih =>
    intro σ v3 h
    rw [fX7_tellsNow_L2.eq_2] at h
    refine z_iload_n O dzX7_tellsNow_2 rfl 3 rfl ?_
    refine z_bipush O dzX7_tellsNow_3 hcB12 ?_
    refine z_icmp_ge O dzX7_tellsNow_5 (fun c1 => ?_) (fun c1 => ?_)
    · have h := z_if_t c1 h
      exact hk _ _ h
    · have h := z_if_f c1 h
      refine z_aload_n O dzX7_tellsNow_8 rfl 0 rfl ?_
      refine z_get O z_cb7 fx_obj (v := .ref (z_ad Y 34)) 3 (Nat.le_of_ble_eq_true rfl) tw_216 rfl dzX7_tellsNow_9 ?_
      refine z_iload_n O dzX7_tellsNow_12 rfl 3 rfl ?_
      obtain ⟨g1, h⟩ := z_gd_at h
      refine z_aald O fx_rls rfl rfl g1 dzX7_tellsNow_13 ?_
      refine z_iconst O dzX7_tellsNow_14 hcIm1 ?_
      refine z_put O z_cb2 (fx_rul (fx_rli g1)) 5 (Nat.le_of_ble_eq_true rfl) tw_90 rfl rfl rfl fp_R5 dzX7_tellsNow_15 ?_
      refine z_sig (fun w1 e1 => ?_)
      have h := z_lt_at e1 h
      refine z_iinc O (lv' := [(3, .int (v3 + (1 : Int32))), (0, .ref (z_ad Y 0)), (1, .int b1), (2, .int b2)]) dzX7_tellsNow_18 3 rfl (congrArg _ hcI1) (by decide) rfl ?_
      refine z_goto O dzX7_tellsNow_21 ?_
      refine z_sub [1, 2, 3, 0] rfl ?_
      exact ih _ _ h
def fX7_tellsNow (σ : zS) (a1 : Int32) (a2 : Int32) : Option (Int32 × zS) :=
  fX7_tellsNow_L2 (fun (w1 : zS) (x1 : Int32) => (fX7_tells 14 w1 a1 a2 (0 : Int32)).bind (fun r1 => some (r1.1, r1.2))) z_F σ (0 : Int32)
theorem kX7_tellsNow {l : Launch} {Y : zY} (hi : z_inj ΛX Y) {σ : zS} {a1 : Int32} {a2 : Int32} {fin : Int32 × zS} (h : fX7_tellsNow σ a1 a2 = some fin) : Met l yX7_tellsNow (Cond.code yX7_tellsNow cX7_tellsNow 4 (some .int) :: z_TB) (z_rm 35) (z_Pc ΛX Y σ [.ref (z_ad Y 0), .int a1, .int a2]) (z_Qi ΛX Y fin) 0 0 (z_A ΛX Y) := by
  unfold fX7_tellsNow at h
  refine z_met [(0, .ref (z_ad Y 0)), (1, .int a1), (2, .int a2)] rfl (Nat.le_of_ble_eq_true rfl) (plainFor_of_name (by decide)) hi ?_
  intro p e s m args below meth c O hr hlk
  refine z_iconst O dzX7_tellsNow_0 hcI0 ?_
  refine z_istore_n O (lv' := [(3, .int (0 : Int32)), (0, .ref (z_ad Y 0)), (1, .int a1), (2, .int a2)]) dzX7_tellsNow_1 rfl (by decide) rfl ?_
  refine z_sub [1, 2, 3, 0] rfl ?_
  refine kX7_tellsNow_L2 O hi hr hlk   (fun w1 x1 h => ?_) _ _ _ h
  refine z_aload_n O dzX7_tellsNow_24 rfl 0 rfl ?_
  refine z_iload_n O dzX7_tellsNow_25 rfl 1 rfl ?_
  refine z_iload_n O dzX7_tellsNow_26 rfl 2 rfl ?_
  refine z_iconst O dzX7_tellsNow_27 hcI0 ?_
  obtain ⟨r1, hc1, h⟩ := z_bd_at h
  refine z_callVi O (As := [.int a1, .int a2, .int (0 : Int32)]) (rest := []) (kX7_tells hi 14 hc1) mX7_tells tw_634 (Nat.le_of_ble_eq_true rfl) fx_obj rfl rfl rfl rfl (Nat.le_of_ble_eq_true rfl) dzX7_tellsNow_28 ?_
  exact z_iret O hr hlk dzX7_tellsNow_31 h
def fX7_best_L82 (a2 : Int32) (k : zS → Int32 → Int32 → Int32 → Int32 → Option (Int32 × zS)) : Nat → zS → Int32 → Int32 → Int32 → Int32 → Option (Int32 × zS)
  | 0, _, _, _, _, _ => none
  | n + 1, σ, v4, v5, v6, v7 => (if v7 ≤ 0 then k σ v4 v5 v6 v7 else (fX5_next σ 88 (v6 + (1 : Int32))).bind (fun r1 => (fX7_tellsNow σ a2 r1).bind (fun r2 => (if v5 ≤ r2.1 then fX7_best_L82 a2 k n r2.2 v4 v5 r1 (v7 + (-1 : Int32)) else fX7_best_L82 a2 k n r2.2 r1 r2.1 r1 (v7 + (-1 : Int32))))))
theorem kX7_best_L82 {l : Launch} {Y : zY} {fin : Int32 × zS} {p : Program} {e : Env} {s : State} {m : MethodId} {args : Array Value} {below : List Frame} {meth : Method} {c : Code} (O : z_ok ΛX Y p s m args c cX7_best RX7 9) (hi : z_inj ΛX Y) (hr : meth.sig.returnType = (some .int)) (hlk : meth.locks = false) {a2 : Int32} {b3 : Int32} {k : zS → Int32 → Int32 → Int32 → Int32 → Option (Int32 × zS)} (hk : ∀ (w : zS) (z4 : Int32) (z5 : Int32) (z6 : Int32) (z7 : Int32), k w z4 z5 z6 z7 = some fin → z_G p l e (z_rm 36) s m args below meth c (MQ below (z_Qi ΛX Y fin) args s 0 0 (z_A ΛX Y)) ΛX Y 9 w [(0, .ref (z_ad Y 0)), (2, .int a2), (3, .int b3), (4, .int z4), (5, .int z5), (6, .int z6), (7, .int z7)] 130 []) : ∀ (n : Nat) (σ : zS) (v4 : Int32) (v5 : Int32) (v6 : Int32) (v7 : Int32), fX7_best_L82 a2 k n σ v4 v5 v6 v7 = some fin → z_G p l e (z_rm 36) s m args below meth c (MQ below (z_Qi ΛX Y fin) args s 0 0 (z_A ΛX Y)) ΛX Y 9 σ [(0, .ref (z_ad Y 0)), (2, .int a2), (3, .int b3), (4, .int v4), (5, .int v5), (6, .int v6), (7, .int v7)] 82 [] := by
  intro n
  induction n with
  | zero =>
    intro _ _ _ _ _ h
    cases h
  | succ n ih =>
    intro σ v4 v5 v6 v7 h
    rw [fX7_best_L82.eq_2] at h
    refine z_iload O dzX7_best_82 6 rfl ?_
    refine z_if_le O dzX7_best_84 (fun c2 => ?_) (fun c2 => ?_)
    · have h := z_if_t c2 h
      exact hk _ _ _ _ _ h
    · have h := z_if_f c2 h
      refine z_aload_n O dzX7_best_87 rfl 0 rfl ?_
      refine z_get O z_cb7 fx_obj (v := .ref (z_ad Y 88)) 9 (Nat.le_of_ble_eq_true rfl) tw_222 rfl dzX7_best_88 ?_
      refine z_iload O dzX7_best_91 5 rfl ?_
      refine z_iconst O dzX7_best_93 hcI1 ?_
      refine z_iadd O dzX7_best_94 ?_
      obtain ⟨r1, hc1, h⟩ := z_bd_at h
      refine z_callViR O (As := [.int (v6 + (1 : Int32))]) (rest := []) (kX5_next hi z_tab_88 hc1) mX5_next tw_511 (Nat.le_of_ble_eq_true rfl) (fx_tab z_tab_88) rfl rfl rfl rfl (Nat.le_of_ble_eq_true rfl) dzX7_best_95 ?_
      refine z_istore O (lv' := [(6, .int r1), (0, .ref (z_ad Y 0)), (2, .int a2), (3, .int b3), (4, .int v4), (5, .int v5), (7, .int v7)]) dzX7_best_98 (by decide) rfl ?_
      refine z_aload_n O dzX7_best_100 rfl 1 rfl ?_
      refine z_iload_n O dzX7_best_101 rfl 2 rfl ?_
      refine z_iload O dzX7_best_102 0 rfl ?_
      obtain ⟨r2, hc2, h⟩ := z_bd_at h
      refine z_callVi O (As := [.int a2, .int r1]) (rest := []) (kX7_tellsNow hi hc2) mX7_tellsNow tw_630 (Nat.le_of_ble_eq_true rfl) fx_obj rfl rfl rfl rfl (Nat.le_of_ble_eq_true rfl) dzX7_best_104 ?_
      refine z_istore O (lv' := [(8, .int r2.1), (6, .int r1), (0, .ref (z_ad Y 0)), (2, .int a2), (3, .int b3), (4, .int v4), (5, .int v5), (7, .int v7)]) dzX7_best_107 (by decide) rfl ?_
      refine z_iload O dzX7_best_109 0 rfl ?_
      refine z_iload O dzX7_best_111 6 rfl ?_
      refine z_icmp_ge O dzX7_best_113 (fun c1 => ?_) (fun c1 => ?_)
      · have h := z_if_t c1 h
        refine z_iinc O (lv' := [(7, .int (v7 + (-1 : Int32))), (8, .int r2.1), (6, .int r1), (0, .ref (z_ad Y 0)), (2, .int a2), (3, .int b3), (4, .int v4), (5, .int v5)]) dzX7_best_124 7 rfl (congrArg _ hcIm1) (by decide) rfl ?_
        refine z_goto O dzX7_best_127 ?_
        refine z_sub [3, 4, 5, 6, 7, 2, 0] rfl ?_
        exact ih _ _ _ _ _ h
      · have h := z_if_f c1 h
        refine z_iload O dzX7_best_116 0 rfl ?_
        refine z_istore O (lv' := [(5, .int r2.1), (8, .int r2.1), (6, .int r1), (0, .ref (z_ad Y 0)), (2, .int a2), (3, .int b3), (4, .int v4), (7, .int v7)]) dzX7_best_118 (by decide) rfl ?_
        refine z_iload O dzX7_best_120 2 rfl ?_
        refine z_istore O (lv' := [(4, .int r1), (5, .int r2.1), (8, .int r2.1), (6, .int r1), (0, .ref (z_ad Y 0)), (2, .int a2), (3, .int b3), (7, .int v7)]) dzX7_best_122 (by decide) rfl ?_
        refine z_iinc O (lv' := [(7, .int (v7 + (-1 : Int32))), (4, .int r1), (5, .int r2.1), (8, .int r2.1), (6, .int r1), (0, .ref (z_ad Y 0)), (2, .int a2), (3, .int b3)]) dzX7_best_124 7 rfl (congrArg _ hcIm1) (by decide) rfl ?_
        refine z_goto O dzX7_best_127 ?_
        refine z_sub [5, 6, 7, 1, 2, 4, 0] rfl ?_
        exact ih _ _ _ _ _ h
def fX7_best (σ : zS) (a1 : Int32) (a2 : Int32) (a3 : Int32) : Option (Int32 × zS) :=
  (fX7_isNoFamily a1).bind (fun r1 => (if r1 = 0 then (fX7_isNoRule σ a2).bind (fun r2 => (if r2 = 0 then (if a3 < 0 then some ((-2 : Int32), σ) else (if a3 ≤ (1 : Int32) then z_gd (z_in a1 4) ((fX7_findDual σ (7 + a1.toNatClampNeg)).bind (fun r3 => (fX5_next r3 88 (0 : Int32)).bind (fun r4 => (if r4 = (-1 : Int32) then some ((-1 : Int32), r3) else (fX7_tellsNow r3 a2 r4).bind (fun r5 => (fX5_countAll r5.2 88).bind (fun r6 => z_lt (r6 - (1 : Int32)) (fun (x1 : Int32) => fX7_best_L82 a2 (fun (w1 : zS) (x2 : Int32) (x3 : Int32) (x4 : Int32) (x5 : Int32) => (if a3 = 0 then some (x2, w1) else some (x3, w1))) z_F r5.2 r4 r5.1 r4 x1))))))) else some ((-2 : Int32), σ))) else some ((-2 : Int32), σ))) else some ((-2 : Int32), σ)))
theorem kX7_best {l : Launch} {Y : zY} (hi : z_inj ΛX Y) {σ : zS} {a1 : Int32} {a2 : Int32} {a3 : Int32} {fin : Int32 × zS} (h : fX7_best σ a1 a2 a3 = some fin) : Met l yX7_best (Cond.code yX7_best cX7_best 9 (some .int) :: z_TB) (z_rm 36) (z_Pc ΛX Y σ [.ref (z_ad Y 0), .int a1, .int a2, .int a3]) (z_Qi ΛX Y fin) 0 0 (z_A ΛX Y) := by
  unfold fX7_best at h
  refine z_met [(0, .ref (z_ad Y 0)), (1, .int a1), (2, .int a2), (3, .int a3)] rfl (Nat.le_of_ble_eq_true rfl) (plainFor_of_name (by decide)) hi ?_
  intro p e s m args below meth c O hr hlk
  refine z_iload_n O dzX7_best_0 rfl 1 rfl ?_
  obtain ⟨r1, hc1, h⟩ := z_bd_at h
  refine z_callSiR O (As := [.int a1]) (rest := []) (kX7_isNoFamily hi hc1) mX7_isNoFamily tw_273 (Nat.le_of_ble_eq_true rfl) rfl rfl (Nat.le_of_ble_eq_true rfl) dzX7_best_1 ?_
  refine z_if_ne O dzX7_best_4 (fun c6 => ?_) (fun c6 => ?_)
  · have h := z_if_f c6 h
    refine z_bipush O dzX7_best_24 hcBm2 ?_
    exact z_iret O hr hlk dzX7_best_26 h
  · have h := z_if_t c6 h
    refine z_aload_n O dzX7_best_7 rfl 0 rfl ?_
    refine z_iload_n O dzX7_best_8 rfl 2 rfl ?_
    obtain ⟨r2, hc2, h⟩ := z_bd_at h
    refine z_callViR O (As := [.int a2]) (rest := []) (kX7_isNoRule hi hc2) mX7_isNoRule tw_614 (Nat.le_of_ble_eq_true rfl) fx_obj rfl rfl rfl rfl (Nat.le_of_ble_eq_true rfl) dzX7_best_9 ?_
    refine z_if_ne O dzX7_best_12 (fun c5 => ?_) (fun c5 => ?_)
    · have h := z_if_f c5 h
      refine z_bipush O dzX7_best_24 hcBm2 ?_
      exact z_iret O hr hlk dzX7_best_26 h
    · have h := z_if_t c5 h
      refine z_iload_n O dzX7_best_15 rfl 3 rfl ?_
      refine z_if_lt O dzX7_best_16 (fun c4 => ?_) (fun c4 => ?_)
      · have h := z_if_t c4 h
        refine z_bipush O dzX7_best_24 hcBm2 ?_
        exact z_iret O hr hlk dzX7_best_26 h
      · have h := z_if_f c4 h
        refine z_iload_n O dzX7_best_19 rfl 3 rfl ?_
        refine z_iconst O dzX7_best_20 hcI1 ?_
        refine z_icmp_le O dzX7_best_21 (fun c3 => ?_) (fun c3 => ?_)
        · have h := z_if_t c3 h
          refine z_aload_n O dzX7_best_27 rfl 0 rfl ?_
          refine z_aload_n O dzX7_best_28 rfl 0 rfl ?_
          refine z_get O z_cb7 fx_obj (v := .ref (z_ad Y 1)) 0 (Nat.le_of_ble_eq_true rfl) tw_213 rfl dzX7_best_29 ?_
          refine z_get O z_cb4 (fx_stk z_stk_1) (v := .ref (z_ad Y 5)) 1 (Nat.le_of_ble_eq_true rfl) tw_62 rfl dzX7_best_32 ?_
          refine z_iload_n O dzX7_best_35 rfl 1 rfl ?_
          obtain ⟨g1, h⟩ := z_gd_at h
          refine z_aald O fx_fms1 rfl rfl g1 dzX7_best_36 ?_
          obtain ⟨r3, hc3, h⟩ := z_bd_at h
          refine z_callVv O (As := [.ref (z_ad Y (7 + a1.toNatClampNeg))]) (rest := []) (kX7_findDual hi (fx_fmi1 g1) hc3) mX7_findDual tw_422 (Nat.le_of_ble_eq_true rfl) fx_obj rfl rfl rfl rfl (Nat.le_of_ble_eq_true rfl) dzX7_best_37 ?_
          refine z_aload_n O dzX7_best_40 rfl 0 rfl ?_
          refine z_get O z_cb7 fx_obj (v := .ref (z_ad Y 88)) 9 (Nat.le_of_ble_eq_true rfl) tw_222 rfl dzX7_best_41 ?_
          refine z_iconst O dzX7_best_44 hcI0 ?_
          obtain ⟨r4, hc4, h⟩ := z_bd_at h
          refine z_callViR O (As := [.int (0 : Int32)]) (rest := []) (kX5_next hi z_tab_88 hc4) mX5_next tw_511 (Nat.le_of_ble_eq_true rfl) (fx_tab z_tab_88) rfl rfl rfl rfl (Nat.le_of_ble_eq_true rfl) dzX7_best_45 ?_
          refine z_istore O (lv' := [(4, .int r4), (0, .ref (z_ad Y 0)), (1, .int a1), (2, .int a2), (3, .int a3)]) dzX7_best_48 (by decide) rfl ?_
          refine z_iload O dzX7_best_50 0 rfl ?_
          refine z_iconst O dzX7_best_52 hcIm1 ?_
          refine z_icmp_ne O dzX7_best_53 (fun c2 => ?_) (fun c2 => ?_)
          · have h := z_if_f c2 h
            refine z_aload_n O dzX7_best_58 rfl 1 rfl ?_
            refine z_iload_n O dzX7_best_59 rfl 3 rfl ?_
            refine z_iload O dzX7_best_60 0 rfl ?_
            obtain ⟨r5, hc5, h⟩ := z_bd_at h
            refine z_callVi O (As := [.int a2, .int r4]) (rest := []) (kX7_tellsNow hi hc5) mX7_tellsNow tw_630 (Nat.le_of_ble_eq_true rfl) fx_obj rfl rfl rfl rfl (Nat.le_of_ble_eq_true rfl) dzX7_best_62 ?_
            refine z_istore O (lv' := [(5, .int r5.1), (4, .int r4), (0, .ref (z_ad Y 0)), (1, .int a1), (2, .int a2), (3, .int a3)]) dzX7_best_65 (by decide) rfl ?_
            refine z_iload O dzX7_best_67 1 rfl ?_
            refine z_istore O (lv' := [(6, .int r4), (5, .int r5.1), (4, .int r4), (0, .ref (z_ad Y 0)), (1, .int a1), (2, .int a2), (3, .int a3)]) dzX7_best_69 (by decide) rfl ?_
            refine z_aload_n O dzX7_best_71 rfl 3 rfl ?_
            refine z_get O z_cb7 fx_obj (v := .ref (z_ad Y 88)) 9 (Nat.le_of_ble_eq_true rfl) tw_222 rfl dzX7_best_72 ?_
            obtain ⟨r6, hc6, h⟩ := z_bd_at h
            refine z_callViR O (As := []) (rest := []) (kX5_countAll hi z_tab_88 hc6) mX5_countAll tw_484 (Nat.le_of_ble_eq_true rfl) (fx_tab z_tab_88) rfl rfl rfl rfl (Nat.le_of_ble_eq_true rfl) dzX7_best_75 ?_
            refine z_iconst O dzX7_best_78 hcI1 ?_
            refine z_isub O dzX7_best_79 ?_
            refine z_topi (fun x1 e1 => ?_)
            have h := z_lt_at e1 h
            refine z_istore O (lv' := [(7, .int x1), (6, .int r4), (5, .int r5.1), (4, .int r4), (0, .ref (z_ad Y 0)), (1, .int a1), (2, .int a2), (3, .int a3)]) dzX7_best_80 (by decide) rfl ?_
            refine z_sub [4, 6, 7, 3, 2, 1, 0] rfl ?_
            refine kX7_best_L82 O hi hr hlk   (fun w1 x2 x3 x4 x5 h => ?_) _ _ _ _ _ _ h
            refine z_iload_n O dzX7_best_130 rfl 2 rfl ?_
            refine z_if_ne O dzX7_best_131 (fun c1 => ?_) (fun c1 => ?_)
            · have h := z_if_f c1 h
              refine z_iload O dzX7_best_139 4 rfl ?_
              exact z_iret O hr hlk dzX7_best_141 h
            · have h := z_if_t c1 h
              refine z_iload O dzX7_best_134 3 rfl ?_
              refine z_goto O dzX7_best_136 ?_
              exact z_iret O hr hlk dzX7_best_141 h
          · have h := z_if_t c2 h
            refine z_iconst O dzX7_best_56 hcIm1 ?_
            exact z_iret O hr hlk dzX7_best_57 h
        · have h := z_if_f c3 h
          refine z_bipush O dzX7_best_24 hcBm2 ?_
          exact z_iret O hr hlk dzX7_best_26 h
def fX7_listed (σ : zS) (p0 : Nat) (a1 : Int32) : Option (Int32) :=
  (if a1 = (-1 : Int32) then (fX5_countAll σ p0).bind (fun r2 => some r2) else (if 0 ≤ a1 then (fX5_pick σ p0 a1).bind (fun r1 => some r1) else some (-12 : Int32)))
theorem kX7_listed {l : Launch} {Y : zY} (hi : z_inj ΛX Y) {σ : zS} {p0 : Nat} (h0 : z_tab p0) {a1 : Int32} {fin : Int32} (h : fX7_listed σ p0 a1 = some fin) : Met l yX7_listed (Cond.code yX7_listed cX7_listed 2 (some .int) :: z_TB) (z_rm 4) (z_Pc ΛX Y σ [.ref (z_ad Y p0), .int a1]) (z_Qi ΛX Y (fin, σ)) 0 0 (z_A ΛX Y) := by
  unfold fX7_listed at h
  refine z_met [(0, .ref (z_ad Y p0)), (1, .int a1)] rfl (Nat.le_of_ble_eq_true rfl) (plainFor_of_name (by decide)) hi ?_
  intro p e s m args below meth c O hr hlk
  refine z_iload_n O dzX7_listed_0 rfl 1 rfl ?_
  refine z_iconst O dzX7_listed_1 hcIm1 ?_
  refine z_icmp_ne O dzX7_listed_2 (fun c2 => ?_) (fun c2 => ?_)
  · have h := z_if_f c2 h
    refine z_iload_n O dzX7_listed_10 rfl 1 rfl ?_
    refine z_if_ge O dzX7_listed_11 (fun c1 => ?_) (fun c1 => ?_)
    · have h := z_if_t c1 h
      refine z_aload_n O dzX7_listed_19 rfl 0 rfl ?_
      refine z_iload_n O dzX7_listed_20 rfl 1 rfl ?_
      obtain ⟨r1, hc1, h⟩ := z_bd_at h
      refine z_callViR O (As := [.int a1]) (rest := []) (kX5_pick hi h0 hc1) mX5_pick tw_488 (Nat.le_of_ble_eq_true rfl) (fx_tab h0) rfl rfl rfl rfl (Nat.le_of_ble_eq_true rfl) dzX7_listed_21 ?_
      exact z_iret O hr hlk dzX7_listed_24 (z_rf h)
    · have h := z_if_f c1 h
      refine z_bipush O dzX7_listed_14 hcBm12 ?_
      refine z_goto O dzX7_listed_16 ?_
      exact z_iret O hr hlk dzX7_listed_24 (z_rf h)
  · have h := z_if_t c2 h
    refine z_aload_n O dzX7_listed_5 rfl 0 rfl ?_
    obtain ⟨r2, hc2, h⟩ := z_bd_at h
    refine z_callViR O (As := []) (rest := []) (kX5_countAll hi h0 hc2) mX5_countAll tw_484 (Nat.le_of_ble_eq_true rfl) (fx_tab h0) rfl rfl rfl rfl (Nat.le_of_ble_eq_true rfl) dzX7_listed_6 ?_
    exact z_iret O hr hlk dzX7_listed_9 (z_rf h)
def fX7_border (σ : zS) (a1 : Int32) (a2 : Int32) (a3 : Int32) (a4 : Int32) : Option (Int32 × zS) :=
  (fX7_isNoFamily a1).bind (fun r1 => (if r1 = 0 then (if a2 < 0 then some ((-2 : Int32), σ) else (if (4000 : Int32) < a2 then some ((-2 : Int32), σ) else (if a3 < 0 then some ((-2 : Int32), σ) else (if a3 ≤ (1 : Int32) then z_gd (z_in a1 4) ((fX5_becomeCommon σ 87 (7 + a1.toNatClampNeg) a2).bind (fun r2 => (if a3 = 0 then (fX5_becomeGreatestOf r2 88 87).bind (fun r6 => (fX7_listed r6 88 a4).bind (fun r7 => some (r7, r6))) else (fX5_flip r2 87).bind (fun r3 => (fX5_becomeLeastOf r3 88 87).bind (fun r4 => (fX7_listed r4 88 a4).bind (fun r5 => some (r5, r4))))))) else some ((-2 : Int32), σ))))) else some ((-2 : Int32), σ)))
theorem kX7_border {l : Launch} {Y : zY} (hi : z_inj ΛX Y) {σ : zS} {a1 : Int32} {a2 : Int32} {a3 : Int32} {a4 : Int32} {fin : Int32 × zS} (h : fX7_border σ a1 a2 a3 a4 = some fin) : Met l yX7_border (Cond.code yX7_border cX7_border 5 (some .int) :: z_TB) (z_rm 5) (z_Pc ΛX Y σ [.ref (z_ad Y 0), .int a1, .int a2, .int a3, .int a4]) (z_Qi ΛX Y fin) 0 0 (z_A ΛX Y) := by
  unfold fX7_border at h
  refine z_met [(0, .ref (z_ad Y 0)), (1, .int a1), (2, .int a2), (3, .int a3), (4, .int a4)] rfl (Nat.le_of_ble_eq_true rfl) (plainFor_of_name (by decide)) hi ?_
  intro p e s m args below meth c O hr hlk
  refine z_iload_n O dzX7_border_0 rfl 1 rfl ?_
  obtain ⟨r1, hc1, h⟩ := z_bd_at h
  refine z_callSiR O (As := [.int a1]) (rest := []) (kX7_isNoFamily hi hc1) mX7_isNoFamily tw_273 (Nat.le_of_ble_eq_true rfl) rfl rfl (Nat.le_of_ble_eq_true rfl) dzX7_border_1 ?_
  refine z_if_ne O dzX7_border_4 (fun c6 => ?_) (fun c6 => ?_)
  · have h := z_if_f c6 h
    refine z_bipush O dzX7_border_27 hcBm2 ?_
    exact z_iret O hr hlk dzX7_border_29 h
  · have h := z_if_t c6 h
    refine z_iload_n O dzX7_border_7 rfl 2 rfl ?_
    refine z_if_lt O dzX7_border_8 (fun c5 => ?_) (fun c5 => ?_)
    · have h := z_if_t c5 h
      refine z_bipush O dzX7_border_27 hcBm2 ?_
      exact z_iret O hr hlk dzX7_border_29 h
    · have h := z_if_f c5 h
      refine z_iload_n O dzX7_border_11 rfl 2 rfl ?_
      refine z_sipush O dzX7_border_12 hcS4000 ?_
      refine z_icmp_gt O dzX7_border_15 (fun c4 => ?_) (fun c4 => ?_)
      · have h := z_if_t c4 h
        refine z_bipush O dzX7_border_27 hcBm2 ?_
        exact z_iret O hr hlk dzX7_border_29 h
      · have h := z_if_f c4 h
        refine z_iload_n O dzX7_border_18 rfl 3 rfl ?_
        refine z_if_lt O dzX7_border_19 (fun c3 => ?_) (fun c3 => ?_)
        · have h := z_if_t c3 h
          refine z_bipush O dzX7_border_27 hcBm2 ?_
          exact z_iret O hr hlk dzX7_border_29 h
        · have h := z_if_f c3 h
          refine z_iload_n O dzX7_border_22 rfl 3 rfl ?_
          refine z_iconst O dzX7_border_23 hcI1 ?_
          refine z_icmp_le O dzX7_border_24 (fun c2 => ?_) (fun c2 => ?_)
          · have h := z_if_t c2 h
            refine z_aload_n O dzX7_border_30 rfl 0 rfl ?_
            refine z_get O z_cb7 fx_obj (v := .ref (z_ad Y 87)) 8 (Nat.le_of_ble_eq_true rfl) tw_221 rfl dzX7_border_31 ?_
            refine z_aload_n O dzX7_border_34 rfl 0 rfl ?_
            refine z_get O z_cb7 fx_obj (v := .ref (z_ad Y 1)) 0 (Nat.le_of_ble_eq_true rfl) tw_213 rfl dzX7_border_35 ?_
            refine z_get O z_cb4 (fx_stk z_stk_1) (v := .ref (z_ad Y 5)) 1 (Nat.le_of_ble_eq_true rfl) tw_62 rfl dzX7_border_38 ?_
            refine z_iload_n O dzX7_border_41 rfl 1 rfl ?_
            obtain ⟨g1, h⟩ := z_gd_at h
            refine z_aald O fx_fms1 rfl rfl g1 dzX7_border_42 ?_
            refine z_iload_n O dzX7_border_43 rfl 2 rfl ?_
            obtain ⟨r2, hc2, h⟩ := z_bd_at h
            refine z_callVv O (As := [.ref (z_ad Y (7 + a1.toNatClampNeg)), .int a2]) (rest := []) (kX5_becomeCommon hi z_tab_87 (fx_fmi1 g1) hc2) mX5_becomeCommon tw_569 (Nat.le_of_ble_eq_true rfl) (fx_tab z_tab_87) rfl rfl rfl rfl (Nat.le_of_ble_eq_true rfl) dzX7_border_44 ?_
            refine z_iload_n O dzX7_border_47 rfl 3 rfl ?_
            refine z_if_ne O dzX7_border_48 (fun c1 => ?_) (fun c1 => ?_)
            · have h := z_if_f c1 h
              refine z_aload_n O dzX7_border_65 rfl 0 rfl ?_
              refine z_get O z_cb7 fx_obj (v := .ref (z_ad Y 87)) 8 (Nat.le_of_ble_eq_true rfl) tw_221 rfl dzX7_border_66 ?_
              obtain ⟨r3, hc3, h⟩ := z_bd_at h
              refine z_callVv O (As := []) (rest := []) (kX5_flip hi z_tab_87 hc3) mX5_flip tw_441 (Nat.le_of_ble_eq_true rfl) (fx_tab z_tab_87) rfl rfl rfl rfl (Nat.le_of_ble_eq_true rfl) dzX7_border_69 ?_
              refine z_aload_n O dzX7_border_72 rfl 0 rfl ?_
              refine z_get O z_cb7 fx_obj (v := .ref (z_ad Y 88)) 9 (Nat.le_of_ble_eq_true rfl) tw_222 rfl dzX7_border_73 ?_
              refine z_aload_n O dzX7_border_76 rfl 0 rfl ?_
              refine z_get O z_cb7 fx_obj (v := .ref (z_ad Y 87)) 8 (Nat.le_of_ble_eq_true rfl) tw_221 rfl dzX7_border_77 ?_
              obtain ⟨r4, hc4, h⟩ := z_bd_at h
              refine z_callVv O (As := [.ref (z_ad Y 87)]) (rest := []) (kX5_becomeLeastOf hi z_tab_88 z_tab_87 hc4) mX5_becomeLeastOf tw_426 (Nat.le_of_ble_eq_true rfl) (fx_tab z_tab_88) rfl rfl rfl rfl (Nat.le_of_ble_eq_true rfl) dzX7_border_80 ?_
              refine z_aload_n O dzX7_border_83 rfl 0 rfl ?_
              refine z_get O z_cb7 fx_obj (v := .ref (z_ad Y 88)) 9 (Nat.le_of_ble_eq_true rfl) tw_222 rfl dzX7_border_84 ?_
              refine z_iload O dzX7_border_87 4 rfl ?_
              obtain ⟨r5, hc5, h⟩ := z_bd_at h
              refine z_callSiR O (As := [.ref (z_ad Y 88), .int a4]) (rest := []) (kX7_listed hi z_tab_88 hc5) mX7_listed tw_481 (Nat.le_of_ble_eq_true rfl) rfl rfl (Nat.le_of_ble_eq_true rfl) dzX7_border_89 ?_
              exact z_iret O hr hlk dzX7_border_92 h
            · have h := z_if_t c1 h
              refine z_aload_n O dzX7_border_51 rfl 0 rfl ?_
              refine z_get O z_cb7 fx_obj (v := .ref (z_ad Y 88)) 9 (Nat.le_of_ble_eq_true rfl) tw_222 rfl dzX7_border_52 ?_
              refine z_aload_n O dzX7_border_55 rfl 0 rfl ?_
              refine z_get O z_cb7 fx_obj (v := .ref (z_ad Y 87)) 8 (Nat.le_of_ble_eq_true rfl) tw_221 rfl dzX7_border_56 ?_
              obtain ⟨r6, hc6, h⟩ := z_bd_at h
              refine z_callVv O (As := [.ref (z_ad Y 87)]) (rest := []) (kX5_becomeGreatestOf hi z_tab_88 z_tab_87 hc6) mX5_becomeGreatestOf tw_579 (Nat.le_of_ble_eq_true rfl) (fx_tab z_tab_88) rfl rfl rfl rfl (Nat.le_of_ble_eq_true rfl) dzX7_border_59 ?_
              refine z_goto O dzX7_border_62 ?_
              refine z_aload_n O dzX7_border_83 rfl 0 rfl ?_
              refine z_get O z_cb7 fx_obj (v := .ref (z_ad Y 88)) 9 (Nat.le_of_ble_eq_true rfl) tw_222 rfl dzX7_border_84 ?_
              refine z_iload O dzX7_border_87 4 rfl ?_
              obtain ⟨r7, hc7, h⟩ := z_bd_at h
              refine z_callSiR O (As := [.ref (z_ad Y 88), .int a4]) (rest := []) (kX7_listed hi z_tab_88 hc7) mX7_listed tw_481 (Nat.le_of_ble_eq_true rfl) rfl rfl (Nat.le_of_ble_eq_true rfl) dzX7_border_89 ?_
              exact z_iret O hr hlk dzX7_border_92 h
          · have h := z_if_f c2 h
            refine z_bipush O dzX7_border_27 hcBm2 ?_
            exact z_iret O hr hlk dzX7_border_29 h
def fX7_canMake (a0 : Int32) (a1 : Int32) (a2 : Int32) : Option (Int32) :=
  (if 0 ≤ a1 then (if a0 = 0 then (if (12 : Int32) < a1 then some (0 : Int32) else (if a2 < 0 then some (0 : Int32) else (if (12 : Int32) < a2 then some (0 : Int32) else some (1 : Int32)))) else (if a0 = 1 then (if (6 : Int32) < a1 then some (0 : Int32) else some (1 : Int32)) else (if a0 = 2 then (if (12 : Int32) < a1 then some (0 : Int32) else (if a2 < (1 : Int32) then some (0 : Int32) else (if (12 : Int32) < a2 then some (0 : Int32) else some (1 : Int32)))) else (if a0 = 3 then (if (12 : Int32) < a1 then some (0 : Int32) else (if a2 < (1 : Int32) then some (0 : Int32) else (if (12 : Int32) < a2 then some (0 : Int32) else some (1 : Int32)))) else (if a0 = 4 then (if (12 : Int32) < a1 then some (0 : Int32) else some (1 : Int32)) else some (0 : Int32)))))) else some (0 : Int32))
theorem kX7_canMake {l : Launch} {Y : zY} (hi : z_inj ΛX Y) {σ : zS} {a0 : Int32} {a1 : Int32} {a2 : Int32} {fin : Int32} (h : fX7_canMake a0 a1 a2 = some fin) : Met l yX7_canMake (Cond.code yX7_canMake cX7_canMake 3 (some .boolean) :: z_TB) (z_rm 1) (z_Pc ΛX Y σ [.int a0, .int a1, .int a2]) (z_Qi ΛX Y (fin, σ)) 0 0 (z_A ΛX Y) := by
  unfold fX7_canMake at h
  refine z_met [(0, .int a0), (1, .int a1), (2, .int a2)] rfl (Nat.le_of_ble_eq_true rfl) (plainFor_of_name (by decide)) hi ?_
  intro p e s m args below meth c O hr hlk
  refine z_iload_n O dzX7_canMake_0 rfl 1 rfl ?_
  refine z_if_ge O dzX7_canMake_1 (fun c17 => ?_) (fun c17 => ?_)
  · have h := z_if_t c17 h
    refine z_iload_n O dzX7_canMake_6 rfl 0 rfl ?_
    by_cases c1 : a0 = 0
    · have h := z_if_t c1 h
      refine z_tabI O dzX7_canMake_7 (x := a0) (by rw [c1]; decide) (by rw [c1]; decide) (off := 33) (by rw [c1]; rfl) (tgt := 40) rfl ?_
      refine z_iload_n O dzX7_canMake_40 rfl 1 rfl ?_
      refine z_bipush O dzX7_canMake_41 hcB12 ?_
      refine z_icmp_gt O dzX7_canMake_43 (fun c4 => ?_) (fun c4 => ?_)
      · have h := z_if_t c4 h
        refine z_iconst O dzX7_canMake_60 hcI0 ?_
        exact z_zret O hr hlk rfl dzX7_canMake_61 (z_rf h)
      · have h := z_if_f c4 h
        refine z_iload_n O dzX7_canMake_46 rfl 2 rfl ?_
        refine z_if_lt O dzX7_canMake_47 (fun c3 => ?_) (fun c3 => ?_)
        · have h := z_if_t c3 h
          refine z_iconst O dzX7_canMake_60 hcI0 ?_
          exact z_zret O hr hlk rfl dzX7_canMake_61 (z_rf h)
        · have h := z_if_f c3 h
          refine z_iload_n O dzX7_canMake_50 rfl 2 rfl ?_
          refine z_bipush O dzX7_canMake_51 hcB12 ?_
          refine z_icmp_gt O dzX7_canMake_53 (fun c2 => ?_) (fun c2 => ?_)
          · have h := z_if_t c2 h
            refine z_iconst O dzX7_canMake_60 hcI0 ?_
            exact z_zret O hr hlk rfl dzX7_canMake_61 (z_rf h)
          · have h := z_if_f c2 h
            refine z_iconst O dzX7_canMake_56 hcI1 ?_
            refine z_goto O dzX7_canMake_57 ?_
            exact z_zret O hr hlk rfl dzX7_canMake_61 (z_rf h)
    have h := z_if_f c1 h
    by_cases c5 : a0 = 1
    · have h := z_if_t c5 h
      refine z_tabI O dzX7_canMake_7 (x := a0) (by rw [c5]; decide) (by rw [c5]; decide) (off := 55) (by rw [c5]; rfl) (tgt := 62) rfl ?_
      refine z_iload_n O dzX7_canMake_62 rfl 1 rfl ?_
      refine z_bipush O dzX7_canMake_63 hcB6 ?_
      refine z_icmp_gt O dzX7_canMake_65 (fun c6 => ?_) (fun c6 => ?_)
      · have h := z_if_t c6 h
        refine z_iconst O dzX7_canMake_72 hcI0 ?_
        exact z_zret O hr hlk rfl dzX7_canMake_73 (z_rf h)
      · have h := z_if_f c6 h
        refine z_iconst O dzX7_canMake_68 hcI1 ?_
        refine z_goto O dzX7_canMake_69 ?_
        exact z_zret O hr hlk rfl dzX7_canMake_73 (z_rf h)
    have h := z_if_f c5 h
    by_cases c7 : a0 = 2
    · have h := z_if_t c7 h
      refine z_tabI O dzX7_canMake_7 (x := a0) (by rw [c7]; decide) (by rw [c7]; decide) (off := 67) (by rw [c7]; rfl) (tgt := 74) rfl ?_
      refine z_iload_n O dzX7_canMake_74 rfl 1 rfl ?_
      refine z_bipush O dzX7_canMake_75 hcB12 ?_
      refine z_icmp_gt O dzX7_canMake_77 (fun c10 => ?_) (fun c10 => ?_)
      · have h := z_if_t c10 h
        refine z_iconst O dzX7_canMake_95 hcI0 ?_
        exact z_zret O hr hlk rfl dzX7_canMake_96 (z_rf h)
      · have h := z_if_f c10 h
        refine z_iload_n O dzX7_canMake_80 rfl 2 rfl ?_
        refine z_iconst O dzX7_canMake_81 hcI1 ?_
        refine z_icmp_lt O dzX7_canMake_82 (fun c9 => ?_) (fun c9 => ?_)
        · have h := z_if_t c9 h
          refine z_iconst O dzX7_canMake_95 hcI0 ?_
          exact z_zret O hr hlk rfl dzX7_canMake_96 (z_rf h)
        · have h := z_if_f c9 h
          refine z_iload_n O dzX7_canMake_85 rfl 2 rfl ?_
          refine z_bipush O dzX7_canMake_86 hcB12 ?_
          refine z_icmp_gt O dzX7_canMake_88 (fun c8 => ?_) (fun c8 => ?_)
          · have h := z_if_t c8 h
            refine z_iconst O dzX7_canMake_95 hcI0 ?_
            exact z_zret O hr hlk rfl dzX7_canMake_96 (z_rf h)
          · have h := z_if_f c8 h
            refine z_iconst O dzX7_canMake_91 hcI1 ?_
            refine z_goto O dzX7_canMake_92 ?_
            exact z_zret O hr hlk rfl dzX7_canMake_96 (z_rf h)
    have h := z_if_f c7 h
    by_cases c11 : a0 = 3
    · have h := z_if_t c11 h
      refine z_tabI O dzX7_canMake_7 (x := a0) (by rw [c11]; decide) (by rw [c11]; decide) (off := 67) (by rw [c11]; rfl) (tgt := 74) rfl ?_
      refine z_iload_n O dzX7_canMake_74 rfl 1 rfl ?_
      refine z_bipush O dzX7_canMake_75 hcB12 ?_
      refine z_icmp_gt O dzX7_canMake_77 (fun c14 => ?_) (fun c14 => ?_)
      · have h := z_if_t c14 h
        refine z_iconst O dzX7_canMake_95 hcI0 ?_
        exact z_zret O hr hlk rfl dzX7_canMake_96 (z_rf h)
      · have h := z_if_f c14 h
        refine z_iload_n O dzX7_canMake_80 rfl 2 rfl ?_
        refine z_iconst O dzX7_canMake_81 hcI1 ?_
        refine z_icmp_lt O dzX7_canMake_82 (fun c13 => ?_) (fun c13 => ?_)
        · have h := z_if_t c13 h
          refine z_iconst O dzX7_canMake_95 hcI0 ?_
          exact z_zret O hr hlk rfl dzX7_canMake_96 (z_rf h)
        · have h := z_if_f c13 h
          refine z_iload_n O dzX7_canMake_85 rfl 2 rfl ?_
          refine z_bipush O dzX7_canMake_86 hcB12 ?_
          refine z_icmp_gt O dzX7_canMake_88 (fun c12 => ?_) (fun c12 => ?_)
          · have h := z_if_t c12 h
            refine z_iconst O dzX7_canMake_95 hcI0 ?_
            exact z_zret O hr hlk rfl dzX7_canMake_96 (z_rf h)
          · have h := z_if_f c12 h
            refine z_iconst O dzX7_canMake_91 hcI1 ?_
            refine z_goto O dzX7_canMake_92 ?_
            exact z_zret O hr hlk rfl dzX7_canMake_96 (z_rf h)
    have h := z_if_f c11 h
    by_cases c15 : a0 = 4
    · have h := z_if_t c15 h
      refine z_tabI O dzX7_canMake_7 (x := a0) (by rw [c15]; decide) (by rw [c15]; decide) (off := 90) (by rw [c15]; rfl) (tgt := 97) rfl ?_
      refine z_iload_n O dzX7_canMake_97 rfl 1 rfl ?_
      refine z_bipush O dzX7_canMake_98 hcB12 ?_
      refine z_icmp_gt O dzX7_canMake_100 (fun c16 => ?_) (fun c16 => ?_)
      · have h := z_if_t c16 h
        refine z_iconst O dzX7_canMake_107 hcI0 ?_
        exact z_zret O hr hlk rfl dzX7_canMake_108 (z_rf h)
      · have h := z_if_f c16 h
        refine z_iconst O dzX7_canMake_103 hcI1 ?_
        refine z_goto O dzX7_canMake_104 ?_
        exact z_zret O hr hlk rfl dzX7_canMake_108 (z_rf h)
    have h := z_if_f c15 h
    have qc1 := z_ne (z := 0) rfl c1
    have qc5 := z_ne (z := 1) rfl c5
    have qc7 := z_ne (z := 2) rfl c7
    have qc11 := z_ne (z := 3) rfl c11
    have qc15 := z_ne (z := 4) rfl c15
    refine z_tabO O dzX7_canMake_7 (by omega) (tgt := 109) rfl ?_
    refine z_iconst O dzX7_canMake_109 hcI0 ?_
    exact z_zret O hr hlk rfl dzX7_canMake_110 (z_rf h)
  · have h := z_if_f c17 h
    refine z_iconst O dzX7_canMake_4 hcI0 ?_
    exact z_zret O hr hlk rfl dzX7_canMake_5 (z_rf h)
def fX7_isNoSheet (a0 : Int32) : Option (Int32) :=
  (if a0 < 0 then some (1 : Int32) else (if a0 < (4 : Int32) then some (0 : Int32) else some (1 : Int32)))
theorem kX7_isNoSheet {l : Launch} {Y : zY} (hi : z_inj ΛX Y) {σ : zS} {a0 : Int32} {fin : Int32} (h : fX7_isNoSheet a0 = some fin) : Met l yX7_isNoSheet (Cond.code yX7_isNoSheet cX7_isNoSheet 1 (some .boolean) :: z_TB) (z_rm 1) (z_Pc ΛX Y σ [.int a0]) (z_Qi ΛX Y (fin, σ)) 0 0 (z_A ΛX Y) := by
  unfold fX7_isNoSheet at h
  refine z_met [(0, .int a0)] rfl (Nat.le_of_ble_eq_true rfl) (plainFor_of_name (by decide)) hi ?_
  intro p e s m args below meth c O hr hlk
  refine z_iload_n O dzX7_isNoSheet_0 rfl 0 rfl ?_
  refine z_if_lt O dzX7_isNoSheet_1 (fun c2 => ?_) (fun c2 => ?_)
  · have h := z_if_t c2 h
    refine z_iconst O dzX7_isNoSheet_9 hcI1 ?_
    refine z_goto O dzX7_isNoSheet_10 ?_
    exact z_zret O hr hlk rfl dzX7_isNoSheet_14 (z_rf h)
  · have h := z_if_f c2 h
    refine z_iload_n O dzX7_isNoSheet_4 rfl 0 rfl ?_
    refine z_iconst O dzX7_isNoSheet_5 hcI4 ?_
    refine z_icmp_lt O dzX7_isNoSheet_6 (fun c1 => ?_) (fun c1 => ?_)
    · have h := z_if_t c1 h
      refine z_iconst O dzX7_isNoSheet_13 hcI0 ?_
      exact z_zret O hr hlk rfl dzX7_isNoSheet_14 (z_rf h)
    · have h := z_if_f c1 h
      refine z_iconst O dzX7_isNoSheet_9 hcI1 ?_
      refine z_goto O dzX7_isNoSheet_10 ?_
      exact z_zret O hr hlk rfl dzX7_isNoSheet_14 (z_rf h)
def fX7_cell (σ : zS) (a1 : Int32) (a2 : Int32) (a3 : Int64) : Option (Int32 × zS) :=
  (fX7_isNoSheet a1).bind (fun r1 => (if r1 = 0 then z_gd (z_in a1 4) ((if (σ.1 (64 + a1.toNatClampNeg) 1) = (-1 : Int32) then some ((-11 : Int32), σ) else z_gd (z_in a1 4) ((fX3_put σ (64 + a1.toNatClampNeg) a2 a3).bind (fun r2 => (if r2.1 = 0 then some ((-12 : Int32), r2.2) else some ((1 : Int32), r2.2)))))) else some ((-2 : Int32), σ)))
theorem kX7_cell {l : Launch} {Y : zY} (hi : z_inj ΛX Y) {σ : zS} {a1 : Int32} {a2 : Int32} {a3 : Int64} {fin : Int32 × zS} (h : fX7_cell σ a1 a2 a3 = some fin) : Met l yX7_cell (Cond.code yX7_cell cX7_cell 5 (some .int) :: z_TB) (z_rm 2) (z_Pc ΛX Y σ [.ref (z_ad Y 0), .int a1, .int a2, .long a3]) (z_Qi ΛX Y fin) 0 0 (z_A ΛX Y) := by
  unfold fX7_cell at h
  refine z_met [(0, .ref (z_ad Y 0)), (1, .int a1), (2, .int a2), (3, .long a3)] rfl (Nat.le_of_ble_eq_true rfl) (plainFor_of_name (by decide)) hi ?_
  intro p e s m args below meth c O hr hlk
  refine z_iload_n O dzX7_cell_0 rfl 1 rfl ?_
  obtain ⟨r1, hc1, h⟩ := z_bd_at h
  refine z_callSiR O (As := [.int a1]) (rest := []) (kX7_isNoSheet hi hc1) mX7_isNoSheet tw_678 (Nat.le_of_ble_eq_true rfl) rfl rfl (Nat.le_of_ble_eq_true rfl) dzX7_cell_1 ?_
  refine z_if_eq O dzX7_cell_4 (fun c3 => ?_) (fun c3 => ?_)
  · have h := z_if_t c3 h
    refine z_aload_n O dzX7_cell_10 rfl 0 rfl ?_
    refine z_get O z_cb7 fx_obj (v := .ref (z_ad Y 63)) 5 (Nat.le_of_ble_eq_true rfl) tw_218 rfl dzX7_cell_11 ?_
    refine z_iload_n O dzX7_cell_14 rfl 1 rfl ?_
    obtain ⟨g1, h⟩ := z_gd_at h
    refine z_aald O fx_shs rfl rfl g1 dzX7_cell_15 ?_
    refine z_get O z_cb3 (fx_she (fx_shi g1)) (v := .int (σ.1 (64 + a1.toNatClampNeg) 1)) 1 (Nat.le_of_ble_eq_true rfl) tw_140 rfl dzX7_cell_16 ?_
    refine z_iconst O dzX7_cell_19 hcIm1 ?_
    refine z_icmp_ne O dzX7_cell_20 (fun c2 => ?_) (fun c2 => ?_)
    · have h := z_if_f c2 h
      refine z_aload_n O dzX7_cell_26 rfl 0 rfl ?_
      refine z_get O z_cb7 fx_obj (v := .ref (z_ad Y 63)) 5 (Nat.le_of_ble_eq_true rfl) tw_218 rfl dzX7_cell_27 ?_
      refine z_iload_n O dzX7_cell_30 rfl 1 rfl ?_
      obtain ⟨g2, h⟩ := z_gd_at h
      refine z_aald O fx_shs rfl rfl g2 dzX7_cell_31 ?_
      refine z_iload_n O dzX7_cell_32 rfl 2 rfl ?_
      refine z_lload_n O dzX7_cell_33 rfl 3 rfl ?_
      obtain ⟨r2, hc2, h⟩ := z_bd_at h
      refine z_callVi O (As := [.int a2, .long a3]) (rest := []) (kX3_put hi (fx_shi g2) hc2) mX3_put tw_690 (Nat.le_of_ble_eq_true rfl) (fx_she (fx_shi g2)) rfl rfl rfl rfl (Nat.le_of_ble_eq_true rfl) dzX7_cell_34 ?_
      refine z_if_eq O dzX7_cell_37 (fun c1 => ?_) (fun c1 => ?_)
      · have h := z_if_t c1 h
        refine z_bipush O dzX7_cell_44 hcBm12 ?_
        exact z_iret O hr hlk dzX7_cell_46 h
      · have h := z_if_f c1 h
        refine z_iconst O dzX7_cell_40 hcI1 ?_
        refine z_goto O dzX7_cell_41 ?_
        exact z_iret O hr hlk dzX7_cell_46 h
    · have h := z_if_t c2 h
      refine z_bipush O dzX7_cell_23 hcBm11 ?_
      exact z_iret O hr hlk dzX7_cell_25 h
  · have h := z_if_f c3 h
    refine z_bipush O dzX7_cell_7 hcBm2 ?_
    exact z_iret O hr hlk dzX7_cell_9 h
def fX7_classSet_L4 (a0 : Int32) (k : Int32 → Int32 → Option (Int32)) : Nat → Int32 → Int32 → Option (Int32)
  | 0, _, _ => none
  | n + 1, v2, v3 => (if a0 ≤ 0 then k v2 v3 else (if (12 : Int32) ≤ v3 then k v2 v3 else z_lt (v2 ||| ((1 : Int32) <<< (v3 &&& 31))) (fun (x1 : Int32) => z_lt (v3 + a0) (fun (x2 : Int32) => fX7_classSet_L4 a0 k n x1 x2))))
theorem kX7_classSet_L4 {l : Launch} {Y : zY} {fin : Int32} {p : Program} {e : Env} {s : State} {m : MethodId} {args : Array Value} {below : List Frame} {meth : Method} {c : Code} {σ : zS} (O : z_ok ΛX Y p s m args c cX7_classSet RX7 4) (hi : z_inj ΛX Y) (hr : meth.sig.returnType = (some .int)) (hlk : meth.locks = false) {a0 : Int32} {k : Int32 → Int32 → Option (Int32)} (hk : ∀ (z2 : Int32) (z3 : Int32), k z2 z3 = some fin → z_G p l e (z_rm 1) s m args below meth c (MQ below (z_Qi ΛX Y (fin, σ)) args s 0 0 (z_A ΛX Y)) ΛX Y 4 σ [(0, .int a0), (2, .int z2), (3, .int z3)] 27 []) : ∀ (n : Nat) (v2 : Int32) (v3 : Int32), fX7_classSet_L4 a0 k n v2 v3 = some fin → z_G p l e (z_rm 1) s m args below meth c (MQ below (z_Qi ΛX Y (fin, σ)) args s 0 0 (z_A ΛX Y)) ΛX Y 4 σ [(0, .int a0), (2, .int v2), (3, .int v3)] 4 [] := by
  intro n
  induction n with
  | zero =>
    intro _ _ h
    cases h
  | succ n ih =>
    intro v2 v3 h
    rw [fX7_classSet_L4.eq_2] at h
    refine z_iload_n O dzX7_classSet_4 rfl 0 rfl ?_
    refine z_if_le O dzX7_classSet_5 (fun c2 => ?_) (fun c2 => ?_)
    · have h := z_if_t c2 h
      exact hk _ _ h
    · have h := z_if_f c2 h
      refine z_iload_n O dzX7_classSet_8 rfl 2 rfl ?_
      refine z_bipush O dzX7_classSet_9 hcB12 ?_
      refine z_icmp_ge O dzX7_classSet_11 (fun c1 => ?_) (fun c1 => ?_)
      · have h := z_if_t c1 h
        exact hk _ _ h
      · have h := z_if_f c1 h
        refine z_iload_n O dzX7_classSet_14 rfl 1 rfl ?_
        refine z_iconst O dzX7_classSet_15 hcI1 ?_
        refine z_iload_n O dzX7_classSet_16 rfl 2 rfl ?_
        refine z_ishl O dzX7_classSet_17 ?_
        refine z_ior O dzX7_classSet_18 ?_
        refine z_topi (fun x1 e1 => ?_)
        have h := z_lt_at e1 h
        refine z_istore_n O (lv' := [(2, .int x1), (0, .int a0), (3, .int v3)]) dzX7_classSet_19 rfl (by decide) rfl ?_
        refine z_iload_n O dzX7_classSet_20 rfl 2 rfl ?_
        refine z_iload_n O dzX7_classSet_21 rfl 1 rfl ?_
        refine z_iadd O dzX7_classSet_22 ?_
        refine z_topi (fun x2 e2 => ?_)
        have h := z_lt_at e2 h
        refine z_istore_n O (lv' := [(3, .int x2), (2, .int x1), (0, .int a0)]) dzX7_classSet_23 rfl (by decide) rfl ?_
        refine z_goto O dzX7_classSet_24 ?_
        refine z_sub [2, 1, 0] rfl ?_
        exact ih _ _ h
def fX7_classSet (a0 : Int32) (a1 : Int32) : Option (Int32) :=
  fX7_classSet_L4 a0 (fun (x1 : Int32) (x2 : Int32) => some x1) z_F (0 : Int32) a1
theorem kX7_classSet {l : Launch} {Y : zY} (hi : z_inj ΛX Y) {σ : zS} {a0 : Int32} {a1 : Int32} {fin : Int32} (h : fX7_classSet a0 a1 = some fin) : Met l yX7_classSet (Cond.code yX7_classSet cX7_classSet 4 (some .int) :: z_TB) (z_rm 1) (z_Pc ΛX Y σ [.int a0, .int a1]) (z_Qi ΛX Y (fin, σ)) 0 0 (z_A ΛX Y) := by
  unfold fX7_classSet at h
  refine z_met [(0, .int a0), (1, .int a1)] rfl (Nat.le_of_ble_eq_true rfl) (plainFor_of_name (by decide)) hi ?_
  intro p e s m args below meth c O hr hlk
  refine z_iconst O dzX7_classSet_0 hcI0 ?_
  refine z_istore_n O (lv' := [(2, .int (0 : Int32)), (0, .int a0), (1, .int a1)]) dzX7_classSet_1 rfl (by decide) rfl ?_
  refine z_iload_n O dzX7_classSet_2 rfl 2 rfl ?_
  refine z_istore_n O (lv' := [(3, .int a1), (2, .int (0 : Int32)), (0, .int a0), (1, .int a1)]) dzX7_classSet_3 rfl (by decide) rfl ?_
  refine z_sub [2, 1, 0] rfl ?_
  refine kX7_classSet_L4 O hi hr hlk   (fun x1 x2 h => ?_) _ _ _ h
  refine z_iload_n O dzX7_classSet_27 rfl 1 rfl ?_
  exact z_iret O hr hlk dzX7_classSet_28 (z_rf h)
def fX7_copy (σ : zS) (a1 : Int32) (a2 : Int32) : Option (Int32 × zS) :=
  (fX7_isNoFamily a1).bind (fun r1 => (if r1 = 0 then (fX7_isNoFamily a2).bind (fun r2 => (if r2 = 0 then z_gd (z_in a2 4) (z_gd (z_in a1 4) ((fX1_become σ (7 + a2.toNatClampNeg) (7 + a1.toNatClampNeg)).bind (fun r3 => (fX0_forgetAll r3).bind (fun r4 => z_gd (z_in a2 4) (some ((r4.1 (7 + a2.toNatClampNeg) 2), r4)))))) else some ((-2 : Int32), σ))) else some ((-2 : Int32), σ)))
theorem kX7_copy {l : Launch} {Y : zY} (hi : z_inj ΛX Y) {σ : zS} {a1 : Int32} {a2 : Int32} {fin : Int32 × zS} (h : fX7_copy σ a1 a2 = some fin) : Met l yX7_copy (Cond.code yX7_copy cX7_copy 3 (some .int) :: z_TB) (z_rm 2) (z_Pc ΛX Y σ [.ref (z_ad Y 0), .int a1, .int a2]) (z_Qi ΛX Y fin) 0 0 (z_A ΛX Y) := by
  unfold fX7_copy at h
  refine z_met [(0, .ref (z_ad Y 0)), (1, .int a1), (2, .int a2)] rfl (Nat.le_of_ble_eq_true rfl) (plainFor_of_name (by decide)) hi ?_
  intro p e s m args below meth c O hr hlk
  refine z_iload_n O dzX7_copy_0 rfl 1 rfl ?_
  obtain ⟨r1, hc1, h⟩ := z_bd_at h
  refine z_callSiR O (As := [.int a1]) (rest := []) (kX7_isNoFamily hi hc1) mX7_isNoFamily tw_273 (Nat.le_of_ble_eq_true rfl) rfl rfl (Nat.le_of_ble_eq_true rfl) dzX7_copy_1 ?_
  refine z_if_ne O dzX7_copy_4 (fun c2 => ?_) (fun c2 => ?_)
  · have h := z_if_f c2 h
    refine z_bipush O dzX7_copy_14 hcBm2 ?_
    exact z_iret O hr hlk dzX7_copy_16 h
  · have h := z_if_t c2 h
    refine z_iload_n O dzX7_copy_7 rfl 2 rfl ?_
    obtain ⟨r2, hc2, h⟩ := z_bd_at h
    refine z_callSiR O (As := [.int a2]) (rest := []) (kX7_isNoFamily hi hc2) mX7_isNoFamily tw_273 (Nat.le_of_ble_eq_true rfl) rfl rfl (Nat.le_of_ble_eq_true rfl) dzX7_copy_8 ?_
    refine z_if_eq O dzX7_copy_11 (fun c1 => ?_) (fun c1 => ?_)
    · have h := z_if_t c1 h
      refine z_aload_n O dzX7_copy_17 rfl 0 rfl ?_
      refine z_get O z_cb7 fx_obj (v := .ref (z_ad Y 1)) 0 (Nat.le_of_ble_eq_true rfl) tw_213 rfl dzX7_copy_18 ?_
      refine z_get O z_cb4 (fx_stk z_stk_1) (v := .ref (z_ad Y 5)) 1 (Nat.le_of_ble_eq_true rfl) tw_62 rfl dzX7_copy_21 ?_
      refine z_iload_n O dzX7_copy_24 rfl 2 rfl ?_
      obtain ⟨g1, h⟩ := z_gd_at h
      refine z_aald O fx_fms1 rfl rfl g1 dzX7_copy_25 ?_
      refine z_aload_n O dzX7_copy_26 rfl 0 rfl ?_
      refine z_get O z_cb7 fx_obj (v := .ref (z_ad Y 1)) 0 (Nat.le_of_ble_eq_true rfl) tw_213 rfl dzX7_copy_27 ?_
      refine z_get O z_cb4 (fx_stk z_stk_1) (v := .ref (z_ad Y 5)) 1 (Nat.le_of_ble_eq_true rfl) tw_62 rfl dzX7_copy_30 ?_
      refine z_iload_n O dzX7_copy_33 rfl 1 rfl ?_
      obtain ⟨g2, h⟩ := z_gd_at h
      refine z_aald O fx_fms1 rfl rfl g2 dzX7_copy_34 ?_
      obtain ⟨r3, hc3, h⟩ := z_bd_at h
      refine z_callVv O (As := [.ref (z_ad Y (7 + a1.toNatClampNeg))]) (rest := []) (kX1_become hi (fx_fmi1 g1) (fx_fmi1 g2) hc3) mX1_become tw_338 (Nat.le_of_ble_eq_true rfl) (fx_fam (fx_fmi1 g1)) rfl rfl rfl rfl (Nat.le_of_ble_eq_true rfl) dzX7_copy_35 ?_
      refine z_aload_n O dzX7_copy_38 rfl 0 rfl ?_
      refine z_get O z_cb7 fx_obj (v := .ref (z_ad Y 59)) 4 (Nat.le_of_ble_eq_true rfl) tw_217 rfl dzX7_copy_39 ?_
      obtain ⟨r4, hc4, h⟩ := z_bd_at h
      refine z_callVv O (As := []) (rest := []) (kX0_forgetAll hi hc4) mX0_forgetAll tw_330 (Nat.le_of_ble_eq_true rfl) fx_act rfl rfl rfl rfl (Nat.le_of_ble_eq_true rfl) dzX7_copy_42 ?_
      refine z_aload_n O dzX7_copy_45 rfl 0 rfl ?_
      refine z_get O z_cb7 fx_obj (v := .ref (z_ad Y 1)) 0 (Nat.le_of_ble_eq_true rfl) tw_213 rfl dzX7_copy_46 ?_
      refine z_get O z_cb4 (fx_stk z_stk_1) (v := .ref (z_ad Y 5)) 1 (Nat.le_of_ble_eq_true rfl) tw_62 rfl dzX7_copy_49 ?_
      refine z_iload_n O dzX7_copy_52 rfl 2 rfl ?_
      obtain ⟨g3, h⟩ := z_gd_at h
      refine z_aald O fx_fms1 rfl rfl g3 dzX7_copy_53 ?_
      refine z_get O z_cb1 (fx_fam (fx_fmi1 g3)) (v := .int (r4.1 (7 + a2.toNatClampNeg) 2)) 2 (Nat.le_of_ble_eq_true rfl) tw_50 rfl dzX7_copy_54 ?_
      exact z_iret O hr hlk dzX7_copy_57 h
    · have h := z_if_f c1 h
      refine z_bipush O dzX7_copy_14 hcBm2 ?_
      exact z_iret O hr hlk dzX7_copy_16 h
def fX7_count (σ : zS) (a1 : Int32) : Option (Int32) :=
  (if a1 = 0 then some (σ.1 1 2) else (if a1 = 1 then some (σ.1 59 3) else (if a1 = 2 then (fX7_priceOfAll σ (4095 : Int32) 3).bind (fun r1 => some r1) else some (-2 : Int32))))
theorem kX7_count {l : Launch} {Y : zY} (hi : z_inj ΛX Y) {σ : zS} {a1 : Int32} {fin : Int32} (h : fX7_count σ a1 = some fin) : Met l yX7_count (Cond.code yX7_count cX7_count 2 (some .int) :: z_TB) (z_rm 3) (z_Pc ΛX Y σ [.ref (z_ad Y 0), .int a1]) (z_Qi ΛX Y (fin, σ)) 0 0 (z_A ΛX Y) := by
  unfold fX7_count at h
  refine z_met [(0, .ref (z_ad Y 0)), (1, .int a1)] rfl (Nat.le_of_ble_eq_true rfl) (plainFor_of_name (by decide)) hi ?_
  intro p e s m args below meth c O hr hlk
  refine z_iload_n O dzX7_count_0 rfl 1 rfl ?_
  by_cases c1 : a1 = 0
  · have h := z_if_t c1 h
    refine z_tabI O dzX7_count_1 (x := a1) (by rw [c1]; decide) (by rw [c1]; decide) (off := 27) (by rw [c1]; rfl) (tgt := 28) rfl ?_
    refine z_aload_n O dzX7_count_28 rfl 0 rfl ?_
    refine z_get O z_cb7 fx_obj (v := .ref (z_ad Y 1)) 0 (Nat.le_of_ble_eq_true rfl) tw_213 rfl dzX7_count_29 ?_
    refine z_get O z_cb4 (fx_stk z_stk_1) (v := .int (σ.1 1 2)) 2 (Nat.le_of_ble_eq_true rfl) tw_64 rfl dzX7_count_32 ?_
    exact z_iret O hr hlk dzX7_count_35 (z_rf h)
  have h := z_if_f c1 h
  by_cases c2 : a1 = 1
  · have h := z_if_t c2 h
    refine z_tabI O dzX7_count_1 (x := a1) (by rw [c2]; decide) (by rw [c2]; decide) (off := 35) (by rw [c2]; rfl) (tgt := 36) rfl ?_
    refine z_aload_n O dzX7_count_36 rfl 0 rfl ?_
    refine z_get O z_cb7 fx_obj (v := .ref (z_ad Y 59)) 4 (Nat.le_of_ble_eq_true rfl) tw_217 rfl dzX7_count_37 ?_
    refine z_get O z_cb0 fx_act (v := .int (σ.1 59 3)) 3 (Nat.le_of_ble_eq_true rfl) tw_120 rfl dzX7_count_40 ?_
    exact z_iret O hr hlk dzX7_count_43 (z_rf h)
  have h := z_if_f c2 h
  by_cases c3 : a1 = 2
  · have h := z_if_t c3 h
    refine z_tabI O dzX7_count_1 (x := a1) (by rw [c3]; decide) (by rw [c3]; decide) (off := 43) (by rw [c3]; rfl) (tgt := 44) rfl ?_
    refine z_sipush O dzX7_count_44 hcS4095 ?_
    refine z_aload_n O dzX7_count_47 rfl 0 rfl ?_
    refine z_get O z_cb7 fx_obj (v := .ref (z_ad Y 1)) 0 (Nat.le_of_ble_eq_true rfl) tw_213 rfl dzX7_count_48 ?_
    refine z_get O z_cb4 (fx_stk z_stk_1) (v := .ref (z_ad Y 3)) 0 (Nat.le_of_ble_eq_true rfl) tw_60 rfl dzX7_count_51 ?_
    obtain ⟨r1, hc1, h⟩ := z_bd_at h
    refine z_callSiR O (As := [.int (4095 : Int32), .ref (z_ad Y 3)]) (rest := []) (kX7_priceOfAll hi (fx_pri z_stk_1) hc1) mX7_priceOfAll tw_651 (Nat.le_of_ble_eq_true rfl) rfl rfl (Nat.le_of_ble_eq_true rfl) dzX7_count_54 ?_
    exact z_iret O hr hlk dzX7_count_57 (z_rf h)
  have h := z_if_f c3 h
  have qc1 := z_ne (z := 0) rfl c1
  have qc2 := z_ne (z := 1) rfl c2
  have qc3 := z_ne (z := 2) rfl c3
  refine z_tabO O dzX7_count_1 (by omega) (tgt := 58) rfl ?_
  refine z_bipush O dzX7_count_58 hcBm2 ?_
  exact z_iret O hr hlk dzX7_count_60 (z_rf h)
def fX7_isNoTest (a0 : Int32) : Option (Int32) :=
  (if a0 < 0 then some (1 : Int32) else (if a0 ≤ (5 : Int32) then some (0 : Int32) else some (1 : Int32)))
theorem kX7_isNoTest {l : Launch} {Y : zY} (hi : z_inj ΛX Y) {σ : zS} {a0 : Int32} {fin : Int32} (h : fX7_isNoTest a0 = some fin) : Met l yX7_isNoTest (Cond.code yX7_isNoTest cX7_isNoTest 1 (some .boolean) :: z_TB) (z_rm 1) (z_Pc ΛX Y σ [.int a0]) (z_Qi ΛX Y (fin, σ)) 0 0 (z_A ΛX Y) := by
  unfold fX7_isNoTest at h
  refine z_met [(0, .int a0)] rfl (Nat.le_of_ble_eq_true rfl) (plainFor_of_name (by decide)) hi ?_
  intro p e s m args below meth c O hr hlk
  refine z_iload_n O dzX7_isNoTest_0 rfl 0 rfl ?_
  refine z_if_lt O dzX7_isNoTest_1 (fun c2 => ?_) (fun c2 => ?_)
  · have h := z_if_t c2 h
    refine z_iconst O dzX7_isNoTest_9 hcI1 ?_
    refine z_goto O dzX7_isNoTest_10 ?_
    exact z_zret O hr hlk rfl dzX7_isNoTest_14 (z_rf h)
  · have h := z_if_f c2 h
    refine z_iload_n O dzX7_isNoTest_4 rfl 0 rfl ?_
    refine z_iconst O dzX7_isNoTest_5 hcI5 ?_
    refine z_icmp_le O dzX7_isNoTest_6 (fun c1 => ?_) (fun c1 => ?_)
    · have h := z_if_t c1 h
      refine z_iconst O dzX7_isNoTest_13 hcI0 ?_
      exact z_zret O hr hlk rfl dzX7_isNoTest_14 (z_rf h)
    · have h := z_if_f c1 h
      refine z_iconst O dzX7_isNoTest_9 hcI1 ?_
      refine z_goto O dzX7_isNoTest_10 ?_
      exact z_zret O hr hlk rfl dzX7_isNoTest_14 (z_rf h)
def fX7_tableOf (σ : zS) (a1 : Int32) (p2 : Nat) : Option (Nat × zS) :=
  (if a1 = 0 then (fX5_becomeHitting σ 87 p2).bind (fun r1 => some (87, r1)) else (if a1 = 1 then (fX7_findDual σ p2).bind (fun r2 => some (88, r2)) else (if a1 = 2 then (fX5_becomeSetsOf σ 87 p2).bind (fun r3 => (fX5_addWholes r3 87).bind (fun r4 => (fX5_flip r4 87).bind (fun r5 => some (87, r5)))) else (if a1 = 3 then (fX5_becomeSetsOf σ 87 p2).bind (fun r6 => (fX5_addParts r6 87).bind (fun r7 => some (87, r7))) else (if a1 = 4 then (fX5_becomeOdd σ 87 p2).bind (fun r8 => some (87, r8)) else (fX5_becomeSetsOf σ 87 p2).bind (fun r9 => some (87, r9)))))))
theorem kX7_tableOf {l : Launch} {Y : zY} (hi : z_inj ΛX Y) {σ : zS} {a1 : Int32} {p2 : Nat} (h2 : z_fam p2) {fin : Nat × zS} (h : fX7_tableOf σ a1 p2 = some fin) : Met l yX7_tableOf (Cond.code yX7_tableOf cX7_tableOf 3 (some (.object RX5)) :: z_TB) (z_rm 4) (z_Pc ΛX Y σ [.ref (z_ad Y 0), .int a1, .ref (z_ad Y p2)]) (z_Qr ΛX Y fin) 0 0 (z_A ΛX Y) := by
  unfold fX7_tableOf at h
  refine z_met [(0, .ref (z_ad Y 0)), (1, .int a1), (2, .ref (z_ad Y p2))] rfl (Nat.le_of_ble_eq_true rfl) (plainFor_of_name (by decide)) hi ?_
  intro p e s m args below meth c O hr hlk
  refine z_iload_n O dzX7_tableOf_0 rfl 1 rfl ?_
  by_cases c1 : a1 = 0
  · have h := z_if_t c1 h
    refine z_tabI O dzX7_tableOf_1 (x := a1) (by rw [c1]; decide) (by rw [c1]; decide) (off := 35) (by rw [c1]; rfl) (tgt := 36) rfl ?_
    refine z_aload_n O dzX7_tableOf_36 rfl 0 rfl ?_
    refine z_get O z_cb7 fx_obj (v := .ref (z_ad Y 87)) 8 (Nat.le_of_ble_eq_true rfl) tw_221 rfl dzX7_tableOf_37 ?_
    refine z_aload_n O dzX7_tableOf_40 rfl 2 rfl ?_
    obtain ⟨r1, hc1, h⟩ := z_bd_at h
    refine z_callVv O (As := [.ref (z_ad Y p2)]) (rest := []) (kX5_becomeHitting hi z_tab_87 h2 hc1) mX5_becomeHitting tw_400 (Nat.le_of_ble_eq_true rfl) (fx_tab z_tab_87) rfl rfl rfl rfl (Nat.le_of_ble_eq_true rfl) dzX7_tableOf_41 ?_
    refine z_aload_n O dzX7_tableOf_44 rfl 0 rfl ?_
    refine z_get O z_cb7 fx_obj (v := .ref (z_ad Y 87)) 8 (Nat.le_of_ble_eq_true rfl) tw_221 rfl dzX7_tableOf_45 ?_
    exact z_aret O hr (Or.inl ⟨_, rfl⟩) hlk dzX7_tableOf_48 h
  have h := z_if_f c1 h
  by_cases c2 : a1 = 1
  · have h := z_if_t c2 h
    refine z_tabI O dzX7_tableOf_1 (x := a1) (by rw [c2]; decide) (by rw [c2]; decide) (off := 48) (by rw [c2]; rfl) (tgt := 49) rfl ?_
    refine z_aload_n O dzX7_tableOf_49 rfl 0 rfl ?_
    refine z_aload_n O dzX7_tableOf_50 rfl 2 rfl ?_
    obtain ⟨r2, hc2, h⟩ := z_bd_at h
    refine z_callVv O (As := [.ref (z_ad Y p2)]) (rest := []) (kX7_findDual hi h2 hc2) mX7_findDual tw_422 (Nat.le_of_ble_eq_true rfl) fx_obj rfl rfl rfl rfl (Nat.le_of_ble_eq_true rfl) dzX7_tableOf_51 ?_
    refine z_aload_n O dzX7_tableOf_54 rfl 0 rfl ?_
    refine z_get O z_cb7 fx_obj (v := .ref (z_ad Y 88)) 9 (Nat.le_of_ble_eq_true rfl) tw_222 rfl dzX7_tableOf_55 ?_
    exact z_aret O hr (Or.inl ⟨_, rfl⟩) hlk dzX7_tableOf_58 h
  have h := z_if_f c2 h
  by_cases c3 : a1 = 2
  · have h := z_if_t c3 h
    refine z_tabI O dzX7_tableOf_1 (x := a1) (by rw [c3]; decide) (by rw [c3]; decide) (off := 58) (by rw [c3]; rfl) (tgt := 59) rfl ?_
    refine z_aload_n O dzX7_tableOf_59 rfl 0 rfl ?_
    refine z_get O z_cb7 fx_obj (v := .ref (z_ad Y 87)) 8 (Nat.le_of_ble_eq_true rfl) tw_221 rfl dzX7_tableOf_60 ?_
    refine z_aload_n O dzX7_tableOf_63 rfl 2 rfl ?_
    obtain ⟨r3, hc3, h⟩ := z_bd_at h
    refine z_callVv O (As := [.ref (z_ad Y p2)]) (rest := []) (kX5_becomeSetsOf hi z_tab_87 h2 hc3) mX5_becomeSetsOf tw_433 (Nat.le_of_ble_eq_true rfl) (fx_tab z_tab_87) rfl rfl rfl rfl (Nat.le_of_ble_eq_true rfl) dzX7_tableOf_64 ?_
    refine z_aload_n O dzX7_tableOf_67 rfl 0 rfl ?_
    refine z_get O z_cb7 fx_obj (v := .ref (z_ad Y 87)) 8 (Nat.le_of_ble_eq_true rfl) tw_221 rfl dzX7_tableOf_68 ?_
    obtain ⟨r4, hc4, h⟩ := z_bd_at h
    refine z_callVv O (As := []) (rest := []) (kX5_addWholes hi z_tab_87 hc4) mX5_addWholes tw_437 (Nat.le_of_ble_eq_true rfl) (fx_tab z_tab_87) rfl rfl rfl rfl (Nat.le_of_ble_eq_true rfl) dzX7_tableOf_71 ?_
    refine z_aload_n O dzX7_tableOf_74 rfl 0 rfl ?_
    refine z_get O z_cb7 fx_obj (v := .ref (z_ad Y 87)) 8 (Nat.le_of_ble_eq_true rfl) tw_221 rfl dzX7_tableOf_75 ?_
    obtain ⟨r5, hc5, h⟩ := z_bd_at h
    refine z_callVv O (As := []) (rest := []) (kX5_flip hi z_tab_87 hc5) mX5_flip tw_441 (Nat.le_of_ble_eq_true rfl) (fx_tab z_tab_87) rfl rfl rfl rfl (Nat.le_of_ble_eq_true rfl) dzX7_tableOf_78 ?_
    refine z_aload_n O dzX7_tableOf_81 rfl 0 rfl ?_
    refine z_get O z_cb7 fx_obj (v := .ref (z_ad Y 87)) 8 (Nat.le_of_ble_eq_true rfl) tw_221 rfl dzX7_tableOf_82 ?_
    exact z_aret O hr (Or.inl ⟨_, rfl⟩) hlk dzX7_tableOf_85 h
  have h := z_if_f c3 h
  by_cases c4 : a1 = 3
  · have h := z_if_t c4 h
    refine z_tabI O dzX7_tableOf_1 (x := a1) (by rw [c4]; decide) (by rw [c4]; decide) (off := 85) (by rw [c4]; rfl) (tgt := 86) rfl ?_
    refine z_aload_n O dzX7_tableOf_86 rfl 0 rfl ?_
    refine z_get O z_cb7 fx_obj (v := .ref (z_ad Y 87)) 8 (Nat.le_of_ble_eq_true rfl) tw_221 rfl dzX7_tableOf_87 ?_
    refine z_aload_n O dzX7_tableOf_90 rfl 2 rfl ?_
    obtain ⟨r6, hc6, h⟩ := z_bd_at h
    refine z_callVv O (As := [.ref (z_ad Y p2)]) (rest := []) (kX5_becomeSetsOf hi z_tab_87 h2 hc6) mX5_becomeSetsOf tw_433 (Nat.le_of_ble_eq_true rfl) (fx_tab z_tab_87) rfl rfl rfl rfl (Nat.le_of_ble_eq_true rfl) dzX7_tableOf_91 ?_
    refine z_aload_n O dzX7_tableOf_94 rfl 0 rfl ?_
    refine z_get O z_cb7 fx_obj (v := .ref (z_ad Y 87)) 8 (Nat.le_of_ble_eq_true rfl) tw_221 rfl dzX7_tableOf_95 ?_
    obtain ⟨r7, hc7, h⟩ := z_bd_at h
    refine z_callVv O (As := []) (rest := []) (kX5_addParts hi z_tab_87 hc7) mX5_addParts tw_442 (Nat.le_of_ble_eq_true rfl) (fx_tab z_tab_87) rfl rfl rfl rfl (Nat.le_of_ble_eq_true rfl) dzX7_tableOf_98 ?_
    refine z_aload_n O dzX7_tableOf_101 rfl 0 rfl ?_
    refine z_get O z_cb7 fx_obj (v := .ref (z_ad Y 87)) 8 (Nat.le_of_ble_eq_true rfl) tw_221 rfl dzX7_tableOf_102 ?_
    exact z_aret O hr (Or.inl ⟨_, rfl⟩) hlk dzX7_tableOf_105 h
  have h := z_if_f c4 h
  by_cases c5 : a1 = 4
  · have h := z_if_t c5 h
    refine z_tabI O dzX7_tableOf_1 (x := a1) (by rw [c5]; decide) (by rw [c5]; decide) (off := 105) (by rw [c5]; rfl) (tgt := 106) rfl ?_
    refine z_aload_n O dzX7_tableOf_106 rfl 0 rfl ?_
    refine z_get O z_cb7 fx_obj (v := .ref (z_ad Y 87)) 8 (Nat.le_of_ble_eq_true rfl) tw_221 rfl dzX7_tableOf_107 ?_
    refine z_aload_n O dzX7_tableOf_110 rfl 2 rfl ?_
    obtain ⟨r8, hc8, h⟩ := z_bd_at h
    refine z_callVv O (As := [.ref (z_ad Y p2)]) (rest := []) (kX5_becomeOdd hi z_tab_87 h2 hc8) mX5_becomeOdd tw_443 (Nat.le_of_ble_eq_true rfl) (fx_tab z_tab_87) rfl rfl rfl rfl (Nat.le_of_ble_eq_true rfl) dzX7_tableOf_111 ?_
    refine z_aload_n O dzX7_tableOf_114 rfl 0 rfl ?_
    refine z_get O z_cb7 fx_obj (v := .ref (z_ad Y 87)) 8 (Nat.le_of_ble_eq_true rfl) tw_221 rfl dzX7_tableOf_115 ?_
    exact z_aret O hr (Or.inl ⟨_, rfl⟩) hlk dzX7_tableOf_118 h
  have h := z_if_f c5 h
  have qc1 := z_ne (z := 0) rfl c1
  have qc2 := z_ne (z := 1) rfl c2
  have qc3 := z_ne (z := 2) rfl c3
  have qc4 := z_ne (z := 3) rfl c4
  have qc5 := z_ne (z := 4) rfl c5
  refine z_tabO O dzX7_tableOf_1 (by omega) (tgt := 119) rfl ?_
  refine z_aload_n O dzX7_tableOf_119 rfl 0 rfl ?_
  refine z_get O z_cb7 fx_obj (v := .ref (z_ad Y 87)) 8 (Nat.le_of_ble_eq_true rfl) tw_221 rfl dzX7_tableOf_120 ?_
  refine z_aload_n O dzX7_tableOf_123 rfl 2 rfl ?_
  obtain ⟨r9, hc9, h⟩ := z_bd_at h
  refine z_callVv O (As := [.ref (z_ad Y p2)]) (rest := []) (kX5_becomeSetsOf hi z_tab_87 h2 hc9) mX5_becomeSetsOf tw_433 (Nat.le_of_ble_eq_true rfl) (fx_tab z_tab_87) rfl rfl rfl rfl (Nat.le_of_ble_eq_true rfl) dzX7_tableOf_124 ?_
  refine z_aload_n O dzX7_tableOf_127 rfl 0 rfl ?_
  refine z_get O z_cb7 fx_obj (v := .ref (z_ad Y 87)) 8 (Nat.le_of_ble_eq_true rfl) tw_221 rfl dzX7_tableOf_128 ?_
  exact z_aret O hr (Or.inl ⟨_, rfl⟩) hlk dzX7_tableOf_131 h
theorem tTX7_tableOf {σ : zS} {a1 : Int32} {p2 : Nat} {r : Nat × zS} (h : fX7_tableOf σ a1 p2 = some r) : z_tab r.1 := by
  unfold fX7_tableOf at h
  by_cases c0 : a1 = 0
  · have h := z_if_t c0 h
    obtain ⟨r1, hc1, h⟩ := z_bd_at h
    cases h
    exact z_tab_87
  have h := z_if_f c0 h
  by_cases c1 : a1 = 1
  · have h := z_if_t c1 h
    obtain ⟨r1, hc1, h⟩ := z_bd_at h
    cases h
    exact z_tab_88
  have h := z_if_f c1 h
  by_cases c2 : a1 = 2
  · have h := z_if_t c2 h
    obtain ⟨r1, hc1, h⟩ := z_bd_at h
    obtain ⟨r2, hc2, h⟩ := z_bd_at h
    obtain ⟨r3, hc3, h⟩ := z_bd_at h
    cases h
    exact z_tab_87
  have h := z_if_f c2 h
  by_cases c3 : a1 = 3
  · have h := z_if_t c3 h
    obtain ⟨r1, hc1, h⟩ := z_bd_at h
    obtain ⟨r2, hc2, h⟩ := z_bd_at h
    cases h
    exact z_tab_87
  have h := z_if_f c3 h
  by_cases c4 : a1 = 4
  · have h := z_if_t c4 h
    obtain ⟨r1, hc1, h⟩ := z_bd_at h
    cases h
    exact z_tab_87
  have h := z_if_f c4 h
  obtain ⟨r1, hc1, h⟩ := z_bd_at h
  cases h
  exact z_tab_87
def fX7_counted (σ : zS) (a1 : Int32) (a2 : Int32) (a3 : Int32) (a4 : Int32) : Option (Int32 × zS) :=
  (fX7_isNoFamily a1).bind (fun r1 => (if r1 = 0 then (fX7_isNoTest a2).bind (fun r2 => (if r2 = 0 then (if a3 < 0 then some ((-2 : Int32), σ) else (if (1 : Int32) < a3 then some ((-2 : Int32), σ) else (if a4 < 0 then some ((-2 : Int32), σ) else (if a4 ≤ (12 : Int32) then z_gd (z_in a1 4) ((fX7_tableOf σ a2 (7 + a1.toNatClampNeg)).bind (fun r3 => (if a3 = (1 : Int32) then (fX5_flip r3.2 r3.1).bind (fun r5 => (fX5_countOf r5 r3.1 a4).bind (fun r6 => some (r6, r5))) else (fX5_countOf r3.2 r3.1 a4).bind (fun r4 => some (r4, r3.2))))) else some ((-2 : Int32), σ))))) else some ((-2 : Int32), σ))) else some ((-2 : Int32), σ)))
theorem kX7_counted {l : Launch} {Y : zY} (hi : z_inj ΛX Y) {σ : zS} {a1 : Int32} {a2 : Int32} {a3 : Int32} {a4 : Int32} {fin : Int32 × zS} (h : fX7_counted σ a1 a2 a3 a4 = some fin) : Met l yX7_counted (Cond.code yX7_counted cX7_counted 6 (some .int) :: z_TB) (z_rm 5) (z_Pc ΛX Y σ [.ref (z_ad Y 0), .int a1, .int a2, .int a3, .int a4]) (z_Qi ΛX Y fin) 0 0 (z_A ΛX Y) := by
  unfold fX7_counted at h
  refine z_met [(0, .ref (z_ad Y 0)), (1, .int a1), (2, .int a2), (3, .int a3), (4, .int a4)] rfl (Nat.le_of_ble_eq_true rfl) (plainFor_of_name (by decide)) hi ?_
  intro p e s m args below meth c O hr hlk
  refine z_iload_n O dzX7_counted_0 rfl 1 rfl ?_
  obtain ⟨r1, hc1, h⟩ := z_bd_at h
  refine z_callSiR O (As := [.int a1]) (rest := []) (kX7_isNoFamily hi hc1) mX7_isNoFamily tw_273 (Nat.le_of_ble_eq_true rfl) rfl rfl (Nat.le_of_ble_eq_true rfl) dzX7_counted_1 ?_
  refine z_if_ne O dzX7_counted_4 (fun c7 => ?_) (fun c7 => ?_)
  · have h := z_if_f c7 h
    refine z_bipush O dzX7_counted_35 hcBm2 ?_
    exact z_iret O hr hlk dzX7_counted_37 h
  · have h := z_if_t c7 h
    refine z_iload_n O dzX7_counted_7 rfl 2 rfl ?_
    obtain ⟨r2, hc2, h⟩ := z_bd_at h
    refine z_callSiR O (As := [.int a2]) (rest := []) (kX7_isNoTest hi hc2) mX7_isNoTest tw_393 (Nat.le_of_ble_eq_true rfl) rfl rfl (Nat.le_of_ble_eq_true rfl) dzX7_counted_8 ?_
    refine z_if_ne O dzX7_counted_11 (fun c6 => ?_) (fun c6 => ?_)
    · have h := z_if_f c6 h
      refine z_bipush O dzX7_counted_35 hcBm2 ?_
      exact z_iret O hr hlk dzX7_counted_37 h
    · have h := z_if_t c6 h
      refine z_iload_n O dzX7_counted_14 rfl 3 rfl ?_
      refine z_if_lt O dzX7_counted_15 (fun c5 => ?_) (fun c5 => ?_)
      · have h := z_if_t c5 h
        refine z_bipush O dzX7_counted_35 hcBm2 ?_
        exact z_iret O hr hlk dzX7_counted_37 h
      · have h := z_if_f c5 h
        refine z_iload_n O dzX7_counted_18 rfl 3 rfl ?_
        refine z_iconst O dzX7_counted_19 hcI1 ?_
        refine z_icmp_gt O dzX7_counted_20 (fun c4 => ?_) (fun c4 => ?_)
        · have h := z_if_t c4 h
          refine z_bipush O dzX7_counted_35 hcBm2 ?_
          exact z_iret O hr hlk dzX7_counted_37 h
        · have h := z_if_f c4 h
          refine z_iload O dzX7_counted_23 4 rfl ?_
          refine z_if_lt O dzX7_counted_25 (fun c3 => ?_) (fun c3 => ?_)
          · have h := z_if_t c3 h
            refine z_bipush O dzX7_counted_35 hcBm2 ?_
            exact z_iret O hr hlk dzX7_counted_37 h
          · have h := z_if_f c3 h
            refine z_iload O dzX7_counted_28 4 rfl ?_
            refine z_bipush O dzX7_counted_30 hcB12 ?_
            refine z_icmp_le O dzX7_counted_32 (fun c2 => ?_) (fun c2 => ?_)
            · have h := z_if_t c2 h
              refine z_aload_n O dzX7_counted_38 rfl 0 rfl ?_
              refine z_iload_n O dzX7_counted_39 rfl 2 rfl ?_
              refine z_aload_n O dzX7_counted_40 rfl 0 rfl ?_
              refine z_get O z_cb7 fx_obj (v := .ref (z_ad Y 1)) 0 (Nat.le_of_ble_eq_true rfl) tw_213 rfl dzX7_counted_41 ?_
              refine z_get O z_cb4 (fx_stk z_stk_1) (v := .ref (z_ad Y 5)) 1 (Nat.le_of_ble_eq_true rfl) tw_62 rfl dzX7_counted_44 ?_
              refine z_iload_n O dzX7_counted_47 rfl 1 rfl ?_
              obtain ⟨g1, h⟩ := z_gd_at h
              refine z_aald O fx_fms1 rfl rfl g1 dzX7_counted_48 ?_
              obtain ⟨r3, hc3, h⟩ := z_bd_at h
              have hTr3 := tTX7_tableOf hc3
              refine z_callVr O (As := [.int a2, .ref (z_ad Y (7 + a1.toNatClampNeg))]) (rest := []) (kX7_tableOf hi (fx_fmi1 g1) hc3) mX7_tableOf tw_396 (Nat.le_of_ble_eq_true rfl) fx_obj rfl rfl rfl rfl (Nat.le_of_ble_eq_true rfl) dzX7_counted_49 ?_
              refine z_astore O (lv' := [(5, .ref (z_ad Y r3.1)), (0, .ref (z_ad Y 0)), (1, .int a1), (2, .int a2), (3, .int a3), (4, .int a4)]) dzX7_counted_52 (by decide) rfl ?_
              refine z_iload_n O dzX7_counted_54 rfl 4 rfl ?_
              refine z_iconst O dzX7_counted_55 hcI1 ?_
              refine z_icmp_ne O dzX7_counted_56 (fun c1 => ?_) (fun c1 => ?_)
              · have h := z_if_f c1 h
                refine z_aload O dzX7_counted_64 0 rfl ?_
                refine z_iload O dzX7_counted_66 5 rfl ?_
                obtain ⟨r4, hc4, h⟩ := z_bd_at h
                refine z_callViR O (As := [.int a4]) (rest := []) (kX5_countOf hi hTr3 hc4) mX5_countOf tw_465 (Nat.le_of_ble_eq_true rfl) (fx_tab hTr3) rfl rfl rfl rfl (Nat.le_of_ble_eq_true rfl) dzX7_counted_68 ?_
                exact z_iret O hr hlk dzX7_counted_71 h
              · have h := z_if_t c1 h
                refine z_aload O dzX7_counted_59 0 rfl ?_
                obtain ⟨r5, hc5, h⟩ := z_bd_at h
                refine z_callVv O (As := []) (rest := []) (kX5_flip hi hTr3 hc5) mX5_flip tw_441 (Nat.le_of_ble_eq_true rfl) (fx_tab hTr3) rfl rfl rfl rfl (Nat.le_of_ble_eq_true rfl) dzX7_counted_61 ?_
                refine z_aload O dzX7_counted_64 0 rfl ?_
                refine z_iload O dzX7_counted_66 5 rfl ?_
                obtain ⟨r6, hc6, h⟩ := z_bd_at h
                refine z_callViR O (As := [.int a4]) (rest := []) (kX5_countOf hi hTr3 hc6) mX5_countOf tw_465 (Nat.le_of_ble_eq_true rfl) (fx_tab hTr3) rfl rfl rfl rfl (Nat.le_of_ble_eq_true rfl) dzX7_counted_68 ?_
                exact z_iret O hr hlk dzX7_counted_71 h
            · have h := z_if_f c2 h
              refine z_bipush O dzX7_counted_35 hcBm2 ?_
              exact z_iret O hr hlk dzX7_counted_37 h
def fX7_dual (σ : zS) (a1 : Int32) (a2 : Int32) : Option (Int32 × zS) :=
  (fX7_isNoFamily a1).bind (fun r1 => (if r1 = 0 then z_gd (z_in a1 4) ((fX7_findDual σ (7 + a1.toNatClampNeg)).bind (fun r2 => (fX7_listed r2 88 a2).bind (fun r3 => some (r3, r2)))) else some ((-2 : Int32), σ)))
theorem kX7_dual {l : Launch} {Y : zY} (hi : z_inj ΛX Y) {σ : zS} {a1 : Int32} {a2 : Int32} {fin : Int32 × zS} (h : fX7_dual σ a1 a2 = some fin) : Met l yX7_dual (Cond.code yX7_dual cX7_dual 3 (some .int) :: z_TB) (z_rm 5) (z_Pc ΛX Y σ [.ref (z_ad Y 0), .int a1, .int a2]) (z_Qi ΛX Y fin) 0 0 (z_A ΛX Y) := by
  unfold fX7_dual at h
  refine z_met [(0, .ref (z_ad Y 0)), (1, .int a1), (2, .int a2)] rfl (Nat.le_of_ble_eq_true rfl) (plainFor_of_name (by decide)) hi ?_
  intro p e s m args below meth c O hr hlk
  refine z_iload_n O dzX7_dual_0 rfl 1 rfl ?_
  obtain ⟨r1, hc1, h⟩ := z_bd_at h
  refine z_callSiR O (As := [.int a1]) (rest := []) (kX7_isNoFamily hi hc1) mX7_isNoFamily tw_273 (Nat.le_of_ble_eq_true rfl) rfl rfl (Nat.le_of_ble_eq_true rfl) dzX7_dual_1 ?_
  refine z_if_eq O dzX7_dual_4 (fun c1 => ?_) (fun c1 => ?_)
  · have h := z_if_t c1 h
    refine z_aload_n O dzX7_dual_10 rfl 0 rfl ?_
    refine z_aload_n O dzX7_dual_11 rfl 0 rfl ?_
    refine z_get O z_cb7 fx_obj (v := .ref (z_ad Y 1)) 0 (Nat.le_of_ble_eq_true rfl) tw_213 rfl dzX7_dual_12 ?_
    refine z_get O z_cb4 (fx_stk z_stk_1) (v := .ref (z_ad Y 5)) 1 (Nat.le_of_ble_eq_true rfl) tw_62 rfl dzX7_dual_15 ?_
    refine z_iload_n O dzX7_dual_18 rfl 1 rfl ?_
    obtain ⟨g1, h⟩ := z_gd_at h
    refine z_aald O fx_fms1 rfl rfl g1 dzX7_dual_19 ?_
    obtain ⟨r2, hc2, h⟩ := z_bd_at h
    refine z_callVv O (As := [.ref (z_ad Y (7 + a1.toNatClampNeg))]) (rest := []) (kX7_findDual hi (fx_fmi1 g1) hc2) mX7_findDual tw_422 (Nat.le_of_ble_eq_true rfl) fx_obj rfl rfl rfl rfl (Nat.le_of_ble_eq_true rfl) dzX7_dual_20 ?_
    refine z_aload_n O dzX7_dual_23 rfl 0 rfl ?_
    refine z_get O z_cb7 fx_obj (v := .ref (z_ad Y 88)) 9 (Nat.le_of_ble_eq_true rfl) tw_222 rfl dzX7_dual_24 ?_
    refine z_iload_n O dzX7_dual_27 rfl 2 rfl ?_
    obtain ⟨r3, hc3, h⟩ := z_bd_at h
    refine z_callSiR O (As := [.ref (z_ad Y 88), .int a2]) (rest := []) (kX7_listed hi z_tab_88 hc3) mX7_listed tw_481 (Nat.le_of_ble_eq_true rfl) rfl rfl (Nat.le_of_ble_eq_true rfl) dzX7_dual_28 ?_
    exact z_iret O hr hlk dzX7_dual_31 h
  · have h := z_if_f c1 h
    refine z_bipush O dzX7_dual_7 hcBm2 ?_
    exact z_iret O hr hlk dzX7_dual_9 h
def fX7_ringSet_L5 (a0 : Int32) (a1 : Int32) (a2 : Int32) (k : Int32 → Int32 → Option (Int32)) : Nat → Int32 → Int32 → Option (Int32)
  | 0, _, _ => none
  | n + 1, v3, v4 => (if a0 ≤ 0 then k v3 v4 else (if (a2 + a1) ≤ v4 then k v3 v4 else z_gd (z_nz a0) (z_lt (v3 ||| ((1 : Int32) <<< ((v4 - v4 / a0 * a0) &&& 31))) (fun (x1 : Int32) => fX7_ringSet_L5 a0 a1 a2 k n x1 (v4 + (1 : Int32))))))
theorem kX7_ringSet_L5 {l : Launch} {Y : zY} {fin : Int32} {p : Program} {e : Env} {s : State} {m : MethodId} {args : Array Value} {below : List Frame} {meth : Method} {c : Code} {σ : zS} (O : z_ok ΛX Y p s m args c cX7_ringSet RX7 5) (hi : z_inj ΛX Y) (hr : meth.sig.returnType = (some .int)) (hlk : meth.locks = false) {a0 : Int32} {a1 : Int32} {a2 : Int32} {k : Int32 → Int32 → Option (Int32)} (hk : ∀ (z3 : Int32) (z4 : Int32), k z3 z4 = some fin → z_G p l e (z_rm 1) s m args below meth c (MQ below (z_Qi ΛX Y (fin, σ)) args s 0 0 (z_A ΛX Y)) ΛX Y 5 σ [(0, .int a0), (1, .int a1), (2, .int a2), (3, .int z3), (4, .int z4)] 32 []) : ∀ (n : Nat) (v3 : Int32) (v4 : Int32), fX7_ringSet_L5 a0 a1 a2 k n v3 v4 = some fin → z_G p l e (z_rm 1) s m args below meth c (MQ below (z_Qi ΛX Y (fin, σ)) args s 0 0 (z_A ΛX Y)) ΛX Y 5 σ [(0, .int a0), (1, .int a1), (2, .int a2), (3, .int v3), (4, .int v4)] 5 [] := by
  intro n
  induction n with
  | zero =>
    intro _ _ h
    cases h
  | succ n ih =>
    intro v3 v4 h
    rw [fX7_ringSet_L5.eq_2] at h
    refine z_iload_n O dzX7_ringSet_5 rfl 0 rfl ?_
    refine z_if_le O dzX7_ringSet_6 (fun c2 => ?_) (fun c2 => ?_)
    · have h := z_if_t c2 h
      exact hk _ _ h
    · have h := z_if_f c2 h
      refine z_iload O dzX7_ringSet_9 4 rfl ?_
      refine z_iload_n O dzX7_ringSet_11 rfl 2 rfl ?_
      refine z_iload_n O dzX7_ringSet_12 rfl 1 rfl ?_
      refine z_iadd O dzX7_ringSet_13 ?_
      refine z_icmp_ge O dzX7_ringSet_14 (fun c1 => ?_) (fun c1 => ?_)
      · have h := z_if_t c1 h
        exact hk _ _ h
      · have h := z_if_f c1 h
        refine z_iload_n O dzX7_ringSet_17 rfl 3 rfl ?_
        refine z_iconst O dzX7_ringSet_18 hcI1 ?_
        refine z_iload O dzX7_ringSet_19 4 rfl ?_
        refine z_iload_n O dzX7_ringSet_21 rfl 0 rfl ?_
        obtain ⟨g1, h⟩ := z_gd_at h
        refine z_irem O dzX7_ringSet_22 (z_nz_n g1) ?_
        refine z_ishl O dzX7_ringSet_23 ?_
        refine z_ior O dzX7_ringSet_24 ?_
        refine z_topi (fun x1 e1 => ?_)
        have h := z_lt_at e1 h
        refine z_istore_n O (lv' := [(3, .int x1), (0, .int a0), (1, .int a1), (2, .int a2), (4, .int v4)]) dzX7_ringSet_25 rfl (by decide) rfl ?_
        refine z_iinc O (lv' := [(4, .int (v4 + (1 : Int32))), (3, .int x1), (0, .int a0), (1, .int a1), (2, .int a2)]) dzX7_ringSet_26 4 rfl (congrArg _ hcI1) (by decide) rfl ?_
        refine z_goto O dzX7_ringSet_29 ?_
        refine z_sub [2, 3, 4, 1, 0] rfl ?_
        exact ih _ _ h
def fX7_ringSet (a0 : Int32) (a1 : Int32) (a2 : Int32) : Option (Int32) :=
  fX7_ringSet_L5 a0 a1 a2 (fun (x1 : Int32) (x2 : Int32) => some x1) z_F (0 : Int32) a2
theorem kX7_ringSet {l : Launch} {Y : zY} (hi : z_inj ΛX Y) {σ : zS} {a0 : Int32} {a1 : Int32} {a2 : Int32} {fin : Int32} (h : fX7_ringSet a0 a1 a2 = some fin) : Met l yX7_ringSet (Cond.code yX7_ringSet cX7_ringSet 5 (some .int) :: z_TB) (z_rm 1) (z_Pc ΛX Y σ [.int a0, .int a1, .int a2]) (z_Qi ΛX Y (fin, σ)) 0 0 (z_A ΛX Y) := by
  unfold fX7_ringSet at h
  refine z_met [(0, .int a0), (1, .int a1), (2, .int a2)] rfl (Nat.le_of_ble_eq_true rfl) (plainFor_of_name (by decide)) hi ?_
  intro p e s m args below meth c O hr hlk
  refine z_iconst O dzX7_ringSet_0 hcI0 ?_
  refine z_istore_n O (lv' := [(3, .int (0 : Int32)), (0, .int a0), (1, .int a1), (2, .int a2)]) dzX7_ringSet_1 rfl (by decide) rfl ?_
  refine z_iload_n O dzX7_ringSet_2 rfl 3 rfl ?_
  refine z_istore O (lv' := [(4, .int a2), (3, .int (0 : Int32)), (0, .int a0), (1, .int a1), (2, .int a2)]) dzX7_ringSet_3 (by decide) rfl ?_
  refine z_sub [2, 3, 4, 1, 0] rfl ?_
  refine kX7_ringSet_L5 O hi hr hlk   (fun x1 x2 h => ?_) _ _ _ h
  refine z_iload_n O dzX7_ringSet_32 rfl 3 rfl ?_
  exact z_iret O hr hlk dzX7_ringSet_33 (z_rf h)
def fX7_madeSet (a0 : Int32) (a1 : Int32) (a2 : Int32) (a3 : Int32) : Option (Int32) :=
  (if a0 = 0 then some a3 else (if a0 = 1 then some ((3 : Int32) <<< (((2 : Int32) * a3) &&& 31)) else (if a0 = 2 then some ((((1 : Int32) <<< (a2 &&& 31)) - (1 : Int32)) <<< (a3 &&& 31)) else (if a0 = 3 then (fX7_ringSet a1 a2 a3).bind (fun r1 => some r1) else (fX7_classSet a1 a3).bind (fun r2 => some r2)))))
theorem kX7_madeSet {l : Launch} {Y : zY} (hi : z_inj ΛX Y) {σ : zS} {a0 : Int32} {a1 : Int32} {a2 : Int32} {a3 : Int32} {fin : Int32} (h : fX7_madeSet a0 a1 a2 a3 = some fin) : Met l yX7_madeSet (Cond.code yX7_madeSet cX7_madeSet 4 (some .int) :: z_TB) (z_rm 2) (z_Pc ΛX Y σ [.int a0, .int a1, .int a2, .int a3]) (z_Qi ΛX Y (fin, σ)) 0 0 (z_A ΛX Y) := by
  unfold fX7_madeSet at h
  refine z_met [(0, .int a0), (1, .int a1), (2, .int a2), (3, .int a3)] rfl (Nat.le_of_ble_eq_true rfl) (plainFor_of_name (by decide)) hi ?_
  intro p e s m args below meth c O hr hlk
  refine z_iload_n O dzX7_madeSet_0 rfl 0 rfl ?_
  by_cases c1 : a0 = 0
  · have h := z_if_t c1 h
    refine z_tabI O dzX7_madeSet_1 (x := a0) (by rw [c1]; decide) (by rw [c1]; decide) (off := 31) (by rw [c1]; rfl) (tgt := 32) rfl ?_
    refine z_iload_n O dzX7_madeSet_32 rfl 3 rfl ?_
    exact z_iret O hr hlk dzX7_madeSet_33 (z_rf h)
  have h := z_if_f c1 h
  by_cases c2 : a0 = 1
  · have h := z_if_t c2 h
    refine z_tabI O dzX7_madeSet_1 (x := a0) (by rw [c2]; decide) (by rw [c2]; decide) (off := 33) (by rw [c2]; rfl) (tgt := 34) rfl ?_
    refine z_iconst O dzX7_madeSet_34 hcI3 ?_
    refine z_iconst O dzX7_madeSet_35 hcI2 ?_
    refine z_iload_n O dzX7_madeSet_36 rfl 3 rfl ?_
    refine z_imul O dzX7_madeSet_37 ?_
    refine z_ishl O dzX7_madeSet_38 ?_
    exact z_iret O hr hlk dzX7_madeSet_39 (z_rf h)
  have h := z_if_f c2 h
  by_cases c3 : a0 = 2
  · have h := z_if_t c3 h
    refine z_tabI O dzX7_madeSet_1 (x := a0) (by rw [c3]; decide) (by rw [c3]; decide) (off := 39) (by rw [c3]; rfl) (tgt := 40) rfl ?_
    refine z_iconst O dzX7_madeSet_40 hcI1 ?_
    refine z_iload_n O dzX7_madeSet_41 rfl 2 rfl ?_
    refine z_ishl O dzX7_madeSet_42 ?_
    refine z_iconst O dzX7_madeSet_43 hcI1 ?_
    refine z_isub O dzX7_madeSet_44 ?_
    refine z_iload_n O dzX7_madeSet_45 rfl 3 rfl ?_
    refine z_ishl O dzX7_madeSet_46 ?_
    exact z_iret O hr hlk dzX7_madeSet_47 (z_rf h)
  have h := z_if_f c3 h
  by_cases c4 : a0 = 3
  · have h := z_if_t c4 h
    refine z_tabI O dzX7_madeSet_1 (x := a0) (by rw [c4]; decide) (by rw [c4]; decide) (off := 47) (by rw [c4]; rfl) (tgt := 48) rfl ?_
    refine z_iload_n O dzX7_madeSet_48 rfl 1 rfl ?_
    refine z_iload_n O dzX7_madeSet_49 rfl 2 rfl ?_
    refine z_iload_n O dzX7_madeSet_50 rfl 3 rfl ?_
    obtain ⟨r1, hc1, h⟩ := z_bd_at h
    refine z_callSiR O (As := [.int a1, .int a2, .int a3]) (rest := []) (kX7_ringSet hi hc1) mX7_ringSet tw_598 (Nat.le_of_ble_eq_true rfl) rfl rfl (Nat.le_of_ble_eq_true rfl) dzX7_madeSet_51 ?_
    exact z_iret O hr hlk dzX7_madeSet_54 (z_rf h)
  have h := z_if_f c4 h
  have qc1 := z_ne (z := 0) rfl c1
  have qc2 := z_ne (z := 1) rfl c2
  have qc3 := z_ne (z := 2) rfl c3
  have qc4 := z_ne (z := 3) rfl c4
  refine z_tabO O dzX7_madeSet_1 (by omega) (tgt := 55) rfl ?_
  refine z_iload_n O dzX7_madeSet_55 rfl 1 rfl ?_
  refine z_iload_n O dzX7_madeSet_56 rfl 3 rfl ?_
  obtain ⟨r2, hc2, h⟩ := z_bd_at h
  refine z_callSiR O (As := [.int a1, .int a3]) (rest := []) (kX7_classSet hi hc2) mX7_classSet tw_601 (Nat.le_of_ble_eq_true rfl) rfl rfl (Nat.le_of_ble_eq_true rfl) dzX7_madeSet_57 ?_
  exact z_iret O hr hlk dzX7_madeSet_60 (z_rf h)
def fX7_fillSpare_L37 (a1 : Int32) (a2 : Int32) (a3 : Int32) (a4 : Int32) (k : zS → Int32 → Option (Int32 × zS)) : Nat → zS → Int32 → Option (Int32 × zS)
  | 0, _, _ => none
  | n + 1, σ, v5 => (if a4 ≤ v5 then k σ v5 else z_jn (fun (x1 : Int32) => (if x1 = 0 then (fX7_madeSet a1 a2 a3 v5).bind (fun r1 => (fX1_add σ 15 r1).bind (fun r2 => (if r2.1 = (-4 : Int32) then some ((0 : Int32), r2.2) else fX7_fillSpare_L37 a1 a2 a3 a4 k n r2.2 (v5 + (1 : Int32))))) else fX7_fillSpare_L37 a1 a2 a3 a4 k n σ (v5 + (1 : Int32)))) (fun j1 => (if a1 = 0 then (fJ6_bitCount_0f7a4 v5).bind (fun r3 => (if r3 = a3 then j1 (0 : Int32) else j1 (1 : Int32))) else j1 (0 : Int32))))
theorem kX7_fillSpare_L37 {l : Launch} {Y : zY} {fin : Int32 × zS} {p : Program} {e : Env} {s : State} {m : MethodId} {args : Array Value} {below : List Frame} {meth : Method} {c : Code} (O : z_ok ΛX Y p s m args c cX7_fillSpare RX7 7) (hi : z_inj ΛX Y) (hr : meth.sig.returnType = (some .boolean)) (hlk : meth.locks = false) {a1 : Int32} {a2 : Int32} {a3 : Int32} {a4 : Int32} {k : zS → Int32 → Option (Int32 × zS)} (hk : ∀ (w : zS) (z5 : Int32), k w z5 = some fin → z_G p l e (z_rm 3) s m args below meth c (MQ below (z_Qi ΛX Y fin) args s 0 0 (z_A ΛX Y)) ΛX Y 7 w [(0, .ref (z_ad Y 0)), (1, .int a1), (2, .int a2), (3, .int a3), (4, .int a4), (5, .int z5)] 97 []) : ∀ (n : Nat) (σ : zS) (v5 : Int32), fX7_fillSpare_L37 a1 a2 a3 a4 k n σ v5 = some fin → z_G p l e (z_rm 3) s m args below meth c (MQ below (z_Qi ΛX Y fin) args s 0 0 (z_A ΛX Y)) ΛX Y 7 σ [(0, .ref (z_ad Y 0)), (1, .int a1), (2, .int a2), (3, .int a3), (4, .int a4), (5, .int v5)] 37 [] := by
  intro n
  induction n with
  | zero =>
    intro _ _ h
    cases h
  | succ n ih =>
    intro σ v5 h
    rw [fX7_fillSpare_L37.eq_2] at h
    refine z_iload O dzX7_fillSpare_37 5 rfl ?_
    refine z_iload O dzX7_fillSpare_39 4 rfl ?_
    refine z_icmp_ge O dzX7_fillSpare_41 (fun c5 => ?_) (fun c5 => ?_)
    · have h := z_if_t c5 h
      exact hk _ _ h
    · have h := z_if_f c5 h
      refine z_iload_n O dzX7_fillSpare_44 rfl 1 rfl ?_
      refine z_jn_at (P := fun j1 => ∀ (x1 : Int32), j1 x1 = some fin → z_G p l e (z_rm 3) s m args below meth c (MQ below (z_Qi ΛX Y fin) args s 0 0 (z_A ΛX Y)) ΛX Y 7 σ [(0, .ref (z_ad Y 0)), (1, .int a1), (2, .int a2), (3, .int a3), (4, .int a4), (5, .int v5)] 62 [.int x1]) h ?_ (fun j1 J1 h => ?_)
      · intro x1 h
        refine z_istore O (lv' := [(6, .int x1), (0, .ref (z_ad Y 0)), (1, .int a1), (2, .int a2), (3, .int a3), (4, .int a4), (5, .int v5)]) dzX7_fillSpare_62 (by decide) rfl ?_
        refine z_iload O dzX7_fillSpare_64 0 rfl ?_
        refine z_if_ne O dzX7_fillSpare_66 (fun c2 => ?_) (fun c2 => ?_)
        · have h := z_if_f c2 h
          refine z_iinc O (lv' := [(5, .int (v5 + (1 : Int32))), (6, .int x1), (0, .ref (z_ad Y 0)), (1, .int a1), (2, .int a2), (3, .int a3), (4, .int a4)]) dzX7_fillSpare_91 6 rfl (congrArg _ hcI1) (by decide) rfl ?_
          refine z_goto O dzX7_fillSpare_94 ?_
          refine z_sub [2, 3, 4, 5, 6, 0] rfl ?_
          exact ih _ _ h
        · have h := z_if_t c2 h
          refine z_aload_n O dzX7_fillSpare_69 rfl 1 rfl ?_
          refine z_get O z_cb7 fx_obj (v := .ref (z_ad Y 15)) 7 (Nat.le_of_ble_eq_true rfl) tw_220 rfl dzX7_fillSpare_70 ?_
          refine z_iload_n O dzX7_fillSpare_73 rfl 2 rfl ?_
          refine z_iload_n O dzX7_fillSpare_74 rfl 3 rfl ?_
          refine z_iload_n O dzX7_fillSpare_75 rfl 4 rfl ?_
          refine z_iload O dzX7_fillSpare_76 6 rfl ?_
          obtain ⟨r1, hc1, h⟩ := z_bd_at h
          refine z_callSiR O (As := [.int a1, .int a2, .int a3, .int v5]) (rest := [.ref (z_ad Y 15)]) (kX7_madeSet hi hc1) mX7_madeSet tw_595 (Nat.le_of_ble_eq_true rfl) rfl rfl (Nat.le_of_ble_eq_true rfl) dzX7_fillSpare_78 ?_
          obtain ⟨r2, hc2, h⟩ := z_bd_at h
          refine z_callVi O (As := [.int r1]) (rest := []) (kX1_add hi z_fam_15 hc2) mX1_add tw_287 (Nat.le_of_ble_eq_true rfl) (fx_fam z_fam_15) rfl rfl rfl rfl (Nat.le_of_ble_eq_true rfl) dzX7_fillSpare_81 ?_
          refine z_bipush O dzX7_fillSpare_84 hcBm4 ?_
          refine z_icmp_ne O dzX7_fillSpare_86 (fun c1 => ?_) (fun c1 => ?_)
          · have h := z_if_f c1 h
            refine z_iinc O (lv' := [(5, .int (v5 + (1 : Int32))), (6, .int x1), (0, .ref (z_ad Y 0)), (1, .int a1), (2, .int a2), (3, .int a3), (4, .int a4)]) dzX7_fillSpare_91 6 rfl (congrArg _ hcI1) (by decide) rfl ?_
            refine z_goto O dzX7_fillSpare_94 ?_
            refine z_sub [2, 3, 4, 5, 6, 0] rfl ?_
            exact ih _ _ h
          · have h := z_if_t c1 h
            refine z_iconst O dzX7_fillSpare_89 hcI0 ?_
            exact z_zret O hr hlk rfl dzX7_fillSpare_90 h
      · refine z_if_ne O dzX7_fillSpare_45 (fun c4 => ?_) (fun c4 => ?_)
        · have h := z_if_f c4 h
          refine z_iconst O dzX7_fillSpare_61 hcI0 ?_
          exact J1 (0 : Int32) h
        · have h := z_if_t c4 h
          refine z_iload O dzX7_fillSpare_48 5 rfl ?_
          obtain ⟨r3, hc3, h⟩ := z_bd_at h
          refine z_callSiR O (As := [.int v5]) (rest := []) (kJ6_bitCount_0f7a4 hi hc3) mJ6_bitCount_0f7a4 tw_594 (Nat.le_of_ble_eq_true rfl) rfl rfl (Nat.le_of_ble_eq_true rfl) dzX7_fillSpare_50 ?_
          refine z_iload_n O dzX7_fillSpare_53 rfl 3 rfl ?_
          refine z_icmp_eq O dzX7_fillSpare_54 (fun c3 => ?_) (fun c3 => ?_)
          · have h := z_if_t c3 h
            refine z_iconst O dzX7_fillSpare_61 hcI0 ?_
            exact J1 (0 : Int32) h
          · have h := z_if_f c3 h
            refine z_iconst O dzX7_fillSpare_57 hcI1 ?_
            refine z_goto O dzX7_fillSpare_58 ?_
            exact J1 (1 : Int32) h
def fX7_fillSpare (σ : zS) (a1 : Int32) (a2 : Int32) (a3 : Int32) : Option (Int32 × zS) :=
  z_jn (fun (x1 : Int32) => (fX1_clear σ 15).bind (fun r1 => fX7_fillSpare_L37 a1 a2 a3 x1 (fun (w1 : zS) (x2 : Int32) => some ((1 : Int32), w1)) z_F r1 (0 : Int32))) (fun j1 => (if a1 = 0 then z_lt ((1 : Int32) <<< (a2 &&& 31)) (fun (x4 : Int32) => j1 x4) else (if a1 = (2 : Int32) then z_lt ((a2 - a3) + (1 : Int32)) (fun (x3 : Int32) => j1 x3) else j1 a2)))
theorem kX7_fillSpare {l : Launch} {Y : zY} (hi : z_inj ΛX Y) {σ : zS} {a1 : Int32} {a2 : Int32} {a3 : Int32} {fin : Int32 × zS} (h : fX7_fillSpare σ a1 a2 a3 = some fin) : Met l yX7_fillSpare (Cond.code yX7_fillSpare cX7_fillSpare 7 (some .boolean) :: z_TB) (z_rm 3) (z_Pc ΛX Y σ [.ref (z_ad Y 0), .int a1, .int a2, .int a3]) (z_Qi ΛX Y fin) 0 0 (z_A ΛX Y) := by
  unfold fX7_fillSpare at h
  refine z_met [(0, .ref (z_ad Y 0)), (1, .int a1), (2, .int a2), (3, .int a3)] rfl (Nat.le_of_ble_eq_true rfl) (plainFor_of_name (by decide)) hi ?_
  intro p e s m args below meth c O hr hlk
  refine z_iload_n O dzX7_fillSpare_0 rfl 2 rfl ?_
  refine z_istore O (lv' := [(4, .int a2), (0, .ref (z_ad Y 0)), (1, .int a1), (2, .int a2), (3, .int a3)]) dzX7_fillSpare_1 (by decide) rfl ?_
  refine z_iload_n O dzX7_fillSpare_3 rfl 2 rfl ?_
  refine z_jn_at (P := fun j1 => ∀ (x1 : Int32), j1 x1 = some fin → z_G p l e (z_rm 3) s m args below meth c (MQ below (z_Qi ΛX Y fin) args s 0 0 (z_A ΛX Y)) ΛX Y 7 σ [(4, .int x1), (0, .ref (z_ad Y 0)), (1, .int a1), (2, .int a2), (3, .int a3)] 27 []) h ?_ (fun j1 J1 h => ?_)
  · intro x1 h
    refine z_aload_n O dzX7_fillSpare_27 rfl 1 rfl ?_
    refine z_get O z_cb7 fx_obj (v := .ref (z_ad Y 15)) 7 (Nat.le_of_ble_eq_true rfl) tw_220 rfl dzX7_fillSpare_28 ?_
    obtain ⟨r1, hc1, h⟩ := z_bd_at h
    refine z_callVv O (As := []) (rest := []) (kX1_clear hi z_fam_15 hc1) mX1_clear tw_326 (Nat.le_of_ble_eq_true rfl) (fx_fam z_fam_15) rfl rfl rfl rfl (Nat.le_of_ble_eq_true rfl) dzX7_fillSpare_31 ?_
    refine z_iconst O dzX7_fillSpare_34 hcI0 ?_
    refine z_istore O (lv' := [(5, .int (0 : Int32)), (4, .int x1), (0, .ref (z_ad Y 0)), (1, .int a1), (2, .int a2), (3, .int a3)]) dzX7_fillSpare_35 (by decide) rfl ?_
    refine z_sub [2, 3, 4, 5, 1, 0] rfl ?_
    refine kX7_fillSpare_L37 O hi hr hlk   (fun w1 x2 h => ?_) _ _ _ h
    refine z_iconst O dzX7_fillSpare_97 hcI1 ?_
    exact z_zret O hr hlk rfl dzX7_fillSpare_98 h
  · refine z_if_ne O dzX7_fillSpare_4 (fun c2 => ?_) (fun c2 => ?_)
    · have h := z_if_f c2 h
      refine z_iload_n O dzX7_fillSpare_15 rfl 2 rfl ?_
      refine z_iconst O dzX7_fillSpare_16 hcI2 ?_
      refine z_icmp_ne O dzX7_fillSpare_17 (fun c1 => ?_) (fun c1 => ?_)
      · have h := z_if_f c1 h
        exact J1 a2 h
      · have h := z_if_t c1 h
        refine z_iload_n O dzX7_fillSpare_20 rfl 3 rfl ?_
        refine z_iload_n O dzX7_fillSpare_21 rfl 4 rfl ?_
        refine z_isub O dzX7_fillSpare_22 ?_
        refine z_iconst O dzX7_fillSpare_23 hcI1 ?_
        refine z_iadd O dzX7_fillSpare_24 ?_
        refine z_topi (fun x3 e1 => ?_)
        have h := z_lt_at e1 h
        refine z_istore O (lv' := [(4, .int x3), (0, .ref (z_ad Y 0)), (1, .int a1), (2, .int a2), (3, .int a3)]) dzX7_fillSpare_25 (by decide) rfl ?_
        exact J1 x3 h
    · have h := z_if_t c2 h
      refine z_iconst O dzX7_fillSpare_7 hcI1 ?_
      refine z_iload_n O dzX7_fillSpare_8 rfl 3 rfl ?_
      refine z_ishl O dzX7_fillSpare_9 ?_
      refine z_topi (fun x4 e2 => ?_)
      have h := z_lt_at e2 h
      refine z_istore O (lv' := [(4, .int x4), (0, .ref (z_ad Y 0)), (1, .int a1), (2, .int a2), (3, .int a3)]) dzX7_fillSpare_10 (by decide) rfl ?_
      refine z_goto O dzX7_fillSpare_12 ?_
      exact J1 x4 h
def fX7_firstNotHeld_L7 (σ : zS) (q0 : Nat) (q1 : Nat) (k : Int32 → Int32 → Option (Int32)) : Nat → Int32 → Int32 → Option (Int32)
  | 0, _, _ => none
  | n + 1, v2, v3 => (if v3 ≤ 0 then k v2 v3 else (fX5_next σ q0 (v2 + (1 : Int32))).bind (fun r1 => (fX1_placeOf σ q1 r1).bind (fun r2 => (if r2 = (-1 : Int32) then some r1 else fX7_firstNotHeld_L7 σ q0 q1 k n r1 (v3 + (-1 : Int32))))))
theorem kX7_firstNotHeld_L7 {l : Launch} {Y : zY} {fin : Int32} {p : Program} {e : Env} {s : State} {m : MethodId} {args : Array Value} {below : List Frame} {meth : Method} {c : Code} {σ : zS} (O : z_ok ΛX Y p s m args c cX7_firstNotHeld RX7 4) (hi : z_inj ΛX Y) (hr : meth.sig.returnType = (some .int)) (hlk : meth.locks = false) {q0 : Nat} (h0 : z_tab q0) {q1 : Nat} (h1 : z_fam q1) {k : Int32 → Int32 → Option (Int32)} (hk : ∀ (z2 : Int32) (z3 : Int32), k z2 z3 = some fin → z_G p l e (z_rm 4) s m args below meth c (MQ below (z_Qi ΛX Y (fin, σ)) args s 0 0 (z_A ΛX Y)) ΛX Y 4 σ [(0, .ref (z_ad Y q0)), (1, .ref (z_ad Y q1)), (2, .int z2), (3, .int z3)] 36 []) : ∀ (n : Nat) (v2 : Int32) (v3 : Int32), fX7_firstNotHeld_L7 σ q0 q1 k n v2 v3 = some fin → z_G p l e (z_rm 4) s m args below meth c (MQ below (z_Qi ΛX Y (fin, σ)) args s 0 0 (z_A ΛX Y)) ΛX Y 4 σ [(0, .ref (z_ad Y q0)), (1, .ref (z_ad Y q1)), (2, .int v2), (3, .int v3)] 7 [] := by
  intro n
  induction n with
  | zero =>
    intro _ _ h
    cases h
  | succ n ih =>
    intro v2 v3 h
    rw [fX7_firstNotHeld_L7.eq_2] at h
    refine z_iload_n O dzX7_firstNotHeld_7 rfl 3 rfl ?_
    refine z_if_le O dzX7_firstNotHeld_8 (fun c2 => ?_) (fun c2 => ?_)
    · have h := z_if_t c2 h
      exact hk _ _ h
    · have h := z_if_f c2 h
      refine z_aload_n O dzX7_firstNotHeld_11 rfl 0 rfl ?_
      refine z_iload_n O dzX7_firstNotHeld_12 rfl 2 rfl ?_
      refine z_iconst O dzX7_firstNotHeld_13 hcI1 ?_
      refine z_iadd O dzX7_firstNotHeld_14 ?_
      obtain ⟨r1, hc1, h⟩ := z_bd_at h
      refine z_callViR O (As := [.int (v2 + (1 : Int32))]) (rest := []) (kX5_next hi h0 hc1) mX5_next tw_511 (Nat.le_of_ble_eq_true rfl) (fx_tab h0) rfl rfl rfl rfl (Nat.le_of_ble_eq_true rfl) dzX7_firstNotHeld_15 ?_
      refine z_istore_n O (lv' := [(2, .int r1), (0, .ref (z_ad Y q0)), (1, .ref (z_ad Y q1)), (3, .int v3)]) dzX7_firstNotHeld_18 rfl (by decide) rfl ?_
      refine z_aload_n O dzX7_firstNotHeld_19 rfl 2 rfl ?_
      refine z_iload_n O dzX7_firstNotHeld_20 rfl 0 rfl ?_
      obtain ⟨r2, hc2, h⟩ := z_bd_at h
      refine z_callViR O (As := [.int r1]) (rest := []) (kX1_placeOf hi h1 hc2) mX1_placeOf tw_516 (Nat.le_of_ble_eq_true rfl) (fx_fam h1) rfl rfl rfl rfl (Nat.le_of_ble_eq_true rfl) dzX7_firstNotHeld_21 ?_
      refine z_iconst O dzX7_firstNotHeld_24 hcIm1 ?_
      refine z_icmp_ne O dzX7_firstNotHeld_25 (fun c1 => ?_) (fun c1 => ?_)
      · have h := z_if_f c1 h
        refine z_iinc O (lv' := [(3, .int (v3 + (-1 : Int32))), (2, .int r1), (0, .ref (z_ad Y q0)), (1, .ref (z_ad Y q1))]) dzX7_firstNotHeld_30 3 rfl (congrArg _ hcIm1) (by decide) rfl ?_
        refine z_goto O dzX7_firstNotHeld_33 ?_
        refine z_sub [2, 3, 1, 0] rfl ?_
        exact ih _ _ h
      · have h := z_if_t c1 h
        refine z_iload_n O dzX7_firstNotHeld_28 rfl 0 rfl ?_
        exact z_iret O hr hlk dzX7_firstNotHeld_29 (z_rf h)
def fX7_firstNotHeld (σ : zS) (p0 : Nat) (p1 : Nat) : Option (Int32) :=
  (fX5_countAll σ p0).bind (fun r1 => fX7_firstNotHeld_L7 σ p0 p1 (fun (x1 : Int32) (x2 : Int32) => some (-1 : Int32)) z_F (-1 : Int32) r1)
theorem kX7_firstNotHeld {l : Launch} {Y : zY} (hi : z_inj ΛX Y) {σ : zS} {p0 : Nat} (h0 : z_tab p0) {p1 : Nat} (h1 : z_fam p1) {fin : Int32} (h : fX7_firstNotHeld σ p0 p1 = some fin) : Met l yX7_firstNotHeld (Cond.code yX7_firstNotHeld cX7_firstNotHeld 4 (some .int) :: z_TB) (z_rm 4) (z_Pc ΛX Y σ [.ref (z_ad Y p0), .ref (z_ad Y p1)]) (z_Qi ΛX Y (fin, σ)) 0 0 (z_A ΛX Y) := by
  unfold fX7_firstNotHeld at h
  refine z_met [(0, .ref (z_ad Y p0)), (1, .ref (z_ad Y p1))] rfl (Nat.le_of_ble_eq_true rfl) (plainFor_of_name (by decide)) hi ?_
  intro p e s m args below meth c O hr hlk
  refine z_iconst O dzX7_firstNotHeld_0 hcIm1 ?_
  refine z_istore_n O (lv' := [(2, .int (-1 : Int32)), (0, .ref (z_ad Y p0)), (1, .ref (z_ad Y p1))]) dzX7_firstNotHeld_1 rfl (by decide) rfl ?_
  refine z_aload_n O dzX7_firstNotHeld_2 rfl 1 rfl ?_
  obtain ⟨r1, hc1, h⟩ := z_bd_at h
  refine z_callViR O (As := []) (rest := []) (kX5_countAll hi h0 hc1) mX5_countAll tw_484 (Nat.le_of_ble_eq_true rfl) (fx_tab h0) rfl rfl rfl rfl (Nat.le_of_ble_eq_true rfl) dzX7_firstNotHeld_3 ?_
  refine z_istore_n O (lv' := [(3, .int r1), (2, .int (-1 : Int32)), (0, .ref (z_ad Y p0)), (1, .ref (z_ad Y p1))]) dzX7_firstNotHeld_6 rfl (by decide) rfl ?_
  refine z_sub [2, 3, 1, 0] rfl ?_
  refine kX7_firstNotHeld_L7 O hi hr hlk (h0 := h0) (h1 := h1)  (fun x1 x2 h => ?_) _ _ _ h
  refine z_iconst O dzX7_firstNotHeld_36 hcIm1 ?_
  exact z_iret O hr hlk dzX7_firstNotHeld_37 (z_rf h)
def fX7_isNoPoint (a0 : Int32) : Option (Int32) :=
  (if a0 < 0 then some (1 : Int32) else (if a0 < (12 : Int32) then some (0 : Int32) else some (1 : Int32)))
theorem kX7_isNoPoint {l : Launch} {Y : zY} (hi : z_inj ΛX Y) {σ : zS} {a0 : Int32} {fin : Int32} (h : fX7_isNoPoint a0 = some fin) : Met l yX7_isNoPoint (Cond.code yX7_isNoPoint cX7_isNoPoint 1 (some .boolean) :: z_TB) (z_rm 1) (z_Pc ΛX Y σ [.int a0]) (z_Qi ΛX Y (fin, σ)) 0 0 (z_A ΛX Y) := by
  unfold fX7_isNoPoint at h
  refine z_met [(0, .int a0)] rfl (Nat.le_of_ble_eq_true rfl) (plainFor_of_name (by decide)) hi ?_
  intro p e s m args below meth c O hr hlk
  refine z_iload_n O dzX7_isNoPoint_0 rfl 0 rfl ?_
  refine z_if_lt O dzX7_isNoPoint_1 (fun c2 => ?_) (fun c2 => ?_)
  · have h := z_if_t c2 h
    refine z_iconst O dzX7_isNoPoint_10 hcI1 ?_
    refine z_goto O dzX7_isNoPoint_11 ?_
    exact z_zret O hr hlk rfl dzX7_isNoPoint_15 (z_rf h)
  · have h := z_if_f c2 h
    refine z_iload_n O dzX7_isNoPoint_4 rfl 0 rfl ?_
    refine z_bipush O dzX7_isNoPoint_5 hcB12 ?_
    refine z_icmp_lt O dzX7_isNoPoint_7 (fun c1 => ?_) (fun c1 => ?_)
    · have h := z_if_t c1 h
      refine z_iconst O dzX7_isNoPoint_14 hcI0 ?_
      exact z_zret O hr hlk rfl dzX7_isNoPoint_15 (z_rf h)
    · have h := z_if_f c1 h
      refine z_iconst O dzX7_isNoPoint_10 hcI1 ?_
      refine z_goto O dzX7_isNoPoint_11 ?_
      exact z_zret O hr hlk rfl dzX7_isNoPoint_15 (z_rf h)
def fX7_fitsHow (a0 : Int32) (a1 : Int32) : Option (Int32) :=
  (if a0 = 2 then (if a1 < (-9 : Int32) then some (0 : Int32) else (if (9 : Int32) < a1 then some (0 : Int32) else some (1 : Int32))) else (if a0 = 3 then (fX7_isNoPoint a1).bind (fun r1 => (if r1 = 0 then some (1 : Int32) else some (0 : Int32))) else (if a0 = 4 then (if a1 ≤ (-12 : Int32) then some (0 : Int32) else (if (12 : Int32) ≤ a1 then some (0 : Int32) else some (1 : Int32))) else (if a0 = 5 then (fX7_isNoPoint a1).bind (fun r2 => (if r2 = 0 then some (1 : Int32) else some (0 : Int32))) else (if a0 = 6 then some (1 : Int32) else (if a0 = 7 then (fX7_isNoFamily a1).bind (fun r3 => (if r3 = 0 then some (1 : Int32) else some (0 : Int32))) else some (1 : Int32)))))))
theorem kX7_fitsHow {l : Launch} {Y : zY} (hi : z_inj ΛX Y) {σ : zS} {a0 : Int32} {a1 : Int32} {fin : Int32} (h : fX7_fitsHow a0 a1 = some fin) : Met l yX7_fitsHow (Cond.code yX7_fitsHow cX7_fitsHow 2 (some .boolean) :: z_TB) (z_rm 2) (z_Pc ΛX Y σ [.int a0, .int a1]) (z_Qi ΛX Y (fin, σ)) 0 0 (z_A ΛX Y) := by
  unfold fX7_fitsHow at h
  refine z_met [(0, .int a0), (1, .int a1)] rfl (Nat.le_of_ble_eq_true rfl) (plainFor_of_name (by decide)) hi ?_
  intro p e s m args below meth c O hr hlk
  refine z_iload_n O dzX7_fitsHow_0 rfl 0 rfl ?_
  by_cases c1 : a0 = 2
  · have h := z_if_t c1 h
    refine z_tabI O dzX7_fitsHow_1 (x := a0) (by rw [c1]; decide) (by rw [c1]; decide) (off := 39) (by rw [c1]; rfl) (tgt := 40) rfl ?_
    refine z_iload_n O dzX7_fitsHow_40 rfl 1 rfl ?_
    refine z_bipush O dzX7_fitsHow_41 hcBm9 ?_
    refine z_icmp_lt O dzX7_fitsHow_43 (fun c3 => ?_) (fun c3 => ?_)
    · have h := z_if_t c3 h
      refine z_iconst O dzX7_fitsHow_56 hcI0 ?_
      exact z_zret O hr hlk rfl dzX7_fitsHow_57 (z_rf h)
    · have h := z_if_f c3 h
      refine z_iload_n O dzX7_fitsHow_46 rfl 1 rfl ?_
      refine z_bipush O dzX7_fitsHow_47 hcB9 ?_
      refine z_icmp_gt O dzX7_fitsHow_49 (fun c2 => ?_) (fun c2 => ?_)
      · have h := z_if_t c2 h
        refine z_iconst O dzX7_fitsHow_56 hcI0 ?_
        exact z_zret O hr hlk rfl dzX7_fitsHow_57 (z_rf h)
      · have h := z_if_f c2 h
        refine z_iconst O dzX7_fitsHow_52 hcI1 ?_
        refine z_goto O dzX7_fitsHow_53 ?_
        exact z_zret O hr hlk rfl dzX7_fitsHow_57 (z_rf h)
  have h := z_if_f c1 h
  by_cases c4 : a0 = 3
  · have h := z_if_t c4 h
    refine z_tabI O dzX7_fitsHow_1 (x := a0) (by rw [c4]; decide) (by rw [c4]; decide) (off := 57) (by rw [c4]; rfl) (tgt := 58) rfl ?_
    refine z_iload_n O dzX7_fitsHow_58 rfl 1 rfl ?_
    obtain ⟨r1, hc1, h⟩ := z_bd_at h
    refine z_callSiR O (As := [.int a1]) (rest := []) (kX7_isNoPoint hi hc1) mX7_isNoPoint tw_251 (Nat.le_of_ble_eq_true rfl) rfl rfl (Nat.le_of_ble_eq_true rfl) dzX7_fitsHow_59 ?_
    refine z_if_ne O dzX7_fitsHow_62 (fun c5 => ?_) (fun c5 => ?_)
    · have h := z_if_f c5 h
      refine z_iconst O dzX7_fitsHow_69 hcI0 ?_
      exact z_zret O hr hlk rfl dzX7_fitsHow_70 (z_rf h)
    · have h := z_if_t c5 h
      refine z_iconst O dzX7_fitsHow_65 hcI1 ?_
      refine z_goto O dzX7_fitsHow_66 ?_
      exact z_zret O hr hlk rfl dzX7_fitsHow_70 (z_rf h)
  have h := z_if_f c4 h
  by_cases c6 : a0 = 4
  · have h := z_if_t c6 h
    refine z_tabI O dzX7_fitsHow_1 (x := a0) (by rw [c6]; decide) (by rw [c6]; decide) (off := 70) (by rw [c6]; rfl) (tgt := 71) rfl ?_
    refine z_iload_n O dzX7_fitsHow_71 rfl 1 rfl ?_
    refine z_bipush O dzX7_fitsHow_72 hcBm12 ?_
    refine z_icmp_le O dzX7_fitsHow_74 (fun c8 => ?_) (fun c8 => ?_)
    · have h := z_if_t c8 h
      refine z_iconst O dzX7_fitsHow_87 hcI0 ?_
      exact z_zret O hr hlk rfl dzX7_fitsHow_88 (z_rf h)
    · have h := z_if_f c8 h
      refine z_iload_n O dzX7_fitsHow_77 rfl 1 rfl ?_
      refine z_bipush O dzX7_fitsHow_78 hcB12 ?_
      refine z_icmp_ge O dzX7_fitsHow_80 (fun c7 => ?_) (fun c7 => ?_)
      · have h := z_if_t c7 h
        refine z_iconst O dzX7_fitsHow_87 hcI0 ?_
        exact z_zret O hr hlk rfl dzX7_fitsHow_88 (z_rf h)
      · have h := z_if_f c7 h
        refine z_iconst O dzX7_fitsHow_83 hcI1 ?_
        refine z_goto O dzX7_fitsHow_84 ?_
        exact z_zret O hr hlk rfl dzX7_fitsHow_88 (z_rf h)
  have h := z_if_f c6 h
  by_cases c9 : a0 = 5
  · have h := z_if_t c9 h
    refine z_tabI O dzX7_fitsHow_1 (x := a0) (by rw [c9]; decide) (by rw [c9]; decide) (off := 57) (by rw [c9]; rfl) (tgt := 58) rfl ?_
    refine z_iload_n O dzX7_fitsHow_58 rfl 1 rfl ?_
    obtain ⟨r2, hc2, h⟩ := z_bd_at h
    refine z_callSiR O (As := [.int a1]) (rest := []) (kX7_isNoPoint hi hc2) mX7_isNoPoint tw_251 (Nat.le_of_ble_eq_true rfl) rfl rfl (Nat.le_of_ble_eq_true rfl) dzX7_fitsHow_59 ?_
    refine z_if_ne O dzX7_fitsHow_62 (fun c10 => ?_) (fun c10 => ?_)
    · have h := z_if_f c10 h
      refine z_iconst O dzX7_fitsHow_69 hcI0 ?_
      exact z_zret O hr hlk rfl dzX7_fitsHow_70 (z_rf h)
    · have h := z_if_t c10 h
      refine z_iconst O dzX7_fitsHow_65 hcI1 ?_
      refine z_goto O dzX7_fitsHow_66 ?_
      exact z_zret O hr hlk rfl dzX7_fitsHow_70 (z_rf h)
  have h := z_if_f c9 h
  by_cases c11 : a0 = 6
  · have h := z_if_t c11 h
    refine z_tabI O dzX7_fitsHow_1 (x := a0) (by rw [c11]; decide) (by rw [c11]; decide) (off := 101) (by rw [c11]; rfl) (tgt := 102) rfl ?_
    refine z_iconst O dzX7_fitsHow_102 hcI1 ?_
    exact z_zret O hr hlk rfl dzX7_fitsHow_103 (z_rf h)
  have h := z_if_f c11 h
  by_cases c12 : a0 = 7
  · have h := z_if_t c12 h
    refine z_tabI O dzX7_fitsHow_1 (x := a0) (by rw [c12]; decide) (by rw [c12]; decide) (off := 88) (by rw [c12]; rfl) (tgt := 89) rfl ?_
    refine z_iload_n O dzX7_fitsHow_89 rfl 1 rfl ?_
    obtain ⟨r3, hc3, h⟩ := z_bd_at h
    refine z_callSiR O (As := [.int a1]) (rest := []) (kX7_isNoFamily hi hc3) mX7_isNoFamily tw_273 (Nat.le_of_ble_eq_true rfl) rfl rfl (Nat.le_of_ble_eq_true rfl) dzX7_fitsHow_90 ?_
    refine z_if_ne O dzX7_fitsHow_93 (fun c13 => ?_) (fun c13 => ?_)
    · have h := z_if_f c13 h
      refine z_iconst O dzX7_fitsHow_100 hcI0 ?_
      exact z_zret O hr hlk rfl dzX7_fitsHow_101 (z_rf h)
    · have h := z_if_t c13 h
      refine z_iconst O dzX7_fitsHow_96 hcI1 ?_
      refine z_goto O dzX7_fitsHow_97 ?_
      exact z_zret O hr hlk rfl dzX7_fitsHow_101 (z_rf h)
  have h := z_if_f c12 h
  have qc1 := z_ne (z := 2) rfl c1
  have qc4 := z_ne (z := 3) rfl c4
  have qc6 := z_ne (z := 4) rfl c6
  have qc9 := z_ne (z := 5) rfl c9
  have qc11 := z_ne (z := 6) rfl c11
  have qc12 := z_ne (z := 7) rfl c12
  refine z_tabO O dzX7_fitsHow_1 (by omega) (tgt := 102) rfl ?_
  refine z_iconst O dzX7_fitsHow_102 hcI1 ?_
  exact z_zret O hr hlk rfl dzX7_fitsHow_103 (z_rf h)
def fX7_freqs_L35 (a1 : Int32) (a2 : Int32) (k : zS → Int32 → Option (Int32 × zS)) : Nat → zS → Int32 → Option (Int32 × zS)
  | 0, _, _ => none
  | n + 1, σ, v3 => (if (12 : Int32) ≤ v3 then k σ v3 else z_gd (z_in a1 4) (z_gd (z_in a2 4) ((fX1_countWith σ (7 + a2.toNatClampNeg) v3).bind (fun r1 => (fX3_put σ (64 + a1.toNatClampNeg) v3 (r1.toInt64)).bind (fun r2 => (if r2.1 = 0 then some ((-12 : Int32), r2.2) else fX7_freqs_L35 a1 a2 k n r2.2 (v3 + (1 : Int32))))))))
theorem kX7_freqs_L35 {l : Launch} {Y : zY} {fin : Int32 × zS} {p : Program} {e : Env} {s : State} {m : MethodId} {args : Array Value} {below : List Frame} {meth : Method} {c : Code} (O : z_ok ΛX Y p s m args c cX7_freqs RX7 4) (hi : z_inj ΛX Y) (hr : meth.sig.returnType = (some .int)) (hlk : meth.locks = false) {a1 : Int32} {a2 : Int32} {k : zS → Int32 → Option (Int32 × zS)} (hk : ∀ (w : zS) (z3 : Int32), k w z3 = some fin → z_G p l e (z_rm 3) s m args below meth c (MQ below (z_Qi ΛX Y fin) args s 0 0 (z_A ΛX Y)) ΛX Y 4 w [(0, .ref (z_ad Y 0)), (1, .int a1), (2, .int a2), (3, .int z3)] 77 []) : ∀ (n : Nat) (σ : zS) (v3 : Int32), fX7_freqs_L35 a1 a2 k n σ v3 = some fin → z_G p l e (z_rm 3) s m args below meth c (MQ below (z_Qi ΛX Y fin) args s 0 0 (z_A ΛX Y)) ΛX Y 4 σ [(0, .ref (z_ad Y 0)), (1, .int a1), (2, .int a2), (3, .int v3)] 35 [] := by
  intro n
  induction n with
  | zero =>
    intro _ _ h
    cases h
  | succ n ih =>
    intro σ v3 h
    rw [fX7_freqs_L35.eq_2] at h
    refine z_iload_n O dzX7_freqs_35 rfl 3 rfl ?_
    refine z_bipush O dzX7_freqs_36 hcB12 ?_
    refine z_icmp_ge O dzX7_freqs_38 (fun c2 => ?_) (fun c2 => ?_)
    · have h := z_if_t c2 h
      exact hk _ _ h
    · have h := z_if_f c2 h
      refine z_aload_n O dzX7_freqs_41 rfl 0 rfl ?_
      refine z_get O z_cb7 fx_obj (v := .ref (z_ad Y 63)) 5 (Nat.le_of_ble_eq_true rfl) tw_218 rfl dzX7_freqs_42 ?_
      refine z_iload_n O dzX7_freqs_45 rfl 1 rfl ?_
      obtain ⟨g1, h⟩ := z_gd_at h
      refine z_aald O fx_shs rfl rfl g1 dzX7_freqs_46 ?_
      refine z_iload_n O dzX7_freqs_47 rfl 3 rfl ?_
      refine z_aload_n O dzX7_freqs_48 rfl 0 rfl ?_
      refine z_get O z_cb7 fx_obj (v := .ref (z_ad Y 1)) 0 (Nat.le_of_ble_eq_true rfl) tw_213 rfl dzX7_freqs_49 ?_
      refine z_get O z_cb4 (fx_stk z_stk_1) (v := .ref (z_ad Y 5)) 1 (Nat.le_of_ble_eq_true rfl) tw_62 rfl dzX7_freqs_52 ?_
      refine z_iload_n O dzX7_freqs_55 rfl 2 rfl ?_
      obtain ⟨g2, h⟩ := z_gd_at h
      refine z_aald O fx_fms1 rfl rfl g2 dzX7_freqs_56 ?_
      refine z_iload_n O dzX7_freqs_57 rfl 3 rfl ?_
      obtain ⟨r1, hc1, h⟩ := z_bd_at h
      refine z_callViR O (As := [.int v3]) (rest := [.int v3, .ref (z_ad Y (64 + a1.toNatClampNeg))]) (kX1_countWith hi (fx_fmi1 g2) hc1) mX1_countWith tw_358 (Nat.le_of_ble_eq_true rfl) (fx_fam (fx_fmi1 g2)) rfl rfl rfl rfl (Nat.le_of_ble_eq_true rfl) dzX7_freqs_58 ?_
      refine z_i2l O dzX7_freqs_61 ?_
      obtain ⟨r2, hc2, h⟩ := z_bd_at h
      refine z_callVi O (As := [.int v3, .long (r1.toInt64)]) (rest := []) (kX3_put hi (fx_shi g1) hc2) mX3_put tw_690 (Nat.le_of_ble_eq_true rfl) (fx_she (fx_shi g1)) rfl rfl rfl rfl (Nat.le_of_ble_eq_true rfl) dzX7_freqs_62 ?_
      refine z_if_ne O dzX7_freqs_65 (fun c1 => ?_) (fun c1 => ?_)
      · have h := z_if_f c1 h
        refine z_iinc O (lv' := [(3, .int (v3 + (1 : Int32))), (0, .ref (z_ad Y 0)), (1, .int a1), (2, .int a2)]) dzX7_freqs_71 3 rfl (congrArg _ hcI1) (by decide) rfl ?_
        refine z_goto O dzX7_freqs_74 ?_
        refine z_sub [1, 2, 3, 0] rfl ?_
        exact ih _ _ h
      · have h := z_if_t c1 h
        refine z_bipush O dzX7_freqs_68 hcBm12 ?_
        exact z_iret O hr hlk dzX7_freqs_70 h
def fX7_freqs (σ : zS) (a1 : Int32) (a2 : Int32) : Option (Int32 × zS) :=
  (fX7_isNoSheet a1).bind (fun r1 => (if r1 = 0 then (fX7_isNoFamily a2).bind (fun r2 => (if r2 = 0 then z_gd (z_in a1 4) ((if (σ.1 (64 + a1.toNatClampNeg) 1) = (-1 : Int32) then some ((-11 : Int32), σ) else fX7_freqs_L35 a1 a2 (fun (w1 : zS) (x1 : Int32) => some ((12 : Int32), w1)) z_F σ (0 : Int32))) else some ((-2 : Int32), σ))) else some ((-2 : Int32), σ)))
theorem kX7_freqs {l : Launch} {Y : zY} (hi : z_inj ΛX Y) {σ : zS} {a1 : Int32} {a2 : Int32} {fin : Int32 × zS} (h : fX7_freqs σ a1 a2 = some fin) : Met l yX7_freqs (Cond.code yX7_freqs cX7_freqs 4 (some .int) :: z_TB) (z_rm 3) (z_Pc ΛX Y σ [.ref (z_ad Y 0), .int a1, .int a2]) (z_Qi ΛX Y fin) 0 0 (z_A ΛX Y) := by
  unfold fX7_freqs at h
  refine z_met [(0, .ref (z_ad Y 0)), (1, .int a1), (2, .int a2)] rfl (Nat.le_of_ble_eq_true rfl) (plainFor_of_name (by decide)) hi ?_
  intro p e s m args below meth c O hr hlk
  refine z_iload_n O dzX7_freqs_0 rfl 1 rfl ?_
  obtain ⟨r1, hc1, h⟩ := z_bd_at h
  refine z_callSiR O (As := [.int a1]) (rest := []) (kX7_isNoSheet hi hc1) mX7_isNoSheet tw_678 (Nat.le_of_ble_eq_true rfl) rfl rfl (Nat.le_of_ble_eq_true rfl) dzX7_freqs_1 ?_
  refine z_if_ne O dzX7_freqs_4 (fun c3 => ?_) (fun c3 => ?_)
  · have h := z_if_f c3 h
    refine z_bipush O dzX7_freqs_14 hcBm2 ?_
    exact z_iret O hr hlk dzX7_freqs_16 h
  · have h := z_if_t c3 h
    refine z_iload_n O dzX7_freqs_7 rfl 2 rfl ?_
    obtain ⟨r2, hc2, h⟩ := z_bd_at h
    refine z_callSiR O (As := [.int a2]) (rest := []) (kX7_isNoFamily hi hc2) mX7_isNoFamily tw_273 (Nat.le_of_ble_eq_true rfl) rfl rfl (Nat.le_of_ble_eq_true rfl) dzX7_freqs_8 ?_
    refine z_if_eq O dzX7_freqs_11 (fun c2 => ?_) (fun c2 => ?_)
    · have h := z_if_t c2 h
      refine z_aload_n O dzX7_freqs_17 rfl 0 rfl ?_
      refine z_get O z_cb7 fx_obj (v := .ref (z_ad Y 63)) 5 (Nat.le_of_ble_eq_true rfl) tw_218 rfl dzX7_freqs_18 ?_
      refine z_iload_n O dzX7_freqs_21 rfl 1 rfl ?_
      obtain ⟨g1, h⟩ := z_gd_at h
      refine z_aald O fx_shs rfl rfl g1 dzX7_freqs_22 ?_
      refine z_get O z_cb3 (fx_she (fx_shi g1)) (v := .int (σ.1 (64 + a1.toNatClampNeg) 1)) 1 (Nat.le_of_ble_eq_true rfl) tw_140 rfl dzX7_freqs_23 ?_
      refine z_iconst O dzX7_freqs_26 hcIm1 ?_
      refine z_icmp_ne O dzX7_freqs_27 (fun c1 => ?_) (fun c1 => ?_)
      · have h := z_if_f c1 h
        refine z_iconst O dzX7_freqs_33 hcI0 ?_
        refine z_istore_n O (lv' := [(3, .int (0 : Int32)), (0, .ref (z_ad Y 0)), (1, .int a1), (2, .int a2)]) dzX7_freqs_34 rfl (by decide) rfl ?_
        refine z_sub [1, 2, 3, 0] rfl ?_
        refine kX7_freqs_L35 O hi hr hlk   (fun w1 x1 h => ?_) _ _ _ h
        refine z_bipush O dzX7_freqs_77 hcB12 ?_
        exact z_iret O hr hlk dzX7_freqs_79 h
      · have h := z_if_t c1 h
        refine z_bipush O dzX7_freqs_30 hcBm11 ?_
        exact z_iret O hr hlk dzX7_freqs_32 h
    · have h := z_if_f c2 h
      refine z_bipush O dzX7_freqs_14 hcBm2 ?_
      exact z_iret O hr hlk dzX7_freqs_16 h
def fX7_image (σ : zS) : Option (Int32 × zS) :=
  (fX4_become σ 2 1).bind (fun r1 => z_lt (z_sI r1 0 2 (1 : Int32)) (fun (w1 : zS) => (fX4_heldInAll w1 1).bind (fun r2 => some (r2, w1))))
theorem kX7_image {l : Launch} {Y : zY} (hi : z_inj ΛX Y) {σ : zS}  {fin : Int32 × zS} (h : fX7_image σ = some fin) : Met l yX7_image (Cond.code yX7_image cX7_image 1 (some .int) :: z_TB) (z_rm 3) (z_Pc ΛX Y σ [.ref (z_ad Y 0)]) (z_Qi ΛX Y fin) 0 0 (z_A ΛX Y) := by
  unfold fX7_image at h
  refine z_met [(0, .ref (z_ad Y 0))] rfl (Nat.le_of_ble_eq_true rfl) (plainFor_of_name (by decide)) hi ?_
  intro p e s m args below meth c O hr hlk
  refine z_aload_n O dzX7_image_0 rfl 0 rfl ?_
  refine z_get O z_cb7 fx_obj (v := .ref (z_ad Y 2)) 1 (Nat.le_of_ble_eq_true rfl) tw_214 rfl dzX7_image_1 ?_
  refine z_aload_n O dzX7_image_4 rfl 0 rfl ?_
  refine z_get O z_cb7 fx_obj (v := .ref (z_ad Y 1)) 0 (Nat.le_of_ble_eq_true rfl) tw_213 rfl dzX7_image_5 ?_
  obtain ⟨r1, hc1, h⟩ := z_bd_at h
  refine z_callVv O (As := [.ref (z_ad Y 1)]) (rest := []) (kX4_become hi z_stk_2 z_stk_1 hc1) mX4_become tw_725 (Nat.le_of_ble_eq_true rfl) (fx_stk z_stk_2) rfl rfl rfl rfl (Nat.le_of_ble_eq_true rfl) dzX7_image_8 ?_
  refine z_aload_n O dzX7_image_11 rfl 0 rfl ?_
  refine z_iconst O dzX7_image_12 hcI1 ?_
  refine z_put O z_cb7 fx_obj 2 (Nat.le_of_ble_eq_true rfl) tw_215 rfl rfl rfl fp_O2 dzX7_image_13 ?_
  refine z_sig (fun w1 e1 => ?_)
  have h := z_lt_at e1 h
  refine z_aload_n O dzX7_image_16 rfl 0 rfl ?_
  refine z_get O z_cb7 fx_obj (v := .ref (z_ad Y 1)) 0 (Nat.le_of_ble_eq_true rfl) tw_213 rfl dzX7_image_17 ?_
  obtain ⟨r2, hc2, h⟩ := z_bd_at h
  refine z_callViR O (As := []) (rest := []) (kX4_heldInAll hi z_stk_1 hc2) mX4_heldInAll tw_731 (Nat.le_of_ble_eq_true rfl) (fx_stk z_stk_1) rfl rfl rfl rfl (Nat.le_of_ble_eq_true rfl) dzX7_image_20 ?_
  exact z_iret O hr hlk dzX7_image_23 h
def fX7_into_L62 (a2 : Int32) (a3 : Int32) (k : zS → Int32 → Option (Int32 × zS)) : Nat → zS → Int32 → Option (Int32 × zS)
  | 0, _, _ => none
  | n + 1, σ, v4 => (if a3 ≤ v4 then k σ v4 else z_gd (z_in a2 4) ((fX5_pick σ 88 v4).bind (fun r1 => (fX1_append σ (7 + a2.toNatClampNeg) r1 (1 : Int32)).bind (fun r2 => fX7_into_L62 a2 a3 k n r2.2 (v4 + (1 : Int32))))))
theorem kX7_into_L62 {l : Launch} {Y : zY} {fin : Int32 × zS} {p : Program} {e : Env} {s : State} {m : MethodId} {args : Array Value} {below : List Frame} {meth : Method} {c : Code} (O : z_ok ΛX Y p s m args c cX7_into RX7 5) (hi : z_inj ΛX Y) (hr : meth.sig.returnType = (some .int)) (hlk : meth.locks = false) {a2 : Int32} {a3 : Int32} {k : zS → Int32 → Option (Int32 × zS)} (hk : ∀ (w : zS) (z4 : Int32), k w z4 = some fin → z_G p l e (z_rm 4) s m args below meth c (MQ below (z_Qi ΛX Y fin) args s 0 0 (z_A ΛX Y)) ΛX Y 5 w [(0, .ref (z_ad Y 0)), (2, .int a2), (3, .int a3), (4, .int z4)] 97 []) : ∀ (n : Nat) (σ : zS) (v4 : Int32), fX7_into_L62 a2 a3 k n σ v4 = some fin → z_G p l e (z_rm 4) s m args below meth c (MQ below (z_Qi ΛX Y fin) args s 0 0 (z_A ΛX Y)) ΛX Y 5 σ [(0, .ref (z_ad Y 0)), (2, .int a2), (3, .int a3), (4, .int v4)] 62 [] := by
  intro n
  induction n with
  | zero =>
    intro _ _ h
    cases h
  | succ n ih =>
    intro σ v4 h
    rw [fX7_into_L62.eq_2] at h
    refine z_iload O dzX7_into_62 3 rfl ?_
    refine z_iload_n O dzX7_into_64 rfl 2 rfl ?_
    refine z_icmp_ge O dzX7_into_65 (fun c1 => ?_) (fun c1 => ?_)
    · have h := z_if_t c1 h
      exact hk _ _ h
    · have h := z_if_f c1 h
      refine z_aload_n O dzX7_into_68 rfl 0 rfl ?_
      refine z_get O z_cb7 fx_obj (v := .ref (z_ad Y 1)) 0 (Nat.le_of_ble_eq_true rfl) tw_213 rfl dzX7_into_69 ?_
      refine z_get O z_cb4 (fx_stk z_stk_1) (v := .ref (z_ad Y 5)) 1 (Nat.le_of_ble_eq_true rfl) tw_62 rfl dzX7_into_72 ?_
      refine z_iload_n O dzX7_into_75 rfl 1 rfl ?_
      obtain ⟨g1, h⟩ := z_gd_at h
      refine z_aald O fx_fms1 rfl rfl g1 dzX7_into_76 ?_
      refine z_aload_n O dzX7_into_77 rfl 0 rfl ?_
      refine z_get O z_cb7 fx_obj (v := .ref (z_ad Y 88)) 9 (Nat.le_of_ble_eq_true rfl) tw_222 rfl dzX7_into_78 ?_
      refine z_iload O dzX7_into_81 3 rfl ?_
      obtain ⟨r1, hc1, h⟩ := z_bd_at h
      refine z_callViR O (As := [.int v4]) (rest := [.ref (z_ad Y (7 + a2.toNatClampNeg))]) (kX5_pick hi z_tab_88 hc1) mX5_pick tw_488 (Nat.le_of_ble_eq_true rfl) (fx_tab z_tab_88) rfl rfl rfl rfl (Nat.le_of_ble_eq_true rfl) dzX7_into_83 ?_
      refine z_iconst O dzX7_into_86 hcI1 ?_
      obtain ⟨r2, hc2, h⟩ := z_bd_at h
      refine z_callVi O (As := [.int r1, .int (1 : Int32)]) (rest := []) (kX1_append hi (fx_fmi1 g1) hc2) mX1_append tw_388 (Nat.le_of_ble_eq_true rfl) (fx_fam (fx_fmi1 g1)) rfl rfl rfl rfl (Nat.le_of_ble_eq_true rfl) dzX7_into_87 ?_
      refine z_pop O dzX7_into_90 rfl ?_
      refine z_iinc O (lv' := [(4, .int (v4 + (1 : Int32))), (0, .ref (z_ad Y 0)), (2, .int a2), (3, .int a3)]) dzX7_into_91 3 rfl (congrArg _ hcI1) (by decide) rfl ?_
      refine z_goto O dzX7_into_94 ?_
      refine z_sub [1, 2, 3, 0] rfl ?_
      exact ih _ _ h
def fX7_into (σ : zS) (a1 : Int32) (a2 : Int32) : Option (Int32 × zS) :=
  (fX7_isNoFamily a1).bind (fun r1 => (if r1 = 0 then (fX7_isNoFamily a2).bind (fun r2 => (if r2 = 0 then z_gd (z_in a1 4) ((fX7_findDual σ (7 + a1.toNatClampNeg)).bind (fun r3 => (fX5_countAll r3 88).bind (fun r4 => (if r4 ≤ (40 : Int32) then z_gd (z_in a2 4) ((fX1_clear r3 (7 + a2.toNatClampNeg)).bind (fun r5 => fX7_into_L62 a2 r4 (fun (w1 : zS) (x1 : Int32) => (fX0_forgetAll w1).bind (fun r6 => some (r4, r6))) z_F r5 (0 : Int32))) else some ((-4 : Int32), r3))))) else some ((-2 : Int32), σ))) else some ((-2 : Int32), σ)))
theorem kX7_into {l : Launch} {Y : zY} (hi : z_inj ΛX Y) {σ : zS} {a1 : Int32} {a2 : Int32} {fin : Int32 × zS} (h : fX7_into σ a1 a2 = some fin) : Met l yX7_into (Cond.code yX7_into cX7_into 5 (some .int) :: z_TB) (z_rm 4) (z_Pc ΛX Y σ [.ref (z_ad Y 0), .int a1, .int a2]) (z_Qi ΛX Y fin) 0 0 (z_A ΛX Y) := by
  unfold fX7_into at h
  refine z_met [(0, .ref (z_ad Y 0)), (1, .int a1), (2, .int a2)] rfl (Nat.le_of_ble_eq_true rfl) (plainFor_of_name (by decide)) hi ?_
  intro p e s m args below meth c O hr hlk
  refine z_iload_n O dzX7_into_0 rfl 1 rfl ?_
  obtain ⟨r1, hc1, h⟩ := z_bd_at h
  refine z_callSiR O (As := [.int a1]) (rest := []) (kX7_isNoFamily hi hc1) mX7_isNoFamily tw_273 (Nat.le_of_ble_eq_true rfl) rfl rfl (Nat.le_of_ble_eq_true rfl) dzX7_into_1 ?_
  refine z_if_ne O dzX7_into_4 (fun c3 => ?_) (fun c3 => ?_)
  · have h := z_if_f c3 h
    refine z_bipush O dzX7_into_14 hcBm2 ?_
    exact z_iret O hr hlk dzX7_into_16 h
  · have h := z_if_t c3 h
    refine z_iload_n O dzX7_into_7 rfl 2 rfl ?_
    obtain ⟨r2, hc2, h⟩ := z_bd_at h
    refine z_callSiR O (As := [.int a2]) (rest := []) (kX7_isNoFamily hi hc2) mX7_isNoFamily tw_273 (Nat.le_of_ble_eq_true rfl) rfl rfl (Nat.le_of_ble_eq_true rfl) dzX7_into_8 ?_
    refine z_if_eq O dzX7_into_11 (fun c2 => ?_) (fun c2 => ?_)
    · have h := z_if_t c2 h
      refine z_aload_n O dzX7_into_17 rfl 0 rfl ?_
      refine z_aload_n O dzX7_into_18 rfl 0 rfl ?_
      refine z_get O z_cb7 fx_obj (v := .ref (z_ad Y 1)) 0 (Nat.le_of_ble_eq_true rfl) tw_213 rfl dzX7_into_19 ?_
      refine z_get O z_cb4 (fx_stk z_stk_1) (v := .ref (z_ad Y 5)) 1 (Nat.le_of_ble_eq_true rfl) tw_62 rfl dzX7_into_22 ?_
      refine z_iload_n O dzX7_into_25 rfl 1 rfl ?_
      obtain ⟨g1, h⟩ := z_gd_at h
      refine z_aald O fx_fms1 rfl rfl g1 dzX7_into_26 ?_
      obtain ⟨r3, hc3, h⟩ := z_bd_at h
      refine z_callVv O (As := [.ref (z_ad Y (7 + a1.toNatClampNeg))]) (rest := []) (kX7_findDual hi (fx_fmi1 g1) hc3) mX7_findDual tw_422 (Nat.le_of_ble_eq_true rfl) fx_obj rfl rfl rfl rfl (Nat.le_of_ble_eq_true rfl) dzX7_into_27 ?_
      refine z_aload_n O dzX7_into_30 rfl 0 rfl ?_
      refine z_get O z_cb7 fx_obj (v := .ref (z_ad Y 88)) 9 (Nat.le_of_ble_eq_true rfl) tw_222 rfl dzX7_into_31 ?_
      obtain ⟨r4, hc4, h⟩ := z_bd_at h
      refine z_callViR O (As := []) (rest := []) (kX5_countAll hi z_tab_88 hc4) mX5_countAll tw_484 (Nat.le_of_ble_eq_true rfl) (fx_tab z_tab_88) rfl rfl rfl rfl (Nat.le_of_ble_eq_true rfl) dzX7_into_34 ?_
      refine z_istore_n O (lv' := [(3, .int r4), (0, .ref (z_ad Y 0)), (1, .int a1), (2, .int a2)]) dzX7_into_37 rfl (by decide) rfl ?_
      refine z_iload_n O dzX7_into_38 rfl 0 rfl ?_
      refine z_bipush O dzX7_into_39 hcB40 ?_
      refine z_icmp_le O dzX7_into_41 (fun c1 => ?_) (fun c1 => ?_)
      · have h := z_if_t c1 h
        refine z_aload_n O dzX7_into_47 rfl 1 rfl ?_
        refine z_get O z_cb7 fx_obj (v := .ref (z_ad Y 1)) 0 (Nat.le_of_ble_eq_true rfl) tw_213 rfl dzX7_into_48 ?_
        refine z_get O z_cb4 (fx_stk z_stk_1) (v := .ref (z_ad Y 5)) 1 (Nat.le_of_ble_eq_true rfl) tw_62 rfl dzX7_into_51 ?_
        refine z_iload_n O dzX7_into_54 rfl 3 rfl ?_
        obtain ⟨g2, h⟩ := z_gd_at h
        refine z_aald O fx_fms1 rfl rfl g2 dzX7_into_55 ?_
        obtain ⟨r5, hc5, h⟩ := z_bd_at h
        refine z_callVv O (As := []) (rest := []) (kX1_clear hi (fx_fmi1 g2) hc5) mX1_clear tw_326 (Nat.le_of_ble_eq_true rfl) (fx_fam (fx_fmi1 g2)) rfl rfl rfl rfl (Nat.le_of_ble_eq_true rfl) dzX7_into_56 ?_
        refine z_iconst O dzX7_into_59 hcI0 ?_
        refine z_istore O (lv' := [(4, .int (0 : Int32)), (3, .int r4), (0, .ref (z_ad Y 0)), (1, .int a1), (2, .int a2)]) dzX7_into_60 (by decide) rfl ?_
        refine z_sub [2, 4, 1, 0] rfl ?_
        refine kX7_into_L62 O hi hr hlk   (fun w1 x1 h => ?_) _ _ _ h
        refine z_aload_n O dzX7_into_97 rfl 0 rfl ?_
        refine z_get O z_cb7 fx_obj (v := .ref (z_ad Y 59)) 4 (Nat.le_of_ble_eq_true rfl) tw_217 rfl dzX7_into_98 ?_
        obtain ⟨r6, hc6, h⟩ := z_bd_at h
        refine z_callVv O (As := []) (rest := []) (kX0_forgetAll hi hc6) mX0_forgetAll tw_330 (Nat.le_of_ble_eq_true rfl) fx_act rfl rfl rfl rfl (Nat.le_of_ble_eq_true rfl) dzX7_into_101 ?_
        refine z_iload_n O dzX7_into_104 rfl 2 rfl ?_
        exact z_iret O hr hlk dzX7_into_105 h
      · have h := z_if_f c1 h
        refine z_bipush O dzX7_into_44 hcBm4 ?_
        exact z_iret O hr hlk dzX7_into_46 h
    · have h := z_if_f c2 h
      refine z_bipush O dzX7_into_14 hcBm2 ?_
      exact z_iret O hr hlk dzX7_into_16 h
def fX7_isSimple_L22 (σ : zS) (q2 : Nat) (k : Int32 → Option (Int32)) : Nat → Int32 → Option (Int32)
  | 0, _ => none
  | n + 1, v3 => (if (σ.1 q2 2) ≤ v3 then k v3 else (fX1_hasPart σ q2 v3).bind (fun r1 => (if r1 = 0 then fX7_isSimple_L22 σ q2 k n (v3 + (1 : Int32)) else some (0 : Int32))))
theorem kX7_isSimple_L22 {l : Launch} {Y : zY} {fin : Int32} {p : Program} {e : Env} {s : State} {m : MethodId} {args : Array Value} {below : List Frame} {meth : Method} {c : Code} {σ : zS} (O : z_ok ΛX Y p s m args c cX7_isSimple RX7 4) (hi : z_inj ΛX Y) (hr : meth.sig.returnType = (some .int)) (hlk : meth.locks = false) {q2 : Nat} (h2 : z_fam q2) {k : Int32 → Option (Int32)} (hk : ∀ (z3 : Int32), k z3 = some fin → z_G p l e (z_rm 3) s m args below meth c (MQ below (z_Qi ΛX Y (fin, σ)) args s 0 0 (z_A ΛX Y)) ΛX Y 4 σ [(2, .ref (z_ad Y q2)), (3, .int z3)] 46 []) : ∀ (n : Nat) (v3 : Int32), fX7_isSimple_L22 σ q2 k n v3 = some fin → z_G p l e (z_rm 3) s m args below meth c (MQ below (z_Qi ΛX Y (fin, σ)) args s 0 0 (z_A ΛX Y)) ΛX Y 4 σ [(2, .ref (z_ad Y q2)), (3, .int v3)] 22 [] := by
  intro n
  induction n with
  | zero =>
    intro _ h
    cases h
  | succ n ih =>
    intro v3 h
    rw [fX7_isSimple_L22.eq_2] at h
    refine z_iload_n O dzX7_isSimple_22 rfl 1 rfl ?_
    refine z_aload_n O dzX7_isSimple_23 rfl 0 rfl ?_
    refine z_get O z_cb1 (fx_fam h2) (v := .int (σ.1 q2 2)) 2 (Nat.le_of_ble_eq_true rfl) tw_50 rfl dzX7_isSimple_24 ?_
    refine z_icmp_ge O dzX7_isSimple_27 (fun c2 => ?_) (fun c2 => ?_)
    · have h := z_if_t c2 h
      exact hk _ h
    · have h := z_if_f c2 h
      refine z_aload_n O dzX7_isSimple_30 rfl 0 rfl ?_
      refine z_iload_n O dzX7_isSimple_31 rfl 1 rfl ?_
      obtain ⟨r1, hc1, h⟩ := z_bd_at h
      refine z_callViR O (As := [.int v3]) (rest := []) (kX1_hasPart hi h2 hc1) mX1_hasPart tw_377 (Nat.le_of_ble_eq_true rfl) (fx_fam h2) rfl rfl rfl rfl (Nat.le_of_ble_eq_true rfl) dzX7_isSimple_32 ?_
      refine z_if_eq O dzX7_isSimple_35 (fun c1 => ?_) (fun c1 => ?_)
      · have h := z_if_t c1 h
        refine z_iinc O (lv' := [(3, .int (v3 + (1 : Int32))), (2, .ref (z_ad Y q2))]) dzX7_isSimple_40 1 rfl (congrArg _ hcI1) (by decide) rfl ?_
        refine z_goto O dzX7_isSimple_43 ?_
        refine z_sub [1, 0] rfl ?_
        exact ih _ h
      · have h := z_if_f c1 h
        refine z_iconst O dzX7_isSimple_38 hcI0 ?_
        exact z_iret O hr hlk dzX7_isSimple_39 (z_rf h)
def fX7_isSimple (σ : zS) (a1 : Int32) : Option (Int32) :=
  (fX7_isNoFamily a1).bind (fun r1 => (if r1 = 0 then z_gd (z_in a1 4) (fX7_isSimple_L22 σ (7 + a1.toNatClampNeg) (fun (x1 : Int32) => some (1 : Int32)) z_F (0 : Int32)) else some (-2 : Int32)))
theorem kX7_isSimple {l : Launch} {Y : zY} (hi : z_inj ΛX Y) {σ : zS} {a1 : Int32} {fin : Int32} (h : fX7_isSimple σ a1 = some fin) : Met l yX7_isSimple (Cond.code yX7_isSimple cX7_isSimple 4 (some .int) :: z_TB) (z_rm 3) (z_Pc ΛX Y σ [.ref (z_ad Y 0), .int a1]) (z_Qi ΛX Y (fin, σ)) 0 0 (z_A ΛX Y) := by
  unfold fX7_isSimple at h
  refine z_met [(0, .ref (z_ad Y 0)), (1, .int a1)] rfl (Nat.le_of_ble_eq_true rfl) (plainFor_of_name (by decide)) hi ?_
  intro p e s m args below meth c O hr hlk
  refine z_iload_n O dzX7_isSimple_0 rfl 1 rfl ?_
  obtain ⟨r1, hc1, h⟩ := z_bd_at h
  refine z_callSiR O (As := [.int a1]) (rest := []) (kX7_isNoFamily hi hc1) mX7_isNoFamily tw_273 (Nat.le_of_ble_eq_true rfl) rfl rfl (Nat.le_of_ble_eq_true rfl) dzX7_isSimple_1 ?_
  refine z_if_eq O dzX7_isSimple_4 (fun c1 => ?_) (fun c1 => ?_)
  · have h := z_if_t c1 h
    refine z_aload_n O dzX7_isSimple_10 rfl 0 rfl ?_
    refine z_get O z_cb7 fx_obj (v := .ref (z_ad Y 1)) 0 (Nat.le_of_ble_eq_true rfl) tw_213 rfl dzX7_isSimple_11 ?_
    refine z_get O z_cb4 (fx_stk z_stk_1) (v := .ref (z_ad Y 5)) 1 (Nat.le_of_ble_eq_true rfl) tw_62 rfl dzX7_isSimple_14 ?_
    refine z_iload_n O dzX7_isSimple_17 rfl 1 rfl ?_
    obtain ⟨g1, h⟩ := z_gd_at h
    refine z_aald O fx_fms1 rfl rfl g1 dzX7_isSimple_18 ?_
    refine z_astore_n O (lv' := [(2, .ref (z_ad Y (7 + a1.toNatClampNeg))), (0, .ref (z_ad Y 0)), (1, .int a1)]) dzX7_isSimple_19 rfl (by decide) rfl ?_
    refine z_iconst O dzX7_isSimple_20 hcI0 ?_
    refine z_istore_n O (lv' := [(3, .int (0 : Int32)), (2, .ref (z_ad Y (7 + a1.toNatClampNeg))), (0, .ref (z_ad Y 0)), (1, .int a1)]) dzX7_isSimple_21 rfl (by decide) rfl ?_
    refine z_sub [1, 0] rfl ?_
    refine kX7_isSimple_L22 O hi hr hlk (h2 := (fx_fmi1 g1))  (fun x1 h => ?_) _ _ h
    refine z_iconst O dzX7_isSimple_46 hcI1 ?_
    exact z_iret O hr hlk dzX7_isSimple_47 (z_rf h)
  · have h := z_if_f c1 h
    refine z_bipush O dzX7_isSimple_7 hcBm2 ?_
    exact z_iret O hr hlk dzX7_isSimple_9 (z_rf h)
def fX7_keys (σ : zS) (a1 : Int32) (a2 : Int32) : Option (Int32 × zS) :=
  (fX7_isNoFamily a1).bind (fun r1 => (if r1 = 0 then z_gd (z_in a1 4) ((fX5_becomeTelling σ 87 (7 + a1.toNatClampNeg)).bind (fun r2 => (fX5_becomeLeastOf r2 88 87).bind (fun r3 => (fX7_listed r3 88 a2).bind (fun r4 => some (r4, r3))))) else some ((-2 : Int32), σ)))
theorem kX7_keys {l : Launch} {Y : zY} (hi : z_inj ΛX Y) {σ : zS} {a1 : Int32} {a2 : Int32} {fin : Int32 × zS} (h : fX7_keys σ a1 a2 = some fin) : Met l yX7_keys (Cond.code yX7_keys cX7_keys 3 (some .int) :: z_TB) (z_rm 5) (z_Pc ΛX Y σ [.ref (z_ad Y 0), .int a1, .int a2]) (z_Qi ΛX Y fin) 0 0 (z_A ΛX Y) := by
  unfold fX7_keys at h
  refine z_met [(0, .ref (z_ad Y 0)), (1, .int a1), (2, .int a2)] rfl (Nat.le_of_ble_eq_true rfl) (plainFor_of_name (by decide)) hi ?_
  intro p e s m args below meth c O hr hlk
  refine z_iload_n O dzX7_keys_0 rfl 1 rfl ?_
  obtain ⟨r1, hc1, h⟩ := z_bd_at h
  refine z_callSiR O (As := [.int a1]) (rest := []) (kX7_isNoFamily hi hc1) mX7_isNoFamily tw_273 (Nat.le_of_ble_eq_true rfl) rfl rfl (Nat.le_of_ble_eq_true rfl) dzX7_keys_1 ?_
  refine z_if_eq O dzX7_keys_4 (fun c1 => ?_) (fun c1 => ?_)
  · have h := z_if_t c1 h
    refine z_aload_n O dzX7_keys_10 rfl 0 rfl ?_
    refine z_get O z_cb7 fx_obj (v := .ref (z_ad Y 87)) 8 (Nat.le_of_ble_eq_true rfl) tw_221 rfl dzX7_keys_11 ?_
    refine z_aload_n O dzX7_keys_14 rfl 0 rfl ?_
    refine z_get O z_cb7 fx_obj (v := .ref (z_ad Y 1)) 0 (Nat.le_of_ble_eq_true rfl) tw_213 rfl dzX7_keys_15 ?_
    refine z_get O z_cb4 (fx_stk z_stk_1) (v := .ref (z_ad Y 5)) 1 (Nat.le_of_ble_eq_true rfl) tw_62 rfl dzX7_keys_18 ?_
    refine z_iload_n O dzX7_keys_21 rfl 1 rfl ?_
    obtain ⟨g1, h⟩ := z_gd_at h
    refine z_aald O fx_fms1 rfl rfl g1 dzX7_keys_22 ?_
    obtain ⟨r2, hc2, h⟩ := z_bd_at h
    refine z_callVv O (As := [.ref (z_ad Y (7 + a1.toNatClampNeg))]) (rest := []) (kX5_becomeTelling hi z_tab_87 (fx_fmi1 g1) hc2) mX5_becomeTelling tw_553 (Nat.le_of_ble_eq_true rfl) (fx_tab z_tab_87) rfl rfl rfl rfl (Nat.le_of_ble_eq_true rfl) dzX7_keys_23 ?_
    refine z_aload_n O dzX7_keys_26 rfl 0 rfl ?_
    refine z_get O z_cb7 fx_obj (v := .ref (z_ad Y 88)) 9 (Nat.le_of_ble_eq_true rfl) tw_222 rfl dzX7_keys_27 ?_
    refine z_aload_n O dzX7_keys_30 rfl 0 rfl ?_
    refine z_get O z_cb7 fx_obj (v := .ref (z_ad Y 87)) 8 (Nat.le_of_ble_eq_true rfl) tw_221 rfl dzX7_keys_31 ?_
    obtain ⟨r3, hc3, h⟩ := z_bd_at h
    refine z_callVv O (As := [.ref (z_ad Y 87)]) (rest := []) (kX5_becomeLeastOf hi z_tab_88 z_tab_87 hc3) mX5_becomeLeastOf tw_426 (Nat.le_of_ble_eq_true rfl) (fx_tab z_tab_88) rfl rfl rfl rfl (Nat.le_of_ble_eq_true rfl) dzX7_keys_34 ?_
    refine z_aload_n O dzX7_keys_37 rfl 0 rfl ?_
    refine z_get O z_cb7 fx_obj (v := .ref (z_ad Y 88)) 9 (Nat.le_of_ble_eq_true rfl) tw_222 rfl dzX7_keys_38 ?_
    refine z_iload_n O dzX7_keys_41 rfl 2 rfl ?_
    obtain ⟨r4, hc4, h⟩ := z_bd_at h
    refine z_callSiR O (As := [.ref (z_ad Y 88), .int a2]) (rest := []) (kX7_listed hi z_tab_88 hc4) mX7_listed tw_481 (Nat.le_of_ble_eq_true rfl) rfl rfl (Nat.le_of_ble_eq_true rfl) dzX7_keys_42 ?_
    exact z_iret O hr hlk dzX7_keys_45 h
  · have h := z_if_f c1 h
    refine z_bipush O dzX7_keys_7 hcBm2 ?_
    exact z_iret O hr hlk dzX7_keys_9 h
def fX7_lean_L35 (q2 : Nat) (a3 : Int32) (k : zS → Int32 → Option (Int32 × zS)) : Nat → zS → Int32 → Option (Int32 × zS)
  | 0, _, _ => none
  | n + 1, σ, v4 => (if a3 ≤ v4 then k σ v4 else (fX1_hasPart σ q2 v4).bind (fun r1 => (if r1 = 0 then z_gd (z_in v4 40) (z_gd (z_in v4 40) ((fX1_append σ 15 (σ.1 (q2 + 9) v4.toNatClampNeg) (σ.1 (q2 + 18) v4.toNatClampNeg)).bind (fun r2 => fX7_lean_L35 q2 a3 k n r2.2 (v4 + (1 : Int32))))) else fX7_lean_L35 q2 a3 k n σ (v4 + (1 : Int32)))))
theorem kX7_lean_L35 {l : Launch} {Y : zY} {fin : Int32 × zS} {p : Program} {e : Env} {s : State} {m : MethodId} {args : Array Value} {below : List Frame} {meth : Method} {c : Code} (O : z_ok ΛX Y p s m args c cX7_lean RX7 5) (hi : z_inj ΛX Y) (hr : meth.sig.returnType = (some .int)) (hlk : meth.locks = false) {q2 : Nat} (h2 : z_fam q2) {a3 : Int32} {k : zS → Int32 → Option (Int32 × zS)} (hk : ∀ (w : zS) (z4 : Int32), k w z4 = some fin → z_G p l e (z_rm 3) s m args below meth c (MQ below (z_Qi ΛX Y fin) args s 0 0 (z_A ΛX Y)) ΛX Y 5 w [(0, .ref (z_ad Y 0)), (2, .ref (z_ad Y q2)), (3, .int a3), (4, .int z4)] 78 []) : ∀ (n : Nat) (σ : zS) (v4 : Int32), fX7_lean_L35 q2 a3 k n σ v4 = some fin → z_G p l e (z_rm 3) s m args below meth c (MQ below (z_Qi ΛX Y fin) args s 0 0 (z_A ΛX Y)) ΛX Y 5 σ [(0, .ref (z_ad Y 0)), (2, .ref (z_ad Y q2)), (3, .int a3), (4, .int v4)] 35 [] := by
  intro n
  induction n with
  | zero =>
    intro _ _ h
    cases h
  | succ n ih =>
    intro σ v4 h
    rw [fX7_lean_L35.eq_2] at h
    refine z_iload O dzX7_lean_35 3 rfl ?_
    refine z_iload_n O dzX7_lean_37 rfl 2 rfl ?_
    refine z_icmp_ge O dzX7_lean_38 (fun c2 => ?_) (fun c2 => ?_)
    · have h := z_if_t c2 h
      exact hk _ _ h
    · have h := z_if_f c2 h
      refine z_aload_n O dzX7_lean_41 rfl 1 rfl ?_
      refine z_iload O dzX7_lean_42 3 rfl ?_
      obtain ⟨r1, hc1, h⟩ := z_bd_at h
      refine z_callViR O (As := [.int v4]) (rest := []) (kX1_hasPart hi h2 hc1) mX1_hasPart tw_377 (Nat.le_of_ble_eq_true rfl) (fx_fam h2) rfl rfl rfl rfl (Nat.le_of_ble_eq_true rfl) dzX7_lean_44 ?_
      refine z_if_ne O dzX7_lean_47 (fun c1 => ?_) (fun c1 => ?_)
      · have h := z_if_f c1 h
        refine z_iinc O (lv' := [(4, .int (v4 + (1 : Int32))), (0, .ref (z_ad Y 0)), (2, .ref (z_ad Y q2)), (3, .int a3)]) dzX7_lean_72 3 rfl (congrArg _ hcI1) (by decide) rfl ?_
        refine z_goto O dzX7_lean_75 ?_
        refine z_sub [1, 2, 3, 0] rfl ?_
        exact ih _ _ h
      · have h := z_if_t c1 h
        refine z_aload_n O dzX7_lean_50 rfl 0 rfl ?_
        refine z_get O z_cb7 fx_obj (v := .ref (z_ad Y 15)) 7 (Nat.le_of_ble_eq_true rfl) tw_220 rfl dzX7_lean_51 ?_
        refine z_aload_n O dzX7_lean_54 rfl 1 rfl ?_
        refine z_get O z_cb1 (fx_fam h2) (v := .ref (z_ad Y (q2 + 9))) 0 (Nat.le_of_ble_eq_true rfl) tw_42 rfl dzX7_lean_55 ?_
        refine z_iload O dzX7_lean_58 3 rfl ?_
        obtain ⟨g1, h⟩ := z_gd_at h
        refine z_iald O (fx_set h2) g1 dzX7_lean_60 ?_
        refine z_aload_n O dzX7_lean_61 rfl 1 rfl ?_
        refine z_get O z_cb1 (fx_fam h2) (v := .ref (z_ad Y (q2 + 18))) 1 (Nat.le_of_ble_eq_true rfl) tw_45 rfl dzX7_lean_62 ?_
        refine z_iload O dzX7_lean_65 3 rfl ?_
        obtain ⟨g2, h⟩ := z_gd_at h
        refine z_iald O (fx_tal h2) g2 dzX7_lean_67 ?_
        obtain ⟨r2, hc2, h⟩ := z_bd_at h
        refine z_callVi O (As := [.int (σ.1 (q2 + 9) v4.toNatClampNeg), .int (σ.1 (q2 + 18) v4.toNatClampNeg)]) (rest := []) (kX1_append hi z_fam_15 hc2) mX1_append tw_388 (Nat.le_of_ble_eq_true rfl) (fx_fam z_fam_15) rfl rfl rfl rfl (Nat.le_of_ble_eq_true rfl) dzX7_lean_68 ?_
        refine z_pop O dzX7_lean_71 rfl ?_
        refine z_iinc O (lv' := [(4, .int (v4 + (1 : Int32))), (0, .ref (z_ad Y 0)), (2, .ref (z_ad Y q2)), (3, .int a3)]) dzX7_lean_72 3 rfl (congrArg _ hcI1) (by decide) rfl ?_
        refine z_goto O dzX7_lean_75 ?_
        refine z_sub [1, 2, 3, 0] rfl ?_
        exact ih _ _ h
def fX7_lean (σ : zS) (a1 : Int32) : Option (Int32 × zS) :=
  (fX7_isNoFamily a1).bind (fun r1 => (if r1 = 0 then z_gd (z_in a1 4) (z_lt (σ.1 (7 + a1.toNatClampNeg) 2) (fun (x1 : Int32) => (fX1_clear σ 15).bind (fun r2 => fX7_lean_L35 (7 + a1.toNatClampNeg) x1 (fun (w1 : zS) (x2 : Int32) => (fX1_become w1 (7 + a1.toNatClampNeg) 15).bind (fun r3 => (fX0_forgetAll r3).bind (fun r4 => some ((x1 - (r4.1 (7 + a1.toNatClampNeg) 2)), r4)))) z_F r2 (0 : Int32)))) else some ((-2 : Int32), σ)))
theorem kX7_lean {l : Launch} {Y : zY} (hi : z_inj ΛX Y) {σ : zS} {a1 : Int32} {fin : Int32 × zS} (h : fX7_lean σ a1 = some fin) : Met l yX7_lean (Cond.code yX7_lean cX7_lean 5 (some .int) :: z_TB) (z_rm 3) (z_Pc ΛX Y σ [.ref (z_ad Y 0), .int a1]) (z_Qi ΛX Y fin) 0 0 (z_A ΛX Y) := by
  unfold fX7_lean at h
  refine z_met [(0, .ref (z_ad Y 0)), (1, .int a1)] rfl (Nat.le_of_ble_eq_true rfl) (plainFor_of_name (by decide)) hi ?_
  intro p e s m args below meth c O hr hlk
  refine z_iload_n O dzX7_lean_0 rfl 1 rfl ?_
  obtain ⟨r1, hc1, h⟩ := z_bd_at h
  refine z_callSiR O (As := [.int a1]) (rest := []) (kX7_isNoFamily hi hc1) mX7_isNoFamily tw_273 (Nat.le_of_ble_eq_true rfl) rfl rfl (Nat.le_of_ble_eq_true rfl) dzX7_lean_1 ?_
  refine z_if_eq O dzX7_lean_4 (fun c1 => ?_) (fun c1 => ?_)
  · have h := z_if_t c1 h
    refine z_aload_n O dzX7_lean_10 rfl 0 rfl ?_
    refine z_get O z_cb7 fx_obj (v := .ref (z_ad Y 1)) 0 (Nat.le_of_ble_eq_true rfl) tw_213 rfl dzX7_lean_11 ?_
    refine z_get O z_cb4 (fx_stk z_stk_1) (v := .ref (z_ad Y 5)) 1 (Nat.le_of_ble_eq_true rfl) tw_62 rfl dzX7_lean_14 ?_
    refine z_iload_n O dzX7_lean_17 rfl 1 rfl ?_
    obtain ⟨g1, h⟩ := z_gd_at h
    refine z_aald O fx_fms1 rfl rfl g1 dzX7_lean_18 ?_
    refine z_astore_n O (lv' := [(2, .ref (z_ad Y (7 + a1.toNatClampNeg))), (0, .ref (z_ad Y 0)), (1, .int a1)]) dzX7_lean_19 rfl (by decide) rfl ?_
    refine z_aload_n O dzX7_lean_20 rfl 0 rfl ?_
    refine z_get O z_cb1 (fx_fam (fx_fmi1 g1)) (v := .int (σ.1 (7 + a1.toNatClampNeg) 2)) 2 (Nat.le_of_ble_eq_true rfl) tw_50 rfl dzX7_lean_21 ?_
    refine z_topi (fun x1 e1 => ?_)
    have h := z_lt_at e1 h
    refine z_istore_n O (lv' := [(3, .int x1), (2, .ref (z_ad Y (7 + a1.toNatClampNeg))), (0, .ref (z_ad Y 0)), (1, .int a1)]) dzX7_lean_24 rfl (by decide) rfl ?_
    refine z_aload_n O dzX7_lean_25 rfl 2 rfl ?_
    refine z_get O z_cb7 fx_obj (v := .ref (z_ad Y 15)) 7 (Nat.le_of_ble_eq_true rfl) tw_220 rfl dzX7_lean_26 ?_
    obtain ⟨r2, hc2, h⟩ := z_bd_at h
    refine z_callVv O (As := []) (rest := []) (kX1_clear hi z_fam_15 hc2) mX1_clear tw_326 (Nat.le_of_ble_eq_true rfl) (fx_fam z_fam_15) rfl rfl rfl rfl (Nat.le_of_ble_eq_true rfl) dzX7_lean_29 ?_
    refine z_iconst O dzX7_lean_32 hcI0 ?_
    refine z_istore O (lv' := [(4, .int (0 : Int32)), (3, .int x1), (2, .ref (z_ad Y (7 + a1.toNatClampNeg))), (0, .ref (z_ad Y 0)), (1, .int a1)]) dzX7_lean_33 (by decide) rfl ?_
    refine z_sub [3, 2, 1, 0] rfl ?_
    refine kX7_lean_L35 O hi hr hlk (h2 := (fx_fmi1 g1))  (fun w1 x2 h => ?_) _ _ _ h
    refine z_aload_n O dzX7_lean_78 rfl 1 rfl ?_
    refine z_aload_n O dzX7_lean_79 rfl 0 rfl ?_
    refine z_get O z_cb7 fx_obj (v := .ref (z_ad Y 15)) 7 (Nat.le_of_ble_eq_true rfl) tw_220 rfl dzX7_lean_80 ?_
    obtain ⟨r3, hc3, h⟩ := z_bd_at h
    refine z_callVv O (As := [.ref (z_ad Y 15)]) (rest := []) (kX1_become hi (fx_fmi1 g1) z_fam_15 hc3) mX1_become tw_338 (Nat.le_of_ble_eq_true rfl) (fx_fam (fx_fmi1 g1)) rfl rfl rfl rfl (Nat.le_of_ble_eq_true rfl) dzX7_lean_83 ?_
    refine z_aload_n O dzX7_lean_86 rfl 0 rfl ?_
    refine z_get O z_cb7 fx_obj (v := .ref (z_ad Y 59)) 4 (Nat.le_of_ble_eq_true rfl) tw_217 rfl dzX7_lean_87 ?_
    obtain ⟨r4, hc4, h⟩ := z_bd_at h
    refine z_callVv O (As := []) (rest := []) (kX0_forgetAll hi hc4) mX0_forgetAll tw_330 (Nat.le_of_ble_eq_true rfl) fx_act rfl rfl rfl rfl (Nat.le_of_ble_eq_true rfl) dzX7_lean_90 ?_
    refine z_iload_n O dzX7_lean_93 rfl 2 rfl ?_
    refine z_aload_n O dzX7_lean_94 rfl 1 rfl ?_
    refine z_get O z_cb1 (fx_fam (fx_fmi1 g1)) (v := .int (r4.1 (7 + a1.toNatClampNeg) 2)) 2 (Nat.le_of_ble_eq_true rfl) tw_50 rfl dzX7_lean_95 ?_
    refine z_isub O dzX7_lean_98 ?_
    exact z_iret O hr hlk dzX7_lean_99 h
  · have h := z_if_f c1 h
    refine z_bipush O dzX7_lean_7 hcBm2 ?_
    exact z_iret O hr hlk dzX7_lean_9 h
def fX7_make (σ : zS) (a1 : Int32) (a2 : Int32) (a3 : Int32) (a4 : Int32) : Option (Int32 × zS) :=
  (fX7_isNoFamily a1).bind (fun r1 => (if r1 = 0 then (fX7_canMake a2 a3 a4).bind (fun r2 => (if r2 = 0 then some ((-2 : Int32), σ) else (fX7_fillSpare σ a2 a3 a4).bind (fun r3 => (if r3.1 = 0 then some ((-4 : Int32), r3.2) else z_gd (z_in a1 4) ((fX1_become r3.2 (7 + a1.toNatClampNeg) 15).bind (fun r4 => (fX0_forgetAll r4).bind (fun r5 => some ((r5.1 15 2), r5)))))))) else some ((-2 : Int32), σ)))
theorem kX7_make {l : Launch} {Y : zY} (hi : z_inj ΛX Y) {σ : zS} {a1 : Int32} {a2 : Int32} {a3 : Int32} {a4 : Int32} {fin : Int32 × zS} (h : fX7_make σ a1 a2 a3 a4 = some fin) : Met l yX7_make (Cond.code yX7_make cX7_make 5 (some .int) :: z_TB) (z_rm 4) (z_Pc ΛX Y σ [.ref (z_ad Y 0), .int a1, .int a2, .int a3, .int a4]) (z_Qi ΛX Y fin) 0 0 (z_A ΛX Y) := by
  unfold fX7_make at h
  refine z_met [(0, .ref (z_ad Y 0)), (1, .int a1), (2, .int a2), (3, .int a3), (4, .int a4)] rfl (Nat.le_of_ble_eq_true rfl) (plainFor_of_name (by decide)) hi ?_
  intro p e s m args below meth c O hr hlk
  refine z_iload_n O dzX7_make_0 rfl 1 rfl ?_
  obtain ⟨r1, hc1, h⟩ := z_bd_at h
  refine z_callSiR O (As := [.int a1]) (rest := []) (kX7_isNoFamily hi hc1) mX7_isNoFamily tw_273 (Nat.le_of_ble_eq_true rfl) rfl rfl (Nat.le_of_ble_eq_true rfl) dzX7_make_1 ?_
  refine z_if_ne O dzX7_make_4 (fun c3 => ?_) (fun c3 => ?_)
  · have h := z_if_f c3 h
    refine z_bipush O dzX7_make_17 hcBm2 ?_
    exact z_iret O hr hlk dzX7_make_19 h
  · have h := z_if_t c3 h
    refine z_iload_n O dzX7_make_7 rfl 2 rfl ?_
    refine z_iload_n O dzX7_make_8 rfl 3 rfl ?_
    refine z_iload O dzX7_make_9 4 rfl ?_
    obtain ⟨r2, hc2, h⟩ := z_bd_at h
    refine z_callSiR O (As := [.int a2, .int a3, .int a4]) (rest := []) (kX7_canMake hi hc2) mX7_canMake tw_587 (Nat.le_of_ble_eq_true rfl) rfl rfl (Nat.le_of_ble_eq_true rfl) dzX7_make_11 ?_
    refine z_if_ne O dzX7_make_14 (fun c2 => ?_) (fun c2 => ?_)
    · have h := z_if_f c2 h
      refine z_aload_n O dzX7_make_20 rfl 0 rfl ?_
      refine z_iload_n O dzX7_make_21 rfl 2 rfl ?_
      refine z_iload_n O dzX7_make_22 rfl 3 rfl ?_
      refine z_iload O dzX7_make_23 4 rfl ?_
      obtain ⟨r3, hc3, h⟩ := z_bd_at h
      refine z_callVi O (As := [.int a2, .int a3, .int a4]) (rest := []) (kX7_fillSpare hi hc3) mX7_fillSpare tw_590 (Nat.le_of_ble_eq_true rfl) fx_obj rfl rfl rfl rfl (Nat.le_of_ble_eq_true rfl) dzX7_make_25 ?_
      refine z_if_ne O dzX7_make_28 (fun c1 => ?_) (fun c1 => ?_)
      · have h := z_if_f c1 h
        refine z_aload_n O dzX7_make_34 rfl 0 rfl ?_
        refine z_get O z_cb7 fx_obj (v := .ref (z_ad Y 1)) 0 (Nat.le_of_ble_eq_true rfl) tw_213 rfl dzX7_make_35 ?_
        refine z_get O z_cb4 (fx_stk z_stk_1) (v := .ref (z_ad Y 5)) 1 (Nat.le_of_ble_eq_true rfl) tw_62 rfl dzX7_make_38 ?_
        refine z_iload_n O dzX7_make_41 rfl 1 rfl ?_
        obtain ⟨g1, h⟩ := z_gd_at h
        refine z_aald O fx_fms1 rfl rfl g1 dzX7_make_42 ?_
        refine z_aload_n O dzX7_make_43 rfl 0 rfl ?_
        refine z_get O z_cb7 fx_obj (v := .ref (z_ad Y 15)) 7 (Nat.le_of_ble_eq_true rfl) tw_220 rfl dzX7_make_44 ?_
        obtain ⟨r4, hc4, h⟩ := z_bd_at h
        refine z_callVv O (As := [.ref (z_ad Y 15)]) (rest := []) (kX1_become hi (fx_fmi1 g1) z_fam_15 hc4) mX1_become tw_338 (Nat.le_of_ble_eq_true rfl) (fx_fam (fx_fmi1 g1)) rfl rfl rfl rfl (Nat.le_of_ble_eq_true rfl) dzX7_make_47 ?_
        refine z_aload_n O dzX7_make_50 rfl 0 rfl ?_
        refine z_get O z_cb7 fx_obj (v := .ref (z_ad Y 59)) 4 (Nat.le_of_ble_eq_true rfl) tw_217 rfl dzX7_make_51 ?_
        obtain ⟨r5, hc5, h⟩ := z_bd_at h
        refine z_callVv O (As := []) (rest := []) (kX0_forgetAll hi hc5) mX0_forgetAll tw_330 (Nat.le_of_ble_eq_true rfl) fx_act rfl rfl rfl rfl (Nat.le_of_ble_eq_true rfl) dzX7_make_54 ?_
        refine z_aload_n O dzX7_make_57 rfl 0 rfl ?_
        refine z_get O z_cb7 fx_obj (v := .ref (z_ad Y 15)) 7 (Nat.le_of_ble_eq_true rfl) tw_220 rfl dzX7_make_58 ?_
        refine z_get O z_cb1 (fx_fam z_fam_15) (v := .int (r5.1 15 2)) 2 (Nat.le_of_ble_eq_true rfl) tw_50 rfl dzX7_make_61 ?_
        exact z_iret O hr hlk dzX7_make_64 h
      · have h := z_if_t c1 h
        refine z_bipush O dzX7_make_31 hcBm4 ?_
        exact z_iret O hr hlk dzX7_make_33 h
    · have h := z_if_t c2 h
      refine z_bipush O dzX7_make_17 hcBm2 ?_
      exact z_iret O hr hlk dzX7_make_19 h
def fX7_node (σ : zS) (a1 : Int32) (a2 : Int32) (a3 : Int32) : Option (Int32 × zS) :=
  (fX7_isNoFamily a1).bind (fun r1 => (if r1 = 0 then (if a3 < 0 then some ((-2 : Int32), σ) else (if a3 ≤ (3 : Int32) then (if 0 ≤ a2 then z_gd (z_in a1 4) ((fX6_start σ (7 + a1.toNatClampNeg) a2).bind (fun r2 => (if (r2.1 72 5) = 0 then some ((-12 : Int32), r2) else (if a3 = 0 then some ((r2.1 72 6), r2) else (if a3 = 1 then some ((r2.1 72 7), r2) else (if a3 = 2 then some ((r2.1 72 8), r2) else some ((r2.1 72 9), r2))))))) else some ((-12 : Int32), σ)) else some ((-2 : Int32), σ))) else some ((-2 : Int32), σ)))
theorem kX7_node {l : Launch} {Y : zY} (hi : z_inj ΛX Y) {σ : zS} {a1 : Int32} {a2 : Int32} {a3 : Int32} {fin : Int32 × zS} (h : fX7_node σ a1 a2 a3 = some fin) : Met l yX7_node (Cond.code yX7_node cX7_node 4 (some .int) :: z_TB) (z_rm 21) (z_Pc ΛX Y σ [.ref (z_ad Y 0), .int a1, .int a2, .int a3]) (z_Qi ΛX Y fin) 0 0 (z_A ΛX Y) := by
  unfold fX7_node at h
  refine z_met [(0, .ref (z_ad Y 0)), (1, .int a1), (2, .int a2), (3, .int a3)] rfl (Nat.le_of_ble_eq_true rfl) (plainFor_of_name (by decide)) hi ?_
  intro p e s m args below meth c O hr hlk
  refine z_iload_n O dzX7_node_0 rfl 1 rfl ?_
  obtain ⟨r1, hc1, h⟩ := z_bd_at h
  refine z_callSiR O (As := [.int a1]) (rest := []) (kX7_isNoFamily hi hc1) mX7_isNoFamily tw_273 (Nat.le_of_ble_eq_true rfl) rfl rfl (Nat.le_of_ble_eq_true rfl) dzX7_node_1 ?_
  refine z_if_ne O dzX7_node_4 (fun c8 => ?_) (fun c8 => ?_)
  · have h := z_if_f c8 h
    refine z_bipush O dzX7_node_16 hcBm2 ?_
    exact z_iret O hr hlk dzX7_node_18 h
  · have h := z_if_t c8 h
    refine z_iload_n O dzX7_node_7 rfl 3 rfl ?_
    refine z_if_lt O dzX7_node_8 (fun c7 => ?_) (fun c7 => ?_)
    · have h := z_if_t c7 h
      refine z_bipush O dzX7_node_16 hcBm2 ?_
      exact z_iret O hr hlk dzX7_node_18 h
    · have h := z_if_f c7 h
      refine z_iload_n O dzX7_node_11 rfl 3 rfl ?_
      refine z_iconst O dzX7_node_12 hcI3 ?_
      refine z_icmp_le O dzX7_node_13 (fun c6 => ?_) (fun c6 => ?_)
      · have h := z_if_t c6 h
        refine z_iload_n O dzX7_node_19 rfl 2 rfl ?_
        refine z_if_ge O dzX7_node_20 (fun c5 => ?_) (fun c5 => ?_)
        · have h := z_if_t c5 h
          refine z_aload_n O dzX7_node_26 rfl 0 rfl ?_
          refine z_get O z_cb7 fx_obj (v := .ref (z_ad Y 72)) 6 (Nat.le_of_ble_eq_true rfl) tw_219 rfl dzX7_node_27 ?_
          refine z_aload_n O dzX7_node_30 rfl 0 rfl ?_
          refine z_get O z_cb7 fx_obj (v := .ref (z_ad Y 1)) 0 (Nat.le_of_ble_eq_true rfl) tw_213 rfl dzX7_node_31 ?_
          refine z_get O z_cb4 (fx_stk z_stk_1) (v := .ref (z_ad Y 5)) 1 (Nat.le_of_ble_eq_true rfl) tw_62 rfl dzX7_node_34 ?_
          refine z_iload_n O dzX7_node_37 rfl 1 rfl ?_
          obtain ⟨g1, h⟩ := z_gd_at h
          refine z_aald O fx_fms1 rfl rfl g1 dzX7_node_38 ?_
          refine z_iload_n O dzX7_node_39 rfl 2 rfl ?_
          obtain ⟨r2, hc2, h⟩ := z_bd_at h
          refine z_callVv O (As := [.ref (z_ad Y (7 + a1.toNatClampNeg)), .int a2]) (rest := []) (kX6_start hi (fx_fmi1 g1) hc2) mX6_start tw_521 (Nat.le_of_ble_eq_true rfl) fx_wlk rfl rfl rfl rfl (Nat.le_of_ble_eq_true rfl) dzX7_node_40 ?_
          refine z_aload_n O dzX7_node_43 rfl 0 rfl ?_
          refine z_get O z_cb7 fx_obj (v := .ref (z_ad Y 72)) 6 (Nat.le_of_ble_eq_true rfl) tw_219 rfl dzX7_node_44 ?_
          refine z_get O z_cb6 fx_wlk (v := .int (r2.1 72 5)) 5 (Nat.le_of_ble_eq_true rfl) tw_168 rfl dzX7_node_47 ?_
          refine z_if_ne O dzX7_node_50 (fun c4 => ?_) (fun c4 => ?_)
          · have h := z_if_f c4 h
            refine z_iload_n O dzX7_node_56 rfl 3 rfl ?_
            by_cases c1 : a3 = 0
            · have h := z_if_t c1 h
              refine z_tabI O dzX7_node_57 (x := a3) (by rw [c1]; decide) (by rw [c1]; decide) (off := 27) (by rw [c1]; rfl) (tgt := 84) rfl ?_
              refine z_aload_n O dzX7_node_84 rfl 0 rfl ?_
              refine z_get O z_cb7 fx_obj (v := .ref (z_ad Y 72)) 6 (Nat.le_of_ble_eq_true rfl) tw_219 rfl dzX7_node_85 ?_
              refine z_get O z_cb6 fx_wlk (v := .int (r2.1 72 6)) 6 (Nat.le_of_ble_eq_true rfl) tw_170 rfl dzX7_node_88 ?_
              exact z_iret O hr hlk dzX7_node_91 h
            have h := z_if_f c1 h
            by_cases c2 : a3 = 1
            · have h := z_if_t c2 h
              refine z_tabI O dzX7_node_57 (x := a3) (by rw [c2]; decide) (by rw [c2]; decide) (off := 35) (by rw [c2]; rfl) (tgt := 92) rfl ?_
              refine z_aload_n O dzX7_node_92 rfl 0 rfl ?_
              refine z_get O z_cb7 fx_obj (v := .ref (z_ad Y 72)) 6 (Nat.le_of_ble_eq_true rfl) tw_219 rfl dzX7_node_93 ?_
              refine z_get O z_cb6 fx_wlk (v := .int (r2.1 72 7)) 7 (Nat.le_of_ble_eq_true rfl) tw_172 rfl dzX7_node_96 ?_
              exact z_iret O hr hlk dzX7_node_99 h
            have h := z_if_f c2 h
            by_cases c3 : a3 = 2
            · have h := z_if_t c3 h
              refine z_tabI O dzX7_node_57 (x := a3) (by rw [c3]; decide) (by rw [c3]; decide) (off := 43) (by rw [c3]; rfl) (tgt := 100) rfl ?_
              refine z_aload_n O dzX7_node_100 rfl 0 rfl ?_
              refine z_get O z_cb7 fx_obj (v := .ref (z_ad Y 72)) 6 (Nat.le_of_ble_eq_true rfl) tw_219 rfl dzX7_node_101 ?_
              refine z_get O z_cb6 fx_wlk (v := .int (r2.1 72 8)) 8 (Nat.le_of_ble_eq_true rfl) tw_174 rfl dzX7_node_104 ?_
              exact z_iret O hr hlk dzX7_node_107 h
            have h := z_if_f c3 h
            have qc1 := z_ne (z := 0) rfl c1
            have qc2 := z_ne (z := 1) rfl c2
            have qc3 := z_ne (z := 2) rfl c3
            refine z_tabO O dzX7_node_57 (by omega) (tgt := 108) rfl ?_
            refine z_aload_n O dzX7_node_108 rfl 0 rfl ?_
            refine z_get O z_cb7 fx_obj (v := .ref (z_ad Y 72)) 6 (Nat.le_of_ble_eq_true rfl) tw_219 rfl dzX7_node_109 ?_
            refine z_get O z_cb6 fx_wlk (v := .int (r2.1 72 9)) 9 (Nat.le_of_ble_eq_true rfl) tw_176 rfl dzX7_node_112 ?_
            exact z_iret O hr hlk dzX7_node_115 h
          · have h := z_if_t c4 h
            refine z_bipush O dzX7_node_53 hcBm12 ?_
            exact z_iret O hr hlk dzX7_node_55 h
        · have h := z_if_f c5 h
          refine z_bipush O dzX7_node_23 hcBm12 ?_
          exact z_iret O hr hlk dzX7_node_25 h
      · have h := z_if_f c6 h
        refine z_bipush O dzX7_node_16 hcBm2 ?_
        exact z_iret O hr hlk dzX7_node_18 h
def fX7_often (σ : zS) (a1 : Int32) (a2 : Int32) : Option (Int32) :=
  (fX7_isNoFamily a1).bind (fun r1 => (if r1 = 0 then (fX7_isNoPoint a2).bind (fun r2 => (if r2 = 0 then z_gd (z_in a1 4) ((fX1_countWith σ (7 + a1.toNatClampNeg) a2).bind (fun r3 => some r3)) else some (-2 : Int32))) else some (-2 : Int32)))
theorem kX7_often {l : Launch} {Y : zY} (hi : z_inj ΛX Y) {σ : zS} {a1 : Int32} {a2 : Int32} {fin : Int32} (h : fX7_often σ a1 a2 = some fin) : Met l yX7_often (Cond.code yX7_often cX7_often 3 (some .int) :: z_TB) (z_rm 3) (z_Pc ΛX Y σ [.ref (z_ad Y 0), .int a1, .int a2]) (z_Qi ΛX Y (fin, σ)) 0 0 (z_A ΛX Y) := by
  unfold fX7_often at h
  refine z_met [(0, .ref (z_ad Y 0)), (1, .int a1), (2, .int a2)] rfl (Nat.le_of_ble_eq_true rfl) (plainFor_of_name (by decide)) hi ?_
  intro p e s m args below meth c O hr hlk
  refine z_iload_n O dzX7_often_0 rfl 1 rfl ?_
  obtain ⟨r1, hc1, h⟩ := z_bd_at h
  refine z_callSiR O (As := [.int a1]) (rest := []) (kX7_isNoFamily hi hc1) mX7_isNoFamily tw_273 (Nat.le_of_ble_eq_true rfl) rfl rfl (Nat.le_of_ble_eq_true rfl) dzX7_often_1 ?_
  refine z_if_ne O dzX7_often_4 (fun c2 => ?_) (fun c2 => ?_)
  · have h := z_if_f c2 h
    refine z_bipush O dzX7_often_14 hcBm2 ?_
    refine z_goto O dzX7_often_16 ?_
    exact z_iret O hr hlk dzX7_often_32 (z_rf h)
  · have h := z_if_t c2 h
    refine z_iload_n O dzX7_often_7 rfl 2 rfl ?_
    obtain ⟨r2, hc2, h⟩ := z_bd_at h
    refine z_callSiR O (As := [.int a2]) (rest := []) (kX7_isNoPoint hi hc2) mX7_isNoPoint tw_251 (Nat.le_of_ble_eq_true rfl) rfl rfl (Nat.le_of_ble_eq_true rfl) dzX7_often_8 ?_
    refine z_if_eq O dzX7_often_11 (fun c1 => ?_) (fun c1 => ?_)
    · have h := z_if_t c1 h
      refine z_aload_n O dzX7_often_19 rfl 0 rfl ?_
      refine z_get O z_cb7 fx_obj (v := .ref (z_ad Y 1)) 0 (Nat.le_of_ble_eq_true rfl) tw_213 rfl dzX7_often_20 ?_
      refine z_get O z_cb4 (fx_stk z_stk_1) (v := .ref (z_ad Y 5)) 1 (Nat.le_of_ble_eq_true rfl) tw_62 rfl dzX7_often_23 ?_
      refine z_iload_n O dzX7_often_26 rfl 1 rfl ?_
      obtain ⟨g1, h⟩ := z_gd_at h
      refine z_aald O fx_fms1 rfl rfl g1 dzX7_often_27 ?_
      refine z_iload_n O dzX7_often_28 rfl 2 rfl ?_
      obtain ⟨r3, hc3, h⟩ := z_bd_at h
      refine z_callViR O (As := [.int a2]) (rest := []) (kX1_countWith hi (fx_fmi1 g1) hc3) mX1_countWith tw_358 (Nat.le_of_ble_eq_true rfl) (fx_fam (fx_fmi1 g1)) rfl rfl rfl rfl (Nat.le_of_ble_eq_true rfl) dzX7_often_29 ?_
      exact z_iret O hr hlk dzX7_often_32 (z_rf h)
    · have h := z_if_f c1 h
      refine z_bipush O dzX7_often_14 hcBm2 ?_
      refine z_goto O dzX7_often_16 ?_
      exact z_iret O hr hlk dzX7_often_32 (z_rf h)
def fX7_packs_L65 (q3 : Nat) (q4 : Nat) (k : zS → Int32 → Int32 → Option (Int32 × zS)) : Nat → zS → Int32 → Int32 → Option (Int32 × zS)
  | 0, _, _, _ => none
  | n + 1, σ, v5, v6 => (if (σ.1 q4 2) ≤ v6 then k σ v5 v6 else (fX1_packedFrom σ q4 v6).bind (fun r1 => (fX3_put σ q3 v5 r1).bind (fun r2 => (if r2.1 = 0 then some ((-12 : Int32), r2.2) else fX7_packs_L65 q3 q4 k n r2.2 (v5 + (1 : Int32)) (v6 + (5 : Int32))))))
theorem kX7_packs_L65 {l : Launch} {Y : zY} {fin : Int32 × zS} {p : Program} {e : Env} {s : State} {m : MethodId} {args : Array Value} {below : List Frame} {meth : Method} {c : Code} (O : z_ok ΛX Y p s m args c cX7_packs RX7 7) (hi : z_inj ΛX Y) (hr : meth.sig.returnType = (some .int)) (hlk : meth.locks = false) {q3 : Nat} (h3 : z_she q3) {q4 : Nat} (h4 : z_fam q4) {k : zS → Int32 → Int32 → Option (Int32 × zS)} (hk : ∀ (w : zS) (z5 : Int32) (z6 : Int32), k w z5 z6 = some fin → z_G p l e (z_rm 2) s m args below meth c (MQ below (z_Qi ΛX Y fin) args s 0 0 (z_A ΛX Y)) ΛX Y 7 w [(3, .ref (z_ad Y q3)), (4, .ref (z_ad Y q4)), (5, .int z5), (6, .int z6)] 103 []) : ∀ (n : Nat) (σ : zS) (v5 : Int32) (v6 : Int32), fX7_packs_L65 q3 q4 k n σ v5 v6 = some fin → z_G p l e (z_rm 2) s m args below meth c (MQ below (z_Qi ΛX Y fin) args s 0 0 (z_A ΛX Y)) ΛX Y 7 σ [(3, .ref (z_ad Y q3)), (4, .ref (z_ad Y q4)), (5, .int v5), (6, .int v6)] 65 [] := by
  intro n
  induction n with
  | zero =>
    intro _ _ _ h
    cases h
  | succ n ih =>
    intro σ v5 v6 h
    rw [fX7_packs_L65.eq_2] at h
    refine z_iload O dzX7_packs_65 3 rfl ?_
    refine z_aload O dzX7_packs_67 1 rfl ?_
    refine z_get O z_cb1 (fx_fam h4) (v := .int (σ.1 q4 2)) 2 (Nat.le_of_ble_eq_true rfl) tw_50 rfl dzX7_packs_69 ?_
    refine z_icmp_ge O dzX7_packs_72 (fun c2 => ?_) (fun c2 => ?_)
    · have h := z_if_t c2 h
      exact hk _ _ _ h
    · have h := z_if_f c2 h
      refine z_aload_n O dzX7_packs_75 rfl 0 rfl ?_
      refine z_iload O dzX7_packs_76 2 rfl ?_
      refine z_aload O dzX7_packs_78 1 rfl ?_
      refine z_iload O dzX7_packs_80 3 rfl ?_
      obtain ⟨r1, hc1, h⟩ := z_bd_at h
      refine z_callVlR O (As := [.int v6]) (rest := [.int v5, .ref (z_ad Y q3)]) (kX1_packedFrom hi h4 hc1) mX1_packedFrom tw_705 (Nat.le_of_ble_eq_true rfl) (fx_fam h4) rfl rfl rfl rfl (Nat.le_of_ble_eq_true rfl) dzX7_packs_82 ?_
      obtain ⟨r2, hc2, h⟩ := z_bd_at h
      refine z_callVi O (As := [.int v5, .long r1]) (rest := []) (kX3_put hi h3 hc2) mX3_put tw_690 (Nat.le_of_ble_eq_true rfl) (fx_she h3) rfl rfl rfl rfl (Nat.le_of_ble_eq_true rfl) dzX7_packs_85 ?_
      refine z_if_ne O dzX7_packs_88 (fun c1 => ?_) (fun c1 => ?_)
      · have h := z_if_f c1 h
        refine z_iinc O (lv' := [(5, .int (v5 + (1 : Int32))), (3, .ref (z_ad Y q3)), (4, .ref (z_ad Y q4)), (6, .int v6)]) dzX7_packs_94 2 rfl (congrArg _ hcI1) (by decide) rfl ?_
        refine z_iinc O (lv' := [(6, .int (v6 + (5 : Int32))), (5, .int (v5 + (1 : Int32))), (3, .ref (z_ad Y q3)), (4, .ref (z_ad Y q4))]) dzX7_packs_97 3 rfl (congrArg _ hcI5) (by decide) rfl ?_
        refine z_goto O dzX7_packs_100 ?_
        refine z_sub [2, 3, 1, 0] rfl ?_
        exact ih _ _ _ h
      · have h := z_if_t c1 h
        refine z_bipush O dzX7_packs_91 hcBm12 ?_
        exact z_iret O hr hlk dzX7_packs_93 h
def fX7_packs (σ : zS) (a1 : Int32) (a2 : Int32) : Option (Int32 × zS) :=
  (fX7_isNoSheet a1).bind (fun r1 => (if r1 = 0 then (fX7_isNoFamily a2).bind (fun r2 => (if r2 = 0 then z_gd (z_in a1 4) ((if (σ.1 (64 + a1.toNatClampNeg) 1) = (1 : Int32) then z_gd (z_in a2 4) (fX7_packs_L65 (64 + a1.toNatClampNeg) (7 + a2.toNatClampNeg) (fun (w1 : zS) (x1 : Int32) (x2 : Int32) => some (x1, w1)) z_F σ (0 : Int32) (0 : Int32)) else (if (σ.1 (64 + a1.toNatClampNeg) 1) = (-1 : Int32) then some ((-11 : Int32), σ) else some ((-13 : Int32), σ)))) else some ((-2 : Int32), σ))) else some ((-2 : Int32), σ)))
theorem kX7_packs {l : Launch} {Y : zY} (hi : z_inj ΛX Y) {σ : zS} {a1 : Int32} {a2 : Int32} {fin : Int32 × zS} (h : fX7_packs σ a1 a2 = some fin) : Met l yX7_packs (Cond.code yX7_packs cX7_packs 7 (some .int) :: z_TB) (z_rm 2) (z_Pc ΛX Y σ [.ref (z_ad Y 0), .int a1, .int a2]) (z_Qi ΛX Y fin) 0 0 (z_A ΛX Y) := by
  unfold fX7_packs at h
  refine z_met [(0, .ref (z_ad Y 0)), (1, .int a1), (2, .int a2)] rfl (Nat.le_of_ble_eq_true rfl) (plainFor_of_name (by decide)) hi ?_
  intro p e s m args below meth c O hr hlk
  refine z_iload_n O dzX7_packs_0 rfl 1 rfl ?_
  obtain ⟨r1, hc1, h⟩ := z_bd_at h
  refine z_callSiR O (As := [.int a1]) (rest := []) (kX7_isNoSheet hi hc1) mX7_isNoSheet tw_678 (Nat.le_of_ble_eq_true rfl) rfl rfl (Nat.le_of_ble_eq_true rfl) dzX7_packs_1 ?_
  refine z_if_ne O dzX7_packs_4 (fun c4 => ?_) (fun c4 => ?_)
  · have h := z_if_f c4 h
    refine z_bipush O dzX7_packs_14 hcBm2 ?_
    exact z_iret O hr hlk dzX7_packs_16 h
  · have h := z_if_t c4 h
    refine z_iload_n O dzX7_packs_7 rfl 2 rfl ?_
    obtain ⟨r2, hc2, h⟩ := z_bd_at h
    refine z_callSiR O (As := [.int a2]) (rest := []) (kX7_isNoFamily hi hc2) mX7_isNoFamily tw_273 (Nat.le_of_ble_eq_true rfl) rfl rfl (Nat.le_of_ble_eq_true rfl) dzX7_packs_8 ?_
    refine z_if_eq O dzX7_packs_11 (fun c3 => ?_) (fun c3 => ?_)
    · have h := z_if_t c3 h
      refine z_aload_n O dzX7_packs_17 rfl 0 rfl ?_
      refine z_get O z_cb7 fx_obj (v := .ref (z_ad Y 63)) 5 (Nat.le_of_ble_eq_true rfl) tw_218 rfl dzX7_packs_18 ?_
      refine z_iload_n O dzX7_packs_21 rfl 1 rfl ?_
      obtain ⟨g1, h⟩ := z_gd_at h
      refine z_aald O fx_shs rfl rfl g1 dzX7_packs_22 ?_
      refine z_astore_n O (lv' := [(3, .ref (z_ad Y (64 + a1.toNatClampNeg))), (0, .ref (z_ad Y 0)), (1, .int a1), (2, .int a2)]) dzX7_packs_23 rfl (by decide) rfl ?_
      refine z_aload_n O dzX7_packs_24 rfl 0 rfl ?_
      refine z_get O z_cb3 (fx_she (fx_shi g1)) (v := .int (σ.1 (64 + a1.toNatClampNeg) 1)) 1 (Nat.le_of_ble_eq_true rfl) tw_140 rfl dzX7_packs_25 ?_
      refine z_iconst O dzX7_packs_28 hcI1 ?_
      refine z_icmp_eq O dzX7_packs_29 (fun c2 => ?_) (fun c2 => ?_)
      · have h := z_if_t c2 h
        refine z_aload_n O dzX7_packs_48 rfl 1 rfl ?_
        refine z_get O z_cb7 fx_obj (v := .ref (z_ad Y 1)) 0 (Nat.le_of_ble_eq_true rfl) tw_213 rfl dzX7_packs_49 ?_
        refine z_get O z_cb4 (fx_stk z_stk_1) (v := .ref (z_ad Y 5)) 1 (Nat.le_of_ble_eq_true rfl) tw_62 rfl dzX7_packs_52 ?_
        refine z_iload_n O dzX7_packs_55 rfl 3 rfl ?_
        obtain ⟨g2, h⟩ := z_gd_at h
        refine z_aald O fx_fms1 rfl rfl g2 dzX7_packs_56 ?_
        refine z_astore O (lv' := [(4, .ref (z_ad Y (7 + a2.toNatClampNeg))), (3, .ref (z_ad Y (64 + a1.toNatClampNeg))), (0, .ref (z_ad Y 0)), (1, .int a1), (2, .int a2)]) dzX7_packs_57 (by decide) rfl ?_
        refine z_iconst O dzX7_packs_59 hcI0 ?_
        refine z_istore O (lv' := [(5, .int (0 : Int32)), (4, .ref (z_ad Y (7 + a2.toNatClampNeg))), (3, .ref (z_ad Y (64 + a1.toNatClampNeg))), (0, .ref (z_ad Y 0)), (1, .int a1), (2, .int a2)]) dzX7_packs_60 (by decide) rfl ?_
        refine z_iconst O dzX7_packs_62 hcI0 ?_
        refine z_istore O (lv' := [(6, .int (0 : Int32)), (5, .int (0 : Int32)), (4, .ref (z_ad Y (7 + a2.toNatClampNeg))), (3, .ref (z_ad Y (64 + a1.toNatClampNeg))), (0, .ref (z_ad Y 0)), (1, .int a1), (2, .int a2)]) dzX7_packs_63 (by decide) rfl ?_
        refine z_sub [3, 2, 1, 0] rfl ?_
        refine kX7_packs_L65 O hi hr hlk (h3 := (fx_shi g1)) (h4 := (fx_fmi1 g2))  (fun w1 x1 x2 h => ?_) _ _ _ _ h
        refine z_iload O dzX7_packs_103 2 rfl ?_
        exact z_iret O hr hlk dzX7_packs_105 h
      · have h := z_if_f c2 h
        refine z_aload_n O dzX7_packs_32 rfl 0 rfl ?_
        refine z_get O z_cb3 (fx_she (fx_shi g1)) (v := .int (σ.1 (64 + a1.toNatClampNeg) 1)) 1 (Nat.le_of_ble_eq_true rfl) tw_140 rfl dzX7_packs_33 ?_
        refine z_iconst O dzX7_packs_36 hcIm1 ?_
        refine z_icmp_ne O dzX7_packs_37 (fun c1 => ?_) (fun c1 => ?_)
        · have h := z_if_f c1 h
          refine z_bipush O dzX7_packs_45 hcBm13 ?_
          exact z_iret O hr hlk dzX7_packs_47 h
        · have h := z_if_t c1 h
          refine z_bipush O dzX7_packs_40 hcBm11 ?_
          refine z_goto O dzX7_packs_42 ?_
          exact z_iret O hr hlk dzX7_packs_47 h
    · have h := z_if_f c3 h
      refine z_bipush O dzX7_packs_14 hcBm2 ?_
      exact z_iret O hr hlk dzX7_packs_16 h
def fX7_price (σ : zS) (a1 : Int32) (a2 : Int32) : Option (Int32 × zS) :=
  (fX7_isNoPoint a1).bind (fun r1 => (if r1 = 0 then (if a2 < 0 then some ((-2 : Int32), σ) else (if a2 ≤ (99 : Int32) then z_gd (z_in a1 12) (z_lt (σ.1 3 a1.toNatClampNeg) (fun (x1 : Int32) => (if x1 = a2 then some (x1, σ) else z_gd (z_in a1 12) (z_lt (z_sI σ 3 a1.toNatClampNeg a2) (fun (w1 : zS) => (fX0_remember w1 (0 : Int32) a1 x1).bind (fun r2 => some (x1, r2))))))) else some ((-2 : Int32), σ))) else some ((-2 : Int32), σ)))
theorem kX7_price {l : Launch} {Y : zY} (hi : z_inj ΛX Y) {σ : zS} {a1 : Int32} {a2 : Int32} {fin : Int32 × zS} (h : fX7_price σ a1 a2 = some fin) : Met l yX7_price (Cond.code yX7_price cX7_price 4 (some .int) :: z_TB) (z_rm 3) (z_Pc ΛX Y σ [.ref (z_ad Y 0), .int a1, .int a2]) (z_Qi ΛX Y fin) 0 0 (z_A ΛX Y) := by
  unfold fX7_price at h
  refine z_met [(0, .ref (z_ad Y 0)), (1, .int a1), (2, .int a2)] rfl (Nat.le_of_ble_eq_true rfl) (plainFor_of_name (by decide)) hi ?_
  intro p e s m args below meth c O hr hlk
  refine z_iload_n O dzX7_price_0 rfl 1 rfl ?_
  obtain ⟨r1, hc1, h⟩ := z_bd_at h
  refine z_callSiR O (As := [.int a1]) (rest := []) (kX7_isNoPoint hi hc1) mX7_isNoPoint tw_251 (Nat.le_of_ble_eq_true rfl) rfl rfl (Nat.le_of_ble_eq_true rfl) dzX7_price_1 ?_
  refine z_if_ne O dzX7_price_4 (fun c4 => ?_) (fun c4 => ?_)
  · have h := z_if_f c4 h
    refine z_bipush O dzX7_price_17 hcBm2 ?_
    exact z_iret O hr hlk dzX7_price_19 h
  · have h := z_if_t c4 h
    refine z_iload_n O dzX7_price_7 rfl 2 rfl ?_
    refine z_if_lt O dzX7_price_8 (fun c3 => ?_) (fun c3 => ?_)
    · have h := z_if_t c3 h
      refine z_bipush O dzX7_price_17 hcBm2 ?_
      exact z_iret O hr hlk dzX7_price_19 h
    · have h := z_if_f c3 h
      refine z_iload_n O dzX7_price_11 rfl 2 rfl ?_
      refine z_bipush O dzX7_price_12 hcB99 ?_
      refine z_icmp_le O dzX7_price_14 (fun c2 => ?_) (fun c2 => ?_)
      · have h := z_if_t c2 h
        refine z_aload_n O dzX7_price_20 rfl 0 rfl ?_
        refine z_get O z_cb7 fx_obj (v := .ref (z_ad Y 1)) 0 (Nat.le_of_ble_eq_true rfl) tw_213 rfl dzX7_price_21 ?_
        refine z_get O z_cb4 (fx_stk z_stk_1) (v := .ref (z_ad Y 3)) 0 (Nat.le_of_ble_eq_true rfl) tw_60 rfl dzX7_price_24 ?_
        refine z_iload_n O dzX7_price_27 rfl 1 rfl ?_
        obtain ⟨g1, h⟩ := z_gd_at h
        refine z_iald O (fx_pri z_stk_1) g1 dzX7_price_28 ?_
        refine z_topi (fun x1 e1 => ?_)
        have h := z_lt_at e1 h
        refine z_istore_n O (lv' := [(3, .int x1), (0, .ref (z_ad Y 0)), (1, .int a1), (2, .int a2)]) dzX7_price_29 rfl (by decide) rfl ?_
        refine z_iload_n O dzX7_price_30 rfl 0 rfl ?_
        refine z_iload_n O dzX7_price_31 rfl 3 rfl ?_
        refine z_icmp_eq O dzX7_price_32 (fun c1 => ?_) (fun c1 => ?_)
        · have h := z_if_t c1 h
          refine z_iload_n O dzX7_price_55 rfl 0 rfl ?_
          exact z_iret O hr hlk dzX7_price_56 h
        · have h := z_if_f c1 h
          refine z_aload_n O dzX7_price_35 rfl 1 rfl ?_
          refine z_get O z_cb7 fx_obj (v := .ref (z_ad Y 1)) 0 (Nat.le_of_ble_eq_true rfl) tw_213 rfl dzX7_price_36 ?_
          refine z_get O z_cb4 (fx_stk z_stk_1) (v := .ref (z_ad Y 3)) 0 (Nat.le_of_ble_eq_true rfl) tw_60 rfl dzX7_price_39 ?_
          refine z_iload_n O dzX7_price_42 rfl 2 rfl ?_
          refine z_iload_n O dzX7_price_43 rfl 3 rfl ?_
          obtain ⟨g2, h⟩ := z_gd_at h
          refine z_iast O (fx_pri z_stk_1) g2 dzX7_price_44 ?_
          refine z_sig (fun w1 e2 => ?_)
          have h := z_lt_at e2 h
          refine z_aload_n O dzX7_price_45 rfl 1 rfl ?_
          refine z_get O z_cb7 fx_obj (v := .ref (z_ad Y 59)) 4 (Nat.le_of_ble_eq_true rfl) tw_217 rfl dzX7_price_46 ?_
          refine z_iconst O dzX7_price_49 hcI0 ?_
          refine z_iload_n O dzX7_price_50 rfl 2 rfl ?_
          refine z_iload_n O dzX7_price_51 rfl 0 rfl ?_
          obtain ⟨r2, hc2, h⟩ := z_bd_at h
          refine z_callVv O (As := [.int (0 : Int32), .int a1, .int x1]) (rest := []) (kX0_remember hi hc2) mX0_remember tw_254 (Nat.le_of_ble_eq_true rfl) fx_act rfl rfl rfl rfl (Nat.le_of_ble_eq_true rfl) dzX7_price_52 ?_
          refine z_iload_n O dzX7_price_55 rfl 0 rfl ?_
          exact z_iret O hr hlk dzX7_price_56 h
      · have h := z_if_f c2 h
        refine z_bipush O dzX7_price_17 hcBm2 ?_
        exact z_iret O hr hlk dzX7_price_19 h
def fX7_priceOf (σ : zS) (a1 : Int32) : Option (Int32) :=
  (fX7_isNoPoint a1).bind (fun r1 => (if r1 = 0 then z_gd (z_in a1 12) (some (σ.1 3 a1.toNatClampNeg)) else some (-2 : Int32)))
theorem kX7_priceOf {l : Launch} {Y : zY} (hi : z_inj ΛX Y) {σ : zS} {a1 : Int32} {fin : Int32} (h : fX7_priceOf σ a1 = some fin) : Met l yX7_priceOf (Cond.code yX7_priceOf cX7_priceOf 2 (some .int) :: z_TB) (z_rm 2) (z_Pc ΛX Y σ [.ref (z_ad Y 0), .int a1]) (z_Qi ΛX Y (fin, σ)) 0 0 (z_A ΛX Y) := by
  unfold fX7_priceOf at h
  refine z_met [(0, .ref (z_ad Y 0)), (1, .int a1)] rfl (Nat.le_of_ble_eq_true rfl) (plainFor_of_name (by decide)) hi ?_
  intro p e s m args below meth c O hr hlk
  refine z_iload_n O dzX7_priceOf_0 rfl 1 rfl ?_
  obtain ⟨r1, hc1, h⟩ := z_bd_at h
  refine z_callSiR O (As := [.int a1]) (rest := []) (kX7_isNoPoint hi hc1) mX7_isNoPoint tw_251 (Nat.le_of_ble_eq_true rfl) rfl rfl (Nat.le_of_ble_eq_true rfl) dzX7_priceOf_1 ?_
  refine z_if_eq O dzX7_priceOf_4 (fun c1 => ?_) (fun c1 => ?_)
  · have h := z_if_t c1 h
    refine z_aload_n O dzX7_priceOf_12 rfl 0 rfl ?_
    refine z_get O z_cb7 fx_obj (v := .ref (z_ad Y 1)) 0 (Nat.le_of_ble_eq_true rfl) tw_213 rfl dzX7_priceOf_13 ?_
    refine z_get O z_cb4 (fx_stk z_stk_1) (v := .ref (z_ad Y 3)) 0 (Nat.le_of_ble_eq_true rfl) tw_60 rfl dzX7_priceOf_16 ?_
    refine z_iload_n O dzX7_priceOf_19 rfl 1 rfl ?_
    obtain ⟨g1, h⟩ := z_gd_at h
    refine z_iald O (fx_pri z_stk_1) g1 dzX7_priceOf_20 ?_
    exact z_iret O hr hlk dzX7_priceOf_21 (z_rf h)
  · have h := z_if_f c1 h
    refine z_bipush O dzX7_priceOf_7 hcBm2 ?_
    refine z_goto O dzX7_priceOf_9 ?_
    exact z_iret O hr hlk dzX7_priceOf_21 (z_rf h)
def fX7_rankOf_L5 (σ : zS) (a1 : Int32) (a2 : Int32) (k : Int32 → Int32 → Option (Int32)) : Nat → Int32 → Int32 → Option (Int32)
  | 0, _, _ => none
  | n + 1, v3, v4 => (if a2 ≤ v4 then k v3 v4 else z_gd (z_in v4 40) (z_gd (z_in a1 40) ((if (σ.1 93 v4.toNatClampNeg) < (σ.1 93 a1.toNatClampNeg) then fX7_rankOf_L5 σ a1 a2 k n (v3 + (1 : Int32)) (v4 + (1 : Int32)) else z_gd (z_in v4 40) (z_gd (z_in a1 40) ((if (σ.1 93 v4.toNatClampNeg) = (σ.1 93 a1.toNatClampNeg) then (if a1 ≤ v4 then fX7_rankOf_L5 σ a1 a2 k n v3 (v4 + (1 : Int32)) else fX7_rankOf_L5 σ a1 a2 k n (v3 + (1 : Int32)) (v4 + (1 : Int32))) else fX7_rankOf_L5 σ a1 a2 k n v3 (v4 + (1 : Int32)))))))))
theorem kX7_rankOf_L5 {l : Launch} {Y : zY} {fin : Int32} {p : Program} {e : Env} {s : State} {m : MethodId} {args : Array Value} {below : List Frame} {meth : Method} {c : Code} {σ : zS} (O : z_ok ΛX Y p s m args c cX7_rankOf RX7 5) (hi : z_inj ΛX Y) (hr : meth.sig.returnType = (some .int)) (hlk : meth.locks = false) {a1 : Int32} {a2 : Int32} {k : Int32 → Int32 → Option (Int32)} (hk : ∀ (z3 : Int32) (z4 : Int32), k z3 z4 = some fin → z_G p l e (z_rm 1) s m args below meth c (MQ below (z_Qi ΛX Y (fin, σ)) args s 0 0 (z_A ΛX Y)) ΛX Y 5 σ [(0, .ref (z_ad Y 0)), (1, .int a1), (2, .int a2), (3, .int z3), (4, .int z4)] 58 []) : ∀ (n : Nat) (v3 : Int32) (v4 : Int32), fX7_rankOf_L5 σ a1 a2 k n v3 v4 = some fin → z_G p l e (z_rm 1) s m args below meth c (MQ below (z_Qi ΛX Y (fin, σ)) args s 0 0 (z_A ΛX Y)) ΛX Y 5 σ [(0, .ref (z_ad Y 0)), (1, .int a1), (2, .int a2), (3, .int v3), (4, .int v4)] 5 [] := by
  intro n
  induction n with
  | zero =>
    intro _ _ h
    cases h
  | succ n ih =>
    intro v3 v4 h
    rw [fX7_rankOf_L5.eq_2] at h
    refine z_iload O dzX7_rankOf_5 4 rfl ?_
    refine z_iload_n O dzX7_rankOf_7 rfl 2 rfl ?_
    refine z_icmp_ge O dzX7_rankOf_8 (fun c4 => ?_) (fun c4 => ?_)
    · have h := z_if_t c4 h
      exact hk _ _ h
    · have h := z_if_f c4 h
      refine z_aload_n O dzX7_rankOf_11 rfl 0 rfl ?_
      refine z_get O z_cb7 fx_obj (v := .ref (z_ad Y 93)) 10 (Nat.le_of_ble_eq_true rfl) tw_223 rfl dzX7_rankOf_12 ?_
      refine z_iload O dzX7_rankOf_15 4 rfl ?_
      obtain ⟨g1, h⟩ := z_gd_at h
      refine z_iald O fx_wth g1 dzX7_rankOf_17 ?_
      refine z_aload_n O dzX7_rankOf_18 rfl 0 rfl ?_
      refine z_get O z_cb7 fx_obj (v := .ref (z_ad Y 93)) 10 (Nat.le_of_ble_eq_true rfl) tw_223 rfl dzX7_rankOf_19 ?_
      refine z_iload_n O dzX7_rankOf_22 rfl 1 rfl ?_
      obtain ⟨g2, h⟩ := z_gd_at h
      refine z_iald O fx_wth g2 dzX7_rankOf_23 ?_
      refine z_icmp_lt O dzX7_rankOf_24 (fun c3 => ?_) (fun c3 => ?_)
      · have h := z_if_t c3 h
        refine z_iinc O (lv' := [(3, .int (v3 + (1 : Int32))), (0, .ref (z_ad Y 0)), (1, .int a1), (2, .int a2), (4, .int v4)]) dzX7_rankOf_49 3 rfl (congrArg _ hcI1) (by decide) rfl ?_
        refine z_iinc O (lv' := [(4, .int (v4 + (1 : Int32))), (3, .int (v3 + (1 : Int32))), (0, .ref (z_ad Y 0)), (1, .int a1), (2, .int a2)]) dzX7_rankOf_52 4 rfl (congrArg _ hcI1) (by decide) rfl ?_
        refine z_goto O dzX7_rankOf_55 ?_
        refine z_sub [2, 3, 4, 1, 0] rfl ?_
        exact ih _ _ h
      · have h := z_if_f c3 h
        refine z_aload_n O dzX7_rankOf_27 rfl 0 rfl ?_
        refine z_get O z_cb7 fx_obj (v := .ref (z_ad Y 93)) 10 (Nat.le_of_ble_eq_true rfl) tw_223 rfl dzX7_rankOf_28 ?_
        refine z_iload O dzX7_rankOf_31 4 rfl ?_
        obtain ⟨g3, h⟩ := z_gd_at h
        refine z_iald O fx_wth g3 dzX7_rankOf_33 ?_
        refine z_aload_n O dzX7_rankOf_34 rfl 0 rfl ?_
        refine z_get O z_cb7 fx_obj (v := .ref (z_ad Y 93)) 10 (Nat.le_of_ble_eq_true rfl) tw_223 rfl dzX7_rankOf_35 ?_
        refine z_iload_n O dzX7_rankOf_38 rfl 1 rfl ?_
        obtain ⟨g4, h⟩ := z_gd_at h
        refine z_iald O fx_wth g4 dzX7_rankOf_39 ?_
        refine z_icmp_ne O dzX7_rankOf_40 (fun c2 => ?_) (fun c2 => ?_)
        · have h := z_if_f c2 h
          refine z_iinc O (lv' := [(4, .int (v4 + (1 : Int32))), (0, .ref (z_ad Y 0)), (1, .int a1), (2, .int a2), (3, .int v3)]) dzX7_rankOf_52 4 rfl (congrArg _ hcI1) (by decide) rfl ?_
          refine z_goto O dzX7_rankOf_55 ?_
          refine z_sub [1, 2, 3, 4, 0] rfl ?_
          exact ih _ _ h
        · have h := z_if_t c2 h
          refine z_iload O dzX7_rankOf_43 4 rfl ?_
          refine z_iload_n O dzX7_rankOf_45 rfl 1 rfl ?_
          refine z_icmp_ge O dzX7_rankOf_46 (fun c1 => ?_) (fun c1 => ?_)
          · have h := z_if_t c1 h
            refine z_iinc O (lv' := [(4, .int (v4 + (1 : Int32))), (0, .ref (z_ad Y 0)), (1, .int a1), (2, .int a2), (3, .int v3)]) dzX7_rankOf_52 4 rfl (congrArg _ hcI1) (by decide) rfl ?_
            refine z_goto O dzX7_rankOf_55 ?_
            refine z_sub [1, 2, 3, 4, 0] rfl ?_
            exact ih _ _ h
          · have h := z_if_f c1 h
            refine z_iinc O (lv' := [(3, .int (v3 + (1 : Int32))), (0, .ref (z_ad Y 0)), (1, .int a1), (2, .int a2), (4, .int v4)]) dzX7_rankOf_49 3 rfl (congrArg _ hcI1) (by decide) rfl ?_
            refine z_iinc O (lv' := [(4, .int (v4 + (1 : Int32))), (3, .int (v3 + (1 : Int32))), (0, .ref (z_ad Y 0)), (1, .int a1), (2, .int a2)]) dzX7_rankOf_52 4 rfl (congrArg _ hcI1) (by decide) rfl ?_
            refine z_goto O dzX7_rankOf_55 ?_
            refine z_sub [2, 3, 4, 1, 0] rfl ?_
            exact ih _ _ h
def fX7_rankOf (σ : zS) (a1 : Int32) (a2 : Int32) : Option (Int32) :=
  fX7_rankOf_L5 σ a1 a2 (fun (x1 : Int32) (x2 : Int32) => some x1) z_F (0 : Int32) (0 : Int32)
theorem kX7_rankOf {l : Launch} {Y : zY} (hi : z_inj ΛX Y) {σ : zS} {a1 : Int32} {a2 : Int32} {fin : Int32} (h : fX7_rankOf σ a1 a2 = some fin) : Met l yX7_rankOf (Cond.code yX7_rankOf cX7_rankOf 5 (some .int) :: z_TB) (z_rm 1) (z_Pc ΛX Y σ [.ref (z_ad Y 0), .int a1, .int a2]) (z_Qi ΛX Y (fin, σ)) 0 0 (z_A ΛX Y) := by
  unfold fX7_rankOf at h
  refine z_met [(0, .ref (z_ad Y 0)), (1, .int a1), (2, .int a2)] rfl (Nat.le_of_ble_eq_true rfl) (plainFor_of_name (by decide)) hi ?_
  intro p e s m args below meth c O hr hlk
  refine z_iconst O dzX7_rankOf_0 hcI0 ?_
  refine z_istore_n O (lv' := [(3, .int (0 : Int32)), (0, .ref (z_ad Y 0)), (1, .int a1), (2, .int a2)]) dzX7_rankOf_1 rfl (by decide) rfl ?_
  refine z_iconst O dzX7_rankOf_2 hcI0 ?_
  refine z_istore O (lv' := [(4, .int (0 : Int32)), (3, .int (0 : Int32)), (0, .ref (z_ad Y 0)), (1, .int a1), (2, .int a2)]) dzX7_rankOf_3 (by decide) rfl ?_
  refine z_sub [2, 3, 4, 1, 0] rfl ?_
  refine kX7_rankOf_L5 O hi hr hlk   (fun x1 x2 h => ?_) _ _ _ h
  refine z_iload_n O dzX7_rankOf_58 rfl 3 rfl ?_
  exact z_iret O hr hlk dzX7_rankOf_59 (z_rf h)
def fX7_ranked_L48 (a2 : Int32) (q4 : Nat) (k : zS → Int32 → Option (Int32 × zS)) : Nat → zS → Int32 → Option (Int32 × zS)
  | 0, _, _ => none
  | n + 1, σ, v5 => (if (σ.1 q4 2) ≤ v5 then k σ v5 else z_gd (z_in v5 40) ((fX7_tellsNow σ a2 (σ.1 (q4 + 9) v5.toNatClampNeg)).bind (fun r1 => z_gd (z_in v5 40) (z_lt (z_sI r1.2 93 v5.toNatClampNeg r1.1) (fun (w1 : zS) => fX7_ranked_L48 a2 q4 k n w1 (v5 + (1 : Int32)))))))
theorem kX7_ranked_L48 {l : Launch} {Y : zY} {fin : Int32 × zS} {p : Program} {e : Env} {s : State} {m : MethodId} {args : Array Value} {below : List Frame} {meth : Method} {c : Code} (O : z_ok ΛX Y p s m args c cX7_ranked RX7 6) (hi : z_inj ΛX Y) (hr : meth.sig.returnType = (some .int)) (hlk : meth.locks = false) {a2 : Int32} {b3 : Int32} {q4 : Nat} (h4 : z_fam q4) {k : zS → Int32 → Option (Int32 × zS)} (hk : ∀ (w : zS) (z5 : Int32), k w z5 = some fin → z_G p l e (z_rm 36) s m args below meth c (MQ below (z_Qi ΛX Y fin) args s 0 0 (z_A ΛX Y)) ΛX Y 6 w [(0, .ref (z_ad Y 0)), (2, .int a2), (3, .int b3), (4, .ref (z_ad Y q4)), (5, .int z5)] 84 []) : ∀ (n : Nat) (σ : zS) (v5 : Int32), fX7_ranked_L48 a2 q4 k n σ v5 = some fin → z_G p l e (z_rm 36) s m args below meth c (MQ below (z_Qi ΛX Y fin) args s 0 0 (z_A ΛX Y)) ΛX Y 6 σ [(0, .ref (z_ad Y 0)), (2, .int a2), (3, .int b3), (4, .ref (z_ad Y q4)), (5, .int v5)] 48 [] := by
  intro n
  induction n with
  | zero =>
    intro _ _ h
    cases h
  | succ n ih =>
    intro σ v5 h
    rw [fX7_ranked_L48.eq_2] at h
    refine z_iload O dzX7_ranked_48 4 rfl ?_
    refine z_aload O dzX7_ranked_50 3 rfl ?_
    refine z_get O z_cb1 (fx_fam h4) (v := .int (σ.1 q4 2)) 2 (Nat.le_of_ble_eq_true rfl) tw_50 rfl dzX7_ranked_52 ?_
    refine z_icmp_ge O dzX7_ranked_55 (fun c1 => ?_) (fun c1 => ?_)
    · have h := z_if_t c1 h
      exact hk _ _ h
    · have h := z_if_f c1 h
      refine z_aload_n O dzX7_ranked_58 rfl 0 rfl ?_
      refine z_get O z_cb7 fx_obj (v := .ref (z_ad Y 93)) 10 (Nat.le_of_ble_eq_true rfl) tw_223 rfl dzX7_ranked_59 ?_
      refine z_iload O dzX7_ranked_62 4 rfl ?_
      refine z_aload_n O dzX7_ranked_64 rfl 0 rfl ?_
      refine z_iload_n O dzX7_ranked_65 rfl 1 rfl ?_
      refine z_aload O dzX7_ranked_66 3 rfl ?_
      refine z_get O z_cb1 (fx_fam h4) (v := .ref (z_ad Y (q4 + 9))) 0 (Nat.le_of_ble_eq_true rfl) tw_42 rfl dzX7_ranked_68 ?_
      refine z_iload O dzX7_ranked_71 4 rfl ?_
      obtain ⟨g1, h⟩ := z_gd_at h
      refine z_iald O (fx_set h4) g1 dzX7_ranked_73 ?_
      obtain ⟨r1, hc1, h⟩ := z_bd_at h
      refine z_callVi O (As := [.int a2, .int (σ.1 (q4 + 9) v5.toNatClampNeg)]) (rest := [.int v5, .ref (z_ad Y 93)]) (kX7_tellsNow hi hc1) mX7_tellsNow tw_630 (Nat.le_of_ble_eq_true rfl) fx_obj rfl rfl rfl rfl (Nat.le_of_ble_eq_true rfl) dzX7_ranked_74 ?_
      obtain ⟨g2, h⟩ := z_gd_at h
      refine z_iast O fx_wth g2 dzX7_ranked_77 ?_
      refine z_sig (fun w1 e1 => ?_)
      have h := z_lt_at e1 h
      refine z_iinc O (lv' := [(5, .int (v5 + (1 : Int32))), (0, .ref (z_ad Y 0)), (2, .int a2), (3, .int b3), (4, .ref (z_ad Y q4))]) dzX7_ranked_78 4 rfl (congrArg _ hcI1) (by decide) rfl ?_
      refine z_goto O dzX7_ranked_81 ?_
      refine z_sub [1, 2, 3, 4, 0] rfl ?_
      exact ih _ _ h
def fX7_ranked_L87 (σ : zS) (a3 : Int32) (q4 : Nat) (k : Int32 → Option (Int32 × zS)) : Nat → Int32 → Option (Int32 × zS)
  | 0, _ => none
  | n + 1, v5 => (if ((σ.1 q4 2) - (1 : Int32)) ≤ v5 then k v5 else (fX7_rankOf σ v5 (σ.1 q4 2)).bind (fun r1 => (if r1 = a3 then k v5 else fX7_ranked_L87 σ a3 q4 k n (v5 + (1 : Int32)))))
theorem kX7_ranked_L87 {l : Launch} {Y : zY} {fin : Int32 × zS} {p : Program} {e : Env} {s : State} {m : MethodId} {args : Array Value} {below : List Frame} {meth : Method} {c : Code} {σ : zS} (O : z_ok ΛX Y p s m args c cX7_ranked RX7 6) (hi : z_inj ΛX Y) (hr : meth.sig.returnType = (some .int)) (hlk : meth.locks = false) {a3 : Int32} {q4 : Nat} (h4 : z_fam q4) {k : Int32 → Option (Int32 × zS)} (hk : ∀ (z5 : Int32), k z5 = some fin → z_G p l e (z_rm 36) s m args below meth c (MQ below (z_Qi ΛX Y fin) args s 0 0 (z_A ΛX Y)) ΛX Y 6 σ [(0, .ref (z_ad Y 0)), (3, .int a3), (4, .ref (z_ad Y q4)), (5, .int z5)] 120 []) : ∀ (n : Nat) (v5 : Int32), fX7_ranked_L87 σ a3 q4 k n v5 = some fin → z_G p l e (z_rm 36) s m args below meth c (MQ below (z_Qi ΛX Y fin) args s 0 0 (z_A ΛX Y)) ΛX Y 6 σ [(0, .ref (z_ad Y 0)), (3, .int a3), (4, .ref (z_ad Y q4)), (5, .int v5)] 87 [] := by
  intro n
  induction n with
  | zero =>
    intro _ h
    cases h
  | succ n ih =>
    intro v5 h
    rw [fX7_ranked_L87.eq_2] at h
    refine z_iload O dzX7_ranked_87 3 rfl ?_
    refine z_aload O dzX7_ranked_89 2 rfl ?_
    refine z_get O z_cb1 (fx_fam h4) (v := .int (σ.1 q4 2)) 2 (Nat.le_of_ble_eq_true rfl) tw_50 rfl dzX7_ranked_91 ?_
    refine z_iconst O dzX7_ranked_94 hcI1 ?_
    refine z_isub O dzX7_ranked_95 ?_
    refine z_icmp_ge O dzX7_ranked_96 (fun c2 => ?_) (fun c2 => ?_)
    · have h := z_if_t c2 h
      exact hk _ h
    · have h := z_if_f c2 h
      refine z_aload_n O dzX7_ranked_99 rfl 0 rfl ?_
      refine z_iload O dzX7_ranked_100 3 rfl ?_
      refine z_aload O dzX7_ranked_102 2 rfl ?_
      refine z_get O z_cb1 (fx_fam h4) (v := .int (σ.1 q4 2)) 2 (Nat.le_of_ble_eq_true rfl) tw_50 rfl dzX7_ranked_104 ?_
      obtain ⟨r1, hc1, h⟩ := z_bd_at h
      refine z_callViR O (As := [.int v5, .int (σ.1 q4 2)]) (rest := []) (kX7_rankOf hi hc1) mX7_rankOf tw_666 (Nat.le_of_ble_eq_true rfl) fx_obj rfl rfl rfl rfl (Nat.le_of_ble_eq_true rfl) dzX7_ranked_107 ?_
      refine z_iload_n O dzX7_ranked_110 rfl 1 rfl ?_
      refine z_icmp_eq O dzX7_ranked_111 (fun c1 => ?_) (fun c1 => ?_)
      · have h := z_if_t c1 h
        exact hk _ h
      · have h := z_if_f c1 h
        refine z_iinc O (lv' := [(5, .int (v5 + (1 : Int32))), (0, .ref (z_ad Y 0)), (3, .int a3), (4, .ref (z_ad Y q4))]) dzX7_ranked_114 3 rfl (congrArg _ hcI1) (by decide) rfl ?_
        refine z_goto O dzX7_ranked_117 ?_
        refine z_sub [1, 2, 3, 0] rfl ?_
        exact ih _ h
def fX7_ranked (σ : zS) (a1 : Int32) (a2 : Int32) (a3 : Int32) : Option (Int32 × zS) :=
  (fX7_isNoFamily a1).bind (fun r1 => (if r1 = 0 then (fX7_isNoRule σ a2).bind (fun r2 => (if r2 = 0 then z_gd (z_in a1 4) ((if a3 < 0 then some ((-12 : Int32), σ) else (if a3 < (σ.1 (7 + a1.toNatClampNeg) 2) then fX7_ranked_L48 a2 (7 + a1.toNatClampNeg) (fun (w1 : zS) (x1 : Int32) => fX7_ranked_L87 w1 a3 (7 + a1.toNatClampNeg) (fun (x2 : Int32) => z_gd (z_in x2 40) (some ((w1.1 ((7 + a1.toNatClampNeg) + 9) x2.toNatClampNeg), w1))) z_F (0 : Int32)) z_F σ (0 : Int32) else some ((-12 : Int32), σ)))) else some ((-2 : Int32), σ))) else some ((-2 : Int32), σ)))
theorem kX7_ranked {l : Launch} {Y : zY} (hi : z_inj ΛX Y) {σ : zS} {a1 : Int32} {a2 : Int32} {a3 : Int32} {fin : Int32 × zS} (h : fX7_ranked σ a1 a2 a3 = some fin) : Met l yX7_ranked (Cond.code yX7_ranked cX7_ranked 6 (some .int) :: z_TB) (z_rm 36) (z_Pc ΛX Y σ [.ref (z_ad Y 0), .int a1, .int a2, .int a3]) (z_Qi ΛX Y fin) 0 0 (z_A ΛX Y) := by
  unfold fX7_ranked at h
  refine z_met [(0, .ref (z_ad Y 0)), (1, .int a1), (2, .int a2), (3, .int a3)] rfl (Nat.le_of_ble_eq_true rfl) (plainFor_of_name (by decide)) hi ?_
  intro p e s m args below meth c O hr hlk
  refine z_iload_n O dzX7_ranked_0 rfl 1 rfl ?_
  obtain ⟨r1, hc1, h⟩ := z_bd_at h
  refine z_callSiR O (As := [.int a1]) (rest := []) (kX7_isNoFamily hi hc1) mX7_isNoFamily tw_273 (Nat.le_of_ble_eq_true rfl) rfl rfl (Nat.le_of_ble_eq_true rfl) dzX7_ranked_1 ?_
  refine z_if_ne O dzX7_ranked_4 (fun c4 => ?_) (fun c4 => ?_)
  · have h := z_if_f c4 h
    refine z_bipush O dzX7_ranked_15 hcBm2 ?_
    exact z_iret O hr hlk dzX7_ranked_17 h
  · have h := z_if_t c4 h
    refine z_aload_n O dzX7_ranked_7 rfl 0 rfl ?_
    refine z_iload_n O dzX7_ranked_8 rfl 2 rfl ?_
    obtain ⟨r2, hc2, h⟩ := z_bd_at h
    refine z_callViR O (As := [.int a2]) (rest := []) (kX7_isNoRule hi hc2) mX7_isNoRule tw_614 (Nat.le_of_ble_eq_true rfl) fx_obj rfl rfl rfl rfl (Nat.le_of_ble_eq_true rfl) dzX7_ranked_9 ?_
    refine z_if_eq O dzX7_ranked_12 (fun c3 => ?_) (fun c3 => ?_)
    · have h := z_if_t c3 h
      refine z_aload_n O dzX7_ranked_18 rfl 0 rfl ?_
      refine z_get O z_cb7 fx_obj (v := .ref (z_ad Y 1)) 0 (Nat.le_of_ble_eq_true rfl) tw_213 rfl dzX7_ranked_19 ?_
      refine z_get O z_cb4 (fx_stk z_stk_1) (v := .ref (z_ad Y 5)) 1 (Nat.le_of_ble_eq_true rfl) tw_62 rfl dzX7_ranked_22 ?_
      refine z_iload_n O dzX7_ranked_25 rfl 1 rfl ?_
      obtain ⟨g1, h⟩ := z_gd_at h
      refine z_aald O fx_fms1 rfl rfl g1 dzX7_ranked_26 ?_
      refine z_astore O (lv' := [(4, .ref (z_ad Y (7 + a1.toNatClampNeg))), (0, .ref (z_ad Y 0)), (1, .int a1), (2, .int a2), (3, .int a3)]) dzX7_ranked_27 (by decide) rfl ?_
      refine z_iload_n O dzX7_ranked_29 rfl 4 rfl ?_
      refine z_if_lt O dzX7_ranked_30 (fun c2 => ?_) (fun c2 => ?_)
      · have h := z_if_t c2 h
        refine z_bipush O dzX7_ranked_42 hcBm12 ?_
        exact z_iret O hr hlk dzX7_ranked_44 h
      · have h := z_if_f c2 h
        refine z_iload_n O dzX7_ranked_33 rfl 4 rfl ?_
        refine z_aload O dzX7_ranked_34 0 rfl ?_
        refine z_get O z_cb1 (fx_fam (fx_fmi1 g1)) (v := .int (σ.1 (7 + a1.toNatClampNeg) 2)) 2 (Nat.le_of_ble_eq_true rfl) tw_50 rfl dzX7_ranked_36 ?_
        refine z_icmp_lt O dzX7_ranked_39 (fun c1 => ?_) (fun c1 => ?_)
        · have h := z_if_t c1 h
          refine z_iconst O dzX7_ranked_45 hcI0 ?_
          refine z_istore O (lv' := [(5, .int (0 : Int32)), (4, .ref (z_ad Y (7 + a1.toNatClampNeg))), (0, .ref (z_ad Y 0)), (1, .int a1), (2, .int a2), (3, .int a3)]) dzX7_ranked_46 (by decide) rfl ?_
          refine z_sub [2, 4, 5, 1, 0] rfl ?_
          refine kX7_ranked_L48 O hi hr hlk (h4 := (fx_fmi1 g1))  (fun w1 x1 h => ?_) _ _ _ h
          refine z_iconst O dzX7_ranked_84 hcI0 ?_
          refine z_istore O (lv' := [(5, .int (0 : Int32)), (0, .ref (z_ad Y 0)), (2, .int a2), (3, .int a3), (4, .ref (z_ad Y (7 + a1.toNatClampNeg)))]) dzX7_ranked_85 (by decide) rfl ?_
          refine z_sub [1, 3, 4, 0] rfl ?_
          refine kX7_ranked_L87 O hi hr hlk (h4 := (fx_fmi1 g1))  (fun x2 h => ?_) _ _ h
          refine z_aload O dzX7_ranked_120 2 rfl ?_
          refine z_get O z_cb1 (fx_fam (fx_fmi1 g1)) (v := .ref (z_ad Y ((7 + a1.toNatClampNeg) + 9))) 0 (Nat.le_of_ble_eq_true rfl) tw_42 rfl dzX7_ranked_122 ?_
          refine z_iload O dzX7_ranked_125 3 rfl ?_
          obtain ⟨g2, h⟩ := z_gd_at h
          refine z_iald O (fx_set (fx_fmi1 g1)) g2 dzX7_ranked_127 ?_
          exact z_iret O hr hlk dzX7_ranked_128 h
        · have h := z_if_f c1 h
          refine z_bipush O dzX7_ranked_42 hcBm12 ?_
          exact z_iret O hr hlk dzX7_ranked_44 h
    · have h := z_if_f c3 h
      refine z_bipush O dzX7_ranked_15 hcBm2 ?_
      exact z_iret O hr hlk dzX7_ranked_17 h
def fX7_read (σ : zS) (a1 : Int32) (a2 : Int32) : Option (Int64) :=
  (fX7_isNoSheet a1).bind (fun r1 => (if r1 = 0 then z_gd (z_in a1 4) ((if (σ.1 (64 + a1.toNatClampNeg) 1) = (-1 : Int32) then some (-11 : Int64) else (if a2 < 0 then some (-12 : Int64) else (if a2 < (σ.1 (64 + a1.toNatClampNeg) 2) then z_gd (z_in a2 40) (some (σ.2 ((64 + a1.toNatClampNeg) + 4) a2.toNatClampNeg)) else some (-12 : Int64))))) else some (-2 : Int64)))
theorem kX7_read {l : Launch} {Y : zY} (hi : z_inj ΛX Y) {σ : zS} {a1 : Int32} {a2 : Int32} {fin : Int64} (h : fX7_read σ a1 a2 = some fin) : Met l yX7_read (Cond.code yX7_read cX7_read 4 (some .long) :: z_TB) (z_rm 2) (z_Pc ΛX Y σ [.ref (z_ad Y 0), .int a1, .int a2]) (z_Ql ΛX Y (fin, σ)) 0 0 (z_A ΛX Y) := by
  unfold fX7_read at h
  refine z_met [(0, .ref (z_ad Y 0)), (1, .int a1), (2, .int a2)] rfl (Nat.le_of_ble_eq_true rfl) (plainFor_of_name (by decide)) hi ?_
  intro p e s m args below meth c O hr hlk
  refine z_iload_n O dzX7_read_0 rfl 1 rfl ?_
  obtain ⟨r1, hc1, h⟩ := z_bd_at h
  refine z_callSiR O (As := [.int a1]) (rest := []) (kX7_isNoSheet hi hc1) mX7_isNoSheet tw_678 (Nat.le_of_ble_eq_true rfl) rfl rfl (Nat.le_of_ble_eq_true rfl) dzX7_read_1 ?_
  refine z_if_eq O dzX7_read_4 (fun c4 => ?_) (fun c4 => ?_)
  · have h := z_if_t c4 h
    refine z_aload_n O dzX7_read_11 rfl 0 rfl ?_
    refine z_get O z_cb7 fx_obj (v := .ref (z_ad Y 63)) 5 (Nat.le_of_ble_eq_true rfl) tw_218 rfl dzX7_read_12 ?_
    refine z_iload_n O dzX7_read_15 rfl 1 rfl ?_
    obtain ⟨g1, h⟩ := z_gd_at h
    refine z_aald O fx_shs rfl rfl g1 dzX7_read_16 ?_
    refine z_astore_n O (lv' := [(3, .ref (z_ad Y (64 + a1.toNatClampNeg))), (0, .ref (z_ad Y 0)), (1, .int a1), (2, .int a2)]) dzX7_read_17 rfl (by decide) rfl ?_
    refine z_aload_n O dzX7_read_18 rfl 0 rfl ?_
    refine z_get O z_cb3 (fx_she (fx_shi g1)) (v := .int (σ.1 (64 + a1.toNatClampNeg) 1)) 1 (Nat.le_of_ble_eq_true rfl) tw_140 rfl dzX7_read_19 ?_
    refine z_iconst O dzX7_read_22 hcIm1 ?_
    refine z_icmp_ne O dzX7_read_23 (fun c3 => ?_) (fun c3 => ?_)
    · have h := z_if_f c3 h
      refine z_iload_n O dzX7_read_30 rfl 3 rfl ?_
      refine z_if_lt O dzX7_read_31 (fun c2 => ?_) (fun c2 => ?_)
      · have h := z_if_t c2 h
        refine z_ldc2 O tw_700 dzX7_read_42 ?_
        refine z_goto O dzX7_read_45 ?_
        exact z_lret O hr hlk dzX7_read_54 (z_rf h)
      · have h := z_if_f c2 h
        refine z_iload_n O dzX7_read_34 rfl 3 rfl ?_
        refine z_aload_n O dzX7_read_35 rfl 0 rfl ?_
        refine z_get O z_cb3 (fx_she (fx_shi g1)) (v := .int (σ.1 (64 + a1.toNatClampNeg) 2)) 2 (Nat.le_of_ble_eq_true rfl) tw_142 rfl dzX7_read_36 ?_
        refine z_icmp_lt O dzX7_read_39 (fun c1 => ?_) (fun c1 => ?_)
        · have h := z_if_t c1 h
          refine z_aload_n O dzX7_read_48 rfl 0 rfl ?_
          refine z_get O z_cb3 (fx_she (fx_shi g1)) (v := .ref (z_ad Y ((64 + a1.toNatClampNeg) + 4))) 0 (Nat.le_of_ble_eq_true rfl) tw_138 rfl dzX7_read_49 ?_
          refine z_iload_n O dzX7_read_52 rfl 3 rfl ?_
          obtain ⟨g2, h⟩ := z_gd_at h
          refine z_lald O (fx_row (fx_shi g1)) g2 dzX7_read_53 ?_
          exact z_lret O hr hlk dzX7_read_54 (z_rf h)
        · have h := z_if_f c1 h
          refine z_ldc2 O tw_700 dzX7_read_42 ?_
          refine z_goto O dzX7_read_45 ?_
          exact z_lret O hr hlk dzX7_read_54 (z_rf h)
    · have h := z_if_t c3 h
      refine z_ldc2 O tw_699 dzX7_read_26 ?_
      exact z_lret O hr hlk dzX7_read_29 (z_rf h)
  · have h := z_if_f c4 h
    refine z_ldc2 O tw_698 dzX7_read_7 ?_
    exact z_lret O hr hlk dzX7_read_10 (z_rf h)
def fX7_rule (σ : zS) (a1 : Int32) (a2 : Int32) (a3 : Int32) (a4 : Int32) : Option (Int32 × zS) :=
  (if a1 < 0 then some ((-2 : Int32), σ) else (if (8 : Int32) < a1 then some ((-2 : Int32), σ) else (fX7_fitsHow a1 a4).bind (fun r1 => (if r1 = 0 then some ((-2 : Int32), σ) else (fX7_asksFirst a1).bind (fun r2 => (if r2 = 0 then (fX7_asksSecond a1).bind (fun r3 => (if r3 = 0 then (if (σ.1 1 2) < (12 : Int32) then z_gd (z_in (σ.1 1 2) 12) ((fX2_become σ (35 + (σ.1 1 2).toNatClampNeg) a1 a2 a3 a4 3).bind (fun r4 => z_lt (z_sI r4 1 2 ((r4.1 1 2) + (1 : Int32))) (fun (w1 : zS) => some (((w1.1 1 2) - (1 : Int32)), w1)))) else some ((-4 : Int32), σ)) else (fX7_isNoRule σ a3).bind (fun r5 => (if r5 = 0 then (if (σ.1 1 2) < (12 : Int32) then z_gd (z_in (σ.1 1 2) 12) ((fX2_become σ (35 + (σ.1 1 2).toNatClampNeg) a1 a2 a3 a4 3).bind (fun r6 => z_lt (z_sI r6 1 2 ((r6.1 1 2) + (1 : Int32))) (fun (w2 : zS) => some (((w2.1 1 2) - (1 : Int32)), w2)))) else some ((-4 : Int32), σ)) else some ((-2 : Int32), σ))))) else (fX7_isNoRule σ a2).bind (fun r7 => (if r7 = 0 then (fX7_asksSecond a1).bind (fun r8 => (if r8 = 0 then (if (σ.1 1 2) < (12 : Int32) then z_gd (z_in (σ.1 1 2) 12) ((fX2_become σ (35 + (σ.1 1 2).toNatClampNeg) a1 a2 a3 a4 3).bind (fun r9 => z_lt (z_sI r9 1 2 ((r9.1 1 2) + (1 : Int32))) (fun (w3 : zS) => some (((w3.1 1 2) - (1 : Int32)), w3)))) else some ((-4 : Int32), σ)) else (fX7_isNoRule σ a3).bind (fun r10 => (if r10 = 0 then (if (σ.1 1 2) < (12 : Int32) then z_gd (z_in (σ.1 1 2) 12) ((fX2_become σ (35 + (σ.1 1 2).toNatClampNeg) a1 a2 a3 a4 3).bind (fun r11 => z_lt (z_sI r11 1 2 ((r11.1 1 2) + (1 : Int32))) (fun (w4 : zS) => some (((w4.1 1 2) - (1 : Int32)), w4)))) else some ((-4 : Int32), σ)) else some ((-2 : Int32), σ))))) else some ((-2 : Int32), σ)))))))))
theorem kX7_rule {l : Launch} {Y : zY} (hi : z_inj ΛX Y) {σ : zS} {a1 : Int32} {a2 : Int32} {a3 : Int32} {a4 : Int32} {fin : Int32 × zS} (h : fX7_rule σ a1 a2 a3 a4 = some fin) : Met l yX7_rule (Cond.code yX7_rule cX7_rule 5 (some .int) :: z_TB) (z_rm 3) (z_Pc ΛX Y σ [.ref (z_ad Y 0), .int a1, .int a2, .int a3, .int a4]) (z_Qi ΛX Y fin) 0 0 (z_A ΛX Y) := by
  unfold fX7_rule at h
  refine z_met [(0, .ref (z_ad Y 0)), (1, .int a1), (2, .int a2), (3, .int a3), (4, .int a4)] rfl (Nat.le_of_ble_eq_true rfl) (plainFor_of_name (by decide)) hi ?_
  intro p e s m args below meth c O hr hlk
  refine z_iload_n O dzX7_rule_0 rfl 1 rfl ?_
  refine z_if_lt O dzX7_rule_1 (fun c13 => ?_) (fun c13 => ?_)
  · have h := z_if_t c13 h
    refine z_bipush O dzX7_rule_19 hcBm2 ?_
    exact z_iret O hr hlk dzX7_rule_21 h
  · have h := z_if_f c13 h
    refine z_iload_n O dzX7_rule_4 rfl 1 rfl ?_
    refine z_bipush O dzX7_rule_5 hcB8 ?_
    refine z_icmp_gt O dzX7_rule_7 (fun c12 => ?_) (fun c12 => ?_)
    · have h := z_if_t c12 h
      refine z_bipush O dzX7_rule_19 hcBm2 ?_
      exact z_iret O hr hlk dzX7_rule_21 h
    · have h := z_if_f c12 h
      refine z_iload_n O dzX7_rule_10 rfl 1 rfl ?_
      refine z_iload O dzX7_rule_11 4 rfl ?_
      obtain ⟨r1, hc1, h⟩ := z_bd_at h
      refine z_callSiR O (As := [.int a1, .int a4]) (rest := []) (kX7_fitsHow hi hc1) mX7_fitsHow tw_608 (Nat.le_of_ble_eq_true rfl) rfl rfl (Nat.le_of_ble_eq_true rfl) dzX7_rule_13 ?_
      refine z_if_ne O dzX7_rule_16 (fun c11 => ?_) (fun c11 => ?_)
      · have h := z_if_f c11 h
        refine z_iload_n O dzX7_rule_22 rfl 1 rfl ?_
        obtain ⟨r2, hc2, h⟩ := z_bd_at h
        refine z_callSiR O (As := [.int a1]) (rest := []) (kX7_asksFirst hi hc2) mX7_asksFirst tw_611 (Nat.le_of_ble_eq_true rfl) rfl rfl (Nat.le_of_ble_eq_true rfl) dzX7_rule_23 ?_
        refine z_if_eq O dzX7_rule_26 (fun c10 => ?_) (fun c10 => ?_)
        · have h := z_if_t c10 h
          refine z_iload_n O dzX7_rule_37 rfl 1 rfl ?_
          obtain ⟨r3, hc3, h⟩ := z_bd_at h
          refine z_callSiR O (As := [.int a1]) (rest := []) (kX7_asksSecond hi hc3) mX7_asksSecond tw_618 (Nat.le_of_ble_eq_true rfl) rfl rfl (Nat.le_of_ble_eq_true rfl) dzX7_rule_38 ?_
          refine z_if_eq O dzX7_rule_41 (fun c4 => ?_) (fun c4 => ?_)
          · have h := z_if_t c4 h
            refine z_aload_n O dzX7_rule_55 rfl 0 rfl ?_
            refine z_get O z_cb7 fx_obj (v := .ref (z_ad Y 1)) 0 (Nat.le_of_ble_eq_true rfl) tw_213 rfl dzX7_rule_56 ?_
            refine z_get O z_cb4 (fx_stk z_stk_1) (v := .int (σ.1 1 2)) 2 (Nat.le_of_ble_eq_true rfl) tw_64 rfl dzX7_rule_59 ?_
            refine z_bipush O dzX7_rule_62 hcB12 ?_
            refine z_icmp_lt O dzX7_rule_64 (fun c1 => ?_) (fun c1 => ?_)
            · have h := z_if_t c1 h
              refine z_aload_n O dzX7_rule_70 rfl 0 rfl ?_
              refine z_get O z_cb7 fx_obj (v := .ref (z_ad Y 34)) 3 (Nat.le_of_ble_eq_true rfl) tw_216 rfl dzX7_rule_71 ?_
              refine z_aload_n O dzX7_rule_74 rfl 0 rfl ?_
              refine z_get O z_cb7 fx_obj (v := .ref (z_ad Y 1)) 0 (Nat.le_of_ble_eq_true rfl) tw_213 rfl dzX7_rule_75 ?_
              refine z_get O z_cb4 (fx_stk z_stk_1) (v := .int (σ.1 1 2)) 2 (Nat.le_of_ble_eq_true rfl) tw_64 rfl dzX7_rule_78 ?_
              obtain ⟨g1, h⟩ := z_gd_at h
              refine z_aald O fx_rls rfl rfl g1 dzX7_rule_81 ?_
              refine z_iload_n O dzX7_rule_82 rfl 1 rfl ?_
              refine z_iload_n O dzX7_rule_83 rfl 2 rfl ?_
              refine z_iload_n O dzX7_rule_84 rfl 3 rfl ?_
              refine z_iload O dzX7_rule_85 4 rfl ?_
              refine z_aload_n O dzX7_rule_87 rfl 0 rfl ?_
              refine z_get O z_cb7 fx_obj (v := .ref (z_ad Y 1)) 0 (Nat.le_of_ble_eq_true rfl) tw_213 rfl dzX7_rule_88 ?_
              refine z_get O z_cb4 (fx_stk z_stk_1) (v := .ref (z_ad Y 3)) 0 (Nat.le_of_ble_eq_true rfl) tw_60 rfl dzX7_rule_91 ?_
              obtain ⟨r4, hc4, h⟩ := z_bd_at h
              refine z_callVv O (As := [.int a1, .int a2, .int a3, .int a4, .ref (z_ad Y 3)]) (rest := []) (kX2_become hi (fx_rli g1) (fx_pri z_stk_1) hc4) mX2_become tw_621 (Nat.le_of_ble_eq_true rfl) (fx_rul (fx_rli g1)) rfl rfl rfl rfl (Nat.le_of_ble_eq_true rfl) dzX7_rule_94 ?_
              refine z_aload_n O dzX7_rule_97 rfl 0 rfl ?_
              refine z_get O z_cb7 fx_obj (v := .ref (z_ad Y 1)) 0 (Nat.le_of_ble_eq_true rfl) tw_213 rfl dzX7_rule_98 ?_
              refine z_dup O dzX7_rule_101 rfl ?_
              refine z_get O z_cb4 (fx_stk z_stk_1) (v := .int (r4.1 1 2)) 2 (Nat.le_of_ble_eq_true rfl) tw_64 rfl dzX7_rule_102 ?_
              refine z_iconst O dzX7_rule_105 hcI1 ?_
              refine z_iadd O dzX7_rule_106 ?_
              refine z_put O z_cb4 (fx_stk z_stk_1) 2 (Nat.le_of_ble_eq_true rfl) tw_64 rfl rfl rfl fp_K2 dzX7_rule_107 ?_
              refine z_sig (fun w1 e1 => ?_)
              have h := z_lt_at e1 h
              refine z_aload_n O dzX7_rule_110 rfl 0 rfl ?_
              refine z_get O z_cb7 fx_obj (v := .ref (z_ad Y 1)) 0 (Nat.le_of_ble_eq_true rfl) tw_213 rfl dzX7_rule_111 ?_
              refine z_get O z_cb4 (fx_stk z_stk_1) (v := .int (w1.1 1 2)) 2 (Nat.le_of_ble_eq_true rfl) tw_64 rfl dzX7_rule_114 ?_
              refine z_iconst O dzX7_rule_117 hcI1 ?_
              refine z_isub O dzX7_rule_118 ?_
              exact z_iret O hr hlk dzX7_rule_119 h
            · have h := z_if_f c1 h
              refine z_bipush O dzX7_rule_67 hcBm4 ?_
              exact z_iret O hr hlk dzX7_rule_69 h
          · have h := z_if_f c4 h
            refine z_aload_n O dzX7_rule_44 rfl 0 rfl ?_
            refine z_iload_n O dzX7_rule_45 rfl 3 rfl ?_
            obtain ⟨r5, hc5, h⟩ := z_bd_at h
            refine z_callViR O (As := [.int a3]) (rest := []) (kX7_isNoRule hi hc5) mX7_isNoRule tw_614 (Nat.le_of_ble_eq_true rfl) fx_obj rfl rfl rfl rfl (Nat.le_of_ble_eq_true rfl) dzX7_rule_46 ?_
            refine z_if_eq O dzX7_rule_49 (fun c3 => ?_) (fun c3 => ?_)
            · have h := z_if_t c3 h
              refine z_aload_n O dzX7_rule_55 rfl 0 rfl ?_
              refine z_get O z_cb7 fx_obj (v := .ref (z_ad Y 1)) 0 (Nat.le_of_ble_eq_true rfl) tw_213 rfl dzX7_rule_56 ?_
              refine z_get O z_cb4 (fx_stk z_stk_1) (v := .int (σ.1 1 2)) 2 (Nat.le_of_ble_eq_true rfl) tw_64 rfl dzX7_rule_59 ?_
              refine z_bipush O dzX7_rule_62 hcB12 ?_
              refine z_icmp_lt O dzX7_rule_64 (fun c2 => ?_) (fun c2 => ?_)
              · have h := z_if_t c2 h
                refine z_aload_n O dzX7_rule_70 rfl 0 rfl ?_
                refine z_get O z_cb7 fx_obj (v := .ref (z_ad Y 34)) 3 (Nat.le_of_ble_eq_true rfl) tw_216 rfl dzX7_rule_71 ?_
                refine z_aload_n O dzX7_rule_74 rfl 0 rfl ?_
                refine z_get O z_cb7 fx_obj (v := .ref (z_ad Y 1)) 0 (Nat.le_of_ble_eq_true rfl) tw_213 rfl dzX7_rule_75 ?_
                refine z_get O z_cb4 (fx_stk z_stk_1) (v := .int (σ.1 1 2)) 2 (Nat.le_of_ble_eq_true rfl) tw_64 rfl dzX7_rule_78 ?_
                obtain ⟨g2, h⟩ := z_gd_at h
                refine z_aald O fx_rls rfl rfl g2 dzX7_rule_81 ?_
                refine z_iload_n O dzX7_rule_82 rfl 1 rfl ?_
                refine z_iload_n O dzX7_rule_83 rfl 2 rfl ?_
                refine z_iload_n O dzX7_rule_84 rfl 3 rfl ?_
                refine z_iload O dzX7_rule_85 4 rfl ?_
                refine z_aload_n O dzX7_rule_87 rfl 0 rfl ?_
                refine z_get O z_cb7 fx_obj (v := .ref (z_ad Y 1)) 0 (Nat.le_of_ble_eq_true rfl) tw_213 rfl dzX7_rule_88 ?_
                refine z_get O z_cb4 (fx_stk z_stk_1) (v := .ref (z_ad Y 3)) 0 (Nat.le_of_ble_eq_true rfl) tw_60 rfl dzX7_rule_91 ?_
                obtain ⟨r6, hc6, h⟩ := z_bd_at h
                refine z_callVv O (As := [.int a1, .int a2, .int a3, .int a4, .ref (z_ad Y 3)]) (rest := []) (kX2_become hi (fx_rli g2) (fx_pri z_stk_1) hc6) mX2_become tw_621 (Nat.le_of_ble_eq_true rfl) (fx_rul (fx_rli g2)) rfl rfl rfl rfl (Nat.le_of_ble_eq_true rfl) dzX7_rule_94 ?_
                refine z_aload_n O dzX7_rule_97 rfl 0 rfl ?_
                refine z_get O z_cb7 fx_obj (v := .ref (z_ad Y 1)) 0 (Nat.le_of_ble_eq_true rfl) tw_213 rfl dzX7_rule_98 ?_
                refine z_dup O dzX7_rule_101 rfl ?_
                refine z_get O z_cb4 (fx_stk z_stk_1) (v := .int (r6.1 1 2)) 2 (Nat.le_of_ble_eq_true rfl) tw_64 rfl dzX7_rule_102 ?_
                refine z_iconst O dzX7_rule_105 hcI1 ?_
                refine z_iadd O dzX7_rule_106 ?_
                refine z_put O z_cb4 (fx_stk z_stk_1) 2 (Nat.le_of_ble_eq_true rfl) tw_64 rfl rfl rfl fp_K2 dzX7_rule_107 ?_
                refine z_sig (fun w2 e2 => ?_)
                have h := z_lt_at e2 h
                refine z_aload_n O dzX7_rule_110 rfl 0 rfl ?_
                refine z_get O z_cb7 fx_obj (v := .ref (z_ad Y 1)) 0 (Nat.le_of_ble_eq_true rfl) tw_213 rfl dzX7_rule_111 ?_
                refine z_get O z_cb4 (fx_stk z_stk_1) (v := .int (w2.1 1 2)) 2 (Nat.le_of_ble_eq_true rfl) tw_64 rfl dzX7_rule_114 ?_
                refine z_iconst O dzX7_rule_117 hcI1 ?_
                refine z_isub O dzX7_rule_118 ?_
                exact z_iret O hr hlk dzX7_rule_119 h
              · have h := z_if_f c2 h
                refine z_bipush O dzX7_rule_67 hcBm4 ?_
                exact z_iret O hr hlk dzX7_rule_69 h
            · have h := z_if_f c3 h
              refine z_bipush O dzX7_rule_52 hcBm2 ?_
              exact z_iret O hr hlk dzX7_rule_54 h
        · have h := z_if_f c10 h
          refine z_aload_n O dzX7_rule_29 rfl 0 rfl ?_
          refine z_iload_n O dzX7_rule_30 rfl 2 rfl ?_
          obtain ⟨r7, hc7, h⟩ := z_bd_at h
          refine z_callViR O (As := [.int a2]) (rest := []) (kX7_isNoRule hi hc7) mX7_isNoRule tw_614 (Nat.le_of_ble_eq_true rfl) fx_obj rfl rfl rfl rfl (Nat.le_of_ble_eq_true rfl) dzX7_rule_31 ?_
          refine z_if_ne O dzX7_rule_34 (fun c9 => ?_) (fun c9 => ?_)
          · have h := z_if_f c9 h
            refine z_bipush O dzX7_rule_52 hcBm2 ?_
            exact z_iret O hr hlk dzX7_rule_54 h
          · have h := z_if_t c9 h
            refine z_iload_n O dzX7_rule_37 rfl 1 rfl ?_
            obtain ⟨r8, hc8, h⟩ := z_bd_at h
            refine z_callSiR O (As := [.int a1]) (rest := []) (kX7_asksSecond hi hc8) mX7_asksSecond tw_618 (Nat.le_of_ble_eq_true rfl) rfl rfl (Nat.le_of_ble_eq_true rfl) dzX7_rule_38 ?_
            refine z_if_eq O dzX7_rule_41 (fun c8 => ?_) (fun c8 => ?_)
            · have h := z_if_t c8 h
              refine z_aload_n O dzX7_rule_55 rfl 0 rfl ?_
              refine z_get O z_cb7 fx_obj (v := .ref (z_ad Y 1)) 0 (Nat.le_of_ble_eq_true rfl) tw_213 rfl dzX7_rule_56 ?_
              refine z_get O z_cb4 (fx_stk z_stk_1) (v := .int (σ.1 1 2)) 2 (Nat.le_of_ble_eq_true rfl) tw_64 rfl dzX7_rule_59 ?_
              refine z_bipush O dzX7_rule_62 hcB12 ?_
              refine z_icmp_lt O dzX7_rule_64 (fun c5 => ?_) (fun c5 => ?_)
              · have h := z_if_t c5 h
                refine z_aload_n O dzX7_rule_70 rfl 0 rfl ?_
                refine z_get O z_cb7 fx_obj (v := .ref (z_ad Y 34)) 3 (Nat.le_of_ble_eq_true rfl) tw_216 rfl dzX7_rule_71 ?_
                refine z_aload_n O dzX7_rule_74 rfl 0 rfl ?_
                refine z_get O z_cb7 fx_obj (v := .ref (z_ad Y 1)) 0 (Nat.le_of_ble_eq_true rfl) tw_213 rfl dzX7_rule_75 ?_
                refine z_get O z_cb4 (fx_stk z_stk_1) (v := .int (σ.1 1 2)) 2 (Nat.le_of_ble_eq_true rfl) tw_64 rfl dzX7_rule_78 ?_
                obtain ⟨g3, h⟩ := z_gd_at h
                refine z_aald O fx_rls rfl rfl g3 dzX7_rule_81 ?_
                refine z_iload_n O dzX7_rule_82 rfl 1 rfl ?_
                refine z_iload_n O dzX7_rule_83 rfl 2 rfl ?_
                refine z_iload_n O dzX7_rule_84 rfl 3 rfl ?_
                refine z_iload O dzX7_rule_85 4 rfl ?_
                refine z_aload_n O dzX7_rule_87 rfl 0 rfl ?_
                refine z_get O z_cb7 fx_obj (v := .ref (z_ad Y 1)) 0 (Nat.le_of_ble_eq_true rfl) tw_213 rfl dzX7_rule_88 ?_
                refine z_get O z_cb4 (fx_stk z_stk_1) (v := .ref (z_ad Y 3)) 0 (Nat.le_of_ble_eq_true rfl) tw_60 rfl dzX7_rule_91 ?_
                obtain ⟨r9, hc9, h⟩ := z_bd_at h
                refine z_callVv O (As := [.int a1, .int a2, .int a3, .int a4, .ref (z_ad Y 3)]) (rest := []) (kX2_become hi (fx_rli g3) (fx_pri z_stk_1) hc9) mX2_become tw_621 (Nat.le_of_ble_eq_true rfl) (fx_rul (fx_rli g3)) rfl rfl rfl rfl (Nat.le_of_ble_eq_true rfl) dzX7_rule_94 ?_
                refine z_aload_n O dzX7_rule_97 rfl 0 rfl ?_
                refine z_get O z_cb7 fx_obj (v := .ref (z_ad Y 1)) 0 (Nat.le_of_ble_eq_true rfl) tw_213 rfl dzX7_rule_98 ?_
                refine z_dup O dzX7_rule_101 rfl ?_
                refine z_get O z_cb4 (fx_stk z_stk_1) (v := .int (r9.1 1 2)) 2 (Nat.le_of_ble_eq_true rfl) tw_64 rfl dzX7_rule_102 ?_
                refine z_iconst O dzX7_rule_105 hcI1 ?_
                refine z_iadd O dzX7_rule_106 ?_
                refine z_put O z_cb4 (fx_stk z_stk_1) 2 (Nat.le_of_ble_eq_true rfl) tw_64 rfl rfl rfl fp_K2 dzX7_rule_107 ?_
                refine z_sig (fun w3 e3 => ?_)
                have h := z_lt_at e3 h
                refine z_aload_n O dzX7_rule_110 rfl 0 rfl ?_
                refine z_get O z_cb7 fx_obj (v := .ref (z_ad Y 1)) 0 (Nat.le_of_ble_eq_true rfl) tw_213 rfl dzX7_rule_111 ?_
                refine z_get O z_cb4 (fx_stk z_stk_1) (v := .int (w3.1 1 2)) 2 (Nat.le_of_ble_eq_true rfl) tw_64 rfl dzX7_rule_114 ?_
                refine z_iconst O dzX7_rule_117 hcI1 ?_
                refine z_isub O dzX7_rule_118 ?_
                exact z_iret O hr hlk dzX7_rule_119 h
              · have h := z_if_f c5 h
                refine z_bipush O dzX7_rule_67 hcBm4 ?_
                exact z_iret O hr hlk dzX7_rule_69 h
            · have h := z_if_f c8 h
              refine z_aload_n O dzX7_rule_44 rfl 0 rfl ?_
              refine z_iload_n O dzX7_rule_45 rfl 3 rfl ?_
              obtain ⟨r10, hc10, h⟩ := z_bd_at h
              refine z_callViR O (As := [.int a3]) (rest := []) (kX7_isNoRule hi hc10) mX7_isNoRule tw_614 (Nat.le_of_ble_eq_true rfl) fx_obj rfl rfl rfl rfl (Nat.le_of_ble_eq_true rfl) dzX7_rule_46 ?_
              refine z_if_eq O dzX7_rule_49 (fun c7 => ?_) (fun c7 => ?_)
              · have h := z_if_t c7 h
                refine z_aload_n O dzX7_rule_55 rfl 0 rfl ?_
                refine z_get O z_cb7 fx_obj (v := .ref (z_ad Y 1)) 0 (Nat.le_of_ble_eq_true rfl) tw_213 rfl dzX7_rule_56 ?_
                refine z_get O z_cb4 (fx_stk z_stk_1) (v := .int (σ.1 1 2)) 2 (Nat.le_of_ble_eq_true rfl) tw_64 rfl dzX7_rule_59 ?_
                refine z_bipush O dzX7_rule_62 hcB12 ?_
                refine z_icmp_lt O dzX7_rule_64 (fun c6 => ?_) (fun c6 => ?_)
                · have h := z_if_t c6 h
                  refine z_aload_n O dzX7_rule_70 rfl 0 rfl ?_
                  refine z_get O z_cb7 fx_obj (v := .ref (z_ad Y 34)) 3 (Nat.le_of_ble_eq_true rfl) tw_216 rfl dzX7_rule_71 ?_
                  refine z_aload_n O dzX7_rule_74 rfl 0 rfl ?_
                  refine z_get O z_cb7 fx_obj (v := .ref (z_ad Y 1)) 0 (Nat.le_of_ble_eq_true rfl) tw_213 rfl dzX7_rule_75 ?_
                  refine z_get O z_cb4 (fx_stk z_stk_1) (v := .int (σ.1 1 2)) 2 (Nat.le_of_ble_eq_true rfl) tw_64 rfl dzX7_rule_78 ?_
                  obtain ⟨g4, h⟩ := z_gd_at h
                  refine z_aald O fx_rls rfl rfl g4 dzX7_rule_81 ?_
                  refine z_iload_n O dzX7_rule_82 rfl 1 rfl ?_
                  refine z_iload_n O dzX7_rule_83 rfl 2 rfl ?_
                  refine z_iload_n O dzX7_rule_84 rfl 3 rfl ?_
                  refine z_iload O dzX7_rule_85 4 rfl ?_
                  refine z_aload_n O dzX7_rule_87 rfl 0 rfl ?_
                  refine z_get O z_cb7 fx_obj (v := .ref (z_ad Y 1)) 0 (Nat.le_of_ble_eq_true rfl) tw_213 rfl dzX7_rule_88 ?_
                  refine z_get O z_cb4 (fx_stk z_stk_1) (v := .ref (z_ad Y 3)) 0 (Nat.le_of_ble_eq_true rfl) tw_60 rfl dzX7_rule_91 ?_
                  obtain ⟨r11, hc11, h⟩ := z_bd_at h
                  refine z_callVv O (As := [.int a1, .int a2, .int a3, .int a4, .ref (z_ad Y 3)]) (rest := []) (kX2_become hi (fx_rli g4) (fx_pri z_stk_1) hc11) mX2_become tw_621 (Nat.le_of_ble_eq_true rfl) (fx_rul (fx_rli g4)) rfl rfl rfl rfl (Nat.le_of_ble_eq_true rfl) dzX7_rule_94 ?_
                  refine z_aload_n O dzX7_rule_97 rfl 0 rfl ?_
                  refine z_get O z_cb7 fx_obj (v := .ref (z_ad Y 1)) 0 (Nat.le_of_ble_eq_true rfl) tw_213 rfl dzX7_rule_98 ?_
                  refine z_dup O dzX7_rule_101 rfl ?_
                  refine z_get O z_cb4 (fx_stk z_stk_1) (v := .int (r11.1 1 2)) 2 (Nat.le_of_ble_eq_true rfl) tw_64 rfl dzX7_rule_102 ?_
                  refine z_iconst O dzX7_rule_105 hcI1 ?_
                  refine z_iadd O dzX7_rule_106 ?_
                  refine z_put O z_cb4 (fx_stk z_stk_1) 2 (Nat.le_of_ble_eq_true rfl) tw_64 rfl rfl rfl fp_K2 dzX7_rule_107 ?_
                  refine z_sig (fun w4 e4 => ?_)
                  have h := z_lt_at e4 h
                  refine z_aload_n O dzX7_rule_110 rfl 0 rfl ?_
                  refine z_get O z_cb7 fx_obj (v := .ref (z_ad Y 1)) 0 (Nat.le_of_ble_eq_true rfl) tw_213 rfl dzX7_rule_111 ?_
                  refine z_get O z_cb4 (fx_stk z_stk_1) (v := .int (w4.1 1 2)) 2 (Nat.le_of_ble_eq_true rfl) tw_64 rfl dzX7_rule_114 ?_
                  refine z_iconst O dzX7_rule_117 hcI1 ?_
                  refine z_isub O dzX7_rule_118 ?_
                  exact z_iret O hr hlk dzX7_rule_119 h
                · have h := z_if_f c6 h
                  refine z_bipush O dzX7_rule_67 hcBm4 ?_
                  exact z_iret O hr hlk dzX7_rule_69 h
              · have h := z_if_f c7 h
                refine z_bipush O dzX7_rule_52 hcBm2 ?_
                exact z_iret O hr hlk dzX7_rule_54 h
      · have h := z_if_t c11 h
        refine z_bipush O dzX7_rule_19 hcBm2 ?_
        exact z_iret O hr hlk dzX7_rule_21 h
def fX7_sheet (σ : zS) (a1 : Int32) (a2 : Int32) (a3 : Int32) : Option (Int32 × zS) :=
  (fX7_isNoSheet a1).bind (fun r1 => (if r1 = 0 then (if a2 < (-1 : Int32) then some ((-2 : Int32), σ) else (if a2 ≤ (1 : Int32) then (if a2 = (-1 : Int32) then z_gd (z_in a1 4) ((fX3_become σ (64 + a1.toNatClampNeg) (-1 : Int32) (0 : Int32)).bind (fun r3 => some ((1 : Int32), r3))) else (if a3 ≤ (40 : Int32) then (if 0 ≤ a3 then z_gd (z_in a1 4) ((fX3_become σ (64 + a1.toNatClampNeg) a2 a3).bind (fun r2 => some ((1 : Int32), r2))) else some ((-14 : Int32), σ)) else some ((-2 : Int32), σ))) else some ((-2 : Int32), σ))) else some ((-2 : Int32), σ)))
theorem kX7_sheet {l : Launch} {Y : zY} (hi : z_inj ΛX Y) {σ : zS} {a1 : Int32} {a2 : Int32} {a3 : Int32} {fin : Int32 × zS} (h : fX7_sheet σ a1 a2 a3 = some fin) : Met l yX7_sheet (Cond.code yX7_sheet cX7_sheet 4 (some .int) :: z_TB) (z_rm 3) (z_Pc ΛX Y σ [.ref (z_ad Y 0), .int a1, .int a2, .int a3]) (z_Qi ΛX Y fin) 0 0 (z_A ΛX Y) := by
  unfold fX7_sheet at h
  refine z_met [(0, .ref (z_ad Y 0)), (1, .int a1), (2, .int a2), (3, .int a3)] rfl (Nat.le_of_ble_eq_true rfl) (plainFor_of_name (by decide)) hi ?_
  intro p e s m args below meth c O hr hlk
  refine z_iload_n O dzX7_sheet_0 rfl 1 rfl ?_
  obtain ⟨r1, hc1, h⟩ := z_bd_at h
  refine z_callSiR O (As := [.int a1]) (rest := []) (kX7_isNoSheet hi hc1) mX7_isNoSheet tw_678 (Nat.le_of_ble_eq_true rfl) rfl rfl (Nat.le_of_ble_eq_true rfl) dzX7_sheet_1 ?_
  refine z_if_ne O dzX7_sheet_4 (fun c6 => ?_) (fun c6 => ?_)
  · have h := z_if_f c6 h
    refine z_bipush O dzX7_sheet_17 hcBm2 ?_
    exact z_iret O hr hlk dzX7_sheet_19 h
  · have h := z_if_t c6 h
    refine z_iload_n O dzX7_sheet_7 rfl 2 rfl ?_
    refine z_iconst O dzX7_sheet_8 hcIm1 ?_
    refine z_icmp_lt O dzX7_sheet_9 (fun c5 => ?_) (fun c5 => ?_)
    · have h := z_if_t c5 h
      refine z_bipush O dzX7_sheet_17 hcBm2 ?_
      exact z_iret O hr hlk dzX7_sheet_19 h
    · have h := z_if_f c5 h
      refine z_iload_n O dzX7_sheet_12 rfl 2 rfl ?_
      refine z_iconst O dzX7_sheet_13 hcI1 ?_
      refine z_icmp_le O dzX7_sheet_14 (fun c4 => ?_) (fun c4 => ?_)
      · have h := z_if_t c4 h
        refine z_iload_n O dzX7_sheet_20 rfl 2 rfl ?_
        refine z_iconst O dzX7_sheet_21 hcIm1 ?_
        refine z_icmp_ne O dzX7_sheet_22 (fun c3 => ?_) (fun c3 => ?_)
        · have h := z_if_f c3 h
          refine z_iload_n O dzX7_sheet_38 rfl 3 rfl ?_
          refine z_bipush O dzX7_sheet_39 hcB40 ?_
          refine z_icmp_le O dzX7_sheet_41 (fun c2 => ?_) (fun c2 => ?_)
          · have h := z_if_t c2 h
            refine z_iload_n O dzX7_sheet_47 rfl 3 rfl ?_
            refine z_if_ge O dzX7_sheet_48 (fun c1 => ?_) (fun c1 => ?_)
            · have h := z_if_t c1 h
              refine z_aload_n O dzX7_sheet_54 rfl 0 rfl ?_
              refine z_get O z_cb7 fx_obj (v := .ref (z_ad Y 63)) 5 (Nat.le_of_ble_eq_true rfl) tw_218 rfl dzX7_sheet_55 ?_
              refine z_iload_n O dzX7_sheet_58 rfl 1 rfl ?_
              obtain ⟨g1, h⟩ := z_gd_at h
              refine z_aald O fx_shs rfl rfl g1 dzX7_sheet_59 ?_
              refine z_iload_n O dzX7_sheet_60 rfl 2 rfl ?_
              refine z_iload_n O dzX7_sheet_61 rfl 3 rfl ?_
              obtain ⟨r2, hc2, h⟩ := z_bd_at h
              refine z_callVv O (As := [.int a2, .int a3]) (rest := []) (kX3_become hi (fx_shi g1) hc2) mX3_become tw_681 (Nat.le_of_ble_eq_true rfl) (fx_she (fx_shi g1)) rfl rfl rfl rfl (Nat.le_of_ble_eq_true rfl) dzX7_sheet_62 ?_
              refine z_iconst O dzX7_sheet_65 hcI1 ?_
              exact z_iret O hr hlk dzX7_sheet_66 h
            · have h := z_if_f c1 h
              refine z_bipush O dzX7_sheet_51 hcBm14 ?_
              exact z_iret O hr hlk dzX7_sheet_53 h
          · have h := z_if_f c2 h
            refine z_bipush O dzX7_sheet_44 hcBm2 ?_
            exact z_iret O hr hlk dzX7_sheet_46 h
        · have h := z_if_t c3 h
          refine z_aload_n O dzX7_sheet_25 rfl 0 rfl ?_
          refine z_get O z_cb7 fx_obj (v := .ref (z_ad Y 63)) 5 (Nat.le_of_ble_eq_true rfl) tw_218 rfl dzX7_sheet_26 ?_
          refine z_iload_n O dzX7_sheet_29 rfl 1 rfl ?_
          obtain ⟨g2, h⟩ := z_gd_at h
          refine z_aald O fx_shs rfl rfl g2 dzX7_sheet_30 ?_
          refine z_iconst O dzX7_sheet_31 hcIm1 ?_
          refine z_iconst O dzX7_sheet_32 hcI0 ?_
          obtain ⟨r3, hc3, h⟩ := z_bd_at h
          refine z_callVv O (As := [.int (-1 : Int32), .int (0 : Int32)]) (rest := []) (kX3_become hi (fx_shi g2) hc3) mX3_become tw_681 (Nat.le_of_ble_eq_true rfl) (fx_she (fx_shi g2)) rfl rfl rfl rfl (Nat.le_of_ble_eq_true rfl) dzX7_sheet_33 ?_
          refine z_iconst O dzX7_sheet_36 hcI1 ?_
          exact z_iret O hr hlk dzX7_sheet_37 h
      · have h := z_if_f c4 h
        refine z_bipush O dzX7_sheet_17 hcBm2 ?_
        exact z_iret O hr hlk dzX7_sheet_19 h
def fX7_size (σ : zS) (a1 : Int32) : Option (Int32) :=
  (fX7_isNoFamily a1).bind (fun r1 => (if r1 = 0 then z_gd (z_in a1 4) (some (σ.1 (7 + a1.toNatClampNeg) 2)) else some (-2 : Int32)))
theorem kX7_size {l : Launch} {Y : zY} (hi : z_inj ΛX Y) {σ : zS} {a1 : Int32} {fin : Int32} (h : fX7_size σ a1 = some fin) : Met l yX7_size (Cond.code yX7_size cX7_size 2 (some .int) :: z_TB) (z_rm 2) (z_Pc ΛX Y σ [.ref (z_ad Y 0), .int a1]) (z_Qi ΛX Y (fin, σ)) 0 0 (z_A ΛX Y) := by
  unfold fX7_size at h
  refine z_met [(0, .ref (z_ad Y 0)), (1, .int a1)] rfl (Nat.le_of_ble_eq_true rfl) (plainFor_of_name (by decide)) hi ?_
  intro p e s m args below meth c O hr hlk
  refine z_iload_n O dzX7_size_0 rfl 1 rfl ?_
  obtain ⟨r1, hc1, h⟩ := z_bd_at h
  refine z_callSiR O (As := [.int a1]) (rest := []) (kX7_isNoFamily hi hc1) mX7_isNoFamily tw_273 (Nat.le_of_ble_eq_true rfl) rfl rfl (Nat.le_of_ble_eq_true rfl) dzX7_size_1 ?_
  refine z_if_eq O dzX7_size_4 (fun c1 => ?_) (fun c1 => ?_)
  · have h := z_if_t c1 h
    refine z_aload_n O dzX7_size_12 rfl 0 rfl ?_
    refine z_get O z_cb7 fx_obj (v := .ref (z_ad Y 1)) 0 (Nat.le_of_ble_eq_true rfl) tw_213 rfl dzX7_size_13 ?_
    refine z_get O z_cb4 (fx_stk z_stk_1) (v := .ref (z_ad Y 5)) 1 (Nat.le_of_ble_eq_true rfl) tw_62 rfl dzX7_size_16 ?_
    refine z_iload_n O dzX7_size_19 rfl 1 rfl ?_
    obtain ⟨g1, h⟩ := z_gd_at h
    refine z_aald O fx_fms1 rfl rfl g1 dzX7_size_20 ?_
    refine z_get O z_cb1 (fx_fam (fx_fmi1 g1)) (v := .int (σ.1 (7 + a1.toNatClampNeg) 2)) 2 (Nat.le_of_ble_eq_true rfl) tw_50 rfl dzX7_size_21 ?_
    exact z_iret O hr hlk dzX7_size_24 (z_rf h)
  · have h := z_if_f c1 h
    refine z_bipush O dzX7_size_7 hcBm2 ?_
    refine z_goto O dzX7_size_9 ?_
    exact z_iret O hr hlk dzX7_size_24 (z_rf h)
def fX7_sums_L34 (a2 : Int32) (q3 : Nat) (k : zS → Int32 → Int32 → Option (Int32 × zS)) : Nat → zS → Int32 → Int32 → Option (Int32 × zS)
  | 0, _, _, _ => none
  | n + 1, σ, v4, v5 => (if (σ.1 q3 2) ≤ v5 then k σ v4 v5 else z_gd (z_in v5 40) (z_gd (z_in v5 40) ((fX7_tellsNow σ a2 (σ.1 (q3 + 9) v5.toNatClampNeg)).bind (fun r1 => z_lt (v4 + ((σ.1 (q3 + 18) v5.toNatClampNeg) * r1.1)) (fun (x1 : Int32) => fX7_sums_L34 a2 q3 k n r1.2 x1 (v5 + (1 : Int32)))))))
theorem kX7_sums_L34 {l : Launch} {Y : zY} {fin : Int32 × zS} {p : Program} {e : Env} {s : State} {m : MethodId} {args : Array Value} {below : List Frame} {meth : Method} {c : Code} (O : z_ok ΛX Y p s m args c cX7_sums RX7 6) (hi : z_inj ΛX Y) (hr : meth.sig.returnType = (some .int)) (hlk : meth.locks = false) {a2 : Int32} {q3 : Nat} (h3 : z_fam q3) {k : zS → Int32 → Int32 → Option (Int32 × zS)} (hk : ∀ (w : zS) (z4 : Int32) (z5 : Int32), k w z4 z5 = some fin → z_G p l e (z_rm 36) s m args below meth c (MQ below (z_Qi ΛX Y fin) args s 0 0 (z_A ΛX Y)) ΛX Y 6 w [(0, .ref (z_ad Y 0)), (2, .int a2), (3, .ref (z_ad Y q3)), (4, .int z4), (5, .int z5)] 74 []) : ∀ (n : Nat) (σ : zS) (v4 : Int32) (v5 : Int32), fX7_sums_L34 a2 q3 k n σ v4 v5 = some fin → z_G p l e (z_rm 36) s m args below meth c (MQ below (z_Qi ΛX Y fin) args s 0 0 (z_A ΛX Y)) ΛX Y 6 σ [(0, .ref (z_ad Y 0)), (2, .int a2), (3, .ref (z_ad Y q3)), (4, .int v4), (5, .int v5)] 34 [] := by
  intro n
  induction n with
  | zero =>
    intro _ _ _ h
    cases h
  | succ n ih =>
    intro σ v4 v5 h
    rw [fX7_sums_L34.eq_2] at h
    refine z_iload O dzX7_sums_34 4 rfl ?_
    refine z_aload_n O dzX7_sums_36 rfl 2 rfl ?_
    refine z_get O z_cb1 (fx_fam h3) (v := .int (σ.1 q3 2)) 2 (Nat.le_of_ble_eq_true rfl) tw_50 rfl dzX7_sums_37 ?_
    refine z_icmp_ge O dzX7_sums_40 (fun c1 => ?_) (fun c1 => ?_)
    · have h := z_if_t c1 h
      exact hk _ _ _ h
    · have h := z_if_f c1 h
      refine z_iload O dzX7_sums_43 3 rfl ?_
      refine z_aload_n O dzX7_sums_45 rfl 2 rfl ?_
      refine z_get O z_cb1 (fx_fam h3) (v := .ref (z_ad Y (q3 + 18))) 1 (Nat.le_of_ble_eq_true rfl) tw_45 rfl dzX7_sums_46 ?_
      refine z_iload O dzX7_sums_49 4 rfl ?_
      obtain ⟨g1, h⟩ := z_gd_at h
      refine z_iald O (fx_tal h3) g1 dzX7_sums_51 ?_
      refine z_aload_n O dzX7_sums_52 rfl 0 rfl ?_
      refine z_iload_n O dzX7_sums_53 rfl 1 rfl ?_
      refine z_aload_n O dzX7_sums_54 rfl 2 rfl ?_
      refine z_get O z_cb1 (fx_fam h3) (v := .ref (z_ad Y (q3 + 9))) 0 (Nat.le_of_ble_eq_true rfl) tw_42 rfl dzX7_sums_55 ?_
      refine z_iload O dzX7_sums_58 4 rfl ?_
      obtain ⟨g2, h⟩ := z_gd_at h
      refine z_iald O (fx_set h3) g2 dzX7_sums_60 ?_
      obtain ⟨r1, hc1, h⟩ := z_bd_at h
      refine z_callVi O (As := [.int a2, .int (σ.1 (q3 + 9) v5.toNatClampNeg)]) (rest := [.int (σ.1 (q3 + 18) v5.toNatClampNeg), .int v4]) (kX7_tellsNow hi hc1) mX7_tellsNow tw_630 (Nat.le_of_ble_eq_true rfl) fx_obj rfl rfl rfl rfl (Nat.le_of_ble_eq_true rfl) dzX7_sums_61 ?_
      refine z_imul O dzX7_sums_64 ?_
      refine z_iadd O dzX7_sums_65 ?_
      refine z_topi (fun x1 e1 => ?_)
      have h := z_lt_at e1 h
      refine z_istore O (lv' := [(4, .int x1), (0, .ref (z_ad Y 0)), (2, .int a2), (3, .ref (z_ad Y q3)), (5, .int v5)]) dzX7_sums_66 (by decide) rfl ?_
      refine z_iinc O (lv' := [(5, .int (v5 + (1 : Int32))), (4, .int x1), (0, .ref (z_ad Y 0)), (2, .int a2), (3, .ref (z_ad Y q3))]) dzX7_sums_68 4 rfl (congrArg _ hcI1) (by decide) rfl ?_
      refine z_goto O dzX7_sums_71 ?_
      refine z_sub [2, 3, 4, 1, 0] rfl ?_
      exact ih _ _ _ h
def fX7_sums (σ : zS) (a1 : Int32) (a2 : Int32) : Option (Int32 × zS) :=
  (fX7_isNoFamily a1).bind (fun r1 => (if r1 = 0 then (fX7_isNoRule σ a2).bind (fun r2 => (if r2 = 0 then z_gd (z_in a1 4) (fX7_sums_L34 a2 (7 + a1.toNatClampNeg) (fun (w1 : zS) (x1 : Int32) (x2 : Int32) => some (x1, w1)) z_F σ (0 : Int32) (0 : Int32)) else some ((-2 : Int32), σ))) else some ((-2 : Int32), σ)))
theorem kX7_sums {l : Launch} {Y : zY} (hi : z_inj ΛX Y) {σ : zS} {a1 : Int32} {a2 : Int32} {fin : Int32 × zS} (h : fX7_sums σ a1 a2 = some fin) : Met l yX7_sums (Cond.code yX7_sums cX7_sums 6 (some .int) :: z_TB) (z_rm 36) (z_Pc ΛX Y σ [.ref (z_ad Y 0), .int a1, .int a2]) (z_Qi ΛX Y fin) 0 0 (z_A ΛX Y) := by
  unfold fX7_sums at h
  refine z_met [(0, .ref (z_ad Y 0)), (1, .int a1), (2, .int a2)] rfl (Nat.le_of_ble_eq_true rfl) (plainFor_of_name (by decide)) hi ?_
  intro p e s m args below meth c O hr hlk
  refine z_iload_n O dzX7_sums_0 rfl 1 rfl ?_
  obtain ⟨r1, hc1, h⟩ := z_bd_at h
  refine z_callSiR O (As := [.int a1]) (rest := []) (kX7_isNoFamily hi hc1) mX7_isNoFamily tw_273 (Nat.le_of_ble_eq_true rfl) rfl rfl (Nat.le_of_ble_eq_true rfl) dzX7_sums_1 ?_
  refine z_if_ne O dzX7_sums_4 (fun c2 => ?_) (fun c2 => ?_)
  · have h := z_if_f c2 h
    refine z_bipush O dzX7_sums_15 hcBm2 ?_
    exact z_iret O hr hlk dzX7_sums_17 h
  · have h := z_if_t c2 h
    refine z_aload_n O dzX7_sums_7 rfl 0 rfl ?_
    refine z_iload_n O dzX7_sums_8 rfl 2 rfl ?_
    obtain ⟨r2, hc2, h⟩ := z_bd_at h
    refine z_callViR O (As := [.int a2]) (rest := []) (kX7_isNoRule hi hc2) mX7_isNoRule tw_614 (Nat.le_of_ble_eq_true rfl) fx_obj rfl rfl rfl rfl (Nat.le_of_ble_eq_true rfl) dzX7_sums_9 ?_
    refine z_if_eq O dzX7_sums_12 (fun c1 => ?_) (fun c1 => ?_)
    · have h := z_if_t c1 h
      refine z_aload_n O dzX7_sums_18 rfl 0 rfl ?_
      refine z_get O z_cb7 fx_obj (v := .ref (z_ad Y 1)) 0 (Nat.le_of_ble_eq_true rfl) tw_213 rfl dzX7_sums_19 ?_
      refine z_get O z_cb4 (fx_stk z_stk_1) (v := .ref (z_ad Y 5)) 1 (Nat.le_of_ble_eq_true rfl) tw_62 rfl dzX7_sums_22 ?_
      refine z_iload_n O dzX7_sums_25 rfl 1 rfl ?_
      obtain ⟨g1, h⟩ := z_gd_at h
      refine z_aald O fx_fms1 rfl rfl g1 dzX7_sums_26 ?_
      refine z_astore_n O (lv' := [(3, .ref (z_ad Y (7 + a1.toNatClampNeg))), (0, .ref (z_ad Y 0)), (1, .int a1), (2, .int a2)]) dzX7_sums_27 rfl (by decide) rfl ?_
      refine z_iconst O dzX7_sums_28 hcI0 ?_
      refine z_istore O (lv' := [(4, .int (0 : Int32)), (3, .ref (z_ad Y (7 + a1.toNatClampNeg))), (0, .ref (z_ad Y 0)), (1, .int a1), (2, .int a2)]) dzX7_sums_29 (by decide) rfl ?_
      refine z_iconst O dzX7_sums_31 hcI0 ?_
      refine z_istore O (lv' := [(5, .int (0 : Int32)), (4, .int (0 : Int32)), (3, .ref (z_ad Y (7 + a1.toNatClampNeg))), (0, .ref (z_ad Y 0)), (1, .int a1), (2, .int a2)]) dzX7_sums_32 (by decide) rfl ?_
      refine z_sub [3, 5, 2, 1, 0] rfl ?_
      refine kX7_sums_L34 O hi hr hlk (h3 := (fx_fmi1 g1))  (fun w1 x1 x2 h => ?_) _ _ _ _ h
      refine z_iload O dzX7_sums_74 3 rfl ?_
      exact z_iret O hr hlk dzX7_sums_76 h
    · have h := z_if_f c1 h
      refine z_bipush O dzX7_sums_15 hcBm2 ?_
      exact z_iret O hr hlk dzX7_sums_17 h
def fX7_support (σ : zS) (a1 : Int32) (a2 : Int32) : Option (Int32) :=
  (fX7_isNoFamily a1).bind (fun r1 => (if r1 = 0 then (fX7_isNoSet a2).bind (fun r2 => (if r2 = 0 then z_gd (z_in a1 4) ((fX1_talliesAround σ (7 + a1.toNatClampNeg) a2).bind (fun r3 => some r3)) else some (-2 : Int32))) else some (-2 : Int32)))
theorem kX7_support {l : Launch} {Y : zY} (hi : z_inj ΛX Y) {σ : zS} {a1 : Int32} {a2 : Int32} {fin : Int32} (h : fX7_support σ a1 a2 = some fin) : Met l yX7_support (Cond.code yX7_support cX7_support 3 (some .int) :: z_TB) (z_rm 3) (z_Pc ΛX Y σ [.ref (z_ad Y 0), .int a1, .int a2]) (z_Qi ΛX Y (fin, σ)) 0 0 (z_A ΛX Y) := by
  unfold fX7_support at h
  refine z_met [(0, .ref (z_ad Y 0)), (1, .int a1), (2, .int a2)] rfl (Nat.le_of_ble_eq_true rfl) (plainFor_of_name (by decide)) hi ?_
  intro p e s m args below meth c O hr hlk
  refine z_iload_n O dzX7_support_0 rfl 1 rfl ?_
  obtain ⟨r1, hc1, h⟩ := z_bd_at h
  refine z_callSiR O (As := [.int a1]) (rest := []) (kX7_isNoFamily hi hc1) mX7_isNoFamily tw_273 (Nat.le_of_ble_eq_true rfl) rfl rfl (Nat.le_of_ble_eq_true rfl) dzX7_support_1 ?_
  refine z_if_ne O dzX7_support_4 (fun c2 => ?_) (fun c2 => ?_)
  · have h := z_if_f c2 h
    refine z_bipush O dzX7_support_14 hcBm2 ?_
    refine z_goto O dzX7_support_16 ?_
    exact z_iret O hr hlk dzX7_support_32 (z_rf h)
  · have h := z_if_t c2 h
    refine z_iload_n O dzX7_support_7 rfl 2 rfl ?_
    obtain ⟨r2, hc2, h⟩ := z_bd_at h
    refine z_callSiR O (As := [.int a2]) (rest := []) (kX7_isNoSet hi hc2) mX7_isNoSet tw_276 (Nat.le_of_ble_eq_true rfl) rfl rfl (Nat.le_of_ble_eq_true rfl) dzX7_support_8 ?_
    refine z_if_eq O dzX7_support_11 (fun c1 => ?_) (fun c1 => ?_)
    · have h := z_if_t c1 h
      refine z_aload_n O dzX7_support_19 rfl 0 rfl ?_
      refine z_get O z_cb7 fx_obj (v := .ref (z_ad Y 1)) 0 (Nat.le_of_ble_eq_true rfl) tw_213 rfl dzX7_support_20 ?_
      refine z_get O z_cb4 (fx_stk z_stk_1) (v := .ref (z_ad Y 5)) 1 (Nat.le_of_ble_eq_true rfl) tw_62 rfl dzX7_support_23 ?_
      refine z_iload_n O dzX7_support_26 rfl 1 rfl ?_
      obtain ⟨g1, h⟩ := z_gd_at h
      refine z_aald O fx_fms1 rfl rfl g1 dzX7_support_27 ?_
      refine z_iload_n O dzX7_support_28 rfl 2 rfl ?_
      obtain ⟨r3, hc3, h⟩ := z_bd_at h
      refine z_callViR O (As := [.int a2]) (rest := []) (kX1_talliesAround hi (fx_fmi1 g1) hc3) mX1_talliesAround tw_561 (Nat.le_of_ble_eq_true rfl) (fx_fam (fx_fmi1 g1)) rfl rfl rfl rfl (Nat.le_of_ble_eq_true rfl) dzX7_support_29 ?_
      exact z_iret O hr hlk dzX7_support_32 (z_rf h)
    · have h := z_if_f c1 h
      refine z_bipush O dzX7_support_14 hcBm2 ?_
      refine z_goto O dzX7_support_16 ?_
      exact z_iret O hr hlk dzX7_support_32 (z_rf h)
def fX7_take (σ : zS) (a1 : Int32) (a2 : Int32) : Option (Int32 × zS) :=
  (fX7_isNoFamily a1).bind (fun r1 => (if r1 = 0 then (fX7_isNoSet a2).bind (fun r2 => (if r2 = 0 then z_gd (z_in a1 4) ((fX1_drop σ (7 + a1.toNatClampNeg) a2).bind (fun r3 => (if r3.1 = (-1 : Int32) then some (r3.1, r3.2) else (fX0_remember r3.2 (2 : Int32) a1 a2).bind (fun r4 => some (r3.1, r4))))) else some ((-2 : Int32), σ))) else some ((-2 : Int32), σ)))
theorem kX7_take {l : Launch} {Y : zY} (hi : z_inj ΛX Y) {σ : zS} {a1 : Int32} {a2 : Int32} {fin : Int32 × zS} (h : fX7_take σ a1 a2 = some fin) : Met l yX7_take (Cond.code yX7_take cX7_take 4 (some .int) :: z_TB) (z_rm 3) (z_Pc ΛX Y σ [.ref (z_ad Y 0), .int a1, .int a2]) (z_Qi ΛX Y fin) 0 0 (z_A ΛX Y) := by
  unfold fX7_take at h
  refine z_met [(0, .ref (z_ad Y 0)), (1, .int a1), (2, .int a2)] rfl (Nat.le_of_ble_eq_true rfl) (plainFor_of_name (by decide)) hi ?_
  intro p e s m args below meth c O hr hlk
  refine z_iload_n O dzX7_take_0 rfl 1 rfl ?_
  obtain ⟨r1, hc1, h⟩ := z_bd_at h
  refine z_callSiR O (As := [.int a1]) (rest := []) (kX7_isNoFamily hi hc1) mX7_isNoFamily tw_273 (Nat.le_of_ble_eq_true rfl) rfl rfl (Nat.le_of_ble_eq_true rfl) dzX7_take_1 ?_
  refine z_if_ne O dzX7_take_4 (fun c3 => ?_) (fun c3 => ?_)
  · have h := z_if_f c3 h
    refine z_bipush O dzX7_take_14 hcBm2 ?_
    exact z_iret O hr hlk dzX7_take_16 h
  · have h := z_if_t c3 h
    refine z_iload_n O dzX7_take_7 rfl 2 rfl ?_
    obtain ⟨r2, hc2, h⟩ := z_bd_at h
    refine z_callSiR O (As := [.int a2]) (rest := []) (kX7_isNoSet hi hc2) mX7_isNoSet tw_276 (Nat.le_of_ble_eq_true rfl) rfl rfl (Nat.le_of_ble_eq_true rfl) dzX7_take_8 ?_
    refine z_if_eq O dzX7_take_11 (fun c2 => ?_) (fun c2 => ?_)
    · have h := z_if_t c2 h
      refine z_aload_n O dzX7_take_17 rfl 0 rfl ?_
      refine z_get O z_cb7 fx_obj (v := .ref (z_ad Y 1)) 0 (Nat.le_of_ble_eq_true rfl) tw_213 rfl dzX7_take_18 ?_
      refine z_get O z_cb4 (fx_stk z_stk_1) (v := .ref (z_ad Y 5)) 1 (Nat.le_of_ble_eq_true rfl) tw_62 rfl dzX7_take_21 ?_
      refine z_iload_n O dzX7_take_24 rfl 1 rfl ?_
      obtain ⟨g1, h⟩ := z_gd_at h
      refine z_aald O fx_fms1 rfl rfl g1 dzX7_take_25 ?_
      refine z_iload_n O dzX7_take_26 rfl 2 rfl ?_
      obtain ⟨r3, hc3, h⟩ := z_bd_at h
      refine z_callVi O (As := [.int a2]) (rest := []) (kX1_drop hi (fx_fmi1 g1) hc3) mX1_drop tw_302 (Nat.le_of_ble_eq_true rfl) (fx_fam (fx_fmi1 g1)) rfl rfl rfl rfl (Nat.le_of_ble_eq_true rfl) dzX7_take_27 ?_
      refine z_istore_n O (lv' := [(3, .int r3.1), (0, .ref (z_ad Y 0)), (1, .int a1), (2, .int a2)]) dzX7_take_30 rfl (by decide) rfl ?_
      refine z_iload_n O dzX7_take_31 rfl 0 rfl ?_
      refine z_iconst O dzX7_take_32 hcIm1 ?_
      refine z_icmp_eq O dzX7_take_33 (fun c1 => ?_) (fun c1 => ?_)
      · have h := z_if_t c1 h
        refine z_iload_n O dzX7_take_46 rfl 0 rfl ?_
        exact z_iret O hr hlk dzX7_take_47 h
      · have h := z_if_f c1 h
        refine z_aload_n O dzX7_take_36 rfl 1 rfl ?_
        refine z_get O z_cb7 fx_obj (v := .ref (z_ad Y 59)) 4 (Nat.le_of_ble_eq_true rfl) tw_217 rfl dzX7_take_37 ?_
        refine z_iconst O dzX7_take_40 hcI2 ?_
        refine z_iload_n O dzX7_take_41 rfl 2 rfl ?_
        refine z_iload_n O dzX7_take_42 rfl 3 rfl ?_
        obtain ⟨r4, hc4, h⟩ := z_bd_at h
        refine z_callVv O (As := [.int (2 : Int32), .int a1, .int a2]) (rest := []) (kX0_remember hi hc4) mX0_remember tw_254 (Nat.le_of_ble_eq_true rfl) fx_act rfl rfl rfl rfl (Nat.le_of_ble_eq_true rfl) dzX7_take_43 ?_
        refine z_iload_n O dzX7_take_46 rfl 0 rfl ?_
        exact z_iret O hr hlk dzX7_take_47 h
    · have h := z_if_f c2 h
      refine z_bipush O dzX7_take_14 hcBm2 ?_
      exact z_iret O hr hlk dzX7_take_16 h
def fX7_tally (σ : zS) (a1 : Int32) (a2 : Int32) : Option (Int32) :=
  (fX7_isNoFamily a1).bind (fun r1 => (if r1 = 0 then (fX7_isNoSet a2).bind (fun r2 => (if r2 = 0 then z_gd (z_in a1 4) ((fX1_tallyOf σ (7 + a1.toNatClampNeg) a2).bind (fun r3 => some r3)) else some (-2 : Int32))) else some (-2 : Int32)))
theorem kX7_tally {l : Launch} {Y : zY} (hi : z_inj ΛX Y) {σ : zS} {a1 : Int32} {a2 : Int32} {fin : Int32} (h : fX7_tally σ a1 a2 = some fin) : Met l yX7_tally (Cond.code yX7_tally cX7_tally 3 (some .int) :: z_TB) (z_rm 3) (z_Pc ΛX Y σ [.ref (z_ad Y 0), .int a1, .int a2]) (z_Qi ΛX Y (fin, σ)) 0 0 (z_A ΛX Y) := by
  unfold fX7_tally at h
  refine z_met [(0, .ref (z_ad Y 0)), (1, .int a1), (2, .int a2)] rfl (Nat.le_of_ble_eq_true rfl) (plainFor_of_name (by decide)) hi ?_
  intro p e s m args below meth c O hr hlk
  refine z_iload_n O dzX7_tally_0 rfl 1 rfl ?_
  obtain ⟨r1, hc1, h⟩ := z_bd_at h
  refine z_callSiR O (As := [.int a1]) (rest := []) (kX7_isNoFamily hi hc1) mX7_isNoFamily tw_273 (Nat.le_of_ble_eq_true rfl) rfl rfl (Nat.le_of_ble_eq_true rfl) dzX7_tally_1 ?_
  refine z_if_ne O dzX7_tally_4 (fun c2 => ?_) (fun c2 => ?_)
  · have h := z_if_f c2 h
    refine z_bipush O dzX7_tally_14 hcBm2 ?_
    refine z_goto O dzX7_tally_16 ?_
    exact z_iret O hr hlk dzX7_tally_32 (z_rf h)
  · have h := z_if_t c2 h
    refine z_iload_n O dzX7_tally_7 rfl 2 rfl ?_
    obtain ⟨r2, hc2, h⟩ := z_bd_at h
    refine z_callSiR O (As := [.int a2]) (rest := []) (kX7_isNoSet hi hc2) mX7_isNoSet tw_276 (Nat.le_of_ble_eq_true rfl) rfl rfl (Nat.le_of_ble_eq_true rfl) dzX7_tally_8 ?_
    refine z_if_eq O dzX7_tally_11 (fun c1 => ?_) (fun c1 => ?_)
    · have h := z_if_t c1 h
      refine z_aload_n O dzX7_tally_19 rfl 0 rfl ?_
      refine z_get O z_cb7 fx_obj (v := .ref (z_ad Y 1)) 0 (Nat.le_of_ble_eq_true rfl) tw_213 rfl dzX7_tally_20 ?_
      refine z_get O z_cb4 (fx_stk z_stk_1) (v := .ref (z_ad Y 5)) 1 (Nat.le_of_ble_eq_true rfl) tw_62 rfl dzX7_tally_23 ?_
      refine z_iload_n O dzX7_tally_26 rfl 1 rfl ?_
      obtain ⟨g1, h⟩ := z_gd_at h
      refine z_aald O fx_fms1 rfl rfl g1 dzX7_tally_27 ?_
      refine z_iload_n O dzX7_tally_28 rfl 2 rfl ?_
      obtain ⟨r3, hc3, h⟩ := z_bd_at h
      refine z_callViR O (As := [.int a2]) (rest := []) (kX1_tallyOf hi (fx_fmi1 g1) hc3) mX1_tallyOf tw_279 (Nat.le_of_ble_eq_true rfl) (fx_fam (fx_fmi1 g1)) rfl rfl rfl rfl (Nat.le_of_ble_eq_true rfl) dzX7_tally_29 ?_
      exact z_iret O hr hlk dzX7_tally_32 (z_rf h)
    · have h := z_if_f c1 h
      refine z_bipush O dzX7_tally_14 hcBm2 ?_
      refine z_goto O dzX7_tally_16 ?_
      exact z_iret O hr hlk dzX7_tally_32 (z_rf h)
def fX7_tell (σ : zS) (a1 : Int32) (a2 : Int32) : Option (Int32 × zS) :=
  (fX7_isNoFamily a1).bind (fun r1 => (if r1 = 0 then (fX7_isNoSet a2).bind (fun r2 => (if r2 = 0 then z_gd (z_in a1 4) ((fX1_tallyOf σ (7 + a1.toNatClampNeg) a2).bind (fun r3 => z_gd (z_in a1 4) ((fX1_add σ (7 + a1.toNatClampNeg) a2).bind (fun r4 => (if r4.1 = (-4 : Int32) then some (r4.1, r4.2) else (if r4.1 = r3 then some (r4.1, r4.2) else (fX0_remember r4.2 (1 : Int32) a1 a2).bind (fun r5 => some (r4.1, r5)))))))) else some ((-2 : Int32), σ))) else some ((-2 : Int32), σ)))
theorem kX7_tell {l : Launch} {Y : zY} (hi : z_inj ΛX Y) {σ : zS} {a1 : Int32} {a2 : Int32} {fin : Int32 × zS} (h : fX7_tell σ a1 a2 = some fin) : Met l yX7_tell (Cond.code yX7_tell cX7_tell 5 (some .int) :: z_TB) (z_rm 3) (z_Pc ΛX Y σ [.ref (z_ad Y 0), .int a1, .int a2]) (z_Qi ΛX Y fin) 0 0 (z_A ΛX Y) := by
  unfold fX7_tell at h
  refine z_met [(0, .ref (z_ad Y 0)), (1, .int a1), (2, .int a2)] rfl (Nat.le_of_ble_eq_true rfl) (plainFor_of_name (by decide)) hi ?_
  intro p e s m args below meth c O hr hlk
  refine z_iload_n O dzX7_tell_0 rfl 1 rfl ?_
  obtain ⟨r1, hc1, h⟩ := z_bd_at h
  refine z_callSiR O (As := [.int a1]) (rest := []) (kX7_isNoFamily hi hc1) mX7_isNoFamily tw_273 (Nat.le_of_ble_eq_true rfl) rfl rfl (Nat.le_of_ble_eq_true rfl) dzX7_tell_1 ?_
  refine z_if_ne O dzX7_tell_4 (fun c4 => ?_) (fun c4 => ?_)
  · have h := z_if_f c4 h
    refine z_bipush O dzX7_tell_14 hcBm2 ?_
    exact z_iret O hr hlk dzX7_tell_16 h
  · have h := z_if_t c4 h
    refine z_iload_n O dzX7_tell_7 rfl 2 rfl ?_
    obtain ⟨r2, hc2, h⟩ := z_bd_at h
    refine z_callSiR O (As := [.int a2]) (rest := []) (kX7_isNoSet hi hc2) mX7_isNoSet tw_276 (Nat.le_of_ble_eq_true rfl) rfl rfl (Nat.le_of_ble_eq_true rfl) dzX7_tell_8 ?_
    refine z_if_eq O dzX7_tell_11 (fun c3 => ?_) (fun c3 => ?_)
    · have h := z_if_t c3 h
      refine z_aload_n O dzX7_tell_17 rfl 0 rfl ?_
      refine z_get O z_cb7 fx_obj (v := .ref (z_ad Y 1)) 0 (Nat.le_of_ble_eq_true rfl) tw_213 rfl dzX7_tell_18 ?_
      refine z_get O z_cb4 (fx_stk z_stk_1) (v := .ref (z_ad Y 5)) 1 (Nat.le_of_ble_eq_true rfl) tw_62 rfl dzX7_tell_21 ?_
      refine z_iload_n O dzX7_tell_24 rfl 1 rfl ?_
      obtain ⟨g1, h⟩ := z_gd_at h
      refine z_aald O fx_fms1 rfl rfl g1 dzX7_tell_25 ?_
      refine z_iload_n O dzX7_tell_26 rfl 2 rfl ?_
      obtain ⟨r3, hc3, h⟩ := z_bd_at h
      refine z_callViR O (As := [.int a2]) (rest := []) (kX1_tallyOf hi (fx_fmi1 g1) hc3) mX1_tallyOf tw_279 (Nat.le_of_ble_eq_true rfl) (fx_fam (fx_fmi1 g1)) rfl rfl rfl rfl (Nat.le_of_ble_eq_true rfl) dzX7_tell_27 ?_
      refine z_istore_n O (lv' := [(3, .int r3), (0, .ref (z_ad Y 0)), (1, .int a1), (2, .int a2)]) dzX7_tell_30 rfl (by decide) rfl ?_
      refine z_aload_n O dzX7_tell_31 rfl 1 rfl ?_
      refine z_get O z_cb7 fx_obj (v := .ref (z_ad Y 1)) 0 (Nat.le_of_ble_eq_true rfl) tw_213 rfl dzX7_tell_32 ?_
      refine z_get O z_cb4 (fx_stk z_stk_1) (v := .ref (z_ad Y 5)) 1 (Nat.le_of_ble_eq_true rfl) tw_62 rfl dzX7_tell_35 ?_
      refine z_iload_n O dzX7_tell_38 rfl 2 rfl ?_
      obtain ⟨g2, h⟩ := z_gd_at h
      refine z_aald O fx_fms1 rfl rfl g2 dzX7_tell_39 ?_
      refine z_iload_n O dzX7_tell_40 rfl 3 rfl ?_
      obtain ⟨r4, hc4, h⟩ := z_bd_at h
      refine z_callVi O (As := [.int a2]) (rest := []) (kX1_add hi (fx_fmi1 g2) hc4) mX1_add tw_287 (Nat.le_of_ble_eq_true rfl) (fx_fam (fx_fmi1 g2)) rfl rfl rfl rfl (Nat.le_of_ble_eq_true rfl) dzX7_tell_41 ?_
      refine z_istore O (lv' := [(4, .int r4.1), (3, .int r3), (0, .ref (z_ad Y 0)), (1, .int a1), (2, .int a2)]) dzX7_tell_44 (by decide) rfl ?_
      refine z_iload O dzX7_tell_46 0 rfl ?_
      refine z_bipush O dzX7_tell_48 hcBm4 ?_
      refine z_icmp_eq O dzX7_tell_50 (fun c2 => ?_) (fun c2 => ?_)
      · have h := z_if_t c2 h
        refine z_iload O dzX7_tell_69 0 rfl ?_
        exact z_iret O hr hlk dzX7_tell_71 h
      · have h := z_if_f c2 h
        refine z_iload O dzX7_tell_53 0 rfl ?_
        refine z_iload_n O dzX7_tell_55 rfl 1 rfl ?_
        refine z_icmp_eq O dzX7_tell_56 (fun c1 => ?_) (fun c1 => ?_)
        · have h := z_if_t c1 h
          refine z_iload O dzX7_tell_69 0 rfl ?_
          exact z_iret O hr hlk dzX7_tell_71 h
        · have h := z_if_f c1 h
          refine z_aload_n O dzX7_tell_59 rfl 2 rfl ?_
          refine z_get O z_cb7 fx_obj (v := .ref (z_ad Y 59)) 4 (Nat.le_of_ble_eq_true rfl) tw_217 rfl dzX7_tell_60 ?_
          refine z_iconst O dzX7_tell_63 hcI1 ?_
          refine z_iload_n O dzX7_tell_64 rfl 3 rfl ?_
          refine z_iload_n O dzX7_tell_65 rfl 4 rfl ?_
          obtain ⟨r5, hc5, h⟩ := z_bd_at h
          refine z_callVv O (As := [.int (1 : Int32), .int a1, .int a2]) (rest := []) (kX0_remember hi hc5) mX0_remember tw_254 (Nat.le_of_ble_eq_true rfl) fx_act rfl rfl rfl rfl (Nat.le_of_ble_eq_true rfl) dzX7_tell_66 ?_
          refine z_iload O dzX7_tell_69 0 rfl ?_
          exact z_iret O hr hlk dzX7_tell_71 h
    · have h := z_if_f c3 h
      refine z_bipush O dzX7_tell_14 hcBm2 ?_
      exact z_iret O hr hlk dzX7_tell_16 h
def fX7_test (σ : zS) (a1 : Int32) (a2 : Int32) (a3 : Int32) : Option (Int32 × zS) :=
  (fX7_isNoFamily a1).bind (fun r1 => (if r1 = 0 then (fX7_isNoTest a2).bind (fun r2 => (if r2 = 0 then (fX7_isNoSet a3).bind (fun r3 => (if r3 = 0 then z_gd (z_in a1 4) ((fX7_tableOf σ a2 (7 + a1.toNatClampNeg)).bind (fun r4 => (fX5_has r4.2 r4.1 a3).bind (fun r5 => (if r5 = 0 then some ((0 : Int32), r4.2) else some ((1 : Int32), r4.2))))) else some ((-2 : Int32), σ))) else some ((-2 : Int32), σ))) else some ((-2 : Int32), σ)))
theorem kX7_test {l : Launch} {Y : zY} (hi : z_inj ΛX Y) {σ : zS} {a1 : Int32} {a2 : Int32} {a3 : Int32} {fin : Int32 × zS} (h : fX7_test σ a1 a2 a3 = some fin) : Met l yX7_test (Cond.code yX7_test cX7_test 4 (some .int) :: z_TB) (z_rm 5) (z_Pc ΛX Y σ [.ref (z_ad Y 0), .int a1, .int a2, .int a3]) (z_Qi ΛX Y fin) 0 0 (z_A ΛX Y) := by
  unfold fX7_test at h
  refine z_met [(0, .ref (z_ad Y 0)), (1, .int a1), (2, .int a2), (3, .int a3)] rfl (Nat.le_of_ble_eq_true rfl) (plainFor_of_name (by decide)) hi ?_
  intro p e s m args below meth c O hr hlk
  refine z_iload_n O dzX7_test_0 rfl 1 rfl ?_
  obtain ⟨r1, hc1, h⟩ := z_bd_at h
  refine z_callSiR O (As := [.int a1]) (rest := []) (kX7_isNoFamily hi hc1) mX7_isNoFamily tw_273 (Nat.le_of_ble_eq_true rfl) rfl rfl (Nat.le_of_ble_eq_true rfl) dzX7_test_1 ?_
  refine z_if_ne O dzX7_test_4 (fun c4 => ?_) (fun c4 => ?_)
  · have h := z_if_f c4 h
    refine z_bipush O dzX7_test_21 hcBm2 ?_
    exact z_iret O hr hlk dzX7_test_23 h
  · have h := z_if_t c4 h
    refine z_iload_n O dzX7_test_7 rfl 2 rfl ?_
    obtain ⟨r2, hc2, h⟩ := z_bd_at h
    refine z_callSiR O (As := [.int a2]) (rest := []) (kX7_isNoTest hi hc2) mX7_isNoTest tw_393 (Nat.le_of_ble_eq_true rfl) rfl rfl (Nat.le_of_ble_eq_true rfl) dzX7_test_8 ?_
    refine z_if_ne O dzX7_test_11 (fun c3 => ?_) (fun c3 => ?_)
    · have h := z_if_f c3 h
      refine z_bipush O dzX7_test_21 hcBm2 ?_
      exact z_iret O hr hlk dzX7_test_23 h
    · have h := z_if_t c3 h
      refine z_iload_n O dzX7_test_14 rfl 3 rfl ?_
      obtain ⟨r3, hc3, h⟩ := z_bd_at h
      refine z_callSiR O (As := [.int a3]) (rest := []) (kX7_isNoSet hi hc3) mX7_isNoSet tw_276 (Nat.le_of_ble_eq_true rfl) rfl rfl (Nat.le_of_ble_eq_true rfl) dzX7_test_15 ?_
      refine z_if_eq O dzX7_test_18 (fun c2 => ?_) (fun c2 => ?_)
      · have h := z_if_t c2 h
        refine z_aload_n O dzX7_test_24 rfl 0 rfl ?_
        refine z_iload_n O dzX7_test_25 rfl 2 rfl ?_
        refine z_aload_n O dzX7_test_26 rfl 0 rfl ?_
        refine z_get O z_cb7 fx_obj (v := .ref (z_ad Y 1)) 0 (Nat.le_of_ble_eq_true rfl) tw_213 rfl dzX7_test_27 ?_
        refine z_get O z_cb4 (fx_stk z_stk_1) (v := .ref (z_ad Y 5)) 1 (Nat.le_of_ble_eq_true rfl) tw_62 rfl dzX7_test_30 ?_
        refine z_iload_n O dzX7_test_33 rfl 1 rfl ?_
        obtain ⟨g1, h⟩ := z_gd_at h
        refine z_aald O fx_fms1 rfl rfl g1 dzX7_test_34 ?_
        obtain ⟨r4, hc4, h⟩ := z_bd_at h
        have hTr4 := tTX7_tableOf hc4
        refine z_callVr O (As := [.int a2, .ref (z_ad Y (7 + a1.toNatClampNeg))]) (rest := []) (kX7_tableOf hi (fx_fmi1 g1) hc4) mX7_tableOf tw_396 (Nat.le_of_ble_eq_true rfl) fx_obj rfl rfl rfl rfl (Nat.le_of_ble_eq_true rfl) dzX7_test_35 ?_
        refine z_iload_n O dzX7_test_38 rfl 3 rfl ?_
        obtain ⟨r5, hc5, h⟩ := z_bd_at h
        refine z_callViR O (As := [.int a3]) (rest := []) (kX5_has hi hTr4 hc5) mX5_has tw_457 (Nat.le_of_ble_eq_true rfl) (fx_tab hTr4) rfl rfl rfl rfl (Nat.le_of_ble_eq_true rfl) dzX7_test_39 ?_
        refine z_if_eq O dzX7_test_42 (fun c1 => ?_) (fun c1 => ?_)
        · have h := z_if_t c1 h
          refine z_iconst O dzX7_test_49 hcI0 ?_
          exact z_iret O hr hlk dzX7_test_50 h
        · have h := z_if_f c1 h
          refine z_iconst O dzX7_test_45 hcI1 ?_
          refine z_goto O dzX7_test_46 ?_
          exact z_iret O hr hlk dzX7_test_50 h
      · have h := z_if_f c2 h
        refine z_bipush O dzX7_test_21 hcBm2 ?_
        exact z_iret O hr hlk dzX7_test_23 h
def fX7_top (σ : zS) (a1 : Int32) : Option (Int32) :=
  (fX7_isNoFamily a1).bind (fun r1 => (if r1 = 0 then z_gd (z_in a1 4) (z_gd (z_in a1 4) ((fX7_topPoint σ ((7 + a1.toNatClampNeg) + 9) (σ.1 (7 + a1.toNatClampNeg) 2)).bind (fun r2 => some r2))) else some (-2 : Int32)))
theorem kX7_top {l : Launch} {Y : zY} (hi : z_inj ΛX Y) {σ : zS} {a1 : Int32} {fin : Int32} (h : fX7_top σ a1 = some fin) : Met l yX7_top (Cond.code yX7_top cX7_top 2 (some .int) :: z_TB) (z_rm 2) (z_Pc ΛX Y σ [.ref (z_ad Y 0), .int a1]) (z_Qi ΛX Y (fin, σ)) 0 0 (z_A ΛX Y) := by
  unfold fX7_top at h
  refine z_met [(0, .ref (z_ad Y 0)), (1, .int a1)] rfl (Nat.le_of_ble_eq_true rfl) (plainFor_of_name (by decide)) hi ?_
  intro p e s m args below meth c O hr hlk
  refine z_iload_n O dzX7_top_0 rfl 1 rfl ?_
  obtain ⟨r1, hc1, h⟩ := z_bd_at h
  refine z_callSiR O (As := [.int a1]) (rest := []) (kX7_isNoFamily hi hc1) mX7_isNoFamily tw_273 (Nat.le_of_ble_eq_true rfl) rfl rfl (Nat.le_of_ble_eq_true rfl) dzX7_top_1 ?_
  refine z_if_eq O dzX7_top_4 (fun c1 => ?_) (fun c1 => ?_)
  · have h := z_if_t c1 h
    refine z_aload_n O dzX7_top_12 rfl 0 rfl ?_
    refine z_get O z_cb7 fx_obj (v := .ref (z_ad Y 1)) 0 (Nat.le_of_ble_eq_true rfl) tw_213 rfl dzX7_top_13 ?_
    refine z_get O z_cb4 (fx_stk z_stk_1) (v := .ref (z_ad Y 5)) 1 (Nat.le_of_ble_eq_true rfl) tw_62 rfl dzX7_top_16 ?_
    refine z_iload_n O dzX7_top_19 rfl 1 rfl ?_
    obtain ⟨g1, h⟩ := z_gd_at h
    refine z_aald O fx_fms1 rfl rfl g1 dzX7_top_20 ?_
    refine z_get O z_cb1 (fx_fam (fx_fmi1 g1)) (v := .ref (z_ad Y ((7 + a1.toNatClampNeg) + 9))) 0 (Nat.le_of_ble_eq_true rfl) tw_42 rfl dzX7_top_21 ?_
    refine z_aload_n O dzX7_top_24 rfl 0 rfl ?_
    refine z_get O z_cb7 fx_obj (v := .ref (z_ad Y 1)) 0 (Nat.le_of_ble_eq_true rfl) tw_213 rfl dzX7_top_25 ?_
    refine z_get O z_cb4 (fx_stk z_stk_1) (v := .ref (z_ad Y 5)) 1 (Nat.le_of_ble_eq_true rfl) tw_62 rfl dzX7_top_28 ?_
    refine z_iload_n O dzX7_top_31 rfl 1 rfl ?_
    obtain ⟨g2, h⟩ := z_gd_at h
    refine z_aald O fx_fms1 rfl rfl g2 dzX7_top_32 ?_
    refine z_get O z_cb1 (fx_fam (fx_fmi1 g2)) (v := .int (σ.1 (7 + a1.toNatClampNeg) 2)) 2 (Nat.le_of_ble_eq_true rfl) tw_50 rfl dzX7_top_33 ?_
    obtain ⟨r2, hc2, h⟩ := z_bd_at h
    refine z_callSiR O (As := [.ref (z_ad Y ((7 + a1.toNatClampNeg) + 9)), .int (σ.1 (7 + a1.toNatClampNeg) 2)]) (rest := []) (kX7_topPoint hi (fx_set (fx_fmi1 g1)) hc2) mX7_topPoint tw_370 (Nat.le_of_ble_eq_true rfl) rfl rfl (Nat.le_of_ble_eq_true rfl) dzX7_top_36 ?_
    exact z_iret O hr hlk dzX7_top_39 (z_rf h)
  · have h := z_if_f c1 h
    refine z_bipush O dzX7_top_7 hcBm2 ?_
    refine z_goto O dzX7_top_9 ?_
    exact z_iret O hr hlk dzX7_top_39 (z_rf h)
def fX7_tree (σ : zS) (a1 : Int32) (a2 : Int32) : Option (Int32 × zS) :=
  (fX7_isNoFamily a1).bind (fun r1 => (if r1 = 0 then (if a2 < 0 then some ((-2 : Int32), σ) else (if a2 ≤ (2 : Int32) then z_gd (z_in a1 4) ((fX6_start σ (7 + a1.toNatClampNeg) (-1 : Int32)).bind (fun r2 => (if a2 = 0 then some ((r2.1 72 2), r2) else (if a2 = 1 then some ((r2.1 72 3), r2) else some ((r2.1 72 4), r2))))) else some ((-2 : Int32), σ))) else some ((-2 : Int32), σ)))
theorem kX7_tree {l : Launch} {Y : zY} (hi : z_inj ΛX Y) {σ : zS} {a1 : Int32} {a2 : Int32} {fin : Int32 × zS} (h : fX7_tree σ a1 a2 = some fin) : Met l yX7_tree (Cond.code yX7_tree cX7_tree 3 (some .int) :: z_TB) (z_rm 21) (z_Pc ΛX Y σ [.ref (z_ad Y 0), .int a1, .int a2]) (z_Qi ΛX Y fin) 0 0 (z_A ΛX Y) := by
  unfold fX7_tree at h
  refine z_met [(0, .ref (z_ad Y 0)), (1, .int a1), (2, .int a2)] rfl (Nat.le_of_ble_eq_true rfl) (plainFor_of_name (by decide)) hi ?_
  intro p e s m args below meth c O hr hlk
  refine z_iload_n O dzX7_tree_0 rfl 1 rfl ?_
  obtain ⟨r1, hc1, h⟩ := z_bd_at h
  refine z_callSiR O (As := [.int a1]) (rest := []) (kX7_isNoFamily hi hc1) mX7_isNoFamily tw_273 (Nat.le_of_ble_eq_true rfl) rfl rfl (Nat.le_of_ble_eq_true rfl) dzX7_tree_1 ?_
  refine z_if_ne O dzX7_tree_4 (fun c5 => ?_) (fun c5 => ?_)
  · have h := z_if_f c5 h
    refine z_bipush O dzX7_tree_16 hcBm2 ?_
    exact z_iret O hr hlk dzX7_tree_18 h
  · have h := z_if_t c5 h
    refine z_iload_n O dzX7_tree_7 rfl 2 rfl ?_
    refine z_if_lt O dzX7_tree_8 (fun c4 => ?_) (fun c4 => ?_)
    · have h := z_if_t c4 h
      refine z_bipush O dzX7_tree_16 hcBm2 ?_
      exact z_iret O hr hlk dzX7_tree_18 h
    · have h := z_if_f c4 h
      refine z_iload_n O dzX7_tree_11 rfl 2 rfl ?_
      refine z_iconst O dzX7_tree_12 hcI2 ?_
      refine z_icmp_le O dzX7_tree_13 (fun c3 => ?_) (fun c3 => ?_)
      · have h := z_if_t c3 h
        refine z_aload_n O dzX7_tree_19 rfl 0 rfl ?_
        refine z_get O z_cb7 fx_obj (v := .ref (z_ad Y 72)) 6 (Nat.le_of_ble_eq_true rfl) tw_219 rfl dzX7_tree_20 ?_
        refine z_aload_n O dzX7_tree_23 rfl 0 rfl ?_
        refine z_get O z_cb7 fx_obj (v := .ref (z_ad Y 1)) 0 (Nat.le_of_ble_eq_true rfl) tw_213 rfl dzX7_tree_24 ?_
        refine z_get O z_cb4 (fx_stk z_stk_1) (v := .ref (z_ad Y 5)) 1 (Nat.le_of_ble_eq_true rfl) tw_62 rfl dzX7_tree_27 ?_
        refine z_iload_n O dzX7_tree_30 rfl 1 rfl ?_
        obtain ⟨g1, h⟩ := z_gd_at h
        refine z_aald O fx_fms1 rfl rfl g1 dzX7_tree_31 ?_
        refine z_iconst O dzX7_tree_32 hcIm1 ?_
        obtain ⟨r2, hc2, h⟩ := z_bd_at h
        refine z_callVv O (As := [.ref (z_ad Y (7 + a1.toNatClampNeg)), .int (-1 : Int32)]) (rest := []) (kX6_start hi (fx_fmi1 g1) hc2) mX6_start tw_521 (Nat.le_of_ble_eq_true rfl) fx_wlk rfl rfl rfl rfl (Nat.le_of_ble_eq_true rfl) dzX7_tree_33 ?_
        refine z_iload_n O dzX7_tree_36 rfl 2 rfl ?_
        by_cases c1 : a2 = 0
        · have h := z_if_t c1 h
          refine z_look O dzX7_tree_37 (x := a2) (by decide) (off := 27) (by rw [c1]; rfl) (tgt := 64) rfl ?_
          refine z_aload_n O dzX7_tree_64 rfl 0 rfl ?_
          refine z_get O z_cb7 fx_obj (v := .ref (z_ad Y 72)) 6 (Nat.le_of_ble_eq_true rfl) tw_219 rfl dzX7_tree_65 ?_
          refine z_get O z_cb6 fx_wlk (v := .int (r2.1 72 2)) 2 (Nat.le_of_ble_eq_true rfl) tw_162 rfl dzX7_tree_68 ?_
          exact z_iret O hr hlk dzX7_tree_71 h
        have h := z_if_f c1 h
        by_cases c2 : a2 = 1
        · have h := z_if_t c2 h
          refine z_look O dzX7_tree_37 (x := a2) (by decide) (off := 35) (by rw [c2]; rfl) (tgt := 72) rfl ?_
          refine z_aload_n O dzX7_tree_72 rfl 0 rfl ?_
          refine z_get O z_cb7 fx_obj (v := .ref (z_ad Y 72)) 6 (Nat.le_of_ble_eq_true rfl) tw_219 rfl dzX7_tree_73 ?_
          refine z_get O z_cb6 fx_wlk (v := .int (r2.1 72 3)) 3 (Nat.le_of_ble_eq_true rfl) tw_164 rfl dzX7_tree_76 ?_
          exact z_iret O hr hlk dzX7_tree_79 h
        have h := z_if_f c2 h
        refine z_look O dzX7_tree_37 (x := a2) (by decide) (off := 43) (by show Op.lookupswitch.offset [(0, 27), (1, 35)] 43 _ = _; rw [lv_osw (k := 0) (a := 0) c1 rfl]; rw [lv_osw (k := 1) (a := 1) c2 rfl]; rfl) (tgt := 80) rfl ?_
        refine z_aload_n O dzX7_tree_80 rfl 0 rfl ?_
        refine z_get O z_cb7 fx_obj (v := .ref (z_ad Y 72)) 6 (Nat.le_of_ble_eq_true rfl) tw_219 rfl dzX7_tree_81 ?_
        refine z_get O z_cb6 fx_wlk (v := .int (r2.1 72 4)) 4 (Nat.le_of_ble_eq_true rfl) tw_166 rfl dzX7_tree_84 ?_
        exact z_iret O hr hlk dzX7_tree_87 h
      · have h := z_if_f c3 h
        refine z_bipush O dzX7_tree_16 hcBm2 ?_
        exact z_iret O hr hlk dzX7_tree_18 h
def fX7_undo (σ : zS) : Option (Int32 × zS) :=
  (if 0 < (σ.1 59 3) then (fX0_forgetLast σ).bind (fun r1 => z_gd (z_in r1.1 20) (z_lt (r1.2.1 61 r1.1.toNatClampNeg) (fun (x1 : Int32) => z_gd (z_in r1.1 20) (z_lt (r1.2.1 62 r1.1.toNatClampNeg) (fun (x2 : Int32) => z_gd (z_in r1.1 20) ((if (r1.2.1 60 r1.1.toNatClampNeg) = 0 then z_gd (z_in x1 12) (z_lt (z_sI r1.2 3 x1.toNatClampNeg x2) (fun (w1 : zS) => some ((w1.1 59 3), w1))) else (if (r1.2.1 60 r1.1.toNatClampNeg) = 1 then z_gd (z_in x1 4) ((fX1_drop r1.2 (7 + x1.toNatClampNeg) x2).bind (fun r2 => some ((r2.2.1 59 3), r2.2))) else z_gd (z_in x1 4) ((fX1_add r1.2 (7 + x1.toNatClampNeg) x2).bind (fun r3 => some ((r3.2.1 59 3), r3.2))))))))))) else some ((-1 : Int32), σ))
theorem kX7_undo {l : Launch} {Y : zY} (hi : z_inj ΛX Y) {σ : zS}  {fin : Int32 × zS} (h : fX7_undo σ = some fin) : Met l yX7_undo (Cond.code yX7_undo cX7_undo 4 (some .int) :: z_TB) (z_rm 3) (z_Pc ΛX Y σ [.ref (z_ad Y 0)]) (z_Qi ΛX Y fin) 0 0 (z_A ΛX Y) := by
  unfold fX7_undo at h
  refine z_met [(0, .ref (z_ad Y 0))] rfl (Nat.le_of_ble_eq_true rfl) (plainFor_of_name (by decide)) hi ?_
  intro p e s m args below meth c O hr hlk
  refine z_aload_n O dzX7_undo_0 rfl 0 rfl ?_
  refine z_get O z_cb7 fx_obj (v := .ref (z_ad Y 59)) 4 (Nat.le_of_ble_eq_true rfl) tw_217 rfl dzX7_undo_1 ?_
  refine z_get O z_cb0 fx_act (v := .int (σ.1 59 3)) 3 (Nat.le_of_ble_eq_true rfl) tw_120 rfl dzX7_undo_4 ?_
  refine z_if_gt O dzX7_undo_7 (fun c3 => ?_) (fun c3 => ?_)
  · have h := z_if_t c3 h
    refine z_aload_n O dzX7_undo_12 rfl 0 rfl ?_
    refine z_get O z_cb7 fx_obj (v := .ref (z_ad Y 59)) 4 (Nat.le_of_ble_eq_true rfl) tw_217 rfl dzX7_undo_13 ?_
    obtain ⟨r1, hc1, h⟩ := z_bd_at h
    refine z_callVi O (As := []) (rest := []) (kX0_forgetLast hi hc1) mX0_forgetLast tw_347 (Nat.le_of_ble_eq_true rfl) fx_act rfl rfl rfl rfl (Nat.le_of_ble_eq_true rfl) dzX7_undo_16 ?_
    refine z_istore_n O (lv' := [(1, .int r1.1), (0, .ref (z_ad Y 0))]) dzX7_undo_19 rfl (by decide) rfl ?_
    refine z_aload_n O dzX7_undo_20 rfl 1 rfl ?_
    refine z_get O z_cb7 fx_obj (v := .ref (z_ad Y 59)) 4 (Nat.le_of_ble_eq_true rfl) tw_217 rfl dzX7_undo_21 ?_
    refine z_get O z_cb0 fx_act (v := .ref (z_ad Y 61)) 1 (Nat.le_of_ble_eq_true rfl) tw_116 rfl dzX7_undo_24 ?_
    refine z_iload_n O dzX7_undo_27 rfl 0 rfl ?_
    obtain ⟨g1, h⟩ := z_gd_at h
    refine z_iald O fx_ac61 g1 dzX7_undo_28 ?_
    refine z_topi (fun x1 e1 => ?_)
    have h := z_lt_at e1 h
    refine z_istore_n O (lv' := [(2, .int x1), (1, .int r1.1), (0, .ref (z_ad Y 0))]) dzX7_undo_29 rfl (by decide) rfl ?_
    refine z_aload_n O dzX7_undo_30 rfl 2 rfl ?_
    refine z_get O z_cb7 fx_obj (v := .ref (z_ad Y 59)) 4 (Nat.le_of_ble_eq_true rfl) tw_217 rfl dzX7_undo_31 ?_
    refine z_get O z_cb0 fx_act (v := .ref (z_ad Y 62)) 2 (Nat.le_of_ble_eq_true rfl) tw_118 rfl dzX7_undo_34 ?_
    refine z_iload_n O dzX7_undo_37 rfl 1 rfl ?_
    obtain ⟨g2, h⟩ := z_gd_at h
    refine z_iald O fx_ac62 g2 dzX7_undo_38 ?_
    refine z_topi (fun x2 e2 => ?_)
    have h := z_lt_at e2 h
    refine z_istore_n O (lv' := [(3, .int x2), (2, .int x1), (1, .int r1.1), (0, .ref (z_ad Y 0))]) dzX7_undo_39 rfl (by decide) rfl ?_
    refine z_aload_n O dzX7_undo_40 rfl 3 rfl ?_
    refine z_get O z_cb7 fx_obj (v := .ref (z_ad Y 59)) 4 (Nat.le_of_ble_eq_true rfl) tw_217 rfl dzX7_undo_41 ?_
    refine z_get O z_cb0 fx_act (v := .ref (z_ad Y 60)) 0 (Nat.le_of_ble_eq_true rfl) tw_114 rfl dzX7_undo_44 ?_
    refine z_iload_n O dzX7_undo_47 rfl 2 rfl ?_
    obtain ⟨g3, h⟩ := z_gd_at h
    refine z_iald O fx_ac60 g3 dzX7_undo_48 ?_
    by_cases c1 : (r1.2.1 60 r1.1.toNatClampNeg) = 0
    · have h := z_if_t c1 h
      refine z_look O dzX7_undo_49 (x := (r1.2.1 60 r1.1.toNatClampNeg)) (by decide) (off := 27) (by rw [c1]; rfl) (tgt := 76) rfl ?_
      refine z_aload_n O dzX7_undo_76 rfl 3 rfl ?_
      refine z_get O z_cb7 fx_obj (v := .ref (z_ad Y 1)) 0 (Nat.le_of_ble_eq_true rfl) tw_213 rfl dzX7_undo_77 ?_
      refine z_get O z_cb4 (fx_stk z_stk_1) (v := .ref (z_ad Y 3)) 0 (Nat.le_of_ble_eq_true rfl) tw_60 rfl dzX7_undo_80 ?_
      refine z_iload_n O dzX7_undo_83 rfl 1 rfl ?_
      refine z_iload_n O dzX7_undo_84 rfl 0 rfl ?_
      obtain ⟨g4, h⟩ := z_gd_at h
      refine z_iast O (fx_pri z_stk_1) g4 dzX7_undo_85 ?_
      refine z_sig (fun w1 e3 => ?_)
      have h := z_lt_at e3 h
      refine z_goto O dzX7_undo_86 ?_
      refine z_aload_n O dzX7_undo_120 rfl 3 rfl ?_
      refine z_get O z_cb7 fx_obj (v := .ref (z_ad Y 59)) 4 (Nat.le_of_ble_eq_true rfl) tw_217 rfl dzX7_undo_121 ?_
      refine z_get O z_cb0 fx_act (v := .int (w1.1 59 3)) 3 (Nat.le_of_ble_eq_true rfl) tw_120 rfl dzX7_undo_124 ?_
      exact z_iret O hr hlk dzX7_undo_127 h
    have h := z_if_f c1 h
    by_cases c2 : (r1.2.1 60 r1.1.toNatClampNeg) = 1
    · have h := z_if_t c2 h
      refine z_look O dzX7_undo_49 (x := (r1.2.1 60 r1.1.toNatClampNeg)) (by decide) (off := 40) (by rw [c2]; rfl) (tgt := 89) rfl ?_
      refine z_aload_n O dzX7_undo_89 rfl 3 rfl ?_
      refine z_get O z_cb7 fx_obj (v := .ref (z_ad Y 1)) 0 (Nat.le_of_ble_eq_true rfl) tw_213 rfl dzX7_undo_90 ?_
      refine z_get O z_cb4 (fx_stk z_stk_1) (v := .ref (z_ad Y 5)) 1 (Nat.le_of_ble_eq_true rfl) tw_62 rfl dzX7_undo_93 ?_
      refine z_iload_n O dzX7_undo_96 rfl 1 rfl ?_
      obtain ⟨g5, h⟩ := z_gd_at h
      refine z_aald O fx_fms1 rfl rfl g5 dzX7_undo_97 ?_
      refine z_iload_n O dzX7_undo_98 rfl 0 rfl ?_
      obtain ⟨r2, hc2, h⟩ := z_bd_at h
      refine z_callVi O (As := [.int x2]) (rest := []) (kX1_drop hi (fx_fmi1 g5) hc2) mX1_drop tw_302 (Nat.le_of_ble_eq_true rfl) (fx_fam (fx_fmi1 g5)) rfl rfl rfl rfl (Nat.le_of_ble_eq_true rfl) dzX7_undo_99 ?_
      refine z_pop O dzX7_undo_102 rfl ?_
      refine z_goto O dzX7_undo_103 ?_
      refine z_aload_n O dzX7_undo_120 rfl 3 rfl ?_
      refine z_get O z_cb7 fx_obj (v := .ref (z_ad Y 59)) 4 (Nat.le_of_ble_eq_true rfl) tw_217 rfl dzX7_undo_121 ?_
      refine z_get O z_cb0 fx_act (v := .int (r2.2.1 59 3)) 3 (Nat.le_of_ble_eq_true rfl) tw_120 rfl dzX7_undo_124 ?_
      exact z_iret O hr hlk dzX7_undo_127 h
    have h := z_if_f c2 h
    refine z_look O dzX7_undo_49 (x := (r1.2.1 60 r1.1.toNatClampNeg)) (by decide) (off := 57) (by show Op.lookupswitch.offset [(0, 27), (1, 40)] 57 _ = _; rw [lv_osw (k := 0) (a := 0) c1 rfl]; rw [lv_osw (k := 1) (a := 1) c2 rfl]; rfl) (tgt := 106) rfl ?_
    refine z_aload_n O dzX7_undo_106 rfl 3 rfl ?_
    refine z_get O z_cb7 fx_obj (v := .ref (z_ad Y 1)) 0 (Nat.le_of_ble_eq_true rfl) tw_213 rfl dzX7_undo_107 ?_
    refine z_get O z_cb4 (fx_stk z_stk_1) (v := .ref (z_ad Y 5)) 1 (Nat.le_of_ble_eq_true rfl) tw_62 rfl dzX7_undo_110 ?_
    refine z_iload_n O dzX7_undo_113 rfl 1 rfl ?_
    obtain ⟨g6, h⟩ := z_gd_at h
    refine z_aald O fx_fms1 rfl rfl g6 dzX7_undo_114 ?_
    refine z_iload_n O dzX7_undo_115 rfl 0 rfl ?_
    obtain ⟨r3, hc3, h⟩ := z_bd_at h
    refine z_callVi O (As := [.int x2]) (rest := []) (kX1_add hi (fx_fmi1 g6) hc3) mX1_add tw_287 (Nat.le_of_ble_eq_true rfl) (fx_fam (fx_fmi1 g6)) rfl rfl rfl rfl (Nat.le_of_ble_eq_true rfl) dzX7_undo_116 ?_
    refine z_pop O dzX7_undo_119 rfl ?_
    refine z_aload_n O dzX7_undo_120 rfl 3 rfl ?_
    refine z_get O z_cb7 fx_obj (v := .ref (z_ad Y 59)) 4 (Nat.le_of_ble_eq_true rfl) tw_217 rfl dzX7_undo_121 ?_
    refine z_get O z_cb0 fx_act (v := .int (r3.2.1 59 3)) 3 (Nat.le_of_ble_eq_true rfl) tw_120 rfl dzX7_undo_124 ?_
    exact z_iret O hr hlk dzX7_undo_127 h
  · have h := z_if_f c3 h
    refine z_iconst O dzX7_undo_10 hcIm1 ?_
    exact z_iret O hr hlk dzX7_undo_11 h
def fX7_unpacks_L75 (a2 : Int32) (a3 : Int32) (q4 : Nat) (k : zS → Int32 → Int32 → Option (Int32 × zS)) : Nat → zS → Int32 → Int32 → Option (Int32 × zS)
  | 0, _, _, _ => none
  | n + 1, σ, v5, v6 => (if a3 ≤ v6 then k σ v5 v6 else z_gd (z_nz (5 : Int32)) ((if (v6 / (5 : Int32)) < (σ.1 q4 2) then z_gd (z_in a2 4) ((fX3_packedAt σ q4 v6).bind (fun r1 => (fX1_add σ (7 + a2.toNatClampNeg) r1).bind (fun r2 => (if r2.1 = (-4 : Int32) then fX7_unpacks_L75 a2 a3 q4 k n r2.2 v5 (v6 + (1 : Int32)) else fX7_unpacks_L75 a2 a3 q4 k n r2.2 (v5 + (1 : Int32)) (v6 + (1 : Int32)))))) else some ((-12 : Int32), σ))))
theorem kX7_unpacks_L75 {l : Launch} {Y : zY} {fin : Int32 × zS} {p : Program} {e : Env} {s : State} {m : MethodId} {args : Array Value} {below : List Frame} {meth : Method} {c : Code} (O : z_ok ΛX Y p s m args c cX7_unpacks RX7 7) (hi : z_inj ΛX Y) (hr : meth.sig.returnType = (some .int)) (hlk : meth.locks = false) {a2 : Int32} {a3 : Int32} {q4 : Nat} (h4 : z_she q4) {k : zS → Int32 → Int32 → Option (Int32 × zS)} (hk : ∀ (w : zS) (z5 : Int32) (z6 : Int32), k w z5 z6 = some fin → z_G p l e (z_rm 3) s m args below meth c (MQ below (z_Qi ΛX Y fin) args s 0 0 (z_A ΛX Y)) ΛX Y 7 w [(0, .ref (z_ad Y 0)), (2, .int a2), (3, .int a3), (4, .ref (z_ad Y q4)), (5, .int z5), (6, .int z6)] 129 []) : ∀ (n : Nat) (σ : zS) (v5 : Int32) (v6 : Int32), fX7_unpacks_L75 a2 a3 q4 k n σ v5 v6 = some fin → z_G p l e (z_rm 3) s m args below meth c (MQ below (z_Qi ΛX Y fin) args s 0 0 (z_A ΛX Y)) ΛX Y 7 σ [(0, .ref (z_ad Y 0)), (2, .int a2), (3, .int a3), (4, .ref (z_ad Y q4)), (5, .int v5), (6, .int v6)] 75 [] := by
  intro n
  induction n with
  | zero =>
    intro _ _ _ h
    cases h
  | succ n ih =>
    intro σ v5 v6 h
    rw [fX7_unpacks_L75.eq_2] at h
    refine z_iload O dzX7_unpacks_75 5 rfl ?_
    refine z_iload_n O dzX7_unpacks_77 rfl 2 rfl ?_
    refine z_icmp_ge O dzX7_unpacks_78 (fun c3 => ?_) (fun c3 => ?_)
    · have h := z_if_t c3 h
      exact hk _ _ _ h
    · have h := z_if_f c3 h
      refine z_iload O dzX7_unpacks_81 5 rfl ?_
      refine z_iconst O dzX7_unpacks_83 hcI5 ?_
      obtain ⟨g1, h⟩ := z_gd_at h
      refine z_idiv O dzX7_unpacks_84 (z_nz_n g1) ?_
      refine z_aload O dzX7_unpacks_85 3 rfl ?_
      refine z_get O z_cb3 (fx_she h4) (v := .int (σ.1 q4 2)) 2 (Nat.le_of_ble_eq_true rfl) tw_142 rfl dzX7_unpacks_87 ?_
      refine z_icmp_lt O dzX7_unpacks_90 (fun c2 => ?_) (fun c2 => ?_)
      · have h := z_if_t c2 h
        refine z_aload_n O dzX7_unpacks_96 rfl 0 rfl ?_
        refine z_get O z_cb7 fx_obj (v := .ref (z_ad Y 1)) 0 (Nat.le_of_ble_eq_true rfl) tw_213 rfl dzX7_unpacks_97 ?_
        refine z_get O z_cb4 (fx_stk z_stk_1) (v := .ref (z_ad Y 5)) 1 (Nat.le_of_ble_eq_true rfl) tw_62 rfl dzX7_unpacks_100 ?_
        refine z_iload_n O dzX7_unpacks_103 rfl 1 rfl ?_
        obtain ⟨g2, h⟩ := z_gd_at h
        refine z_aald O fx_fms1 rfl rfl g2 dzX7_unpacks_104 ?_
        refine z_aload O dzX7_unpacks_105 3 rfl ?_
        refine z_iload O dzX7_unpacks_107 5 rfl ?_
        obtain ⟨r1, hc1, h⟩ := z_bd_at h
        refine z_callViR O (As := [.int v6]) (rest := [.ref (z_ad Y (7 + a2.toNatClampNeg))]) (kX3_packedAt hi h4 hc1) mX3_packedAt tw_713 (Nat.le_of_ble_eq_true rfl) (fx_she h4) rfl rfl rfl rfl (Nat.le_of_ble_eq_true rfl) dzX7_unpacks_109 ?_
        obtain ⟨r2, hc2, h⟩ := z_bd_at h
        refine z_callVi O (As := [.int r1]) (rest := []) (kX1_add hi (fx_fmi1 g2) hc2) mX1_add tw_287 (Nat.le_of_ble_eq_true rfl) (fx_fam (fx_fmi1 g2)) rfl rfl rfl rfl (Nat.le_of_ble_eq_true rfl) dzX7_unpacks_112 ?_
        refine z_bipush O dzX7_unpacks_115 hcBm4 ?_
        refine z_icmp_eq O dzX7_unpacks_117 (fun c1 => ?_) (fun c1 => ?_)
        · have h := z_if_t c1 h
          refine z_iinc O (lv' := [(6, .int (v6 + (1 : Int32))), (0, .ref (z_ad Y 0)), (2, .int a2), (3, .int a3), (4, .ref (z_ad Y q4)), (5, .int v5)]) dzX7_unpacks_123 5 rfl (congrArg _ hcI1) (by decide) rfl ?_
          refine z_goto O dzX7_unpacks_126 ?_
          refine z_sub [1, 2, 3, 4, 5, 0] rfl ?_
          exact ih _ _ _ h
        · have h := z_if_f c1 h
          refine z_iinc O (lv' := [(5, .int (v5 + (1 : Int32))), (0, .ref (z_ad Y 0)), (2, .int a2), (3, .int a3), (4, .ref (z_ad Y q4)), (6, .int v6)]) dzX7_unpacks_120 4 rfl (congrArg _ hcI1) (by decide) rfl ?_
          refine z_iinc O (lv' := [(6, .int (v6 + (1 : Int32))), (5, .int (v5 + (1 : Int32))), (0, .ref (z_ad Y 0)), (2, .int a2), (3, .int a3), (4, .ref (z_ad Y q4))]) dzX7_unpacks_123 5 rfl (congrArg _ hcI1) (by decide) rfl ?_
          refine z_goto O dzX7_unpacks_126 ?_
          refine z_sub [2, 3, 4, 5, 1, 0] rfl ?_
          exact ih _ _ _ h
      · have h := z_if_f c2 h
        refine z_bipush O dzX7_unpacks_93 hcBm12 ?_
        exact z_iret O hr hlk dzX7_unpacks_95 h
def fX7_unpacks (σ : zS) (a1 : Int32) (a2 : Int32) (a3 : Int32) : Option (Int32 × zS) :=
  (fX7_isNoSheet a1).bind (fun r1 => (if r1 = 0 then (fX7_isNoFamily a2).bind (fun r2 => (if r2 = 0 then (if a3 < 0 then some ((-2 : Int32), σ) else (if a3 ≤ (200 : Int32) then z_gd (z_in a1 4) ((if (σ.1 (64 + a1.toNatClampNeg) 1) = (1 : Int32) then (fX0_forgetAll σ).bind (fun r3 => fX7_unpacks_L75 a2 a3 (64 + a1.toNatClampNeg) (fun (w1 : zS) (x1 : Int32) (x2 : Int32) => some (x1, w1)) z_F r3 (0 : Int32) (0 : Int32)) else (if (σ.1 (64 + a1.toNatClampNeg) 1) = (-1 : Int32) then some ((-11 : Int32), σ) else some ((-13 : Int32), σ)))) else some ((-2 : Int32), σ))) else some ((-2 : Int32), σ))) else some ((-2 : Int32), σ)))
theorem kX7_unpacks {l : Launch} {Y : zY} (hi : z_inj ΛX Y) {σ : zS} {a1 : Int32} {a2 : Int32} {a3 : Int32} {fin : Int32 × zS} (h : fX7_unpacks σ a1 a2 a3 = some fin) : Met l yX7_unpacks (Cond.code yX7_unpacks cX7_unpacks 7 (some .int) :: z_TB) (z_rm 3) (z_Pc ΛX Y σ [.ref (z_ad Y 0), .int a1, .int a2, .int a3]) (z_Qi ΛX Y fin) 0 0 (z_A ΛX Y) := by
  unfold fX7_unpacks at h
  refine z_met [(0, .ref (z_ad Y 0)), (1, .int a1), (2, .int a2), (3, .int a3)] rfl (Nat.le_of_ble_eq_true rfl) (plainFor_of_name (by decide)) hi ?_
  intro p e s m args below meth c O hr hlk
  refine z_iload_n O dzX7_unpacks_0 rfl 1 rfl ?_
  obtain ⟨r1, hc1, h⟩ := z_bd_at h
  refine z_callSiR O (As := [.int a1]) (rest := []) (kX7_isNoSheet hi hc1) mX7_isNoSheet tw_678 (Nat.le_of_ble_eq_true rfl) rfl rfl (Nat.le_of_ble_eq_true rfl) dzX7_unpacks_1 ?_
  refine z_if_ne O dzX7_unpacks_4 (fun c6 => ?_) (fun c6 => ?_)
  · have h := z_if_f c6 h
    refine z_bipush O dzX7_unpacks_25 hcBm2 ?_
    exact z_iret O hr hlk dzX7_unpacks_27 h
  · have h := z_if_t c6 h
    refine z_iload_n O dzX7_unpacks_7 rfl 2 rfl ?_
    obtain ⟨r2, hc2, h⟩ := z_bd_at h
    refine z_callSiR O (As := [.int a2]) (rest := []) (kX7_isNoFamily hi hc2) mX7_isNoFamily tw_273 (Nat.le_of_ble_eq_true rfl) rfl rfl (Nat.le_of_ble_eq_true rfl) dzX7_unpacks_8 ?_
    refine z_if_ne O dzX7_unpacks_11 (fun c5 => ?_) (fun c5 => ?_)
    · have h := z_if_f c5 h
      refine z_bipush O dzX7_unpacks_25 hcBm2 ?_
      exact z_iret O hr hlk dzX7_unpacks_27 h
    · have h := z_if_t c5 h
      refine z_iload_n O dzX7_unpacks_14 rfl 3 rfl ?_
      refine z_if_lt O dzX7_unpacks_15 (fun c4 => ?_) (fun c4 => ?_)
      · have h := z_if_t c4 h
        refine z_bipush O dzX7_unpacks_25 hcBm2 ?_
        exact z_iret O hr hlk dzX7_unpacks_27 h
      · have h := z_if_f c4 h
        refine z_iload_n O dzX7_unpacks_18 rfl 3 rfl ?_
        refine z_sipush O dzX7_unpacks_19 hcS200 ?_
        refine z_icmp_le O dzX7_unpacks_22 (fun c3 => ?_) (fun c3 => ?_)
        · have h := z_if_t c3 h
          refine z_aload_n O dzX7_unpacks_28 rfl 0 rfl ?_
          refine z_get O z_cb7 fx_obj (v := .ref (z_ad Y 63)) 5 (Nat.le_of_ble_eq_true rfl) tw_218 rfl dzX7_unpacks_29 ?_
          refine z_iload_n O dzX7_unpacks_32 rfl 1 rfl ?_
          obtain ⟨g1, h⟩ := z_gd_at h
          refine z_aald O fx_shs rfl rfl g1 dzX7_unpacks_33 ?_
          refine z_astore O (lv' := [(4, .ref (z_ad Y (64 + a1.toNatClampNeg))), (0, .ref (z_ad Y 0)), (1, .int a1), (2, .int a2), (3, .int a3)]) dzX7_unpacks_34 (by decide) rfl ?_
          refine z_aload O dzX7_unpacks_36 0 rfl ?_
          refine z_get O z_cb3 (fx_she (fx_shi g1)) (v := .int (σ.1 (64 + a1.toNatClampNeg) 1)) 1 (Nat.le_of_ble_eq_true rfl) tw_140 rfl dzX7_unpacks_38 ?_
          refine z_iconst O dzX7_unpacks_41 hcI1 ?_
          refine z_icmp_eq O dzX7_unpacks_42 (fun c2 => ?_) (fun c2 => ?_)
          · have h := z_if_t c2 h
            refine z_aload_n O dzX7_unpacks_62 rfl 1 rfl ?_
            refine z_get O z_cb7 fx_obj (v := .ref (z_ad Y 59)) 4 (Nat.le_of_ble_eq_true rfl) tw_217 rfl dzX7_unpacks_63 ?_
            obtain ⟨r3, hc3, h⟩ := z_bd_at h
            refine z_callVv O (As := []) (rest := []) (kX0_forgetAll hi hc3) mX0_forgetAll tw_330 (Nat.le_of_ble_eq_true rfl) fx_act rfl rfl rfl rfl (Nat.le_of_ble_eq_true rfl) dzX7_unpacks_66 ?_
            refine z_iconst O dzX7_unpacks_69 hcI0 ?_
            refine z_istore O (lv' := [(5, .int (0 : Int32)), (4, .ref (z_ad Y (64 + a1.toNatClampNeg))), (0, .ref (z_ad Y 0)), (1, .int a1), (2, .int a2), (3, .int a3)]) dzX7_unpacks_70 (by decide) rfl ?_
            refine z_iconst O dzX7_unpacks_72 hcI0 ?_
            refine z_istore O (lv' := [(6, .int (0 : Int32)), (5, .int (0 : Int32)), (4, .ref (z_ad Y (64 + a1.toNatClampNeg))), (0, .ref (z_ad Y 0)), (1, .int a1), (2, .int a2), (3, .int a3)]) dzX7_unpacks_73 (by decide) rfl ?_
            refine z_sub [3, 5, 6, 2, 1, 0] rfl ?_
            refine kX7_unpacks_L75 O hi hr hlk (h4 := (fx_shi g1))  (fun w1 x1 x2 h => ?_) _ _ _ _ h
            refine z_iload O dzX7_unpacks_129 4 rfl ?_
            exact z_iret O hr hlk dzX7_unpacks_131 h
          · have h := z_if_f c2 h
            refine z_aload O dzX7_unpacks_45 0 rfl ?_
            refine z_get O z_cb3 (fx_she (fx_shi g1)) (v := .int (σ.1 (64 + a1.toNatClampNeg) 1)) 1 (Nat.le_of_ble_eq_true rfl) tw_140 rfl dzX7_unpacks_47 ?_
            refine z_iconst O dzX7_unpacks_50 hcIm1 ?_
            refine z_icmp_ne O dzX7_unpacks_51 (fun c1 => ?_) (fun c1 => ?_)
            · have h := z_if_f c1 h
              refine z_bipush O dzX7_unpacks_59 hcBm13 ?_
              exact z_iret O hr hlk dzX7_unpacks_61 h
            · have h := z_if_t c1 h
              refine z_bipush O dzX7_unpacks_54 hcBm11 ?_
              refine z_goto O dzX7_unpacks_56 ?_
              exact z_iret O hr hlk dzX7_unpacks_61 h
        · have h := z_if_f c3 h
          refine z_bipush O dzX7_unpacks_25 hcBm2 ?_
          exact z_iret O hr hlk dzX7_unpacks_27 h
def fX7_verdict (σ : zS) (a1 : Int32) (a2 : Int32) (a3 : Int32) : Option (Int32 × zS) :=
  (fX7_isNoFamily a1).bind (fun r1 => (if r1 = 0 then (fX7_isNoFamily a2).bind (fun r2 => (if r2 = 0 then (if a3 < 0 then some ((-2 : Int32), σ) else (if a3 ≤ (1 : Int32) then z_gd (z_in a1 4) ((fX7_findDual σ (7 + a1.toNatClampNeg)).bind (fun r3 => z_gd (z_in a2 4) ((fX1_firstOutside r3 (7 + a2.toNatClampNeg) 87).bind (fun r4 => z_jn (fun (x1 : Int32) (x2 : Int32) => (if x1 = (-1 : Int32) then (fX7_firstNotHeld r3 88 (7 + a2.toNatClampNeg)).bind (fun r5 => (if a3 = (1 : Int32) then some (r5, r3) else (if r5 = (-1 : Int32) then some ((0 : Int32), r3) else some ((3 : Int32), r3)))) else (if a3 = (1 : Int32) then some (x1, r3) else (if x1 = (-1 : Int32) then some ((0 : Int32), r3) else some (x2, r3))))) (fun j1 => (if r4 = (-1 : Int32) then (fX1_firstOutside r3 (7 + a2.toNatClampNeg) 88).bind (fun r6 => j1 r6 (2 : Int32)) else j1 r4 (1 : Int32))))))) else some ((-2 : Int32), σ))) else some ((-2 : Int32), σ))) else some ((-2 : Int32), σ)))
theorem kX7_verdict {l : Launch} {Y : zY} (hi : z_inj ΛX Y) {σ : zS} {a1 : Int32} {a2 : Int32} {a3 : Int32} {fin : Int32 × zS} (h : fX7_verdict σ a1 a2 a3 = some fin) : Met l yX7_verdict (Cond.code yX7_verdict cX7_verdict 7 (some .int) :: z_TB) (z_rm 5) (z_Pc ΛX Y σ [.ref (z_ad Y 0), .int a1, .int a2, .int a3]) (z_Qi ΛX Y fin) 0 0 (z_A ΛX Y) := by
  unfold fX7_verdict at h
  refine z_met [(0, .ref (z_ad Y 0)), (1, .int a1), (2, .int a2), (3, .int a3)] rfl (Nat.le_of_ble_eq_true rfl) (plainFor_of_name (by decide)) hi ?_
  intro p e s m args below meth c O hr hlk
  refine z_iload_n O dzX7_verdict_0 rfl 1 rfl ?_
  obtain ⟨r1, hc1, h⟩ := z_bd_at h
  refine z_callSiR O (As := [.int a1]) (rest := []) (kX7_isNoFamily hi hc1) mX7_isNoFamily tw_273 (Nat.le_of_ble_eq_true rfl) rfl rfl (Nat.le_of_ble_eq_true rfl) dzX7_verdict_1 ?_
  refine z_if_ne O dzX7_verdict_4 (fun c10 => ?_) (fun c10 => ?_)
  · have h := z_if_f c10 h
    refine z_bipush O dzX7_verdict_23 hcBm2 ?_
    exact z_iret O hr hlk dzX7_verdict_25 h
  · have h := z_if_t c10 h
    refine z_iload_n O dzX7_verdict_7 rfl 2 rfl ?_
    obtain ⟨r2, hc2, h⟩ := z_bd_at h
    refine z_callSiR O (As := [.int a2]) (rest := []) (kX7_isNoFamily hi hc2) mX7_isNoFamily tw_273 (Nat.le_of_ble_eq_true rfl) rfl rfl (Nat.le_of_ble_eq_true rfl) dzX7_verdict_8 ?_
    refine z_if_ne O dzX7_verdict_11 (fun c9 => ?_) (fun c9 => ?_)
    · have h := z_if_f c9 h
      refine z_bipush O dzX7_verdict_23 hcBm2 ?_
      exact z_iret O hr hlk dzX7_verdict_25 h
    · have h := z_if_t c9 h
      refine z_iload_n O dzX7_verdict_14 rfl 3 rfl ?_
      refine z_if_lt O dzX7_verdict_15 (fun c8 => ?_) (fun c8 => ?_)
      · have h := z_if_t c8 h
        refine z_bipush O dzX7_verdict_23 hcBm2 ?_
        exact z_iret O hr hlk dzX7_verdict_25 h
      · have h := z_if_f c8 h
        refine z_iload_n O dzX7_verdict_18 rfl 3 rfl ?_
        refine z_iconst O dzX7_verdict_19 hcI1 ?_
        refine z_icmp_le O dzX7_verdict_20 (fun c7 => ?_) (fun c7 => ?_)
        · have h := z_if_t c7 h
          refine z_aload_n O dzX7_verdict_26 rfl 0 rfl ?_
          refine z_aload_n O dzX7_verdict_27 rfl 0 rfl ?_
          refine z_get O z_cb7 fx_obj (v := .ref (z_ad Y 1)) 0 (Nat.le_of_ble_eq_true rfl) tw_213 rfl dzX7_verdict_28 ?_
          refine z_get O z_cb4 (fx_stk z_stk_1) (v := .ref (z_ad Y 5)) 1 (Nat.le_of_ble_eq_true rfl) tw_62 rfl dzX7_verdict_31 ?_
          refine z_iload_n O dzX7_verdict_34 rfl 1 rfl ?_
          obtain ⟨g1, h⟩ := z_gd_at h
          refine z_aald O fx_fms1 rfl rfl g1 dzX7_verdict_35 ?_
          obtain ⟨r3, hc3, h⟩ := z_bd_at h
          refine z_callVv O (As := [.ref (z_ad Y (7 + a1.toNatClampNeg))]) (rest := []) (kX7_findDual hi (fx_fmi1 g1) hc3) mX7_findDual tw_422 (Nat.le_of_ble_eq_true rfl) fx_obj rfl rfl rfl rfl (Nat.le_of_ble_eq_true rfl) dzX7_verdict_36 ?_
          refine z_aload_n O dzX7_verdict_39 rfl 0 rfl ?_
          refine z_get O z_cb7 fx_obj (v := .ref (z_ad Y 1)) 0 (Nat.le_of_ble_eq_true rfl) tw_213 rfl dzX7_verdict_40 ?_
          refine z_get O z_cb4 (fx_stk z_stk_1) (v := .ref (z_ad Y 5)) 1 (Nat.le_of_ble_eq_true rfl) tw_62 rfl dzX7_verdict_43 ?_
          refine z_iload_n O dzX7_verdict_46 rfl 2 rfl ?_
          obtain ⟨g2, h⟩ := z_gd_at h
          refine z_aald O fx_fms1 rfl rfl g2 dzX7_verdict_47 ?_
          refine z_astore O (lv' := [(4, .ref (z_ad Y (7 + a2.toNatClampNeg))), (0, .ref (z_ad Y 0)), (1, .int a1), (2, .int a2), (3, .int a3)]) dzX7_verdict_48 (by decide) rfl ?_
          refine z_iconst O dzX7_verdict_50 hcI1 ?_
          refine z_istore O (lv' := [(5, .int (1 : Int32)), (4, .ref (z_ad Y (7 + a2.toNatClampNeg))), (0, .ref (z_ad Y 0)), (1, .int a1), (2, .int a2), (3, .int a3)]) dzX7_verdict_51 (by decide) rfl ?_
          refine z_aload O dzX7_verdict_53 1 rfl ?_
          refine z_aload_n O dzX7_verdict_55 rfl 2 rfl ?_
          refine z_get O z_cb7 fx_obj (v := .ref (z_ad Y 87)) 8 (Nat.le_of_ble_eq_true rfl) tw_221 rfl dzX7_verdict_56 ?_
          obtain ⟨r4, hc4, h⟩ := z_bd_at h
          refine z_callViR O (As := [.ref (z_ad Y 87)]) (rest := []) (kX1_firstOutside hi (fx_fmi1 g2) z_tab_87 hc4) mX1_firstOutside tw_503 (Nat.le_of_ble_eq_true rfl) (fx_fam (fx_fmi1 g2)) rfl rfl rfl rfl (Nat.le_of_ble_eq_true rfl) dzX7_verdict_59 ?_
          refine z_istore O (lv' := [(6, .int r4), (5, .int (1 : Int32)), (4, .ref (z_ad Y (7 + a2.toNatClampNeg))), (0, .ref (z_ad Y 0)), (1, .int a1), (2, .int a2), (3, .int a3)]) dzX7_verdict_62 (by decide) rfl ?_
          refine z_iload O dzX7_verdict_64 0 rfl ?_
          refine z_iconst O dzX7_verdict_66 hcIm1 ?_
          refine z_jn_at (P := fun j1 => ∀ (x1 : Int32) (x2 : Int32), j1 x1 x2 = some fin → z_G p l e (z_rm 5) s m args below meth c (MQ below (z_Qi ΛX Y fin) args s 0 0 (z_A ΛX Y)) ΛX Y 7 r3 [(6, .int x1), (5, .int x2), (4, .ref (z_ad Y (7 + a2.toNatClampNeg))), (0, .ref (z_ad Y 0)), (3, .int a3)] 84 []) h ?_ (fun j1 J1 h => ?_)
          · intro x1 x2 h
            refine z_iload O dzX7_verdict_84 0 rfl ?_
            refine z_iconst O dzX7_verdict_86 hcIm1 ?_
            refine z_icmp_ne O dzX7_verdict_87 (fun c5 => ?_) (fun c5 => ?_)
            · have h := z_if_f c5 h
              refine z_iload_n O dzX7_verdict_104 rfl 4 rfl ?_
              refine z_iconst O dzX7_verdict_105 hcI1 ?_
              refine z_icmp_ne O dzX7_verdict_106 (fun c2 => ?_) (fun c2 => ?_)
              · have h := z_if_f c2 h
                refine z_iload O dzX7_verdict_112 0 rfl ?_
                refine z_iconst O dzX7_verdict_114 hcIm1 ?_
                refine z_icmp_ne O dzX7_verdict_115 (fun c1 => ?_) (fun c1 => ?_)
                · have h := z_if_f c1 h
                  refine z_iload O dzX7_verdict_122 1 rfl ?_
                  exact z_iret O hr hlk dzX7_verdict_124 h
                · have h := z_if_t c1 h
                  refine z_iconst O dzX7_verdict_118 hcI0 ?_
                  refine z_goto O dzX7_verdict_119 ?_
                  exact z_iret O hr hlk dzX7_verdict_124 h
              · have h := z_if_t c2 h
                refine z_iload O dzX7_verdict_109 0 rfl ?_
                exact z_iret O hr hlk dzX7_verdict_111 h
            · have h := z_if_t c5 h
              refine z_iconst O dzX7_verdict_90 hcI3 ?_
              refine z_istore O (lv' := [(5, .int (3 : Int32)), (6, .int x1), (4, .ref (z_ad Y (7 + a2.toNatClampNeg))), (0, .ref (z_ad Y 0)), (3, .int a3)]) dzX7_verdict_91 (by decide) rfl ?_
              refine z_aload_n O dzX7_verdict_93 rfl 3 rfl ?_
              refine z_get O z_cb7 fx_obj (v := .ref (z_ad Y 88)) 9 (Nat.le_of_ble_eq_true rfl) tw_222 rfl dzX7_verdict_94 ?_
              refine z_aload O dzX7_verdict_97 2 rfl ?_
              obtain ⟨r5, hc5, h⟩ := z_bd_at h
              refine z_callSiR O (As := [.ref (z_ad Y 88), .ref (z_ad Y (7 + a2.toNatClampNeg))]) (rest := []) (kX7_firstNotHeld hi z_tab_88 (fx_fmi1 g2) hc5) mX7_firstNotHeld tw_508 (Nat.le_of_ble_eq_true rfl) rfl rfl (Nat.le_of_ble_eq_true rfl) dzX7_verdict_99 ?_
              refine z_istore O (lv' := [(6, .int r5), (5, .int (3 : Int32)), (4, .ref (z_ad Y (7 + a2.toNatClampNeg))), (0, .ref (z_ad Y 0)), (3, .int a3)]) dzX7_verdict_102 (by decide) rfl ?_
              refine z_iload_n O dzX7_verdict_104 rfl 4 rfl ?_
              refine z_iconst O dzX7_verdict_105 hcI1 ?_
              refine z_icmp_ne O dzX7_verdict_106 (fun c4 => ?_) (fun c4 => ?_)
              · have h := z_if_f c4 h
                refine z_iload O dzX7_verdict_112 0 rfl ?_
                refine z_iconst O dzX7_verdict_114 hcIm1 ?_
                refine z_icmp_ne O dzX7_verdict_115 (fun c3 => ?_) (fun c3 => ?_)
                · have h := z_if_f c3 h
                  refine z_iload O dzX7_verdict_122 1 rfl ?_
                  exact z_iret O hr hlk dzX7_verdict_124 h
                · have h := z_if_t c3 h
                  refine z_iconst O dzX7_verdict_118 hcI0 ?_
                  refine z_goto O dzX7_verdict_119 ?_
                  exact z_iret O hr hlk dzX7_verdict_124 h
              · have h := z_if_t c4 h
                refine z_iload O dzX7_verdict_109 0 rfl ?_
                exact z_iret O hr hlk dzX7_verdict_111 h
          · refine z_icmp_ne O dzX7_verdict_67 (fun c6 => ?_) (fun c6 => ?_)
            · have h := z_if_f c6 h
              refine z_sub [0, 1, 2, 3, 6] rfl ?_
              exact J1 r4 (1 : Int32) h
            · have h := z_if_t c6 h
              refine z_iconst O dzX7_verdict_70 hcI2 ?_
              refine z_istore O (lv' := [(5, .int (2 : Int32)), (6, .int r4), (4, .ref (z_ad Y (7 + a2.toNatClampNeg))), (0, .ref (z_ad Y 0)), (1, .int a1), (2, .int a2), (3, .int a3)]) dzX7_verdict_71 (by decide) rfl ?_
              refine z_aload O dzX7_verdict_73 2 rfl ?_
              refine z_aload_n O dzX7_verdict_75 rfl 3 rfl ?_
              refine z_get O z_cb7 fx_obj (v := .ref (z_ad Y 88)) 9 (Nat.le_of_ble_eq_true rfl) tw_222 rfl dzX7_verdict_76 ?_
              obtain ⟨r6, hc6, h⟩ := z_bd_at h
              refine z_callViR O (As := [.ref (z_ad Y 88)]) (rest := []) (kX1_firstOutside hi (fx_fmi1 g2) z_tab_88 hc6) mX1_firstOutside tw_503 (Nat.le_of_ble_eq_true rfl) (fx_fam (fx_fmi1 g2)) rfl rfl rfl rfl (Nat.le_of_ble_eq_true rfl) dzX7_verdict_79 ?_
              refine z_istore O (lv' := [(6, .int r6), (5, .int (2 : Int32)), (4, .ref (z_ad Y (7 + a2.toNatClampNeg))), (0, .ref (z_ad Y 0)), (1, .int a1), (2, .int a2), (3, .int a3)]) dzX7_verdict_82 (by decide) rfl ?_
              refine z_sub [0, 1, 2, 3, 6] rfl ?_
              exact J1 r6 (2 : Int32) h
        · have h := z_if_f c7 h
          refine z_bipush O dzX7_verdict_23 hcBm2 ?_
          exact z_iret O hr hlk dzX7_verdict_25 h
def fX7_wipe (σ : zS) (a1 : Int32) : Option (Int32 × zS) :=
  (fX7_isNoFamily a1).bind (fun r1 => (if r1 = 0 then z_gd (z_in a1 4) (z_lt (σ.1 (7 + a1.toNatClampNeg) 2) (fun (x1 : Int32) => z_gd (z_in a1 4) ((fX1_clear σ (7 + a1.toNatClampNeg)).bind (fun r2 => (fX0_forgetAll r2).bind (fun r3 => some (x1, r3)))))) else some ((-2 : Int32), σ)))
theorem kX7_wipe {l : Launch} {Y : zY} (hi : z_inj ΛX Y) {σ : zS} {a1 : Int32} {fin : Int32 × zS} (h : fX7_wipe σ a1 = some fin) : Met l yX7_wipe (Cond.code yX7_wipe cX7_wipe 3 (some .int) :: z_TB) (z_rm 2) (z_Pc ΛX Y σ [.ref (z_ad Y 0), .int a1]) (z_Qi ΛX Y fin) 0 0 (z_A ΛX Y) := by
  unfold fX7_wipe at h
  refine z_met [(0, .ref (z_ad Y 0)), (1, .int a1)] rfl (Nat.le_of_ble_eq_true rfl) (plainFor_of_name (by decide)) hi ?_
  intro p e s m args below meth c O hr hlk
  refine z_iload_n O dzX7_wipe_0 rfl 1 rfl ?_
  obtain ⟨r1, hc1, h⟩ := z_bd_at h
  refine z_callSiR O (As := [.int a1]) (rest := []) (kX7_isNoFamily hi hc1) mX7_isNoFamily tw_273 (Nat.le_of_ble_eq_true rfl) rfl rfl (Nat.le_of_ble_eq_true rfl) dzX7_wipe_1 ?_
  refine z_if_eq O dzX7_wipe_4 (fun c1 => ?_) (fun c1 => ?_)
  · have h := z_if_t c1 h
    refine z_aload_n O dzX7_wipe_10 rfl 0 rfl ?_
    refine z_get O z_cb7 fx_obj (v := .ref (z_ad Y 1)) 0 (Nat.le_of_ble_eq_true rfl) tw_213 rfl dzX7_wipe_11 ?_
    refine z_get O z_cb4 (fx_stk z_stk_1) (v := .ref (z_ad Y 5)) 1 (Nat.le_of_ble_eq_true rfl) tw_62 rfl dzX7_wipe_14 ?_
    refine z_iload_n O dzX7_wipe_17 rfl 1 rfl ?_
    obtain ⟨g1, h⟩ := z_gd_at h
    refine z_aald O fx_fms1 rfl rfl g1 dzX7_wipe_18 ?_
    refine z_get O z_cb1 (fx_fam (fx_fmi1 g1)) (v := .int (σ.1 (7 + a1.toNatClampNeg) 2)) 2 (Nat.le_of_ble_eq_true rfl) tw_50 rfl dzX7_wipe_19 ?_
    refine z_topi (fun x1 e1 => ?_)
    have h := z_lt_at e1 h
    refine z_istore_n O (lv' := [(2, .int x1), (0, .ref (z_ad Y 0)), (1, .int a1)]) dzX7_wipe_22 rfl (by decide) rfl ?_
    refine z_aload_n O dzX7_wipe_23 rfl 1 rfl ?_
    refine z_get O z_cb7 fx_obj (v := .ref (z_ad Y 1)) 0 (Nat.le_of_ble_eq_true rfl) tw_213 rfl dzX7_wipe_24 ?_
    refine z_get O z_cb4 (fx_stk z_stk_1) (v := .ref (z_ad Y 5)) 1 (Nat.le_of_ble_eq_true rfl) tw_62 rfl dzX7_wipe_27 ?_
    refine z_iload_n O dzX7_wipe_30 rfl 2 rfl ?_
    obtain ⟨g2, h⟩ := z_gd_at h
    refine z_aald O fx_fms1 rfl rfl g2 dzX7_wipe_31 ?_
    obtain ⟨r2, hc2, h⟩ := z_bd_at h
    refine z_callVv O (As := []) (rest := []) (kX1_clear hi (fx_fmi1 g2) hc2) mX1_clear tw_326 (Nat.le_of_ble_eq_true rfl) (fx_fam (fx_fmi1 g2)) rfl rfl rfl rfl (Nat.le_of_ble_eq_true rfl) dzX7_wipe_32 ?_
    refine z_aload_n O dzX7_wipe_35 rfl 1 rfl ?_
    refine z_get O z_cb7 fx_obj (v := .ref (z_ad Y 59)) 4 (Nat.le_of_ble_eq_true rfl) tw_217 rfl dzX7_wipe_36 ?_
    obtain ⟨r3, hc3, h⟩ := z_bd_at h
    refine z_callVv O (As := []) (rest := []) (kX0_forgetAll hi hc3) mX0_forgetAll tw_330 (Nat.le_of_ble_eq_true rfl) fx_act rfl rfl rfl rfl (Nat.le_of_ble_eq_true rfl) dzX7_wipe_39 ?_
    refine z_iload_n O dzX7_wipe_42 rfl 0 rfl ?_
    exact z_iret O hr hlk dzX7_wipe_43 h
  · have h := z_if_f c1 h
    refine z_bipush O dzX7_wipe_7 hcBm2 ?_
    exact z_iret O hr hlk dzX7_wipe_9 h
def fX7_worth (σ : zS) (a1 : Int32) (a2 : Int32) : Option (Int32 × zS) :=
  (fX7_isNoRule σ a1).bind (fun r1 => (if r1 = 0 then (fX7_isNoSet a2).bind (fun r2 => (if r2 = 0 then (fX7_tellsNow σ a1 a2).bind (fun r3 => some (r3.1, r3.2)) else some ((-2 : Int32), σ))) else some ((-2 : Int32), σ)))
theorem kX7_worth {l : Launch} {Y : zY} (hi : z_inj ΛX Y) {σ : zS} {a1 : Int32} {a2 : Int32} {fin : Int32 × zS} (h : fX7_worth σ a1 a2 = some fin) : Met l yX7_worth (Cond.code yX7_worth cX7_worth 3 (some .int) :: z_TB) (z_rm 36) (z_Pc ΛX Y σ [.ref (z_ad Y 0), .int a1, .int a2]) (z_Qi ΛX Y fin) 0 0 (z_A ΛX Y) := by
  unfold fX7_worth at h
  refine z_met [(0, .ref (z_ad Y 0)), (1, .int a1), (2, .int a2)] rfl (Nat.le_of_ble_eq_true rfl) (plainFor_of_name (by decide)) hi ?_
  intro p e s m args below meth c O hr hlk
  refine z_aload_n O dzX7_worth_0 rfl 0 rfl ?_
  refine z_iload_n O dzX7_worth_1 rfl 1 rfl ?_
  obtain ⟨r1, hc1, h⟩ := z_bd_at h
  refine z_callViR O (As := [.int a1]) (rest := []) (kX7_isNoRule hi hc1) mX7_isNoRule tw_614 (Nat.le_of_ble_eq_true rfl) fx_obj rfl rfl rfl rfl (Nat.le_of_ble_eq_true rfl) dzX7_worth_2 ?_
  refine z_if_ne O dzX7_worth_5 (fun c2 => ?_) (fun c2 => ?_)
  · have h := z_if_f c2 h
    refine z_bipush O dzX7_worth_15 hcBm2 ?_
    refine z_goto O dzX7_worth_17 ?_
    exact z_iret O hr hlk dzX7_worth_26 h
  · have h := z_if_t c2 h
    refine z_iload_n O dzX7_worth_8 rfl 2 rfl ?_
    obtain ⟨r2, hc2, h⟩ := z_bd_at h
    refine z_callSiR O (As := [.int a2]) (rest := []) (kX7_isNoSet hi hc2) mX7_isNoSet tw_276 (Nat.le_of_ble_eq_true rfl) rfl rfl (Nat.le_of_ble_eq_true rfl) dzX7_worth_9 ?_
    refine z_if_eq O dzX7_worth_12 (fun c1 => ?_) (fun c1 => ?_)
    · have h := z_if_t c1 h
      refine z_aload_n O dzX7_worth_20 rfl 0 rfl ?_
      refine z_iload_n O dzX7_worth_21 rfl 1 rfl ?_
      refine z_iload_n O dzX7_worth_22 rfl 2 rfl ?_
      obtain ⟨r3, hc3, h⟩ := z_bd_at h
      refine z_callVi O (As := [.int a1, .int a2]) (rest := []) (kX7_tellsNow hi hc3) mX7_tellsNow tw_630 (Nat.le_of_ble_eq_true rfl) fx_obj rfl rfl rfl rfl (Nat.le_of_ble_eq_true rfl) dzX7_worth_23 ?_
      exact z_iret O hr hlk dzX7_worth_26 h
    · have h := z_if_f c1 h
      refine z_bipush O dzX7_worth_15 hcBm2 ?_
      refine z_goto O dzX7_worth_17 ?_
      exact z_iret O hr hlk dzX7_worth_26 h
