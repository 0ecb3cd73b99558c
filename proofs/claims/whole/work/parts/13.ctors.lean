theorem dzX1_init_0 : z_d cX1_init 0 (.aload_n 0) 1 1 := ⟨by decide +kernel, rfl⟩
theorem dzX1_init_1 : z_d cX1_init 1 (.invokespecial 3) 3 4 := ⟨by decide +kernel, rfl⟩
theorem dzX1_init_4 : z_d cX1_init 4 (.aload_n 0) 1 5 := ⟨by decide +kernel, rfl⟩
theorem dzX1_init_5 : z_d cX1_init 5 (.bipush 40) 2 7 := ⟨by decide +kernel, rfl⟩
theorem dzX1_init_7 : z_d cX1_init 7 (.newarray .int) 2 9 := ⟨by decide +kernel, rfl⟩
theorem dzX1_init_9 : z_d cX1_init 9 (.putfield 9) 3 12 := ⟨by decide +kernel, rfl⟩
theorem dzX1_init_12 : z_d cX1_init 12 (.aload_n 0) 1 13 := ⟨by decide +kernel, rfl⟩
theorem dzX1_init_13 : z_d cX1_init 13 (.bipush 40) 2 15 := ⟨by decide +kernel, rfl⟩
theorem dzX1_init_15 : z_d cX1_init 15 (.newarray .int) 2 17 := ⟨by decide +kernel, rfl⟩
theorem dzX1_init_17 : z_d cX1_init 17 (.putfield 15) 3 20 := ⟨by decide +kernel, rfl⟩
theorem dzX1_init_20 : z_d cX1_init 20 (.aload_n 0) 1 21 := ⟨by decide +kernel, rfl⟩
theorem dzX1_init_21 : z_d cX1_init 21 (.iconst 0) 1 22 := ⟨by decide +kernel, rfl⟩
theorem dzX1_init_22 : z_d cX1_init 22 (.putfield 18) 3 25 := ⟨by decide +kernel, rfl⟩
theorem dzX1_init_25 : z_d cX1_init 25 (.return_) 1 26 := ⟨by decide +kernel, rfl⟩
theorem dzX2_init_0 : z_d cX2_init 0 (.aload_n 0) 1 1 := ⟨by decide +kernel, rfl⟩
theorem dzX2_init_1 : z_d cX2_init 1 (.invokespecial 3) 3 4 := ⟨by decide +kernel, rfl⟩
theorem dzX2_init_4 : z_d cX2_init 4 (.aload_n 0) 1 5 := ⟨by decide +kernel, rfl⟩
theorem dzX2_init_5 : z_d cX2_init 5 (.iload_n 1) 1 6 := ⟨by decide +kernel, rfl⟩
theorem dzX2_init_6 : z_d cX2_init 6 (.putfield 9) 3 9 := ⟨by decide +kernel, rfl⟩
theorem dzX2_init_9 : z_d cX2_init 9 (.aload_n 0) 1 10 := ⟨by decide +kernel, rfl⟩
theorem dzX2_init_10 : z_d cX2_init 10 (.bipush 12) 2 12 := ⟨by decide +kernel, rfl⟩
theorem dzX2_init_12 : z_d cX2_init 12 (.newarray .int) 2 14 := ⟨by decide +kernel, rfl⟩
theorem dzX2_init_14 : z_d cX2_init 14 (.putfield 15) 3 17 := ⟨by decide +kernel, rfl⟩
theorem dzX2_init_17 : z_d cX2_init 17 (.aload_n 0) 1 18 := ⟨by decide +kernel, rfl⟩
theorem dzX2_init_18 : z_d cX2_init 18 (.iconst (-1)) 1 19 := ⟨by decide +kernel, rfl⟩
theorem dzX2_init_19 : z_d cX2_init 19 (.putfield 19) 3 22 := ⟨by decide +kernel, rfl⟩
theorem dzX2_init_22 : z_d cX2_init 22 (.return_) 1 23 := ⟨by decide +kernel, rfl⟩
theorem dzX0_init_0 : z_d cX0_init 0 (.aload_n 0) 1 1 := ⟨by decide +kernel, rfl⟩
theorem dzX0_init_1 : z_d cX0_init 1 (.invokespecial 3) 3 4 := ⟨by decide +kernel, rfl⟩
theorem dzX0_init_4 : z_d cX0_init 4 (.aload_n 0) 1 5 := ⟨by decide +kernel, rfl⟩
theorem dzX0_init_5 : z_d cX0_init 5 (.bipush 20) 2 7 := ⟨by decide +kernel, rfl⟩
theorem dzX0_init_7 : z_d cX0_init 7 (.newarray .int) 2 9 := ⟨by decide +kernel, rfl⟩
theorem dzX0_init_9 : z_d cX0_init 9 (.putfield 9) 3 12 := ⟨by decide +kernel, rfl⟩
theorem dzX0_init_12 : z_d cX0_init 12 (.aload_n 0) 1 13 := ⟨by decide +kernel, rfl⟩
theorem dzX0_init_13 : z_d cX0_init 13 (.bipush 20) 2 15 := ⟨by decide +kernel, rfl⟩
theorem dzX0_init_15 : z_d cX0_init 15 (.newarray .int) 2 17 := ⟨by decide +kernel, rfl⟩
theorem dzX0_init_17 : z_d cX0_init 17 (.putfield 15) 3 20 := ⟨by decide +kernel, rfl⟩
theorem dzX0_init_20 : z_d cX0_init 20 (.aload_n 0) 1 21 := ⟨by decide +kernel, rfl⟩
theorem dzX0_init_21 : z_d cX0_init 21 (.bipush 20) 2 23 := ⟨by decide +kernel, rfl⟩
theorem dzX0_init_23 : z_d cX0_init 23 (.newarray .int) 2 25 := ⟨by decide +kernel, rfl⟩
theorem dzX0_init_25 : z_d cX0_init 25 (.putfield 18) 3 28 := ⟨by decide +kernel, rfl⟩
theorem dzX0_init_28 : z_d cX0_init 28 (.aload_n 0) 1 29 := ⟨by decide +kernel, rfl⟩
theorem dzX0_init_29 : z_d cX0_init 29 (.iconst 0) 1 30 := ⟨by decide +kernel, rfl⟩
theorem dzX0_init_30 : z_d cX0_init 30 (.putfield 21) 3 33 := ⟨by decide +kernel, rfl⟩
theorem dzX0_init_33 : z_d cX0_init 33 (.return_) 1 34 := ⟨by decide +kernel, rfl⟩
theorem dzX3_init_0 : z_d cX3_init 0 (.aload_n 0) 1 1 := ⟨by decide +kernel, rfl⟩
theorem dzX3_init_1 : z_d cX3_init 1 (.invokespecial 3) 3 4 := ⟨by decide +kernel, rfl⟩
theorem dzX3_init_4 : z_d cX3_init 4 (.aload_n 0) 1 5 := ⟨by decide +kernel, rfl⟩
theorem dzX3_init_5 : z_d cX3_init 5 (.bipush 40) 2 7 := ⟨by decide +kernel, rfl⟩
theorem dzX3_init_7 : z_d cX3_init 7 (.newarray .long) 2 9 := ⟨by decide +kernel, rfl⟩
theorem dzX3_init_9 : z_d cX3_init 9 (.putfield 9) 3 12 := ⟨by decide +kernel, rfl⟩
theorem dzX3_init_12 : z_d cX3_init 12 (.aload_n 0) 1 13 := ⟨by decide +kernel, rfl⟩
theorem dzX3_init_13 : z_d cX3_init 13 (.iconst (-1)) 1 14 := ⟨by decide +kernel, rfl⟩
theorem dzX3_init_14 : z_d cX3_init 14 (.putfield 15) 3 17 := ⟨by decide +kernel, rfl⟩
theorem dzX3_init_17 : z_d cX3_init 17 (.aload_n 0) 1 18 := ⟨by decide +kernel, rfl⟩
theorem dzX3_init_18 : z_d cX3_init 18 (.iconst 0) 1 19 := ⟨by decide +kernel, rfl⟩
theorem dzX3_init_19 : z_d cX3_init 19 (.putfield 19) 3 22 := ⟨by decide +kernel, rfl⟩
theorem dzX3_init_22 : z_d cX3_init 22 (.return_) 1 23 := ⟨by decide +kernel, rfl⟩
theorem dzX5_init_0 : z_d cX5_init 0 (.aload_n 0) 1 1 := ⟨by decide +kernel, rfl⟩
theorem dzX5_init_1 : z_d cX5_init 1 (.invokespecial 3) 3 4 := ⟨by decide +kernel, rfl⟩
theorem dzX5_init_4 : z_d cX5_init 4 (.aload_n 0) 1 5 := ⟨by decide +kernel, rfl⟩
theorem dzX5_init_5 : z_d cX5_init 5 (.bipush 64) 2 7 := ⟨by decide +kernel, rfl⟩
theorem dzX5_init_7 : z_d cX5_init 7 (.newarray .long) 2 9 := ⟨by decide +kernel, rfl⟩
theorem dzX5_init_9 : z_d cX5_init 9 (.putfield 11) 3 12 := ⟨by decide +kernel, rfl⟩
theorem dzX5_init_12 : z_d cX5_init 12 (.aload_n 0) 1 13 := ⟨by decide +kernel, rfl⟩
theorem dzX5_init_13 : z_d cX5_init 13 (.bipush 64) 2 15 := ⟨by decide +kernel, rfl⟩
theorem dzX5_init_15 : z_d cX5_init 15 (.newarray .int) 2 17 := ⟨by decide +kernel, rfl⟩
theorem dzX5_init_17 : z_d cX5_init 17 (.putfield 15) 3 20 := ⟨by decide +kernel, rfl⟩
theorem dzX5_init_20 : z_d cX5_init 20 (.return_) 1 21 := ⟨by decide +kernel, rfl⟩
theorem dzX4_init_0 : z_d cX4_init 0 (.aload_n 0) 1 1 := ⟨by decide +kernel, rfl⟩
theorem dzX4_init_1 : z_d cX4_init 1 (.invokespecial 3) 3 4 := ⟨by decide +kernel, rfl⟩
theorem dzX4_init_4 : z_d cX4_init 4 (.aload_n 0) 1 5 := ⟨by decide +kernel, rfl⟩
theorem dzX4_init_5 : z_d cX4_init 5 (.bipush 12) 2 7 := ⟨by decide +kernel, rfl⟩
theorem dzX4_init_7 : z_d cX4_init 7 (.newarray .int) 2 9 := ⟨by decide +kernel, rfl⟩
theorem dzX4_init_9 : z_d cX4_init 9 (.putfield 9) 3 12 := ⟨by decide +kernel, rfl⟩
theorem dzX4_init_12 : z_d cX4_init 12 (.aload_n 0) 1 13 := ⟨by decide +kernel, rfl⟩
theorem dzX4_init_13 : z_d cX4_init 13 (.getfield 9) 3 16 := ⟨by decide +kernel, rfl⟩
theorem dzX4_init_16 : z_d cX4_init 16 (.iconst 1) 1 17 := ⟨by decide +kernel, rfl⟩
theorem dzX4_init_17 : z_d cX4_init 17 (.invokestatic 15) 3 20 := ⟨by decide +kernel, rfl⟩
theorem dzX4_init_20 : z_d cX4_init 20 (.aload_n 0) 1 21 := ⟨by decide +kernel, rfl⟩
theorem dzX4_init_21 : z_d cX4_init 21 (.iconst 4) 1 22 := ⟨by decide +kernel, rfl⟩
theorem dzX4_init_22 : z_d cX4_init 22 (.anewarray 21) 3 25 := ⟨by decide +kernel, rfl⟩
theorem dzX4_init_25 : z_d cX4_init 25 (.putfield 23) 3 28 := ⟨by decide +kernel, rfl⟩
theorem dzX4_init_28 : z_d cX4_init 28 (.iconst 0) 1 29 := ⟨by decide +kernel, rfl⟩
theorem dzX4_init_29 : z_d cX4_init 29 (.istore_n 1) 1 30 := ⟨by decide +kernel, rfl⟩
theorem dzX4_init_30 : z_d cX4_init 30 (.iload_n 1) 1 31 := ⟨by decide +kernel, rfl⟩
theorem dzX4_init_31 : z_d cX4_init 31 (.iconst 4) 1 32 := ⟨by decide +kernel, rfl⟩
theorem dzX4_init_32 : z_b cX4_init 32 (.if_icmp .ge 22) (22) 35 54 := ⟨by decide +kernel, rfl, rfl⟩
theorem dzX4_init_35 : z_d cX4_init 35 (.aload_n 0) 1 36 := ⟨by decide +kernel, rfl⟩
theorem dzX4_init_36 : z_d cX4_init 36 (.getfield 23) 3 39 := ⟨by decide +kernel, rfl⟩
theorem dzX4_init_39 : z_d cX4_init 39 (.iload_n 1) 1 40 := ⟨by decide +kernel, rfl⟩
theorem dzX4_init_40 : z_d cX4_init 40 (.new 21) 3 43 := ⟨by decide +kernel, rfl⟩
theorem dzX4_init_43 : z_d cX4_init 43 (.dup) 1 44 := ⟨by decide +kernel, rfl⟩
theorem dzX4_init_44 : z_d cX4_init 44 (.invokespecial 27) 3 47 := ⟨by decide +kernel, rfl⟩
theorem dzX4_init_47 : z_d cX4_init 47 (.aastore) 1 48 := ⟨by decide +kernel, rfl⟩
theorem dzX4_init_48 : z_d cX4_init 48 (.iinc 1 1) 3 51 := ⟨by decide +kernel, rfl⟩
theorem dzX4_init_51 : z_b cX4_init 51 (.goto (-21)) (-21) 54 30 := ⟨by decide +kernel, rfl, rfl⟩
theorem dzX4_init_54 : z_d cX4_init 54 (.aload_n 0) 1 55 := ⟨by decide +kernel, rfl⟩
theorem dzX4_init_55 : z_d cX4_init 55 (.iconst 4) 1 56 := ⟨by decide +kernel, rfl⟩
theorem dzX4_init_56 : z_d cX4_init 56 (.putfield 28) 3 59 := ⟨by decide +kernel, rfl⟩
theorem dzX4_init_59 : z_d cX4_init 59 (.return_) 1 60 := ⟨by decide +kernel, rfl⟩
theorem c_df0 : ∀ j, j < 4 → defaultValue (tyX0 j) = vp_V [.null, .null, .null, .int 0] j := by
  intro j hj
  match j, hj with
  | 0, _ => rfl
  | 1, _ => rfl
  | 2, _ => rfl
  | 3, _ => rfl
  | j + 4, h => exact absurd h (by omega)
theorem c_df1 : ∀ j, j < 3 → defaultValue (tyX1 j) = vp_V [.null, .null, .int 0] j := by
  intro j hj
  match j, hj with
  | 0, _ => rfl
  | 1, _ => rfl
  | 2, _ => rfl
  | j + 3, h => exact absurd h (by omega)
theorem c_df2 : ∀ j, j < 7 → defaultValue (tyX2 j) = vp_V [.int 0, .int 0, .int 0, .int 0, .null, .int 0, .int 0] j := by
  intro j hj
  match j, hj with
  | 0, _ => rfl
  | 1, _ => rfl
  | 2, _ => rfl
  | 3, _ => rfl
  | 4, _ => rfl
  | 5, _ => rfl
  | 6, _ => rfl
  | j + 7, h => exact absurd h (by omega)
theorem c_df3 : ∀ j, j < 3 → defaultValue (tyX3 j) = vp_V [.null, .int 0, .int 0] j := by
  intro j hj
  match j, hj with
  | 0, _ => rfl
  | 1, _ => rfl
  | 2, _ => rfl
  | j + 3, h => exact absurd h (by omega)
theorem c_df4 : ∀ j, j < 3 → defaultValue (tyX4 j) = vp_V [.null, .null, .int 0] j := by
  intro j hj
  match j, hj with
  | 0, _ => rfl
  | 1, _ => rfl
  | 2, _ => rfl
  | j + 3, h => exact absurd h (by omega)
theorem c_df5 : ∀ j, j < 2 → defaultValue (tyX5 j) = vp_V [.null, .null] j := by
  intro j hj
  match j, hj with
  | 0, _ => rfl
  | 1, _ => rfl
  | j + 2, h => exact absurd h (by omega)
theorem c_df6 : ∀ j, j < 10 → defaultValue (tyX6 j) = vp_V [.null, .int 0, .int 0, .int 0, .int 0, .int 0, .int 0, .int 0, .int 0, .int 0] j := by
  intro j hj
  match j, hj with
  | 0, _ => rfl
  | 1, _ => rfl
  | 2, _ => rfl
  | 3, _ => rfl
  | 4, _ => rfl
  | 5, _ => rfl
  | 6, _ => rfl
  | 7, _ => rfl
  | 8, _ => rfl
  | 9, _ => rfl
  | j + 10, h => exact absurd h (by omega)
theorem c_df7 : ∀ j, j < 11 → defaultValue (tyX7 j) = vp_V [.null, .null, .int 0, .null, .null, .null, .null, .null, .null, .null, .null] j := by
  intro j hj
  match j, hj with
  | 0, _ => rfl
  | 1, _ => rfl
  | 2, _ => rfl
  | 3, _ => rfl
  | 4, _ => rfl
  | 5, _ => rfl
  | 6, _ => rfl
  | 7, _ => rfl
  | 8, _ => rfl
  | 9, _ => rfl
  | 10, _ => rfl
  | j + 11, h => exact absurd h (by omega)
theorem c_df8 : ∀ j, j < 39 → defaultValue (tyX8 j) = vp_V [.null, .null, .null, .null, .int 0, .null, .null, .null, .null, .null, .int 0, .null, .null, .null, .null, .null, .int 0, .null, .int 0, .null, .int 0, .int 0, .int 0, .int 0, .int 0, .int 0, .int 0, .int 0, .null, .null, .null, .null, .null, .int 0, .null, .null, .null, .null, .int 0] j := by
  intro j hj
  match j, hj with
  | 0, _ => rfl
  | 1, _ => rfl
  | 2, _ => rfl
  | 3, _ => rfl
  | 4, _ => rfl
  | 5, _ => rfl
  | 6, _ => rfl
  | 7, _ => rfl
  | 8, _ => rfl
  | 9, _ => rfl
  | 10, _ => rfl
  | 11, _ => rfl
  | 12, _ => rfl
  | 13, _ => rfl
  | 14, _ => rfl
  | 15, _ => rfl
  | 16, _ => rfl
  | 17, _ => rfl
  | 18, _ => rfl
  | 19, _ => rfl
  | 20, _ => rfl
  | 21, _ => rfl
  | 22, _ => rfl
  | 23, _ => rfl
  | 24, _ => rfl
  | 25, _ => rfl
  | 26, _ => rfl
  | 27, _ => rfl
  | 28, _ => rfl
  | 29, _ => rfl
  | 30, _ => rfl
  | 31, _ => rfl
  | 32, _ => rfl
  | 33, _ => rfl
  | 34, _ => rfl
  | 35, _ => rfl
  | 36, _ => rfl
  | 37, _ => rfl
  | 38, _ => rfl
  | j + 39, h => exact absurd h (by omega)
theorem c_conv {p : Program} {l : Launch} {e : Env} {R : Room} {s : State} {m : MethodId} {args : Array Value} {below : List Frame} {meth : Method} {c : Code} {Q : State → Prop} {Y : zY} {A : Nat → Prop} {nL : Nat} {ws ws' : va_W} {cells slots pc q0 a n : Nat} {cA : ClassId} {x x' : (Nat → Int32) ⊕ (Nat → Int64) ⊕ (Nat → UInt32) ⊕ (Nat → UInt64) ⊕ (Nat → Option Nat)} {lv : List (Nat × Value)} {st : List Value} (ha : ws[q0]? = some (a, .inl (cA, n, x))) (hx : vp_cell cA (n, x) = vp_cell cA (n, x')) (hws : ws.set q0 (a, .inl (cA, n, x')) = ws') (k : c_G p l e R s m args below meth c Q Y A nL ws' cells slots lv pc st) : c_G p l e R s m args below meth c Q Y A nL ws cells slots lv pc st := by
  subst hws
  refine fun H locs ls hP hD hS hl => k H locs ls (hP.set hD ha ?_ (fun _ _ => rfl)) (hD.set ha) hS hl
  show H[a]? = some (vp_cell cA (n, x'))
  rw [← hx]
  exact hP _ _ ha
theorem miX1_init : z_ci yX1_init cX1_init 1 none 0 := ⟨tw_37, tw_4, by decide +kernel, by decide⟩
def bX1_init (Y : zY) (h0 : Nat) : (Nat → Nat) → va_W := fun u => [(h0, .inr (1, [.ref (u 1), .ref (u 2), .int 0])), ((u 1), .inl (Y.2.1 0, 40, .inl (fun _ => 0))), ((u 2), .inl (Y.2.1 0, 40, .inl (fun _ => 0)))]
set_option maxRecDepth 4000 in
set_option maxHeartbeats 4000000 in
theorem iX1_init {l : Launch} {Y : zY} {h0 : Nat} : ∀ sz : Nat, Met l yX1_init (Cond.code yX1_init cX1_init 1 none :: z_TB) (c_rm 2 2 80) (c_Pc Y h0 sz (.inr (1, [.null, .null, .int 0])) [.ref h0]) (c_Qv Y h0 sz (.inr (1, [.null, .null, .int 0])) (bX1_init Y h0)) 2 80 (va_A [(h0, .inr (1, [.null, .null, .int 0]))] sz) := by
  refine c_met [(0, .ref h0)] rfl (Nat.le_of_ble_eq_true rfl) (plainFor_of_name (by decide)) ?_
  intro sz p e s m args below meth c O hr hlk hnm
  refine c_aload_n O dzX1_init_0 rfl 0 rfl ?_
  refine c_objInit O tw_38 tw_21 tw_22 (Nat.le_of_ble_eq_true rfl) (Nat.le_of_ble_eq_true rfl) dzX1_init_1 ?_
  refine c_aload_n O dzX1_init_4 rfl 0 rfl ?_
  refine c_bipush O dzX1_init_5 hcB40 ?_
  refine c_newI O (N := 40) tw_58 (by decide) (by decide) (by decide) (Nat.le_of_ble_eq_true rfl) (Nat.le_of_ble_eq_true rfl) dzX1_init_7 (fun q1 => ?_)
  refine c_putF O (ws' := [(h0, .inr (1, [.ref q1, .null, .int 0])), (q1, .inl (Y.2.1 0, 40, .inl (fun _ => 0)))]) z_cb1 (q0 := 0) (v := .ref q1) rfl 0 (Nat.le_of_ble_eq_true rfl) tw_39 rfl hnm rfl rfl rfl (Nat.le_of_ble_eq_true rfl) rfl dzX1_init_9 ?_
  refine c_aload_n O dzX1_init_12 rfl 0 rfl ?_
  refine c_bipush O dzX1_init_13 hcB40 ?_
  refine c_newI O (N := 40) tw_58 (by decide) (by decide) (by decide) (Nat.le_of_ble_eq_true rfl) (Nat.le_of_ble_eq_true rfl) dzX1_init_15 (fun q2 => ?_)
  refine c_putF O (ws' := [(h0, .inr (1, [.ref q1, .ref q2, .int 0])), (q1, .inl (Y.2.1 0, 40, .inl (fun _ => 0))), (q2, .inl (Y.2.1 0, 40, .inl (fun _ => 0)))]) z_cb1 (q0 := 0) (v := .ref q2) rfl 1 (Nat.le_of_ble_eq_true rfl) tw_43 rfl hnm rfl rfl rfl (Nat.le_of_ble_eq_true rfl) rfl dzX1_init_17 ?_
  refine c_aload_n O dzX1_init_20 rfl 0 rfl ?_
  refine c_iconst O dzX1_init_21 hcI0 ?_
  refine c_put O (ws' := [(h0, .inr (1, [.ref q1, .ref q2, .int (0 : Int32)])), (q1, .inl (Y.2.1 0, 40, .inl (fun _ => 0))), (q2, .inl (Y.2.1 0, 40, .inl (fun _ => 0)))]) z_cb1 (q0 := 0) (v := .int (0 : Int32)) rfl 2 (Nat.le_of_ble_eq_true rfl) tw_46 rfl rfl rfl (Nat.le_of_ble_eq_true rfl) rfl dzX1_init_22 ?_
  exact c_vret O hr hlk dzX1_init_25 (fun k => [0, q1, q2].getD k 0) rfl
theorem miX2_init : z_ci yX2_init cX2_init 2 none 1 := ⟨tw_77, tw_5, by decide +kernel, by decide⟩
def bX2_init (Y : zY) (h0 : Nat) (a1 : Int32) : (Nat → Nat) → va_W := fun u => [(h0, .inr (2, [.int a1, .int 0, .int 0, .int 0, .ref (u 1), .int (-1), .int 0])), ((u 1), .inl (Y.2.1 0, 12, .inl (fun _ => 0)))]
set_option maxRecDepth 4000 in
set_option maxHeartbeats 4000000 in
theorem iX2_init {l : Launch} {Y : zY} {h0 : Nat} {a1 : Int32} : ∀ sz : Nat, Met l yX2_init (Cond.code yX2_init cX2_init 2 none :: z_TB) (c_rm 2 1 12) (c_Pc Y h0 sz (.inr (2, [.int 0, .int 0, .int 0, .int 0, .null, .int 0, .int 0])) [.ref h0, .int a1]) (c_Qv Y h0 sz (.inr (2, [.int 0, .int 0, .int 0, .int 0, .null, .int 0, .int 0])) (bX2_init Y h0 a1)) 1 12 (va_A [(h0, .inr (2, [.int 0, .int 0, .int 0, .int 0, .null, .int 0, .int 0]))] sz) := by
  refine c_met [(0, .ref h0), (1, .int a1)] rfl (Nat.le_of_ble_eq_true rfl) (plainFor_of_name (by decide)) ?_
  intro sz p e s m args below meth c O hr hlk hnm
  refine c_aload_n O dzX2_init_0 rfl 0 rfl ?_
  refine c_objInit O tw_78 tw_21 tw_22 (Nat.le_of_ble_eq_true rfl) (Nat.le_of_ble_eq_true rfl) dzX2_init_1 ?_
  refine c_aload_n O dzX2_init_4 rfl 0 rfl ?_
  refine c_iload_n O dzX2_init_5 rfl 1 rfl ?_
  refine c_put O (ws' := [(h0, .inr (2, [.int a1, .int 0, .int 0, .int 0, .null, .int 0, .int 0]))]) z_cb2 (q0 := 0) (v := .int a1) rfl 0 (Nat.le_of_ble_eq_true rfl) tw_79 rfl rfl rfl (Nat.le_of_ble_eq_true rfl) rfl dzX2_init_6 ?_
  refine c_aload_n O dzX2_init_9 rfl 0 rfl ?_
  refine c_bipush O dzX2_init_10 hcB12 ?_
  refine c_newI O (N := 12) tw_58 (by decide) (by decide) (by decide) (Nat.le_of_ble_eq_true rfl) (Nat.le_of_ble_eq_true rfl) dzX2_init_12 (fun q1 => ?_)
  refine c_putF O (ws' := [(h0, .inr (2, [.int a1, .int 0, .int 0, .int 0, .ref q1, .int 0, .int 0])), (q1, .inl (Y.2.1 0, 12, .inl (fun _ => 0)))]) z_cb2 (q0 := 0) (v := .ref q1) rfl 4 (Nat.le_of_ble_eq_true rfl) tw_87 rfl hnm rfl rfl rfl (Nat.le_of_ble_eq_true rfl) rfl dzX2_init_14 ?_
  refine c_aload_n O dzX2_init_17 rfl 0 rfl ?_
  refine c_iconst O dzX2_init_18 hcIm1 ?_
  refine c_put O (ws' := [(h0, .inr (2, [.int a1, .int 0, .int 0, .int 0, .ref q1, .int (-1 : Int32), .int 0])), (q1, .inl (Y.2.1 0, 12, .inl (fun _ => 0)))]) z_cb2 (q0 := 0) (v := .int (-1 : Int32)) rfl 5 (Nat.le_of_ble_eq_true rfl) tw_89 rfl rfl rfl (Nat.le_of_ble_eq_true rfl) rfl dzX2_init_19 ?_
  exact c_vret O hr hlk dzX2_init_22 (fun k => [0, q1].getD k 0) rfl
theorem miX0_init : z_ci yX0_init cX0_init 1 none 0 := ⟨tw_111, tw_6, by decide +kernel, by decide⟩
def bX0_init (Y : zY) (h0 : Nat) : (Nat → Nat) → va_W := fun u => [(h0, .inr (0, [.ref (u 1), .ref (u 2), .ref (u 3), .int 0])), ((u 1), .inl (Y.2.1 0, 20, .inl (fun _ => 0))), ((u 2), .inl (Y.2.1 0, 20, .inl (fun _ => 0))), ((u 3), .inl (Y.2.1 0, 20, .inl (fun _ => 0)))]
set_option maxRecDepth 4000 in
set_option maxHeartbeats 4000000 in
theorem iX0_init {l : Launch} {Y : zY} {h0 : Nat} : ∀ sz : Nat, Met l yX0_init (Cond.code yX0_init cX0_init 1 none :: z_TB) (c_rm 2 3 60) (c_Pc Y h0 sz (.inr (0, [.null, .null, .null, .int 0])) [.ref h0]) (c_Qv Y h0 sz (.inr (0, [.null, .null, .null, .int 0])) (bX0_init Y h0)) 3 60 (va_A [(h0, .inr (0, [.null, .null, .null, .int 0]))] sz) := by
  refine c_met [(0, .ref h0)] rfl (Nat.le_of_ble_eq_true rfl) (plainFor_of_name (by decide)) ?_
  intro sz p e s m args below meth c O hr hlk hnm
  refine c_aload_n O dzX0_init_0 rfl 0 rfl ?_
  refine c_objInit O tw_112 tw_21 tw_22 (Nat.le_of_ble_eq_true rfl) (Nat.le_of_ble_eq_true rfl) dzX0_init_1 ?_
  refine c_aload_n O dzX0_init_4 rfl 0 rfl ?_
  refine c_bipush O dzX0_init_5 hcB20 ?_
  refine c_newI O (N := 20) tw_58 (by decide) (by decide) (by decide) (Nat.le_of_ble_eq_true rfl) (Nat.le_of_ble_eq_true rfl) dzX0_init_7 (fun q1 => ?_)
  refine c_putF O (ws' := [(h0, .inr (0, [.ref q1, .null, .null, .int 0])), (q1, .inl (Y.2.1 0, 20, .inl (fun _ => 0)))]) z_cb0 (q0 := 0) (v := .ref q1) rfl 0 (Nat.le_of_ble_eq_true rfl) tw_113 rfl hnm rfl rfl rfl (Nat.le_of_ble_eq_true rfl) rfl dzX0_init_9 ?_
  refine c_aload_n O dzX0_init_12 rfl 0 rfl ?_
  refine c_bipush O dzX0_init_13 hcB20 ?_
  refine c_newI O (N := 20) tw_58 (by decide) (by decide) (by decide) (Nat.le_of_ble_eq_true rfl) (Nat.le_of_ble_eq_true rfl) dzX0_init_15 (fun q2 => ?_)
  refine c_putF O (ws' := [(h0, .inr (0, [.ref q1, .ref q2, .null, .int 0])), (q1, .inl (Y.2.1 0, 20, .inl (fun _ => 0))), (q2, .inl (Y.2.1 0, 20, .inl (fun _ => 0)))]) z_cb0 (q0 := 0) (v := .ref q2) rfl 1 (Nat.le_of_ble_eq_true rfl) tw_115 rfl hnm rfl rfl rfl (Nat.le_of_ble_eq_true rfl) rfl dzX0_init_17 ?_
  refine c_aload_n O dzX0_init_20 rfl 0 rfl ?_
  refine c_bipush O dzX0_init_21 hcB20 ?_
  refine c_newI O (N := 20) tw_58 (by decide) (by decide) (by decide) (Nat.le_of_ble_eq_true rfl) (Nat.le_of_ble_eq_true rfl) dzX0_init_23 (fun q3 => ?_)
  refine c_putF O (ws' := [(h0, .inr (0, [.ref q1, .ref q2, .ref q3, .int 0])), (q1, .inl (Y.2.1 0, 20, .inl (fun _ => 0))), (q2, .inl (Y.2.1 0, 20, .inl (fun _ => 0))), (q3, .inl (Y.2.1 0, 20, .inl (fun _ => 0)))]) z_cb0 (q0 := 0) (v := .ref q3) rfl 2 (Nat.le_of_ble_eq_true rfl) tw_117 rfl hnm rfl rfl rfl (Nat.le_of_ble_eq_true rfl) rfl dzX0_init_25 ?_
  refine c_aload_n O dzX0_init_28 rfl 0 rfl ?_
  refine c_iconst O dzX0_init_29 hcI0 ?_
  refine c_put O (ws' := [(h0, .inr (0, [.ref q1, .ref q2, .ref q3, .int (0 : Int32)])), (q1, .inl (Y.2.1 0, 20, .inl (fun _ => 0))), (q2, .inl (Y.2.1 0, 20, .inl (fun _ => 0))), (q3, .inl (Y.2.1 0, 20, .inl (fun _ => 0)))]) z_cb0 (q0 := 0) (v := .int (0 : Int32)) rfl 3 (Nat.le_of_ble_eq_true rfl) tw_119 rfl rfl rfl (Nat.le_of_ble_eq_true rfl) rfl dzX0_init_30 ?_
  exact c_vret O hr hlk dzX0_init_33 (fun k => [0, q1, q2, q3].getD k 0) rfl
theorem miX3_init : z_ci yX3_init cX3_init 1 none 0 := ⟨tw_135, tw_7, by decide +kernel, by decide⟩
def bX3_init (Y : zY) (h0 : Nat) : (Nat → Nat) → va_W := fun u => [(h0, .inr (3, [.ref (u 1), .int (-1), .int 0])), ((u 1), .inl (Y.2.1 1, 40, .inr (.inl (fun _ => 0))))]
set_option maxRecDepth 4000 in
set_option maxHeartbeats 4000000 in
theorem iX3_init {l : Launch} {Y : zY} {h0 : Nat} : ∀ sz : Nat, Met l yX3_init (Cond.code yX3_init cX3_init 1 none :: z_TB) (c_rm 2 1 40) (c_Pc Y h0 sz (.inr (3, [.null, .int 0, .int 0])) [.ref h0]) (c_Qv Y h0 sz (.inr (3, [.null, .int 0, .int 0])) (bX3_init Y h0)) 1 40 (va_A [(h0, .inr (3, [.null, .int 0, .int 0]))] sz) := by
  refine c_met [(0, .ref h0)] rfl (Nat.le_of_ble_eq_true rfl) (plainFor_of_name (by decide)) ?_
  intro sz p e s m args below meth c O hr hlk hnm
  refine c_aload_n O dzX3_init_0 rfl 0 rfl ?_
  refine c_objInit O tw_136 tw_21 tw_22 (Nat.le_of_ble_eq_true rfl) (Nat.le_of_ble_eq_true rfl) dzX3_init_1 ?_
  refine c_aload_n O dzX3_init_4 rfl 0 rfl ?_
  refine c_bipush O dzX3_init_5 hcB40 ?_
  refine c_newJ O (N := 40) tw_150 (by decide) (by decide) (by decide) (Nat.le_of_ble_eq_true rfl) (Nat.le_of_ble_eq_true rfl) dzX3_init_7 (fun q1 => ?_)
  refine c_putF O (ws' := [(h0, .inr (3, [.ref q1, .int 0, .int 0])), (q1, .inl (Y.2.1 1, 40, .inr (.inl (fun _ => 0))))]) z_cb3 (q0 := 0) (v := .ref q1) rfl 0 (Nat.le_of_ble_eq_true rfl) tw_137 rfl hnm rfl rfl rfl (Nat.le_of_ble_eq_true rfl) rfl dzX3_init_9 ?_
  refine c_aload_n O dzX3_init_12 rfl 0 rfl ?_
  refine c_iconst O dzX3_init_13 hcIm1 ?_
  refine c_put O (ws' := [(h0, .inr (3, [.ref q1, .int (-1 : Int32), .int 0])), (q1, .inl (Y.2.1 1, 40, .inr (.inl (fun _ => 0))))]) z_cb3 (q0 := 0) (v := .int (-1 : Int32)) rfl 1 (Nat.le_of_ble_eq_true rfl) tw_139 rfl rfl rfl (Nat.le_of_ble_eq_true rfl) rfl dzX3_init_14 ?_
  refine c_aload_n O dzX3_init_17 rfl 0 rfl ?_
  refine c_iconst O dzX3_init_18 hcI0 ?_
  refine c_put O (ws' := [(h0, .inr (3, [.ref q1, .int (-1 : Int32), .int (0 : Int32)])), (q1, .inl (Y.2.1 1, 40, .inr (.inl (fun _ => 0))))]) z_cb3 (q0 := 0) (v := .int (0 : Int32)) rfl 2 (Nat.le_of_ble_eq_true rfl) tw_141 rfl rfl rfl (Nat.le_of_ble_eq_true rfl) rfl dzX3_init_19 ?_
  exact c_vret O hr hlk dzX3_init_22 (fun k => [0, q1].getD k 0) rfl
theorem miX5_init : z_ci yX5_init cX5_init 1 none 0 := ⟨tw_204, tw_9, by decide +kernel, by decide⟩
def bX5_init (Y : zY) (h0 : Nat) : (Nat → Nat) → va_W := fun u => [(h0, .inr (5, [.ref (u 1), .ref (u 2)])), ((u 1), .inl (Y.2.1 1, 64, .inr (.inl (fun _ => 0)))), ((u 2), .inl (Y.2.1 0, 64, .inl (fun _ => 0)))]
set_option maxRecDepth 4000 in
set_option maxHeartbeats 4000000 in
theorem iX5_init {l : Launch} {Y : zY} {h0 : Nat} : ∀ sz : Nat, Met l yX5_init (Cond.code yX5_init cX5_init 1 none :: z_TB) (c_rm 2 2 128) (c_Pc Y h0 sz (.inr (5, [.null, .null])) [.ref h0]) (c_Qv Y h0 sz (.inr (5, [.null, .null])) (bX5_init Y h0)) 2 128 (va_A [(h0, .inr (5, [.null, .null]))] sz) := by
  refine c_met [(0, .ref h0)] rfl (Nat.le_of_ble_eq_true rfl) (plainFor_of_name (by decide)) ?_
  intro sz p e s m args below meth c O hr hlk hnm
  refine c_aload_n O dzX5_init_0 rfl 0 rfl ?_
  refine c_objInit O tw_205 tw_21 tw_22 (Nat.le_of_ble_eq_true rfl) (Nat.le_of_ble_eq_true rfl) dzX5_init_1 ?_
  refine c_aload_n O dzX5_init_4 rfl 0 rfl ?_
  refine c_bipush O dzX5_init_5 hcB64 ?_
  refine c_newJ O (N := 64) tw_150 (by decide) (by decide) (by decide) (Nat.le_of_ble_eq_true rfl) (Nat.le_of_ble_eq_true rfl) dzX5_init_7 (fun q1 => ?_)
  refine c_putF O (ws' := [(h0, .inr (5, [.ref q1, .null])), (q1, .inl (Y.2.1 1, 64, .inr (.inl (fun _ => 0))))]) z_cb5 (q0 := 0) (v := .ref q1) rfl 0 (Nat.le_of_ble_eq_true rfl) tw_206 rfl hnm rfl rfl rfl (Nat.le_of_ble_eq_true rfl) rfl dzX5_init_9 ?_
  refine c_aload_n O dzX5_init_12 rfl 0 rfl ?_
  refine c_bipush O dzX5_init_13 hcB64 ?_
  refine c_newI O (N := 64) tw_58 (by decide) (by decide) (by decide) (Nat.le_of_ble_eq_true rfl) (Nat.le_of_ble_eq_true rfl) dzX5_init_15 (fun q2 => ?_)
  refine c_putF O (ws' := [(h0, .inr (5, [.ref q1, .ref q2])), (q1, .inl (Y.2.1 1, 64, .inr (.inl (fun _ => 0)))), (q2, .inl (Y.2.1 0, 64, .inl (fun _ => 0)))]) z_cb5 (q0 := 0) (v := .ref q2) rfl 1 (Nat.le_of_ble_eq_true rfl) tw_207 rfl hnm rfl rfl rfl (Nat.le_of_ble_eq_true rfl) rfl dzX5_init_17 ?_
  exact c_vret O hr hlk dzX5_init_20 (fun k => [0, q1, q2].getD k 0) rfl
theorem miX4_init : z_ci yX4_init cX4_init 2 none 0 := ⟨tw_27, tw_2, by decide +kernel, by decide⟩
def bX4_init (Y : zY) (h0 : Nat) : (Nat → Nat) → va_W := fun u => [(h0, .inr (4, [.ref (u 1), .ref (u 2), .int 4])), ((u 1), .inl (Y.2.1 0, 12, .inl (fun _ => 1))), ((u 2), .inl (Y.2.1 3, 4, .inr (.inr (.inr (.inr (fun i => if i < 4 then some (u (3 + i)) else none)))))), ((u 3), .inr (1, [.ref (u 7), .ref (u 11), .int 0])), ((u 7), .inl (Y.2.1 0, 40, .inl (fun _ => 0))), ((u 11), .inl (Y.2.1 0, 40, .inl (fun _ => 0))), ((u 4), .inr (1, [.ref (u 8), .ref (u 12), .int 0])), ((u 8), .inl (Y.2.1 0, 40, .inl (fun _ => 0))), ((u 12), .inl (Y.2.1 0, 40, .inl (fun _ => 0))), ((u 5), .inr (1, [.ref (u 9), .ref (u 13), .int 0])), ((u 9), .inl (Y.2.1 0, 40, .inl (fun _ => 0))), ((u 13), .inl (Y.2.1 0, 40, .inl (fun _ => 0))), ((u 6), .inr (1, [.ref (u 10), .ref (u 14), .int 0])), ((u 10), .inl (Y.2.1 0, 40, .inl (fun _ => 0))), ((u 14), .inl (Y.2.1 0, 40, .inl (fun _ => 0)))]
set_option maxRecDepth 4000 in
set_option maxHeartbeats 4000000 in
theorem iX4_init {l : Launch} {Y : zY} {h0 : Nat} : ∀ sz : Nat, Met l yX4_init (Cond.code yX4_init cX4_init 2 none :: z_TB) (c_rm 3 14 348) (c_Pc Y h0 sz (.inr (4, [.null, .null, .int 0])) [.ref h0]) (c_Qv Y h0 sz (.inr (4, [.null, .null, .int 0])) (bX4_init Y h0)) 14 348 (va_A [(h0, .inr (4, [.null, .null, .int 0]))] sz) := by
  refine c_met [(0, .ref h0)] rfl (Nat.le_of_ble_eq_true rfl) (plainFor_of_name (by decide)) ?_
  intro sz p e s m args below meth c O hr hlk hnm
  refine c_aload_n O dzX4_init_0 rfl 0 rfl ?_
  refine c_objInit O tw_28 tw_21 tw_22 (Nat.le_of_ble_eq_true rfl) (Nat.le_of_ble_eq_true rfl) dzX4_init_1 ?_
  refine c_aload_n O dzX4_init_4 rfl 0 rfl ?_
  refine c_bipush O dzX4_init_5 hcB12 ?_
  refine c_newI O (N := 12) tw_58 (by decide) (by decide) (by decide) (Nat.le_of_ble_eq_true rfl) (Nat.le_of_ble_eq_true rfl) dzX4_init_7 (fun q1 => ?_)
  refine c_putF O (ws' := [(h0, .inr (4, [.ref q1, .null, .int 0])), (q1, .inl (Y.2.1 0, 12, .inl (fun _ => 0)))]) z_cb4 (q0 := 0) (v := .ref q1) rfl 0 (Nat.le_of_ble_eq_true rfl) tw_59 rfl hnm rfl rfl rfl (Nat.le_of_ble_eq_true rfl) rfl dzX4_init_9 ?_
  refine c_aload_n O dzX4_init_12 rfl 0 rfl ?_
  refine c_get O z_cb4 (q0 := 0) (v := .ref q1) rfl 0 (Nat.le_of_ble_eq_true rfl) tw_59 rfl dzX4_init_13 ?_
  refine c_iconst O dzX4_init_16 hcI1 ?_
  refine c_fillI O (ws' := [(h0, .inr (4, [.ref q1, .null, .int 0])), (q1, .inl (Y.2.1 0, 12, .inl (fun _ => (1 : Int32))))]) (q0 := 1) rfl (by decide) tw_29 (by decide) rfl (Nat.le_of_ble_eq_true rfl) ⟨Nat.le_of_ble_eq_true rfl, Nat.le_of_ble_eq_true rfl⟩ dzX4_init_17 ?_
  refine c_aload_n O dzX4_init_20 rfl 0 rfl ?_
  refine c_iconst O dzX4_init_21 hcI4 ?_
  refine c_newQ O (N := 4) (t := 3) tw_32 O.2.2.2.2.2.2.1.2.1 rfl (by decide) (by decide) (by decide) (Nat.le_of_ble_eq_true rfl) (Nat.le_of_ble_eq_true rfl) dzX4_init_22 (fun q2 => ?_)
  refine c_putF O (ws' := [(h0, .inr (4, [.ref q1, .ref q2, .int 0])), (q1, .inl (Y.2.1 0, 12, .inl (fun _ => (1 : Int32)))), (q2, .inl (Y.2.1 3, 4, .inr (.inr (.inr (.inr (fun _ => none))))))]) z_cb4 (q0 := 0) (v := .ref q2) rfl 1 (Nat.le_of_ble_eq_true rfl) tw_61 rfl hnm rfl rfl rfl (Nat.le_of_ble_eq_true rfl) rfl dzX4_init_25 ?_
  refine c_iconst O dzX4_init_28 hcI0 ?_
  refine c_istore_n O (lv' := [(1, .int (0 : Int32)), (0, .ref h0)]) dzX4_init_29 rfl (by decide) rfl ?_
  refine c_iload_n O dzX4_init_30 rfl 0 rfl ?_
  refine c_iconst O dzX4_init_31 hcI4 ?_
  refine c_icmp_geF O dzX4_init_32 (by decide) ?_
  refine c_aload_n O dzX4_init_35 rfl 1 rfl ?_
  refine c_get O z_cb4 (q0 := 0) (v := .ref q2) rfl 1 (Nat.le_of_ble_eq_true rfl) tw_61 rfl dzX4_init_36 ?_
  refine c_iload_n O dzX4_init_39 rfl 0 rfl ?_
  refine c_new O z_cb1 tw_32 tw_34 tw_4 c_df1 (Nat.le_of_ble_eq_true rfl) (Nat.le_of_ble_eq_true rfl) dzX4_init_40 (fun q3 => ?_)
  refine c_dup O dzX4_init_43 rfl ?_
  refine c_init O (As := []) (rest := [.ref q3, .int (0 : Int32), .ref q2]) (iX1_init) miX1_init tw_35 tw_36 rfl (by decide) rfl rfl (Nat.le_of_ble_eq_true rfl) ⟨Nat.le_of_ble_eq_true rfl, Nat.le_of_ble_eq_true rfl⟩ dzX4_init_44 (fun u4 => ?_)
  refine c_astq O (ws' := [(h0, .inr (4, [.ref q1, .ref q2, .int 0])), (q1, .inl (Y.2.1 0, 12, .inl (fun _ => (1 : Int32)))), (q2, .inl (Y.2.1 3, 4, .inr (.inr (.inr (.inr (va_up (fun _ => none) 0 (some q3))))))), (q3, .inr (1, [.ref (u4 1), .ref (u4 2), .int 0])), ((u4 1), .inl (Y.2.1 0, 40, .inl (fun _ => 0))), ((u4 2), .inl (Y.2.1 0, 40, .inl (fun _ => 0)))]) (q0 := 2) (t := 3) (qk := 3) (ci := 1) rfl rfl rfl rfl (z_in_vp (by decide)) rfl dzX4_init_47 ?_
  refine c_iinc O (lv' := [(1, .int (1 : Int32)), (0, .ref h0)]) (v := 1) dzX4_init_48 0 rfl (by decide) (by decide) rfl ?_
  refine c_goto O dzX4_init_51 ?_
  refine c_iload_n O dzX4_init_30 rfl 0 rfl ?_
  refine c_iconst O dzX4_init_31 hcI4 ?_
  refine c_icmp_geF O dzX4_init_32 (by decide) ?_
  refine c_aload_n O dzX4_init_35 rfl 1 rfl ?_
  refine c_get O z_cb4 (q0 := 0) (v := .ref q2) rfl 1 (Nat.le_of_ble_eq_true rfl) tw_61 rfl dzX4_init_36 ?_
  refine c_iload_n O dzX4_init_39 rfl 0 rfl ?_
  refine c_new O z_cb1 tw_32 tw_34 tw_4 c_df1 (Nat.le_of_ble_eq_true rfl) (Nat.le_of_ble_eq_true rfl) dzX4_init_40 (fun q5 => ?_)
  refine c_dup O dzX4_init_43 rfl ?_
  refine c_init O (As := []) (rest := [.ref q5, .int (1 : Int32), .ref q2]) (iX1_init) miX1_init tw_35 tw_36 rfl (by decide) rfl rfl (Nat.le_of_ble_eq_true rfl) ⟨Nat.le_of_ble_eq_true rfl, Nat.le_of_ble_eq_true rfl⟩ dzX4_init_44 (fun u6 => ?_)
  refine c_astq O (ws' := [(h0, .inr (4, [.ref q1, .ref q2, .int 0])), (q1, .inl (Y.2.1 0, 12, .inl (fun _ => (1 : Int32)))), (q2, .inl (Y.2.1 3, 4, .inr (.inr (.inr (.inr (va_up (va_up (fun _ => none) 0 (some q3)) 1 (some q5))))))), (q3, .inr (1, [.ref (u4 1), .ref (u4 2), .int 0])), ((u4 1), .inl (Y.2.1 0, 40, .inl (fun _ => 0))), ((u4 2), .inl (Y.2.1 0, 40, .inl (fun _ => 0))), (q5, .inr (1, [.ref (u6 1), .ref (u6 2), .int 0])), ((u6 1), .inl (Y.2.1 0, 40, .inl (fun _ => 0))), ((u6 2), .inl (Y.2.1 0, 40, .inl (fun _ => 0)))]) (q0 := 2) (t := 3) (qk := 6) (ci := 1) rfl rfl rfl rfl (z_in_vp (by decide)) rfl dzX4_init_47 ?_
  refine c_iinc O (lv' := [(1, .int (2 : Int32)), (0, .ref h0)]) (v := 2) dzX4_init_48 0 rfl (by decide) (by decide) rfl ?_
  refine c_goto O dzX4_init_51 ?_
  refine c_iload_n O dzX4_init_30 rfl 0 rfl ?_
  refine c_iconst O dzX4_init_31 hcI4 ?_
  refine c_icmp_geF O dzX4_init_32 (by decide) ?_
  refine c_aload_n O dzX4_init_35 rfl 1 rfl ?_
  refine c_get O z_cb4 (q0 := 0) (v := .ref q2) rfl 1 (Nat.le_of_ble_eq_true rfl) tw_61 rfl dzX4_init_36 ?_
  refine c_iload_n O dzX4_init_39 rfl 0 rfl ?_
  refine c_new O z_cb1 tw_32 tw_34 tw_4 c_df1 (Nat.le_of_ble_eq_true rfl) (Nat.le_of_ble_eq_true rfl) dzX4_init_40 (fun q7 => ?_)
  refine c_dup O dzX4_init_43 rfl ?_
  refine c_init O (As := []) (rest := [.ref q7, .int (2 : Int32), .ref q2]) (iX1_init) miX1_init tw_35 tw_36 rfl (by decide) rfl rfl (Nat.le_of_ble_eq_true rfl) ⟨Nat.le_of_ble_eq_true rfl, Nat.le_of_ble_eq_true rfl⟩ dzX4_init_44 (fun u8 => ?_)
  refine c_astq O (ws' := [(h0, .inr (4, [.ref q1, .ref q2, .int 0])), (q1, .inl (Y.2.1 0, 12, .inl (fun _ => (1 : Int32)))), (q2, .inl (Y.2.1 3, 4, .inr (.inr (.inr (.inr (va_up (va_up (va_up (fun _ => none) 0 (some q3)) 1 (some q5)) 2 (some q7))))))), (q3, .inr (1, [.ref (u4 1), .ref (u4 2), .int 0])), ((u4 1), .inl (Y.2.1 0, 40, .inl (fun _ => 0))), ((u4 2), .inl (Y.2.1 0, 40, .inl (fun _ => 0))), (q5, .inr (1, [.ref (u6 1), .ref (u6 2), .int 0])), ((u6 1), .inl (Y.2.1 0, 40, .inl (fun _ => 0))), ((u6 2), .inl (Y.2.1 0, 40, .inl (fun _ => 0))), (q7, .inr (1, [.ref (u8 1), .ref (u8 2), .int 0])), ((u8 1), .inl (Y.2.1 0, 40, .inl (fun _ => 0))), ((u8 2), .inl (Y.2.1 0, 40, .inl (fun _ => 0)))]) (q0 := 2) (t := 3) (qk := 9) (ci := 1) rfl rfl rfl rfl (z_in_vp (by decide)) rfl dzX4_init_47 ?_
  refine c_iinc O (lv' := [(1, .int (3 : Int32)), (0, .ref h0)]) (v := 3) dzX4_init_48 0 rfl (by decide) (by decide) rfl ?_
  refine c_goto O dzX4_init_51 ?_
  refine c_iload_n O dzX4_init_30 rfl 0 rfl ?_
  refine c_iconst O dzX4_init_31 hcI4 ?_
  refine c_icmp_geF O dzX4_init_32 (by decide) ?_
  refine c_aload_n O dzX4_init_35 rfl 1 rfl ?_
  refine c_get O z_cb4 (q0 := 0) (v := .ref q2) rfl 1 (Nat.le_of_ble_eq_true rfl) tw_61 rfl dzX4_init_36 ?_
  refine c_iload_n O dzX4_init_39 rfl 0 rfl ?_
  refine c_new O z_cb1 tw_32 tw_34 tw_4 c_df1 (Nat.le_of_ble_eq_true rfl) (Nat.le_of_ble_eq_true rfl) dzX4_init_40 (fun q9 => ?_)
  refine c_dup O dzX4_init_43 rfl ?_
  refine c_init O (As := []) (rest := [.ref q9, .int (3 : Int32), .ref q2]) (iX1_init) miX1_init tw_35 tw_36 rfl (by decide) rfl rfl (Nat.le_of_ble_eq_true rfl) ⟨Nat.le_of_ble_eq_true rfl, Nat.le_of_ble_eq_true rfl⟩ dzX4_init_44 (fun u10 => ?_)
  refine c_astq O (ws' := [(h0, .inr (4, [.ref q1, .ref q2, .int 0])), (q1, .inl (Y.2.1 0, 12, .inl (fun _ => (1 : Int32)))), (q2, .inl (Y.2.1 3, 4, .inr (.inr (.inr (.inr (va_up (va_up (va_up (va_up (fun _ => none) 0 (some q3)) 1 (some q5)) 2 (some q7)) 3 (some q9))))))), (q3, .inr (1, [.ref (u4 1), .ref (u4 2), .int 0])), ((u4 1), .inl (Y.2.1 0, 40, .inl (fun _ => 0))), ((u4 2), .inl (Y.2.1 0, 40, .inl (fun _ => 0))), (q5, .inr (1, [.ref (u6 1), .ref (u6 2), .int 0])), ((u6 1), .inl (Y.2.1 0, 40, .inl (fun _ => 0))), ((u6 2), .inl (Y.2.1 0, 40, .inl (fun _ => 0))), (q7, .inr (1, [.ref (u8 1), .ref (u8 2), .int 0])), ((u8 1), .inl (Y.2.1 0, 40, .inl (fun _ => 0))), ((u8 2), .inl (Y.2.1 0, 40, .inl (fun _ => 0))), (q9, .inr (1, [.ref (u10 1), .ref (u10 2), .int 0])), ((u10 1), .inl (Y.2.1 0, 40, .inl (fun _ => 0))), ((u10 2), .inl (Y.2.1 0, 40, .inl (fun _ => 0)))]) (q0 := 2) (t := 3) (qk := 12) (ci := 1) rfl rfl rfl rfl (z_in_vp (by decide)) rfl dzX4_init_47 ?_
  refine c_iinc O (lv' := [(1, .int (4 : Int32)), (0, .ref h0)]) (v := 4) dzX4_init_48 0 rfl (by decide) (by decide) rfl ?_
  refine c_goto O dzX4_init_51 ?_
  refine c_iload_n O dzX4_init_30 rfl 0 rfl ?_
  refine c_iconst O dzX4_init_31 hcI4 ?_
  refine c_icmp_geT O dzX4_init_32 (by decide) ?_
  refine c_aload_n O dzX4_init_54 rfl 1 rfl ?_
  refine c_iconst O dzX4_init_55 hcI4 ?_
  refine c_put O (ws' := [(h0, .inr (4, [.ref q1, .ref q2, .int (4 : Int32)])), (q1, .inl (Y.2.1 0, 12, .inl (fun _ => (1 : Int32)))), (q2, .inl (Y.2.1 3, 4, .inr (.inr (.inr (.inr (va_up (va_up (va_up (va_up (fun _ => none) 0 (some q3)) 1 (some q5)) 2 (some q7)) 3 (some q9))))))), (q3, .inr (1, [.ref (u4 1), .ref (u4 2), .int 0])), ((u4 1), .inl (Y.2.1 0, 40, .inl (fun _ => 0))), ((u4 2), .inl (Y.2.1 0, 40, .inl (fun _ => 0))), (q5, .inr (1, [.ref (u6 1), .ref (u6 2), .int 0])), ((u6 1), .inl (Y.2.1 0, 40, .inl (fun _ => 0))), ((u6 2), .inl (Y.2.1 0, 40, .inl (fun _ => 0))), (q7, .inr (1, [.ref (u8 1), .ref (u8 2), .int 0])), ((u8 1), .inl (Y.2.1 0, 40, .inl (fun _ => 0))), ((u8 2), .inl (Y.2.1 0, 40, .inl (fun _ => 0))), (q9, .inr (1, [.ref (u10 1), .ref (u10 2), .int 0])), ((u10 1), .inl (Y.2.1 0, 40, .inl (fun _ => 0))), ((u10 2), .inl (Y.2.1 0, 40, .inl (fun _ => 0)))]) z_cb4 (q0 := 0) (v := .int (4 : Int32)) rfl 2 (Nat.le_of_ble_eq_true rfl) tw_63 rfl rfl rfl (Nat.le_of_ble_eq_true rfl) rfl dzX4_init_56 ?_
  refine c_conv (ws' := [(h0, .inr (4, [.ref q1, .ref q2, .int (4 : Int32)])), (q1, .inl (Y.2.1 0, 12, .inl (fun _ => (1 : Int32)))), (q2, .inl (Y.2.1 3, 4, .inr (.inr (.inr (.inr (fun i => if i < 4 then some ((fun k => [0, q1, q2, q3, q5, q7, q9, (u4 1), (u6 1), (u8 1), (u10 1), (u4 2), (u6 2), (u8 2), (u10 2)].getD k 0) (3 + i)) else none)))))), (q3, .inr (1, [.ref (u4 1), .ref (u4 2), .int 0])), ((u4 1), .inl (Y.2.1 0, 40, .inl (fun _ => 0))), ((u4 2), .inl (Y.2.1 0, 40, .inl (fun _ => 0))), (q5, .inr (1, [.ref (u6 1), .ref (u6 2), .int 0])), ((u6 1), .inl (Y.2.1 0, 40, .inl (fun _ => 0))), ((u6 2), .inl (Y.2.1 0, 40, .inl (fun _ => 0))), (q7, .inr (1, [.ref (u8 1), .ref (u8 2), .int 0])), ((u8 1), .inl (Y.2.1 0, 40, .inl (fun _ => 0))), ((u8 2), .inl (Y.2.1 0, 40, .inl (fun _ => 0))), (q9, .inr (1, [.ref (u10 1), .ref (u10 2), .int 0])), ((u10 1), .inl (Y.2.1 0, 40, .inl (fun _ => 0))), ((u10 2), .inl (Y.2.1 0, 40, .inl (fun _ => 0)))]) (q0 := 2) rfl (c_cellQ (fun j hj => by
    match j, hj with
    | 0, _ => rfl
    | 1, _ => rfl
    | 2, _ => rfl
    | 3, _ => rfl
    | j + 4, h => exact absurd h (by omega))) rfl ?_
  exact c_vret O hr hlk dzX4_init_59 (fun k => [0, q1, q2, q3, q5, q7, q9, (u4 1), (u6 1), (u8 1), (u10 1), (u4 2), (u6 2), (u8 2), (u10 2)].getD k 0) rfl
