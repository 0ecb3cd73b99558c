theorem tl_0_0 : u_lay RX0 TX0 0 ∈ z_TB := z_t1 (i := 121) (by decide +kernel) rfl
theorem tl_0_1 : u_lay RX0 TX0 1 ∈ z_TB := z_t1 (i := 123) (by decide +kernel) rfl
theorem tl_0_2 : u_lay RX0 TX0 2 ∈ z_TB := z_t1 (i := 125) (by decide +kernel) rfl
theorem tl_0_3 : u_lay RX0 TX0 3 ∈ z_TB := z_t1 (i := 127) (by decide +kernel) rfl
theorem z_u0 : ∀ w ∈ u_ws RX0 TX0 4, w ∈ z_TB := by
  intro w hw
  obtain ⟨k, hk, rfl⟩ := List.mem_map.mp hw
  have hk := List.mem_range.mp hk
  match k, hk with
  | 0, _ => exact tl_0_0
  | 1, _ => exact tl_0_1
  | 2, _ => exact tl_0_2
  | 3, _ => exact tl_0_3
  | k + 4, h => exact absurd h (by omega)
theorem z_cb0 : z_cb 0 RX0 TX0 4 tyX0 := ⟨rfl, z_u0, tyX0_ok, nmX0, by decide +kernel⟩
theorem tl_1_0 : u_lay RX1 TX1 0 ∈ z_TB := z_t1 (i := 51) (by decide +kernel) rfl
theorem tl_1_1 : u_lay RX1 TX1 1 ∈ z_TB := z_t1 (i := 53) (by decide +kernel) rfl
theorem tl_1_2 : u_lay RX1 TX1 2 ∈ z_TB := z_t1 (i := 55) (by decide +kernel) rfl
theorem z_u1 : ∀ w ∈ u_ws RX1 TX1 3, w ∈ z_TB := by
  intro w hw
  obtain ⟨k, hk, rfl⟩ := List.mem_map.mp hw
  have hk := List.mem_range.mp hk
  match k, hk with
  | 0, _ => exact tl_1_0
  | 1, _ => exact tl_1_1
  | 2, _ => exact tl_1_2
  | k + 3, h => exact absurd h (by omega)
theorem z_cb1 : z_cb 1 RX1 TX1 3 tyX1 := ⟨rfl, z_u1, tyX1_ok, nmX1, by decide +kernel⟩
theorem tl_2_0 : u_lay RX2 TX2 0 ∈ z_TB := z_t1 (i := 92) (by decide +kernel) rfl
theorem tl_2_1 : u_lay RX2 TX2 1 ∈ z_TB := z_t1 (i := 94) (by decide +kernel) rfl
theorem tl_2_2 : u_lay RX2 TX2 2 ∈ z_TB := z_t1 (i := 96) (by decide +kernel) rfl
theorem tl_2_3 : u_lay RX2 TX2 3 ∈ z_TB := z_t1 (i := 98) (by decide +kernel) rfl
theorem tl_2_4 : u_lay RX2 TX2 4 ∈ z_TB := z_t1 (i := 100) (by decide +kernel) rfl
theorem tl_2_5 : u_lay RX2 TX2 5 ∈ z_TB := z_t1 (i := 102) (by decide +kernel) rfl
theorem tl_2_6 : u_lay RX2 TX2 6 ∈ z_TB := z_t1 (i := 104) (by decide +kernel) rfl
theorem z_u2 : ∀ w ∈ u_ws RX2 TX2 7, w ∈ z_TB := by
  intro w hw
  obtain ⟨k, hk, rfl⟩ := List.mem_map.mp hw
  have hk := List.mem_range.mp hk
  match k, hk with
  | 0, _ => exact tl_2_0
  | 1, _ => exact tl_2_1
  | 2, _ => exact tl_2_2
  | 3, _ => exact tl_2_3
  | 4, _ => exact tl_2_4
  | 5, _ => exact tl_2_5
  | 6, _ => exact tl_2_6
  | k + 7, h => exact absurd h (by omega)
theorem z_cb2 : z_cb 2 RX2 TX2 7 tyX2 := ⟨rfl, z_u2, tyX2_ok, nmX2, by decide +kernel⟩
theorem tl_3_0 : u_lay RX3 TX3 0 ∈ z_TB := z_t1 (i := 143) (by decide +kernel) rfl
theorem tl_3_1 : u_lay RX3 TX3 1 ∈ z_TB := z_t1 (i := 145) (by decide +kernel) rfl
theorem tl_3_2 : u_lay RX3 TX3 2 ∈ z_TB := z_t1 (i := 147) (by decide +kernel) rfl
theorem z_u3 : ∀ w ∈ u_ws RX3 TX3 3, w ∈ z_TB := by
  intro w hw
  obtain ⟨k, hk, rfl⟩ := List.mem_map.mp hw
  have hk := List.mem_range.mp hk
  match k, hk with
  | 0, _ => exact tl_3_0
  | 1, _ => exact tl_3_1
  | 2, _ => exact tl_3_2
  | k + 3, h => exact absurd h (by omega)
theorem z_cb3 : z_cb 3 RX3 TX3 3 tyX3 := ⟨rfl, z_u3, tyX3_ok, nmX3, by decide +kernel⟩
theorem tl_4_0 : u_lay RX4 TX4 0 ∈ z_TB := z_t1 (i := 65) (by decide +kernel) rfl
theorem tl_4_1 : u_lay RX4 TX4 1 ∈ z_TB := z_t1 (i := 67) (by decide +kernel) rfl
theorem tl_4_2 : u_lay RX4 TX4 2 ∈ z_TB := z_t1 (i := 69) (by decide +kernel) rfl
theorem z_u4 : ∀ w ∈ u_ws RX4 TX4 3, w ∈ z_TB := by
  intro w hw
  obtain ⟨k, hk, rfl⟩ := List.mem_map.mp hw
  have hk := List.mem_range.mp hk
  match k, hk with
  | 0, _ => exact tl_4_0
  | 1, _ => exact tl_4_1
  | 2, _ => exact tl_4_2
  | k + 3, h => exact absurd h (by omega)
theorem z_cb4 : z_cb 4 RX4 TX4 3 tyX4 := ⟨rfl, z_u4, tyX4_ok, nmX4, by decide +kernel⟩
theorem tl_5_0 : u_lay RX5 TX5 0 ∈ z_TB := z_t1 (i := 208) (by decide +kernel) rfl
theorem tl_5_1 : u_lay RX5 TX5 1 ∈ z_TB := z_t1 (i := 210) (by decide +kernel) rfl
theorem z_u5 : ∀ w ∈ u_ws RX5 TX5 2, w ∈ z_TB := by
  intro w hw
  obtain ⟨k, hk, rfl⟩ := List.mem_map.mp hw
  have hk := List.mem_range.mp hk
  match k, hk with
  | 0, _ => exact tl_5_0
  | 1, _ => exact tl_5_1
  | k + 2, h => exact absurd h (by omega)
theorem z_cb5 : z_cb 5 RX5 TX5 2 tyX5 := ⟨rfl, z_u5, tyX5_ok, nmX5, by decide +kernel⟩
theorem tl_6_0 : u_lay RX6 TX6 0 ∈ z_TB := z_t1 (i := 177) (by decide +kernel) rfl
theorem tl_6_1 : u_lay RX6 TX6 1 ∈ z_TB := z_t1 (i := 179) (by decide +kernel) rfl
theorem tl_6_2 : u_lay RX6 TX6 2 ∈ z_TB := z_t1 (i := 181) (by decide +kernel) rfl
theorem tl_6_3 : u_lay RX6 TX6 3 ∈ z_TB := z_t1 (i := 183) (by decide +kernel) rfl
theorem tl_6_4 : u_lay RX6 TX6 4 ∈ z_TB := z_t1 (i := 185) (by decide +kernel) rfl
theorem tl_6_5 : u_lay RX6 TX6 5 ∈ z_TB := z_t1 (i := 187) (by decide +kernel) rfl
theorem tl_6_6 : u_lay RX6 TX6 6 ∈ z_TB := z_t1 (i := 189) (by decide +kernel) rfl
theorem tl_6_7 : u_lay RX6 TX6 7 ∈ z_TB := z_t1 (i := 191) (by decide +kernel) rfl
theorem tl_6_8 : u_lay RX6 TX6 8 ∈ z_TB := z_t1 (i := 193) (by decide +kernel) rfl
theorem tl_6_9 : u_lay RX6 TX6 9 ∈ z_TB := z_t1 (i := 195) (by decide +kernel) rfl
theorem z_u6 : ∀ w ∈ u_ws RX6 TX6 10, w ∈ z_TB := by
  intro w hw
  obtain ⟨k, hk, rfl⟩ := List.mem_map.mp hw
  have hk := List.mem_range.mp hk
  match k, hk with
  | 0, _ => exact tl_6_0
  | 1, _ => exact tl_6_1
  | 2, _ => exact tl_6_2
  | 3, _ => exact tl_6_3
  | 4, _ => exact tl_6_4
  | 5, _ => exact tl_6_5
  | 6, _ => exact tl_6_6
  | 7, _ => exact tl_6_7
  | 8, _ => exact tl_6_8
  | 9, _ => exact tl_6_9
  | k + 10, h => exact absurd h (by omega)
theorem z_cb6 : z_cb 6 RX6 TX6 10 tyX6 := ⟨rfl, z_u6, tyX6_ok, nmX6, by decide +kernel⟩
theorem tl_7_0 : u_lay RX7 TX7 0 ∈ z_TB := z_t1 (i := 224) (by decide +kernel) rfl
theorem tl_7_1 : u_lay RX7 TX7 1 ∈ z_TB := z_t1 (i := 226) (by decide +kernel) rfl
theorem tl_7_2 : u_lay RX7 TX7 2 ∈ z_TB := z_t1 (i := 228) (by decide +kernel) rfl
theorem tl_7_3 : u_lay RX7 TX7 3 ∈ z_TB := z_t1 (i := 230) (by decide +kernel) rfl
theorem tl_7_4 : u_lay RX7 TX7 4 ∈ z_TB := z_t1 (i := 232) (by decide +kernel) rfl
theorem tl_7_5 : u_lay RX7 TX7 5 ∈ z_TB := z_t1 (i := 234) (by decide +kernel) rfl
theorem tl_7_6 : u_lay RX7 TX7 6 ∈ z_TB := z_t1 (i := 236) (by decide +kernel) rfl
theorem tl_7_7 : u_lay RX7 TX7 7 ∈ z_TB := z_t1 (i := 238) (by decide +kernel) rfl
theorem tl_7_8 : u_lay RX7 TX7 8 ∈ z_TB := z_t2 (i := 0) (by decide +kernel) rfl
theorem tl_7_9 : u_lay RX7 TX7 9 ∈ z_TB := z_t2 (i := 2) (by decide +kernel) rfl
theorem tl_7_10 : u_lay RX7 TX7 10 ∈ z_TB := z_t2 (i := 4) (by decide +kernel) rfl
theorem z_u7 : ∀ w ∈ u_ws RX7 TX7 11, w ∈ z_TB := by
  intro w hw
  obtain ⟨k, hk, rfl⟩ := List.mem_map.mp hw
  have hk := List.mem_range.mp hk
  match k, hk with
  | 0, _ => exact tl_7_0
  | 1, _ => exact tl_7_1
  | 2, _ => exact tl_7_2
  | 3, _ => exact tl_7_3
  | 4, _ => exact tl_7_4
  | 5, _ => exact tl_7_5
  | 6, _ => exact tl_7_6
  | 7, _ => exact tl_7_7
  | 8, _ => exact tl_7_8
  | 9, _ => exact tl_7_9
  | 10, _ => exact tl_7_10
  | k + 11, h => exact absurd h (by omega)
theorem z_cb7 : z_cb 7 RX7 TX7 11 tyX7 := ⟨rfl, z_u7, tyX7_ok, nmX7, by decide +kernel⟩
theorem tl_8_0 : u_lay RX8 TX8 0 ∈ z_TB := z_t4 (i := 68) (by decide +kernel) rfl
theorem tl_8_1 : u_lay RX8 TX8 1 ∈ z_TB := z_t4 (i := 70) (by decide +kernel) rfl
theorem tl_8_2 : u_lay RX8 TX8 2 ∈ z_TB := z_t4 (i := 72) (by decide +kernel) rfl
theorem tl_8_3 : u_lay RX8 TX8 3 ∈ z_TB := z_t4 (i := 74) (by decide +kernel) rfl
theorem tl_8_4 : u_lay RX8 TX8 4 ∈ z_TB := z_t4 (i := 76) (by decide +kernel) rfl
theorem tl_8_5 : u_lay RX8 TX8 5 ∈ z_TB := z_t4 (i := 78) (by decide +kernel) rfl
theorem tl_8_6 : u_lay RX8 TX8 6 ∈ z_TB := z_t4 (i := 80) (by decide +kernel) rfl
theorem tl_8_7 : u_lay RX8 TX8 7 ∈ z_TB := z_t4 (i := 82) (by decide +kernel) rfl
theorem tl_8_8 : u_lay RX8 TX8 8 ∈ z_TB := z_t4 (i := 84) (by decide +kernel) rfl
theorem tl_8_9 : u_lay RX8 TX8 9 ∈ z_TB := z_t4 (i := 86) (by decide +kernel) rfl
theorem tl_8_10 : u_lay RX8 TX8 10 ∈ z_TB := z_t4 (i := 88) (by decide +kernel) rfl
theorem tl_8_11 : u_lay RX8 TX8 11 ∈ z_TB := z_t4 (i := 90) (by decide +kernel) rfl
theorem tl_8_12 : u_lay RX8 TX8 12 ∈ z_TB := z_t4 (i := 92) (by decide +kernel) rfl
theorem tl_8_13 : u_lay RX8 TX8 13 ∈ z_TB := z_t4 (i := 94) (by decide +kernel) rfl
theorem tl_8_14 : u_lay RX8 TX8 14 ∈ z_TB := z_t4 (i := 96) (by decide +kernel) rfl
theorem tl_8_15 : u_lay RX8 TX8 15 ∈ z_TB := z_t4 (i := 98) (by decide +kernel) rfl
theorem tl_8_16 : u_lay RX8 TX8 16 ∈ z_TB := z_t4 (i := 100) (by decide +kernel) rfl
theorem tl_8_17 : u_lay RX8 TX8 17 ∈ z_TB := z_t4 (i := 102) (by decide +kernel) rfl
theorem tl_8_18 : u_lay RX8 TX8 18 ∈ z_TB := z_t4 (i := 104) (by decide +kernel) rfl
theorem tl_8_19 : u_lay RX8 TX8 19 ∈ z_TB := z_t4 (i := 106) (by decide +kernel) rfl
theorem tl_8_20 : u_lay RX8 TX8 20 ∈ z_TB := z_t4 (i := 108) (by decide +kernel) rfl
theorem tl_8_21 : u_lay RX8 TX8 21 ∈ z_TB := z_t4 (i := 110) (by decide +kernel) rfl
theorem tl_8_22 : u_lay RX8 TX8 22 ∈ z_TB := z_t4 (i := 112) (by decide +kernel) rfl
theorem tl_8_23 : u_lay RX8 TX8 23 ∈ z_TB := z_t4 (i := 114) (by decide +kernel) rfl
theorem tl_8_24 : u_lay RX8 TX8 24 ∈ z_TB := z_t4 (i := 116) (by decide +kernel) rfl
theorem tl_8_25 : u_lay RX8 TX8 25 ∈ z_TB := z_t4 (i := 118) (by decide +kernel) rfl
theorem tl_8_26 : u_lay RX8 TX8 26 ∈ z_TB := z_t4 (i := 120) (by decide +kernel) rfl
theorem tl_8_27 : u_lay RX8 TX8 27 ∈ z_TB := z_t4 (i := 122) (by decide +kernel) rfl
theorem tl_8_28 : u_lay RX8 TX8 28 ∈ z_TB := z_t4 (i := 124) (by decide +kernel) rfl
theorem tl_8_29 : u_lay RX8 TX8 29 ∈ z_TB := z_t4 (i := 126) (by decide +kernel) rfl
theorem tl_8_30 : u_lay RX8 TX8 30 ∈ z_TB := z_t4 (i := 128) (by decide +kernel) rfl
theorem tl_8_31 : u_lay RX8 TX8 31 ∈ z_TB := z_t4 (i := 130) (by decide +kernel) rfl
theorem tl_8_32 : u_lay RX8 TX8 32 ∈ z_TB := z_t4 (i := 132) (by decide +kernel) rfl
theorem tl_8_33 : u_lay RX8 TX8 33 ∈ z_TB := z_t4 (i := 134) (by decide +kernel) rfl
theorem tl_8_34 : u_lay RX8 TX8 34 ∈ z_TB := z_t4 (i := 136) (by decide +kernel) rfl
theorem tl_8_35 : u_lay RX8 TX8 35 ∈ z_TB := z_t4 (i := 138) (by decide +kernel) rfl
theorem tl_8_36 : u_lay RX8 TX8 36 ∈ z_TB := z_t4 (i := 140) (by decide +kernel) rfl
theorem tl_8_37 : u_lay RX8 TX8 37 ∈ z_TB := z_t4 (i := 142) (by decide +kernel) rfl
theorem tl_8_38 : u_lay RX8 TX8 38 ∈ z_TB := z_t4 (i := 144) (by decide +kernel) rfl
theorem z_u8 : ∀ w ∈ u_ws RX8 TX8 39, w ∈ z_TB := by
  intro w hw
  obtain ⟨k, hk, rfl⟩ := List.mem_map.mp hw
  have hk := List.mem_range.mp hk
  match k, hk with
  | 0, _ => exact tl_8_0
  | 1, _ => exact tl_8_1
  | 2, _ => exact tl_8_2
  | 3, _ => exact tl_8_3
  | 4, _ => exact tl_8_4
  | 5, _ => exact tl_8_5
  | 6, _ => exact tl_8_6
  | 7, _ => exact tl_8_7
  | 8, _ => exact tl_8_8
  | 9, _ => exact tl_8_9
  | 10, _ => exact tl_8_10
  | 11, _ => exact tl_8_11
  | 12, _ => exact tl_8_12
  | 13, _ => exact tl_8_13
  | 14, _ => exact tl_8_14
  | 15, _ => exact tl_8_15
  | 16, _ => exact tl_8_16
  | 17, _ => exact tl_8_17
  | 18, _ => exact tl_8_18
  | 19, _ => exact tl_8_19
  | 20, _ => exact tl_8_20
  | 21, _ => exact tl_8_21
  | 22, _ => exact tl_8_22
  | 23, _ => exact tl_8_23
  | 24, _ => exact tl_8_24
  | 25, _ => exact tl_8_25
  | 26, _ => exact tl_8_26
  | 27, _ => exact tl_8_27
  | 28, _ => exact tl_8_28
  | 29, _ => exact tl_8_29
  | 30, _ => exact tl_8_30
  | 31, _ => exact tl_8_31
  | 32, _ => exact tl_8_32
  | 33, _ => exact tl_8_33
  | 34, _ => exact tl_8_34
  | 35, _ => exact tl_8_35
  | 36, _ => exact tl_8_36
  | 37, _ => exact tl_8_37
  | 38, _ => exact tl_8_38
  | k + 39, h => exact absurd h (by omega)
theorem z_cb8 : z_cb 8 RX8 TX8 39 tyX8 := ⟨rfl, z_u8, tyX8_ok, nmX8, by decide +kernel⟩
def z_flO : (Nat → Nat) → (Nat → Int32) → List Value := fun ad f => [.ref (ad 1), .ref (ad 2), .int (f 2), .ref (ad 34), .ref (ad 59), .ref (ad 63), .ref (ad 72), .ref (ad 15), .ref (ad 87), .ref (ad 88), .ref (ad 93)]
def z_flK (p : Nat) : (Nat → Nat) → (Nat → Int32) → List Value := fun ad f => [.ref (ad (p + 2)), .ref (ad (p + 4)), .int (f 2)]
def z_flF (p : Nat) : (Nat → Nat) → (Nat → Int32) → List Value := fun ad f => [.ref (ad (p + 9)), .ref (ad (p + 18)), .int (f 2)]
def z_flR (p : Nat) : (Nat → Nat) → (Nat → Int32) → List Value := fun ad f => [.int (f 0), .int (f 1), .int (f 2), .int (f 3), .ref (ad (p + 12)), .int (f 5), .int (f 6)]
def z_flA : (Nat → Nat) → (Nat → Int32) → List Value := fun ad f => [.ref (ad 60), .ref (ad 61), .ref (ad 62), .int (f 3)]
def z_flS (p : Nat) : (Nat → Nat) → (Nat → Int32) → List Value := fun ad f => [.ref (ad (p + 4)), .int (f 1), .int (f 2)]
def z_flW : (Nat → Nat) → (Nat → Int32) → List Value := fun ad f => [.ref (ad 73), .int (f 1), .int (f 2), .int (f 3), .int (f 4), .int (f 5), .int (f 6), .int (f 7), .int (f 8), .int (f 9)]
def z_flT (p : Nat) : (Nat → Nat) → (Nat → Int32) → List Value := fun ad f => [.ref (ad (p + 2)), .ref (ad (p + 4))]
def z_EX (cs : Nat → ClassId) (ad : Nat → Nat) (p : Nat) (f : Nat → Int32) (g : Nat → Int64) : va_E := if p = 0 then .inr (7, z_flO ad f) else if p < 3 then .inr (4, z_flK p ad f) else if p < 5 then .inl (cs 0, 12, .inl f) else if p < 7 then .inl (cs 3, 4, .inr (.inr (.inr (.inr (fun i => if i < 4 then some (ad (4 * p - 13 + i)) else none))))) else if p < 16 then .inr (1, z_flF p ad f) else if p < 34 then .inl (cs 0, 40, .inl f) else if p = 34 then .inl (cs 4, 12, .inr (.inr (.inr (.inr (fun i => if i < 12 then some (ad (35 + i)) else none))))) else if p < 47 then .inr (2, z_flR p ad f) else if p < 59 then .inl (cs 0, 12, .inl f) else if p = 59 then .inr (0, z_flA ad f) else if p < 63 then .inl (cs 0, 20, .inl f) else if p = 63 then .inl (cs 5, 4, .inr (.inr (.inr (.inr (fun i => if i < 4 then some (ad (64 + i)) else none))))) else if p < 68 then .inr (3, z_flS p ad f) else if p < 72 then .inl (cs 1, 40, .inr (.inl g)) else if p = 72 then .inr (6, z_flW ad f) else if p = 73 then .inl (cs 6, 13, .inr (.inr (.inr (.inr (fun i => if i < 13 then some (ad (74 + i)) else none))))) else if p < 87 then .inl (cs 0, 40, .inl f) else if p < 89 then .inr (5, z_flT p ad f) else if p < 91 then .inl (cs 1, 64, .inr (.inl g)) else if p < 93 then .inl (cs 0, 64, .inl f) else .inl (cs 0, 40, .inl f)
def ΛX : zL := (94, z_EX)
def z_stk (p : Nat) : Prop := 1 ≤ p ∧ p < 3
def z_fam (p : Nat) : Prop := 7 ≤ p ∧ p < 16
def z_rul (p : Nat) : Prop := 35 ≤ p ∧ p < 47
def z_she (p : Nat) : Prop := 64 ≤ p ∧ p < 68
def z_tab (p : Nat) : Prop := 87 ≤ p ∧ p < 89
theorem fx_obj : z_FO ΛX 0 7 z_flO := ⟨by decide, fun _ _ _ _ => rfl⟩
theorem fx_stk {p : Nat} (h : z_stk p) : z_FO ΛX p 4 (z_flK p) := by
  unfold z_stk at h
  exact ⟨by show p < 94; omega, fun cs ad f g => by
  show z_EX cs ad (p) f g = _
  unfold z_EX
  rw [if_neg (show ¬ p = 0 by omega), if_pos (show p < 3 by omega)]⟩
theorem fx_pri {p : Nat} (h : z_stk p) : z_FI ΛX (p + 2) 12 := by
  unfold z_stk at h
  exact ⟨by show p + 2 < 94; omega, fun cs ad f g => by
  show z_EX cs ad (p + 2) f g = _
  unfold z_EX
  rw [if_neg (show ¬ p + 2 = 0 by omega), if_neg (show ¬ p + 2 < 3 by omega), if_pos (show p + 2 < 5 by omega)]⟩
theorem fx_fms {p : Nat} (h : z_stk p) : z_FR ΛX (p + 4) 3 4 (fun i => 4 * p + 3 + i) := by
  unfold z_stk at h
  have e : 4 * (p + 4) - 13 = 4 * p + 3 := by omega
  exact ⟨by show p + 4 < 94; omega, fun cs ad f g => by
  show z_EX cs ad (p + 4) f g = _
  unfold z_EX
  rw [if_neg (show ¬ p + 4 = 0 by omega), if_neg (show ¬ p + 4 < 3 by omega), if_neg (show ¬ p + 4 < 5 by omega), if_pos (show p + 4 < 7 by omega), e]⟩
theorem fx_fms1 : z_FR ΛX 5 3 4 (fun i => 7 + i) := ⟨by decide, fun _ _ _ _ => rfl⟩
theorem z_in_lt {i : Int32} {n : Nat} (h : z_in i n = true) : i.toNatClampNeg < n := by
  obtain ⟨h1, h2⟩ := of_decide_eq_true h
  have := z_clamp h1
  omega
theorem fx_fmi {p : Nat} {i : Int32} (h : z_stk p) (hi : z_in i 4 = true) : z_fam (4 * p + 3 + i.toNatClampNeg) := by
  have := z_in_lt hi
  unfold z_stk at h
  unfold z_fam
  omega
theorem fx_fmi1 {i : Int32} (hi : z_in i 4 = true) : z_fam (7 + i.toNatClampNeg) := by
  have := z_in_lt hi
  unfold z_fam
  omega
theorem fx_fam {p : Nat} (h : z_fam p) : z_FO ΛX p 1 (z_flF p) := by
  unfold z_fam at h
  exact ⟨by show p < 94; omega, fun cs ad f g => by
  show z_EX cs ad (p) f g = _
  unfold z_EX
  rw [if_neg (show ¬ p = 0 by omega), if_neg (show ¬ p < 3 by omega), if_neg (show ¬ p < 5 by omega), if_neg (show ¬ p < 7 by omega), if_pos (show p < 16 by omega)]⟩
theorem fx_set {p : Nat} (h : z_fam p) : z_FI ΛX (p + 9) 40 := by
  unfold z_fam at h
  exact ⟨by show p + 9 < 94; omega, fun cs ad f g => by
  show z_EX cs ad (p + 9) f g = _
  unfold z_EX
  rw [if_neg (show ¬ p + 9 = 0 by omega), if_neg (show ¬ p + 9 < 3 by omega), if_neg (show ¬ p + 9 < 5 by omega), if_neg (show ¬ p + 9 < 7 by omega), if_neg (show ¬ p + 9 < 16 by omega), if_pos (show p + 9 < 34 by omega)]⟩
theorem fx_tal {p : Nat} (h : z_fam p) : z_FI ΛX (p + 18) 40 := by
  unfold z_fam at h
  exact ⟨by show p + 18 < 94; omega, fun cs ad f g => by
  show z_EX cs ad (p + 18) f g = _
  unfold z_EX
  rw [if_neg (show ¬ p + 18 = 0 by omega), if_neg (show ¬ p + 18 < 3 by omega), if_neg (show ¬ p + 18 < 5 by omega), if_neg (show ¬ p + 18 < 7 by omega), if_neg (show ¬ p + 18 < 16 by omega), if_pos (show p + 18 < 34 by omega)]⟩
theorem fx_rls : z_FR ΛX 34 4 12 (fun i => 35 + i) := ⟨by decide, fun _ _ _ _ => rfl⟩
theorem fx_rli {i : Int32} (hi : z_in i 12 = true) : z_rul (35 + i.toNatClampNeg) := by
  have := z_in_lt hi
  unfold z_rul
  omega
theorem fx_rul {p : Nat} (h : z_rul p) : z_FO ΛX p 2 (z_flR p) := by
  unfold z_rul at h
  exact ⟨by show p < 94; omega, fun cs ad f g => by
  show z_EX cs ad (p) f g = _
  unfold z_EX
  rw [if_neg (show ¬ p = 0 by omega), if_neg (show ¬ p < 3 by omega), if_neg (show ¬ p < 5 by omega), if_neg (show ¬ p < 7 by omega), if_neg (show ¬ p < 16 by omega), if_neg (show ¬ p < 34 by omega), if_neg (show ¬ p = 34 by omega), if_pos (show p < 47 by omega)]⟩
theorem fx_rlp {p : Nat} (h : z_rul p) : z_FI ΛX (p + 12) 12 := by
  unfold z_rul at h
  exact ⟨by show p + 12 < 94; omega, fun cs ad f g => by
  show z_EX cs ad (p + 12) f g = _
  unfold z_EX
  rw [if_neg (show ¬ p + 12 = 0 by omega), if_neg (show ¬ p + 12 < 3 by omega), if_neg (show ¬ p + 12 < 5 by omega), if_neg (show ¬ p + 12 < 7 by omega), if_neg (show ¬ p + 12 < 16 by omega), if_neg (show ¬ p + 12 < 34 by omega), if_neg (show ¬ p + 12 = 34 by omega), if_neg (show ¬ p + 12 < 47 by omega), if_pos (show p + 12 < 59 by omega)]⟩
theorem fx_act : z_FO ΛX 59 0 z_flA := ⟨by decide, fun _ _ _ _ => rfl⟩
theorem fx_ac60 : z_FI ΛX 60 20 := ⟨by decide, fun _ _ _ _ => rfl⟩
theorem fx_ac61 : z_FI ΛX 61 20 := ⟨by decide, fun _ _ _ _ => rfl⟩
theorem fx_ac62 : z_FI ΛX 62 20 := ⟨by decide, fun _ _ _ _ => rfl⟩
theorem fx_shs : z_FR ΛX 63 5 4 (fun i => 64 + i) := ⟨by decide, fun _ _ _ _ => rfl⟩
theorem fx_shi {i : Int32} (hi : z_in i 4 = true) : z_she (64 + i.toNatClampNeg) := by
  have := z_in_lt hi
  unfold z_she
  omega
theorem fx_she {p : Nat} (h : z_she p) : z_FO ΛX p 3 (z_flS p) := by
  unfold z_she at h
  exact ⟨by show p < 94; omega, fun cs ad f g => by
  show z_EX cs ad (p) f g = _
  unfold z_EX
  rw [if_neg (show ¬ p = 0 by omega), if_neg (show ¬ p < 3 by omega), if_neg (show ¬ p < 5 by omega), if_neg (show ¬ p < 7 by omega), if_neg (show ¬ p < 16 by omega), if_neg (show ¬ p < 34 by omega), if_neg (show ¬ p = 34 by omega), if_neg (show ¬ p < 47 by omega), if_neg (show ¬ p < 59 by omega), if_neg (show ¬ p = 59 by omega), if_neg (show ¬ p < 63 by omega), if_neg (show ¬ p = 63 by omega), if_pos (show p < 68 by omega)]⟩
theorem fx_row {p : Nat} (h : z_she p) : z_FJ ΛX (p + 4) 40 := by
  unfold z_she at h
  exact ⟨by show p + 4 < 94; omega, fun cs ad f g => by
  show z_EX cs ad (p + 4) f g = _
  unfold z_EX
  rw [if_neg (show ¬ p + 4 = 0 by omega), if_neg (show ¬ p + 4 < 3 by omega), if_neg (show ¬ p + 4 < 5 by omega), if_neg (show ¬ p + 4 < 7 by omega), if_neg (show ¬ p + 4 < 16 by omega), if_neg (show ¬ p + 4 < 34 by omega), if_neg (show ¬ p + 4 = 34 by omega), if_neg (show ¬ p + 4 < 47 by omega), if_neg (show ¬ p + 4 < 59 by omega), if_neg (show ¬ p + 4 = 59 by omega), if_neg (show ¬ p + 4 < 63 by omega), if_neg (show ¬ p + 4 = 63 by omega), if_neg (show ¬ p + 4 < 68 by omega), if_pos (show p + 4 < 72 by omega)]⟩
theorem fx_wlk : z_FO ΛX 72 6 z_flW := ⟨by decide, fun _ _ _ _ => rfl⟩
theorem fx_wrs : z_FR ΛX 73 6 13 (fun i => 74 + i) := ⟨by decide, fun _ _ _ _ => rfl⟩
theorem fx_wro {p : Nat} (h : p < 13) : z_FI ΛX (74 + p) 40 := ⟨by show 74 + p < 94; omega, fun cs ad f g => by
  show z_EX cs ad (74 + p) f g = _
  unfold z_EX
  rw [if_neg (show ¬ 74 + p = 0 by omega), if_neg (show ¬ 74 + p < 3 by omega), if_neg (show ¬ 74 + p < 5 by omega), if_neg (show ¬ 74 + p < 7 by omega), if_neg (show ¬ 74 + p < 16 by omega), if_neg (show ¬ 74 + p < 34 by omega), if_neg (show ¬ 74 + p = 34 by omega), if_neg (show ¬ 74 + p < 47 by omega), if_neg (show ¬ 74 + p < 59 by omega), if_neg (show ¬ 74 + p = 59 by omega), if_neg (show ¬ 74 + p < 63 by omega), if_neg (show ¬ 74 + p = 63 by omega), if_neg (show ¬ 74 + p < 68 by omega), if_neg (show ¬ 74 + p < 72 by omega), if_neg (show ¬ 74 + p = 72 by omega), if_neg (show ¬ 74 + p = 73 by omega), if_pos (show 74 + p < 87 by omega)]⟩
theorem fx_wri {i : Int32} (hi : z_in i 13 = true) : z_FI ΛX (74 + i.toNatClampNeg) 40 := fx_wro (z_in_lt hi)
theorem fx_tab {p : Nat} (h : z_tab p) : z_FO ΛX p 5 (z_flT p) := by
  unfold z_tab at h
  exact ⟨by show p < 94; omega, fun cs ad f g => by
  show z_EX cs ad (p) f g = _
  unfold z_EX
  rw [if_neg (show ¬ p = 0 by omega), if_neg (show ¬ p < 3 by omega), if_neg (show ¬ p < 5 by omega), if_neg (show ¬ p < 7 by omega), if_neg (show ¬ p < 16 by omega), if_neg (show ¬ p < 34 by omega), if_neg (show ¬ p = 34 by omega), if_neg (show ¬ p < 47 by omega), if_neg (show ¬ p < 59 by omega), if_neg (show ¬ p = 59 by omega), if_neg (show ¬ p < 63 by omega), if_neg (show ¬ p = 63 by omega), if_neg (show ¬ p < 68 by omega), if_neg (show ¬ p < 72 by omega), if_neg (show ¬ p = 72 by omega), if_neg (show ¬ p = 73 by omega), if_neg (show ¬ p < 87 by omega), if_pos (show p < 89 by omega)]⟩
theorem fx_wor {p : Nat} (h : z_tab p) : z_FJ ΛX (p + 2) 64 := by
  unfold z_tab at h
  exact ⟨by show p + 2 < 94; omega, fun cs ad f g => by
  show z_EX cs ad (p + 2) f g = _
  unfold z_EX
  rw [if_neg (show ¬ p + 2 = 0 by omega), if_neg (show ¬ p + 2 < 3 by omega), if_neg (show ¬ p + 2 < 5 by omega), if_neg (show ¬ p + 2 < 7 by omega), if_neg (show ¬ p + 2 < 16 by omega), if_neg (show ¬ p + 2 < 34 by omega), if_neg (show ¬ p + 2 = 34 by omega), if_neg (show ¬ p + 2 < 47 by omega), if_neg (show ¬ p + 2 < 59 by omega), if_neg (show ¬ p + 2 = 59 by omega), if_neg (show ¬ p + 2 < 63 by omega), if_neg (show ¬ p + 2 = 63 by omega), if_neg (show ¬ p + 2 < 68 by omega), if_neg (show ¬ p + 2 < 72 by omega), if_neg (show ¬ p + 2 = 72 by omega), if_neg (show ¬ p + 2 = 73 by omega), if_neg (show ¬ p + 2 < 87 by omega), if_neg (show ¬ p + 2 < 89 by omega), if_pos (show p + 2 < 91 by omega)]⟩
theorem fx_sup {p : Nat} (h : z_tab p) : z_FI ΛX (p + 4) 64 := by
  unfold z_tab at h
  exact ⟨by show p + 4 < 94; omega, fun cs ad f g => by
  show z_EX cs ad (p + 4) f g = _
  unfold z_EX
  rw [if_neg (show ¬ p + 4 = 0 by omega), if_neg (show ¬ p + 4 < 3 by omega), if_neg (show ¬ p + 4 < 5 by omega), if_neg (show ¬ p + 4 < 7 by omega), if_neg (show ¬ p + 4 < 16 by omega), if_neg (show ¬ p + 4 < 34 by omega), if_neg (show ¬ p + 4 = 34 by omega), if_neg (show ¬ p + 4 < 47 by omega), if_neg (show ¬ p + 4 < 59 by omega), if_neg (show ¬ p + 4 = 59 by omega), if_neg (show ¬ p + 4 < 63 by omega), if_neg (show ¬ p + 4 = 63 by omega), if_neg (show ¬ p + 4 < 68 by omega), if_neg (show ¬ p + 4 < 72 by omega), if_neg (show ¬ p + 4 = 72 by omega), if_neg (show ¬ p + 4 = 73 by omega), if_neg (show ¬ p + 4 < 87 by omega), if_neg (show ¬ p + 4 < 89 by omega), if_neg (show ¬ p + 4 < 91 by omega), if_pos (show p + 4 < 93 by omega)]⟩
theorem fx_wth : z_FI ΛX 93 40 := ⟨by decide, fun _ _ _ _ => rfl⟩
theorem fx_pr3 : z_FI ΛX 3 12 := ⟨by decide, fun _ _ _ _ => rfl⟩
theorem z_stk_1 : z_stk 1 := by unfold z_stk; omega
theorem z_stk_2 : z_stk 2 := by unfold z_stk; omega
theorem z_fam_15 : z_fam 15 := by unfold z_fam; omega
theorem z_tab_87 : z_tab 87 := by unfold z_tab; omega
theorem z_tab_88 : z_tab 88 := by unfold z_tab; omega
theorem fp_O2 {v : Int32} : ∀ ad f, 2 < (z_flO ad f).length ∧ (z_flO ad f).set 2 (.int v) = z_flO ad (upd f 2 v) := fun _ _ => ⟨Nat.le_of_ble_eq_true rfl, rfl⟩
theorem fp_K2 {p : Nat} {v : Int32} : ∀ ad f, 2 < ((z_flK p) ad f).length ∧ ((z_flK p) ad f).set 2 (.int v) = (z_flK p) ad (upd f 2 v) := fun _ _ => ⟨Nat.le_of_ble_eq_true rfl, rfl⟩
theorem fp_F2 {p : Nat} {v : Int32} : ∀ ad f, 2 < ((z_flF p) ad f).length ∧ ((z_flF p) ad f).set 2 (.int v) = (z_flF p) ad (upd f 2 v) := fun _ _ => ⟨Nat.le_of_ble_eq_true rfl, rfl⟩
theorem fp_R0 {p : Nat} {v : Int32} : ∀ ad f, 0 < ((z_flR p) ad f).length ∧ ((z_flR p) ad f).set 0 (.int v) = (z_flR p) ad (upd f 0 v) := fun _ _ => ⟨Nat.le_of_ble_eq_true rfl, rfl⟩
theorem fp_R1 {p : Nat} {v : Int32} : ∀ ad f, 1 < ((z_flR p) ad f).length ∧ ((z_flR p) ad f).set 1 (.int v) = (z_flR p) ad (upd f 1 v) := fun _ _ => ⟨Nat.le_of_ble_eq_true rfl, rfl⟩
theorem fp_R2 {p : Nat} {v : Int32} : ∀ ad f, 2 < ((z_flR p) ad f).length ∧ ((z_flR p) ad f).set 2 (.int v) = (z_flR p) ad (upd f 2 v) := fun _ _ => ⟨Nat.le_of_ble_eq_true rfl, rfl⟩
theorem fp_R3 {p : Nat} {v : Int32} : ∀ ad f, 3 < ((z_flR p) ad f).length ∧ ((z_flR p) ad f).set 3 (.int v) = (z_flR p) ad (upd f 3 v) := fun _ _ => ⟨Nat.le_of_ble_eq_true rfl, rfl⟩
theorem fp_R5 {p : Nat} {v : Int32} : ∀ ad f, 5 < ((z_flR p) ad f).length ∧ ((z_flR p) ad f).set 5 (.int v) = (z_flR p) ad (upd f 5 v) := fun _ _ => ⟨Nat.le_of_ble_eq_true rfl, rfl⟩
theorem fp_R6 {p : Nat} {v : Int32} : ∀ ad f, 6 < ((z_flR p) ad f).length ∧ ((z_flR p) ad f).set 6 (.int v) = (z_flR p) ad (upd f 6 v) := fun _ _ => ⟨Nat.le_of_ble_eq_true rfl, rfl⟩
theorem fp_A3 {v : Int32} : ∀ ad f, 3 < (z_flA ad f).length ∧ (z_flA ad f).set 3 (.int v) = z_flA ad (upd f 3 v) := fun _ _ => ⟨Nat.le_of_ble_eq_true rfl, rfl⟩
theorem fp_S1 {p : Nat} {v : Int32} : ∀ ad f, 1 < ((z_flS p) ad f).length ∧ ((z_flS p) ad f).set 1 (.int v) = (z_flS p) ad (upd f 1 v) := fun _ _ => ⟨Nat.le_of_ble_eq_true rfl, rfl⟩
theorem fp_S2 {p : Nat} {v : Int32} : ∀ ad f, 2 < ((z_flS p) ad f).length ∧ ((z_flS p) ad f).set 2 (.int v) = (z_flS p) ad (upd f 2 v) := fun _ _ => ⟨Nat.le_of_ble_eq_true rfl, rfl⟩
theorem fp_W1 {v : Int32} : ∀ ad f, 1 < (z_flW ad f).length ∧ (z_flW ad f).set 1 (.int v) = z_flW ad (upd f 1 v) := fun _ _ => ⟨Nat.le_of_ble_eq_true rfl, rfl⟩
theorem fp_W2 {v : Int32} : ∀ ad f, 2 < (z_flW ad f).length ∧ (z_flW ad f).set 2 (.int v) = z_flW ad (upd f 2 v) := fun _ _ => ⟨Nat.le_of_ble_eq_true rfl, rfl⟩
theorem fp_W3 {v : Int32} : ∀ ad f, 3 < (z_flW ad f).length ∧ (z_flW ad f).set 3 (.int v) = z_flW ad (upd f 3 v) := fun _ _ => ⟨Nat.le_of_ble_eq_true rfl, rfl⟩
theorem fp_W4 {v : Int32} : ∀ ad f, 4 < (z_flW ad f).length ∧ (z_flW ad f).set 4 (.int v) = z_flW ad (upd f 4 v) := fun _ _ => ⟨Nat.le_of_ble_eq_true rfl, rfl⟩
theorem fp_W5 {v : Int32} : ∀ ad f, 5 < (z_flW ad f).length ∧ (z_flW ad f).set 5 (.int v) = z_flW ad (upd f 5 v) := fun _ _ => ⟨Nat.le_of_ble_eq_true rfl, rfl⟩
theorem fp_W6 {v : Int32} : ∀ ad f, 6 < (z_flW ad f).length ∧ (z_flW ad f).set 6 (.int v) = z_flW ad (upd f 6 v) := fun _ _ => ⟨Nat.le_of_ble_eq_true rfl, rfl⟩
theorem fp_W7 {v : Int32} : ∀ ad f, 7 < (z_flW ad f).length ∧ (z_flW ad f).set 7 (.int v) = z_flW ad (upd f 7 v) := fun _ _ => ⟨Nat.le_of_ble_eq_true rfl, rfl⟩
theorem fp_W8 {v : Int32} : ∀ ad f, 8 < (z_flW ad f).length ∧ (z_flW ad f).set 8 (.int v) = z_flW ad (upd f 8 v) := fun _ _ => ⟨Nat.le_of_ble_eq_true rfl, rfl⟩
theorem fp_W9 {v : Int32} : ∀ ad f, 9 < (z_flW ad f).length ∧ (z_flW ad f).set 9 (.int v) = z_flW ad (upd f 9 v) := fun _ _ => ⟨Nat.le_of_ble_eq_true rfl, rfl⟩
def z_flM : (Nat → Nat) → (Nat → Int32) → List Value := fun ad f => [.ref (ad 1), .ref (ad 2), .ref (ad 3), .ref (ad 4), .int (f 4), .ref (ad 5), .ref (ad 6), .ref (ad 7), .ref (ad 8), .ref (ad 9), .int (f 10), .ref (ad 10), .ref (ad 11), .ref (ad 12), .ref (ad 13), .ref (ad 14), .int (f 16), .ref (ad 15), .int (f 18), .ref (ad 16), .int (f 20), .int (f 21), .int (f 22), .int (f 23), .int (f 24), .int (f 25), .int (f 26), .int (f 27), .ref (ad 17), .ref (ad 18), .ref (ad 19), .ref (ad 20), .ref (ad 21), .int (f 33), .ref (ad 22), .ref (ad 23), .ref (ad 24), .ref (ad 25), .int (f 38)]
def z_EM (cs : Nat → ClassId) (ad : Nat → Nat) (p : Nat) (f : Nat → Int32) (g : Nat → Int64) : va_E := match p with
  | 0 => .inr (8, z_flM ad f)
  | 1 => .inl (cs 0, 12, .inl f)
  | 2 => .inl (cs 0, 4, .inl f)
  | 3 => .inl (cs 0, 160, .inl f)
  | 4 => .inl (cs 0, 160, .inl f)
  | 5 => .inl (cs 0, 12, .inl f)
  | 6 => .inl (cs 0, 12, .inl f)
  | 7 => .inl (cs 0, 12, .inl f)
  | 8 => .inl (cs 0, 12, .inl f)
  | 9 => .inl (cs 0, 144, .inl f)
  | 10 => .inl (cs 0, 20, .inl f)
  | 11 => .inl (cs 0, 20, .inl f)
  | 12 => .inl (cs 0, 20, .inl f)
  | 13 => .inl (cs 2, 40, .inl f)
  | 14 => .inl (cs 0, 780, .inl f)
  | 15 => .inl (cs 0, 4096, .inl f)
  | 16 => .inl (cs 0, 560, .inl f)
  | 17 => .inl (cs 2, 4096, .inl f)
  | 18 => .inl (cs 0, 40, .inl f)
  | 19 => .inl (cs 0, 4, .inl f)
  | 20 => .inl (cs 0, 4, .inl f)
  | 21 => .inl (cs 1, 160, .inr (.inl g))
  | 22 => .inl (cs 0, 12, .inl f)
  | 23 => .inl (cs 0, 4, .inl f)
  | 24 => .inl (cs 0, 160, .inl f)
  | _ => .inl (cs 0, 160, .inl f)
def ΛM : zL := (26, z_EM)
theorem fm_obj : z_FO ΛM 0 8 z_flM := ⟨by decide, fun _ _ _ _ => rfl⟩
theorem fm_price : z_FI ΛM 1 12 := ⟨by decide, fun _ _ _ _ => rfl⟩
theorem fm_sizes : z_FI ΛM 2 4 := ⟨by decide, fun _ _ _ _ => rfl⟩
theorem fm_sets : z_FI ΛM 3 160 := ⟨by decide, fun _ _ _ _ => rfl⟩
theorem fm_tallies : z_FI ΛM 4 160 := ⟨by decide, fun _ _ _ _ => rfl⟩
theorem fm_ruleHow : z_FI ΛM 5 12 := ⟨by decide, fun _ _ _ _ => rfl⟩
theorem fm_ruleA : z_FI ΛM 6 12 := ⟨by decide, fun _ _ _ _ => rfl⟩
theorem fm_ruleB : z_FI ΛM 7 12 := ⟨by decide, fun _ _ _ _ => rfl⟩
theorem fm_ruleC : z_FI ΛM 8 12 := ⟨by decide, fun _ _ _ _ => rfl⟩
theorem fm_rulePrice : z_FI ΛM 9 144 := ⟨by decide, fun _ _ _ _ => rfl⟩
theorem fm_actSort : z_FI ΛM 10 20 := ⟨by decide, fun _ _ _ _ => rfl⟩
theorem fm_actOf : z_FI ΛM 11 20 := ⟨by decide, fun _ _ _ _ => rfl⟩
theorem fm_actV : z_FI ΛM 12 20 := ⟨by decide, fun _ _ _ _ => rfl⟩
theorem fm_goes : z_FZ ΛM 13 40 := ⟨by decide, fun _ _ _ _ => rfl⟩
theorem fm_wanted : z_FI ΛM 14 780 := ⟨by decide, fun _ _ _ _ => rfl⟩
theorem fm_least : z_FI ΛM 15 4096 := ⟨by decide, fun _ _ _ _ => rfl⟩
theorem fm_row : z_FI ΛM 16 560 := ⟨by decide, fun _ _ _ _ => rfl⟩
theorem fm_isCommon : z_FZ ΛM 17 4096 := ⟨by decide, fun _ _ _ _ => rfl⟩
theorem fm_worths : z_FI ΛM 18 40 := ⟨by decide, fun _ _ _ _ => rfl⟩
theorem fm_sorts : z_FI ΛM 19 4 := ⟨by decide, fun _ _ _ _ => rfl⟩
theorem fm_long0 : z_FI ΛM 20 4 := ⟨by decide, fun _ _ _ _ => rfl⟩
theorem fm_cells : z_FJ ΛM 21 160 := ⟨by decide, fun _ _ _ _ => rfl⟩
theorem fm_keptPrice : z_FI ΛM 22 12 := ⟨by decide, fun _ _ _ _ => rfl⟩
theorem fm_keptSizes : z_FI ΛM 23 4 := ⟨by decide, fun _ _ _ _ => rfl⟩
theorem fm_keptSets : z_FI ΛM 24 160 := ⟨by decide, fun _ _ _ _ => rfl⟩
theorem fm_keptTallies : z_FI ΛM 25 160 := ⟨by decide, fun _ _ _ _ => rfl⟩
theorem fp_M4 {v : Int32} : ∀ ad f, 4 < (z_flM ad f).length ∧ (z_flM ad f).set 4 (.int v) = z_flM ad (upd f 4 v) := fun _ _ => ⟨Nat.le_of_ble_eq_true rfl, rfl⟩
theorem fp_M10 {v : Int32} : ∀ ad f, 10 < (z_flM ad f).length ∧ (z_flM ad f).set 10 (.int v) = z_flM ad (upd f 10 v) := fun _ _ => ⟨Nat.le_of_ble_eq_true rfl, rfl⟩
theorem fp_M16 {v : Int32} : ∀ ad f, 16 < (z_flM ad f).length ∧ (z_flM ad f).set 16 (.int v) = z_flM ad (upd f 16 v) := fun _ _ => ⟨Nat.le_of_ble_eq_true rfl, rfl⟩
theorem fp_M18 {v : Int32} : ∀ ad f, 18 < (z_flM ad f).length ∧ (z_flM ad f).set 18 (.int v) = z_flM ad (upd f 18 v) := fun _ _ => ⟨Nat.le_of_ble_eq_true rfl, rfl⟩
theorem fp_M20 {v : Int32} : ∀ ad f, 20 < (z_flM ad f).length ∧ (z_flM ad f).set 20 (.int v) = z_flM ad (upd f 20 v) := fun _ _ => ⟨Nat.le_of_ble_eq_true rfl, rfl⟩
theorem fp_M21 {v : Int32} : ∀ ad f, 21 < (z_flM ad f).length ∧ (z_flM ad f).set 21 (.int v) = z_flM ad (upd f 21 v) := fun _ _ => ⟨Nat.le_of_ble_eq_true rfl, rfl⟩
theorem fp_M22 {v : Int32} : ∀ ad f, 22 < (z_flM ad f).length ∧ (z_flM ad f).set 22 (.int v) = z_flM ad (upd f 22 v) := fun _ _ => ⟨Nat.le_of_ble_eq_true rfl, rfl⟩
theorem fp_M23 {v : Int32} : ∀ ad f, 23 < (z_flM ad f).length ∧ (z_flM ad f).set 23 (.int v) = z_flM ad (upd f 23 v) := fun _ _ => ⟨Nat.le_of_ble_eq_true rfl, rfl⟩
theorem fp_M24 {v : Int32} : ∀ ad f, 24 < (z_flM ad f).length ∧ (z_flM ad f).set 24 (.int v) = z_flM ad (upd f 24 v) := fun _ _ => ⟨Nat.le_of_ble_eq_true rfl, rfl⟩
theorem fp_M25 {v : Int32} : ∀ ad f, 25 < (z_flM ad f).length ∧ (z_flM ad f).set 25 (.int v) = z_flM ad (upd f 25 v) := fun _ _ => ⟨Nat.le_of_ble_eq_true rfl, rfl⟩
theorem fp_M26 {v : Int32} : ∀ ad f, 26 < (z_flM ad f).length ∧ (z_flM ad f).set 26 (.int v) = z_flM ad (upd f 26 v) := fun _ _ => ⟨Nat.le_of_ble_eq_true rfl, rfl⟩
theorem fp_M27 {v : Int32} : ∀ ad f, 27 < (z_flM ad f).length ∧ (z_flM ad f).set 27 (.int v) = z_flM ad (upd f 27 v) := fun _ _ => ⟨Nat.le_of_ble_eq_true rfl, rfl⟩
theorem fp_M33 {v : Int32} : ∀ ad f, 33 < (z_flM ad f).length ∧ (z_flM ad f).set 33 (.int v) = z_flM ad (upd f 33 v) := fun _ _ => ⟨Nat.le_of_ble_eq_true rfl, rfl⟩
theorem fp_M38 {v : Int32} : ∀ ad f, 38 < (z_flM ad f).length ∧ (z_flM ad f).set 38 (.int v) = z_flM ad (upd f 38 v) := fun _ _ => ⟨Nat.le_of_ble_eq_true rfl, rfl⟩
