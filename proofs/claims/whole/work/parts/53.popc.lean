/-! pure: how many bits a long has -/
theorem d_and {k K : Nat} (hK : 2 ^ k = K) (x y : Nat) : x &&& y = K * ((x / K) &&& (y / K)) + ((x % K) &&& (y % K)) := by
  subst hK
  rw [← Nat.and_div_two_pow, ← Nat.and_mod_two_pow, Nat.div_add_mod]
theorem d_a3 (z : Nat) : z &&& 3 = z % 4 := Nat.and_two_pow_sub_one_eq_mod z 2
theorem d_a15 (z : Nat) : z &&& 15 = z % 16 := Nat.and_two_pow_sub_one_eq_mod z 4
theorem d_a127 (z : Nat) : z &&& 127 = z % 128 := Nat.and_two_pow_sub_one_eq_mod z 7
def d_m1 : Nat → Nat
  | 0 => 0
  | n + 1 => 4 * d_m1 n + 1
def d_1 : Nat → Nat → Nat
  | 0, _ => 0
  | n + 1, x => 4 * d_1 n (x / 2 / 2) + (x % 2 + x / 2 % 2)
theorem d_A : ∀ n x, x < 4 ^ n → ((x / 2) &&& d_m1 n) ≤ x ∧ x - ((x / 2) &&& d_m1 n) = d_1 n x
  | 0, x, h => by
    have h0 : x = 0 := by
      rw [Nat.pow_zero] at h
      omega
    subst h0
    exact ⟨by decide, rfl⟩
  | n + 1, x, h => by
    rw [Nat.pow_succ] at h
    have ih := d_A n (x / 2 / 2) (by omega)
    have e : (x / 2) &&& (4 * d_m1 n + 1) = 4 * (((x / 2 / 2) / 2) &&& d_m1 n) + x / 2 % 2 := by
      rw [d_and (k := 2) (K := 4) rfl (x / 2) (4 * d_m1 n + 1), Nat.div_div_eq_div_mul (x / 2) 2 2]
      have b : (4 * d_m1 n + 1) / 4 = d_m1 n := by omega
      have c : (4 * d_m1 n + 1) % 4 = 1 := by omega
      have d : x / 2 % 4 &&& 1 = x / 2 % 2 := by
        rw [Nat.and_one_is_mod]
        omega
      rw [b, c, d]
    show ((x / 2) &&& (4 * d_m1 n + 1)) ≤ x ∧ x - ((x / 2) &&& (4 * d_m1 n + 1)) = 4 * d_1 n (x / 2 / 2) + (x % 2 + x / 2 % 2)
    rw [e]
    obtain ⟨i1, i2⟩ := ih
    generalize (x / 2 / 2 / 2 &&& d_m1 n) = t at *
    generalize d_1 n (x / 2 / 2) = u at *
    omega
def d_m2 : Nat → Nat
  | 0 => 0
  | n + 1 => 16 * d_m2 n + 3
def d_2 : Nat → Nat → Nat
  | 0, _ => 0
  | n + 1, y => 16 * d_2 n (y / 16) + (y % 4 + y / 4 % 4)
theorem d_B : ∀ n y, (y &&& d_m2 n) + ((y / 4) &&& d_m2 n) = d_2 n y
  | 0, y => by
    show (y &&& 0) + ((y / 4) &&& 0) = 0
    rw [Nat.and_zero, Nat.and_zero]
  | n + 1, y => by
    have ih := d_B n (y / 16)
    have e : ∀ z, z &&& (16 * d_m2 n + 3) = 16 * ((z / 16) &&& d_m2 n) + z % 4 := by
      intro z
      rw [d_and (k := 4) (K := 16) rfl z (16 * d_m2 n + 3)]
      have b : (16 * d_m2 n + 3) / 16 = d_m2 n := by omega
      have c : (16 * d_m2 n + 3) % 16 = 3 := by omega
      rw [b, c, d_a3]
      omega
    show (y &&& (16 * d_m2 n + 3)) + ((y / 4) &&& (16 * d_m2 n + 3)) = 16 * d_2 n (y / 16) + (y % 4 + y / 4 % 4)
    rw [e, e, ← ih, show y / 4 / 16 = y / 16 / 4 by omega]
    omega
def d_m3 : Nat → Nat
  | 0 => 0
  | n + 1 => 256 * d_m3 n + 15
def d_3 : Nat → Nat → Nat
  | 0, _ => 0
  | n + 1, z => 256 * d_3 n (z / 256) + (z % 16 + z / 16 % 16)
def d_nb : Nat → Nat → Prop
  | 0, z => z = 0
  | n + 1, z => z % 16 ≤ 4 ∧ z / 16 % 16 ≤ 4 ∧ d_nb n (z / 256)
theorem d_nb0 : ∀ {n z : Nat}, d_nb n z → z % 16 ≤ 4
  | 0, z, h => by
    have h : z = 0 := h
    subst h
    decide
  | _ + 1, _, h => h.1
theorem d_c0 {r c a b : Nat} (ha : a ≤ 4) (hb : b ≤ 4) (hc : c ≤ 4) : (256 * (16 * r + c) + 16 * a + b + (16 * (16 * r + c) + a)) / 256 = (16 * r + c) + r := by omega
theorem d_C : ∀ n z, d_nb n z → (z + z / 16) &&& d_m3 n = d_3 n z
  | 0, z, _ => Nat.and_zero _
  | n + 1, z, h => by
    obtain ⟨h1, h2, h3⟩ := h
    have h4 := d_nb0 h3
    have ih := d_C n (z / 256) h3
    show (z + z / 16) &&& (256 * d_m3 n + 15) = 256 * d_3 n (z / 256) + (z % 16 + z / 16 % 16)
    rw [d_and (k := 8) (K := 256) rfl (z + z / 16) (256 * d_m3 n + 15), ← ih]
    have b : (256 * d_m3 n + 15) / 256 = d_m3 n := by omega
    have c : (256 * d_m3 n + 15) % 256 = 15 := by omega
    clear ih h3
    have e1 : z / 256 = 16 * (z / 256 / 16) + z / 256 % 16 := by omega
    have e2 : z / 16 = 16 * (z / 256) + z / 16 % 16 := by
      have := Nat.div_div_eq_div_mul z 16 16
      omega
    have e3 : z = 16 * (z / 16) + z % 16 := by omega
    have d : (z + z / 16) / 256 = z / 256 + z / 256 / 16 := by
      have q := d_c0 (r := z / 256 / 16) h2 h1 h4
      rw [← e1] at q
      rw [← q]
      congr 1
      omega
    rw [b, c, d, d_a15]
    have f : (z + z / 16) % 256 % 16 = z % 16 + z / 16 % 16 := by omega
    rw [f]
def d_8 (x : Nat) : Nat := (x % 2 + x / 2 % 2) + (x / 2 / 2 % 2 + x / 2 / 2 / 2 % 2) + ((x / 2 / 2 / 2 / 2 % 2 + x / 2 / 2 / 2 / 2 / 2 % 2) + (x / 2 / 2 / 2 / 2 / 2 / 2 % 2 + x / 2 / 2 / 2 / 2 / 2 / 2 / 2 % 2))
theorem d_2le (x y : Nat) : x % 2 + y % 2 ≤ 2 := by omega
theorem d_8_le (x : Nat) : d_8 x ≤ 8 := by
  unfold d_8
  have a := d_2le x (x / 2)
  have b := d_2le (x / 2 / 2) (x / 2 / 2 / 2)
  have c := d_2le (x / 2 / 2 / 2 / 2) (x / 2 / 2 / 2 / 2 / 2)
  have d := d_2le (x / 2 / 2 / 2 / 2 / 2 / 2) (x / 2 / 2 / 2 / 2 / 2 / 2 / 2)
  exact Nat.add_le_add (Nat.add_le_add a b) (Nat.add_le_add c d)
abbrev d_h (x : Nat) : Nat := x / 2 / 2 / 2 / 2 / 2 / 2 / 2 / 2
def d_P : Nat → Nat → Nat
  | 0, _ => 0
  | n + 1, x => 256 * d_P n (d_h x) + d_8 x
def d_S : Nat → Nat → Nat
  | 0, _ => 0
  | n + 1, x => d_S n (d_h x) + d_8 x
theorem d_lin (D a b c d : Nat) : 4 * (4 * (4 * (4 * D + d) + c) + b) + a = 256 * D + (a + 4 * b + 16 * c + 64 * d) := by omega
theorem d_c1 (n x : Nat) : d_1 (4 * (n + 1)) x = 256 * d_1 (4 * n) (d_h x) + ((x % 2 + x / 2 % 2) + 4 * (x / 2 / 2 % 2 + x / 2 / 2 / 2 % 2) + 16 * (x / 2 / 2 / 2 / 2 % 2 + x / 2 / 2 / 2 / 2 / 2 % 2) + 64 * (x / 2 / 2 / 2 / 2 / 2 / 2 % 2 + x / 2 / 2 / 2 / 2 / 2 / 2 / 2 % 2)) := by
  rw [show 4 * (n + 1) = 4 * n + 1 + 1 + 1 + 1 by omega]
  exact d_lin _ _ _ _ _
theorem d_g1 {Y c0 c1 c2 c3 : Nat} (h0 : c0 ≤ 2) (h1 : c1 ≤ 2) (h2 : c2 ≤ 2) (h3 : c3 ≤ 2) : (256 * Y + (c0 + 4 * c1 + 16 * c2 + 64 * c3)) / 16 = 16 * Y + c2 + 4 * c3 ∧ (256 * Y + (c0 + 4 * c1 + 16 * c2 + 64 * c3)) % 4 = c0 ∧ (256 * Y + (c0 + 4 * c1 + 16 * c2 + 64 * c3)) / 4 % 4 = c1 := ⟨by omega, by omega, by omega⟩
theorem d_g2 {Y c2 c3 : Nat} (h2 : c2 ≤ 2) (h3 : c3 ≤ 2) : (16 * Y + c2 + 4 * c3) / 16 = Y ∧ (16 * Y + c2 + 4 * c3) % 4 = c2 ∧ (16 * Y + c2 + 4 * c3) / 4 % 4 = c3 := ⟨by omega, by omega, by omega⟩
theorem d_h2 (n : Nat) {Y c0 c1 c2 c3 : Nat} (h0 : c0 ≤ 2) (h1 : c1 ≤ 2) (h2 : c2 ≤ 2) (h3 : c3 ≤ 2) : d_2 (2 * (n + 1)) (256 * Y + (c0 + 4 * c1 + 16 * c2 + 64 * c3)) = 256 * d_2 (2 * n) Y + ((c0 + c1) + 16 * (c2 + c3)) := by
  obtain ⟨a1, a2, a3⟩ := d_g1 (Y := Y) h0 h1 h2 h3
  obtain ⟨b1, b2, b3⟩ := d_g2 (Y := Y) h2 h3
  rw [show 2 * (n + 1) = 2 * n + 1 + 1 by omega]
  show 16 * (16 * d_2 (2 * n) ((256 * Y + (c0 + 4 * c1 + 16 * c2 + 64 * c3)) / 16 / 16) + ((256 * Y + (c0 + 4 * c1 + 16 * c2 + 64 * c3)) / 16 % 4 + (256 * Y + (c0 + 4 * c1 + 16 * c2 + 64 * c3)) / 16 / 4 % 4)) + ((256 * Y + (c0 + 4 * c1 + 16 * c2 + 64 * c3)) % 4 + (256 * Y + (c0 + 4 * c1 + 16 * c2 + 64 * c3)) / 4 % 4) = _
  rw [a2, a3, a1, b1, b2, b3]
  generalize d_2 (2 * n) Y = D
  omega
theorem d_h3 {n Z a b : Nat} (ha : a ≤ 4) (hb : b ≤ 4) (h : d_nb n Z) : d_nb (n + 1) (256 * Z + (a + 16 * b)) ∧ d_3 (n + 1) (256 * Z + (a + 16 * b)) = 256 * d_3 n Z + (a + b) := by
  have e1 : (256 * Z + (a + 16 * b)) % 16 = a := by omega
  have e2 : (256 * Z + (a + 16 * b)) / 16 % 16 = b := by omega
  have e3 : (256 * Z + (a + 16 * b)) / 256 = Z := by omega
  refine ⟨⟨by rw [e1]; exact ha, by rw [e2]; exact hb, by rw [e3]; exact h⟩, ?_⟩
  show 256 * d_3 n ((256 * Z + (a + 16 * b)) / 256) + ((256 * Z + (a + 16 * b)) % 16 + (256 * Z + (a + 16 * b)) / 16 % 16) = _
  rw [e1, e2, e3]
theorem d_all : ∀ n x, d_nb n (d_2 (2 * n) (d_1 (4 * n) x)) ∧ d_3 n (d_2 (2 * n) (d_1 (4 * n) x)) = d_P n x
  | 0, _ => ⟨rfl, rfl⟩
  | n + 1, x => by
    obtain ⟨i1, i2⟩ := d_all n (d_h x)
    have k0 := d_2le x (x / 2)
    have k1 := d_2le (x / 2 / 2) (x / 2 / 2 / 2)
    have k2 := d_2le (x / 2 / 2 / 2 / 2) (x / 2 / 2 / 2 / 2 / 2)
    have k3 := d_2le (x / 2 / 2 / 2 / 2 / 2 / 2) (x / 2 / 2 / 2 / 2 / 2 / 2 / 2)
    rw [d_c1 n x, d_h2 n k0 k1 k2 k3]
    obtain ⟨j1, j2⟩ := d_h3 (n := n) (Z := d_2 (2 * n) (d_1 (4 * n) (d_h x))) (Nat.add_le_add k0 k1) (Nat.add_le_add k2 k3) i1
    refine ⟨j1, ?_⟩
    rw [j2, i2]
    rfl
theorem d_bit (x i : Nat) : (if x.testBit i then 1 else 0) = x / 2 ^ i % 2 := by
  rw [Nat.testBit_eq_decide_div_mod_eq]
  rcases Nat.mod_two_eq_zero_or_one (x / 2 ^ i) with h | h
  · rw [h]
    rfl
  · rw [h]
    rfl
theorem d_tb (x i : Nat) : x.testBit (i + 1) = (x / 2).testBit i := Nat.testBit_succ x i
theorem d_cs (p : Nat → Bool) (n : Nat) : fb_ct p (n + 1) = (if p 0 then 1 else 0) + fb_ct (fun k => p (k + 1)) n := by
  rw [Nat.add_comm n 1, fb_ct_split]
  show 0 + (if p 0 then 1 else 0) + _ = _
  rw [Nat.zero_add]
  congr 1
  exact fb_ct_cong (fun k _ => by rw [Nat.add_comm])
theorem d_cx (x n : Nat) : fb_ct (fun i => x.testBit i) (n + 1) = x % 2 + fb_ct (fun i => (x / 2).testBit i) n := by
  rw [d_cs, d_bit, Nat.pow_zero, Nat.div_one]
  congr 1
  exact fb_ct_cong (fun k _ => d_tb x k)
theorem d_l8 (a b c d e f g h R : Nat) : a + (b + (c + (d + (e + (f + (g + (h + R))))))) = R + ((a + b) + (c + d) + ((e + f) + (g + h))) := by omega
theorem d_Sct : ∀ n x, fb_ct (fun i => x.testBit i) (8 * n) = d_S n x
  | 0, _ => rfl
  | n + 1, x => by
    have ih := d_Sct n (d_h x)
    rw [show 8 * (n + 1) = 8 * n + 1 + 1 + 1 + 1 + 1 + 1 + 1 + 1 by omega, d_cx, d_cx, d_cx, d_cx, d_cx, d_cx, d_cx, d_cx, ih]
    exact d_l8 _ _ _ _ _ _ _ _ _
theorem d_dv {p R : Nat} (h : p ≤ 8) : (p + 256 * R) / 256 = R := by omega
theorem d_dv2 {a b R : Nat} (ha : a ≤ 16) (hb : b ≤ 16) : (a + 256 * (b + 256 * R)) / 65536 = R := by omega
theorem d_dv4 {a b c d R : Nat} (ha : a ≤ 32) (hb : b ≤ 32) (hc : c ≤ 32) (hd : d ≤ 32) : (a + 256 * (b + 256 * (c + 256 * (d + 256 * R)))) / 4294967296 = R := by omega
theorem d_fin {p0 p1 p2 p3 p4 p5 p6 p7 : Nat} (h0 : p0 ≤ 8) (h1 : p1 ≤ 8) (h2 : p2 ≤ 8) (h3 : p3 ≤ 8) (h4 : p4 ≤ 8) (h5 : p5 ≤ 8) (h6 : p6 ≤ 8) (h7 : p7 ≤ 8) : ∃ X4 X5 X6, (p0 + 256 * (p1 + 256 * (p2 + 256 * (p3 + 256 * (p4 + 256 * (p5 + 256 * (p6 + 256 * p7))))))) + (p0 + 256 * (p1 + 256 * (p2 + 256 * (p3 + 256 * (p4 + 256 * (p5 + 256 * (p6 + 256 * p7))))))) / 256 = X4 ∧ X4 + X4 / 65536 = X5 ∧ X5 + X5 / 4294967296 = X6 ∧ X4 < 18446744073709551616 ∧ X5 < 18446744073709551616 ∧ X6 % 128 = p0 + p1 + p2 + p3 + p4 + p5 + p6 + p7 := by
  refine ⟨(p0 + p1) + 256 * ((p1 + p2) + 256 * ((p2 + p3) + 256 * ((p3 + p4) + 256 * ((p4 + p5) + 256 * ((p5 + p6) + 256 * ((p6 + p7) + 256 * p7)))))), (p0 + p1 + p2 + p3) + 256 * ((p1 + p2 + p3 + p4) + 256 * ((p2 + p3 + p4 + p5) + 256 * ((p3 + p4 + p5 + p6) + 256 * ((p4 + p5 + p6 + p7) + 256 * ((p5 + p6 + p7) + 256 * ((p6 + p7) + 256 * p7)))))), (p0 + p1 + p2 + p3) + 256 * ((p1 + p2 + p3 + p4) + 256 * ((p2 + p3 + p4 + p5) + 256 * ((p3 + p4 + p5 + p6) + 256 * ((p4 + p5 + p6 + p7) + 256 * ((p5 + p6 + p7) + 256 * ((p6 + p7) + 256 * p7)))))) + ((p4 + p5 + p6 + p7) + 256 * ((p5 + p6 + p7) + 256 * ((p6 + p7) + 256 * p7))), ?_, ?_, ?_, ?_, ?_, ?_⟩
  · rw [d_dv h0]
    omega
  · rw [d_dv2 (by omega) (by omega)]
    omega
  · rw [d_dv4 (by omega) (by omega) (by omega) (by omega)]
  · omega
  · omega
  · omega
theorem d_lP (a b c d e f g h : Nat) : 256 * (256 * (256 * (256 * (256 * (256 * (256 * (256 * 0 + h) + g) + f) + e) + d) + c) + b) + a = a + 256 * (b + 256 * (c + 256 * (d + 256 * (e + 256 * (f + 256 * (g + 256 * h)))))) := by omega
theorem d_lS (a b c d e f g h : Nat) : 0 + h + g + f + e + d + c + b + a = a + b + c + d + e + f + g + h := by omega
theorem d_P8 (x : Nat) : d_P 8 x = d_8 x + 256 * (d_8 (d_h x) + 256 * (d_8 (d_h (d_h x)) + 256 * (d_8 (d_h (d_h (d_h x))) + 256 * (d_8 (d_h (d_h (d_h (d_h x)))) + 256 * (d_8 (d_h (d_h (d_h (d_h (d_h x))))) + 256 * (d_8 (d_h (d_h (d_h (d_h (d_h (d_h x)))))) + 256 * d_8 (d_h (d_h (d_h (d_h (d_h (d_h (d_h x))))))))))))) := d_lP _ _ _ _ _ _ _ _
theorem d_S8 (x : Nat) : d_S 8 x = d_8 x + d_8 (d_h x) + d_8 (d_h (d_h x)) + d_8 (d_h (d_h (d_h x))) + d_8 (d_h (d_h (d_h (d_h x)))) + d_8 (d_h (d_h (d_h (d_h (d_h x))))) + d_8 (d_h (d_h (d_h (d_h (d_h (d_h x)))))) + d_8 (d_h (d_h (d_h (d_h (d_h (d_h (d_h x))))))) := d_lS _ _ _ _ _ _ _ _
theorem d_ends (x : Nat) : ∃ X4 X5 X6, d_P 8 x + d_P 8 x / 256 = X4 ∧ X4 + X4 / 65536 = X5 ∧ X5 + X5 / 4294967296 = X6 ∧ d_P 8 x < 18446744073709551616 ∧ X4 < 18446744073709551616 ∧ X5 < 18446744073709551616 ∧ X6 % 128 = d_S 8 x := by
  obtain ⟨X4, X5, X6, f1, f2, f3, f4, f5, f7⟩ := d_fin (d_8_le x) (d_8_le (d_h x)) (d_8_le (d_h (d_h x))) (d_8_le (d_h (d_h (d_h x)))) (d_8_le (d_h (d_h (d_h (d_h x))))) (d_8_le (d_h (d_h (d_h (d_h (d_h x)))))) (d_8_le (d_h (d_h (d_h (d_h (d_h (d_h x))))))) (d_8_le (d_h (d_h (d_h (d_h (d_h (d_h (d_h x))))))))
  rw [← d_P8] at f1
  rw [← d_S8] at f7
  exact ⟨X4, X5, X6, f1, f2, f3, Nat.lt_of_le_of_lt (Nat.le_trans (Nat.le_add_right _ _) (Nat.le_of_eq f1)) f4, f4, f5, f7⟩
theorem d_2lt (y : Nat) : d_2 16 y + d_2 16 y / 16 < 18446744073709551616 ∧ d_2 16 y < 18446744073709551616 := by
  have hB := d_B 16 y
  have a1 : (y &&& d_m2 16) ≤ d_m2 16 := Nat.and_le_right
  have a2 : (y / 4 &&& d_m2 16) ≤ d_m2 16 := Nat.and_le_right
  have a3 : d_m2 16 = 3689348814741910323 := by decide +kernel
  rw [a3] at a1 a2 hB
  generalize (y &&& 3689348814741910323) = u at *
  generalize (y / 4 &&& 3689348814741910323) = v at *
  rw [← hB]
  omega
theorem d_lit1 : (6148914691236517205 : Int64) = lN (d_m1 32) := by decide +kernel
theorem d_lit2 : (3689348814741910323 : Int64) = lN (d_m2 16) := by decide +kernel
theorem d_lit3 : (1085102592571150095 : Int64) = lN (d_m3 8) := by decide +kernel
theorem d_b1 : d_m1 32 < 2 ^ 64 := by decide +kernel
theorem d_b2 : d_m2 16 < 2 ^ 64 := by decide +kernel
theorem d_b3 : d_m3 8 < 2 ^ 64 := by decide +kernel
theorem q_popN {x : Nat} (hx : x < 2 ^ 64) : fJ13_bitCount_95d88 (lN x) = some (nI (fb_ct (fun i => x.testBit i) 64)) := by
  have hA := d_A 32 x (by rw [show 4 ^ 32 = 2 ^ 64 by decide +kernel]; exact hx)
  obtain ⟨hn, hP⟩ : d_nb 8 (d_2 16 (d_1 32 x)) ∧ d_3 8 (d_2 16 (d_1 32 x)) = d_P 8 x := d_all 8 x
  obtain ⟨X4, X5, X6, f1, f2, f3, hX3, f4, f5, f7⟩ := d_ends x
  have hS : fb_ct (fun i => x.testBit i) 64 = d_S 8 x := d_Sct 8 x
  rw [← hS] at f7
  have hX1 : d_1 32 x < 2 ^ 64 := Nat.lt_of_le_of_lt (by rw [← hA.2]; exact Nat.sub_le _ _) hx
  have hC := d_C 8 _ hn
  have hB := d_B 16 (d_1 32 x)
  have hX2 := d_2lt (d_1 32 x)
  unfold fJ13_bitCount_95d88
  simp only [z_ltE]
  have s1 : lN x - (((lN x).toUInt64 >>> ((1 : Int32).toInt64.toUInt64 &&& Int64.toUInt64 63)).toInt64 &&& (6148914691236517205 : Int64)) = lN (d_1 32 x) := by
    rw [show (1 : Int32) = nI 1 from rfl, wb_shr hx (by decide), d_lit1, wb_and (Nat.lt_of_le_of_lt (Nat.div_le_self _ _) hx) d_b1, Nat.pow_one, lN_sub hA.1, hA.2]
  rw [s1]
  have s2 : (lN (d_1 32 x) &&& (3689348814741910323 : Int64)) + (((lN (d_1 32 x)).toUInt64 >>> ((2 : Int32).toInt64.toUInt64 &&& Int64.toUInt64 63)).toInt64 &&& (3689348814741910323 : Int64)) = lN (d_2 16 (d_1 32 x)) := by
    rw [show (2 : Int32) = nI 2 from rfl, wb_shr hX1 (by decide), d_lit2, wb_and hX1 d_b2, wb_and (Nat.lt_of_le_of_lt (Nat.div_le_self _ _) hX1) d_b2, lN_add, show 2 ^ 2 = 4 from rfl, hB]
  rw [s2]
  have s3 : (lN (d_2 16 (d_1 32 x)) + ((lN (d_2 16 (d_1 32 x))).toUInt64 >>> ((4 : Int32).toInt64.toUInt64 &&& Int64.toUInt64 63)).toInt64) &&& (1085102592571150095 : Int64) = lN (d_P 8 x) := by
    rw [show (4 : Int32) = nI 4 from rfl, wb_shr hX2.2 (by decide), d_lit3, lN_add, show 2 ^ 4 = 16 from rfl, wb_and hX2.1 d_b3, hC, hP]
  rw [s3, show (8 : Int32) = nI 8 from rfl, wb_shr hX3 (by decide), lN_add, show 2 ^ 8 = 256 from rfl, f1, show (16 : Int32) = nI 16 from rfl, wb_shr f4 (by decide), lN_add, show 2 ^ 16 = 65536 from rfl, f2, show (32 : Int32) = nI 32 from rfl, wb_shr f5 (by decide), lN_add, show 2 ^ 32 = 4294967296 from rfl, f3, lN_i, show (127 : Int32) = nI 127 from rfl, b_and, d_a127, f7]
def e_b (x : Int64) (i : Nat) : Bool := x.toBitVec.toNat.testBit i
theorem e_lN {n i : Nat} (h : n < 2 ^ 64) : e_b (lN n) i = n.testBit i := by
  unfold e_b
  rw [wb_tn h]
theorem q_pop (x : Int64) : fJ13_bitCount_95d88 x = some (nI (fb_ct (e_b x) 64)) := by
  obtain ⟨n, hn, rfl⟩ := wb_of x
  rw [q_popN hn]
  congr 2
  exact fb_ct_cong (fun k _ => (e_lN hn).symm)
