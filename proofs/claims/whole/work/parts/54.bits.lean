/-! pure: bits of a long, the lowest one, the k-th one -/
theorem e_or (x y : Int64) (i : Nat) : e_b (x ||| y) i = (e_b x i || e_b y i) := by
  unfold e_b
  rw [Int64.toBitVec_or, BitVec.toNat_or, Nat.testBit_or]
theorem e_and (x y : Int64) (i : Nat) : e_b (x &&& y) i = (e_b x i && e_b y i) := by
  unfold e_b
  rw [Int64.toBitVec_and, BitVec.toNat_and, Nat.testBit_and]
theorem e_xor (x y : Int64) (i : Nat) : e_b (x ^^^ y) i = (e_b x i ^^ e_b y i) := by
  unfold e_b
  rw [Int64.toBitVec_xor, BitVec.toNat_xor, Nat.testBit_xor]
theorem e_m1 {i : Nat} (h : i < 64) : e_b (-1) i = true := by
  have e : (-1 : Int64).toBitVec.toNat = 2 ^ 64 - 1 := by decide +kernel
  unfold e_b
  rw [e, Nat.testBit_two_pow_sub_one]
  exact decide_eq_true h
theorem e_hi {x : Int64} {i : Nat} (h : 64 ≤ i) : e_b x i = false := Nat.testBit_lt_two_pow (Nat.lt_of_lt_of_le x.toBitVec.isLt (Nat.pow_le_pow_right (by decide) h))
theorem e_lt {x : Int64} {i : Nat} (h : e_b x i = true) : i < 64 := by
  rcases Nat.lt_or_ge i 64 with q | q
  · exact q
  · rw [e_hi q] at h
    cases h
theorem e_not {x : Int64} {i : Nat} (h : i < 64) : e_b (x ^^^ (-1)) i = !(e_b x i) := by
  rw [e_xor, e_m1 h, Bool.xor_true]
theorem e_0 (i : Nat) : e_b 0 i = false := by
  have e : (0 : Int64).toBitVec.toNat = 0 := by decide +kernel
  unfold e_b
  rw [e, Nat.zero_testBit]
theorem e_1 (i : Nat) : e_b 1 i = decide (i = 0) := by
  have e : (1 : Int64).toBitVec.toNat = 2 ^ 0 := by decide +kernel
  unfold e_b
  rw [e, Nat.testBit_two_pow]
  by_cases h : i = 0
  · rw [decide_eq_true h, decide_eq_true h.symm]
  · rw [decide_eq_false h, decide_eq_false (fun q => h q.symm)]
theorem e_ext {x y : Int64} (h : ∀ i, i < 64 → e_b x i = e_b y i) : x = y := by
  apply wb_inj
  apply BitVec.eq_of_toNat_eq
  apply Nat.eq_of_testBit_eq
  intro i
  by_cases hi : i < 64
  · exact h i hi
  · exact (e_hi (x := x) (by omega)).trans (e_hi (x := y) (by omega)).symm
theorem e_z {x : Int64} (h : ∀ i, i < 64 → e_b x i = false) : x = 0 := e_ext (fun i hi => (h i hi).trans (e_0 i).symm)
theorem e_shr {x : Int64} {k i : Nat} (hk : k < 64) : e_b ((x.toUInt64 >>> ((nI k).toInt64.toUInt64 &&& Int64.toUInt64 63)).toInt64) i = e_b x (i + k) := by
  obtain ⟨n, hn, rfl⟩ := wb_of x
  rw [wb_shr hn hk, e_lN (Nat.lt_of_le_of_lt (Nat.div_le_self _ _) hn), e_lN hn, Nat.testBit_div_two_pow]
theorem e_shl {x : Int64} {k i : Nat} (hk : k < 64) (hi : i < 64) : e_b (x <<< ((nI k).toInt64 &&& 63)) i = (decide (k ≤ i) && e_b x (i - k)) := by
  obtain ⟨n, hn, rfl⟩ := wb_of x
  rw [wb_shl n hk, wb_mod (n * 2 ^ k), e_lN (Nat.mod_lt _ (by decide)), Nat.testBit_mod_two_pow, decide_eq_true hi, Bool.true_and, e_lN hn, Nat.testBit_mul_two_pow]
theorem e_low {n j : Nat} (h1 : n.testBit j = true) (h2 : ∀ i, i < j → n.testBit i = false) : ∃ a, n = 2 ^ (j + 1) * a + 2 ^ j := by
  refine ⟨n / 2 ^ (j + 1), ?_⟩
  have e : n % 2 ^ (j + 1) = 2 ^ j := by
    apply Nat.eq_of_testBit_eq
    intro i
    rw [Nat.testBit_mod_two_pow, Nat.testBit_two_pow]
    rcases Nat.lt_trichotomy i j with h | h | h
    · rw [h2 i h, Bool.and_false, decide_eq_false (by omega)]
    · subst h
      rw [h1, decide_eq_true (by omega), decide_eq_true rfl]
      rfl
    · rw [decide_eq_false (by omega), decide_eq_false (by omega)]
      rfl
  have := Nat.div_add_mod n (2 ^ (j + 1))
  rw [e] at this
  exact this.symm
theorem e_clr {n j : Nat} (h1 : n.testBit j = true) (h2 : ∀ i, i < j → n.testBit i = false) (i : Nat) : (n &&& (n - 1)).testBit i = if i = j then false else n.testBit i := by
  obtain ⟨a, rfl⟩ := e_low h1 h2
  have hp : 0 < 2 ^ j := Nat.two_pow_pos j
  have hs : 2 ^ (j + 1) = 2 * 2 ^ j := by rw [Nat.pow_succ, Nat.mul_comm]
  have e : 2 ^ (j + 1) * a + 2 ^ j - 1 = 2 ^ (j + 1) * a + (2 ^ j - 1) := Nat.add_sub_assoc hp _
  rw [e, Nat.testBit_and, Nat.testBit_two_pow_mul_add a (show 2 ^ j < 2 ^ (j + 1) by omega), Nat.testBit_two_pow_mul_add a (show 2 ^ j - 1 < 2 ^ (j + 1) by omega), Nat.testBit_two_pow, Nat.testBit_two_pow_sub_one]
  by_cases h : i < j + 1
  · rw [if_pos h, if_pos h]
    by_cases e : i = j
    · subst e
      rw [if_pos rfl, decide_eq_false (Nat.lt_irrefl i), Bool.and_false]
    · rw [if_neg e, decide_eq_false (fun q => e q.symm)]
      rfl
  · rw [if_neg h, if_neg h, Bool.and_self, if_neg (by omega)]
theorem e_neg {n j : Nat} (hn : n < 2 ^ 64) (h1 : n.testBit j = true) (h2 : ∀ i, i < j → n.testBit i = false) : (n &&& (2 ^ 64 - n)) = 2 ^ j := by
  have hj : j < 64 := by
    rcases Nat.lt_or_ge j 64 with q | q
    · exact q
    · rw [Nat.testBit_lt_two_pow (Nat.lt_of_lt_of_le hn (Nat.pow_le_pow_right (by decide) q))] at h1
      cases h1
  obtain ⟨a, rfl⟩ := e_low h1 h2
  have hp : 0 < 2 ^ j := Nat.two_pow_pos j
  have hs : 2 ^ (j + 1) = 2 * 2 ^ j := by rw [Nat.pow_succ, Nat.mul_comm]
  have hm : 2 ^ 64 = 2 ^ (j + 1) * 2 ^ (64 - (j + 1)) := wb_pw (by omega)
  have ha : a < 2 ^ (64 - (j + 1)) := by
    refine Nat.lt_of_mul_lt_mul_left (a := 2 ^ (j + 1)) ?_
    rw [← hm]
    omega
  have e : 2 ^ 64 - (2 ^ (j + 1) * a + 2 ^ j) = 2 ^ (j + 1) * (2 ^ (64 - (j + 1)) - (a + 1)) + 2 ^ j := by
    rw [hm]
    obtain ⟨d, hd⟩ : ∃ d, 2 ^ (64 - (j + 1)) = a + 1 + d := ⟨2 ^ (64 - (j + 1)) - (a + 1), by omega⟩
    rw [hd, Nat.add_sub_cancel_left, Nat.mul_add, Nat.mul_add, Nat.mul_one]
    omega
  rw [e]
  apply Nat.eq_of_testBit_eq
  intro i
  rw [Nat.testBit_and, Nat.testBit_two_pow_mul_add a (show 2 ^ j < 2 ^ (j + 1) by omega), Nat.testBit_two_pow_mul_add _ (show 2 ^ j < 2 ^ (j + 1) by omega)]
  by_cases h : i < j + 1
  · rw [if_pos h, if_pos h, Bool.and_self]
  · rw [if_neg h, if_neg h, Nat.testBit_two_pow_sub_succ ha, Nat.testBit_two_pow, decide_eq_false (show ¬ j = i by omega)]
    cases a.testBit (i - (j + 1))
    · rfl
    · rw [Bool.not_true, Bool.and_false, Bool.and_false]
theorem d_ctlt {j : Nat} (h : j ≤ 64) : fb_ct (fun i => decide (i < j)) 64 = j := by
  rw [show 64 = j + (64 - j) by omega, fb_ct_split, fb_ct_all.mpr (fun k hk => decide_eq_true hk), fb_ct_zero.mpr (fun k _ => decide_eq_false (by omega)), Nat.add_zero]
theorem q_low {x : Int64} {j : Nat} (h1 : e_b x j = true) (h2 : ∀ i, i < j → e_b x i = false) : fJ13_bitCount_95d88 ((x &&& (-x)) - (1 : Int64)) = some (nI j) := by
  have hj := e_lt h1
  obtain ⟨n, hn, rfl⟩ := wb_of x
  rw [e_lN hn] at h1
  have h2' : ∀ i, i < j → n.testBit i = false := fun i hi => by
    have := h2 i hi
    rw [e_lN hn] at this
    exact this
  have hn0 : 0 < n := by
    rcases Nat.eq_zero_or_pos n with q | q
    · rw [q, Nat.zero_testBit] at h1
      cases h1
    · exact q
  have hneg : -(lN n) = lN (2 ^ 64 - n) := by
    apply wb_inj
    apply BitVec.eq_of_toNat_eq
    rw [Int64.toBitVec_neg, BitVec.toNat_neg, wb_tn hn, wb_tn (by omega), Nat.mod_eq_of_lt (by omega)]
  have hp : 2 ^ j < 2 ^ 64 := wb_lt2 hj
  rw [hneg, wb_and hn (by omega), e_neg hn h1 h2', show (1 : Int64) = lN 1 from rfl, lN_sub (Nat.two_pow_pos j), q_popN (by omega)]
  have e : fb_ct (fun i => (2 ^ j - 1).testBit i) 64 = j := (fb_ct_cong (fun k _ => Nat.testBit_two_pow_sub_one j k)).trans (d_ctlt (Nat.le_of_lt hj))
  exact congrArg (fun z => some (nI z)) e
theorem e_clrx {x : Int64} {j : Nat} (h1 : e_b x j = true) (h2 : ∀ i, i < j → e_b x i = false) (i : Nat) : e_b (x &&& (x - (1 : Int64))) i = if i = j then false else e_b x i := by
  obtain ⟨n, hn, rfl⟩ := wb_of x
  rw [e_lN hn] at h1
  have h2' : ∀ i, i < j → n.testBit i = false := fun i hi => by
    have := h2 i hi
    rw [e_lN hn] at this
    exact this
  have hn0 : 0 < n := by
    rcases Nat.eq_zero_or_pos n with q | q
    · rw [q, Nat.zero_testBit] at h1
      cases h1
    · exact q
  rw [show (1 : Int64) = lN 1 from rfl, lN_sub hn0, wb_and hn (by omega), e_lN (Nat.lt_of_le_of_lt Nat.and_le_left hn), e_clr h1 h2', e_lN hn]
theorem q_bitat : ∀ (k n : Nat) (x : Int64) (i c : Nat), k < n → c + k < 2 ^ 31 → e_b x i = true → fb_ct (e_b x) i = k → fX5_placeOfBit_L5 (nI (c + k)) (fun (x1 : Int64) (_ : Int32) => (fJ13_bitCount_95d88 ((x1 &&& (-x1)) - (1 : Int64))).bind (fun r1 => some r1)) n x (nI c) = some (nI i) := by
  intro k
  induction k with
  | zero =>
    intro n x i c hn hc h1 h2
    obtain ⟨n, rfl⟩ : ∃ j, n = j + 1 := ⟨n - 1, by omega⟩
    rw [fX5_placeOfBit_L5.eq_2, Nat.add_zero, if_pos (nI_le (Nat.le_refl _) (by omega)), z_bd (q_low h1 (fb_ct_zero.mp h2))]
  | succ k ih =>
    intro n x i c hn hc h1 h2
    obtain ⟨n, rfl⟩ : ∃ j, n = j + 1 := ⟨n - 1, by omega⟩
    obtain ⟨j, hj, g1, g2⟩ := fb_ct_kth (p := e_b x) (k := 0) (n := i) (by omega)
    have hcl := e_clrx g1 (fb_ct_zero.mp g2)
    have e1 : e_b (x &&& (x - (1 : Int64))) i = true := by rw [hcl, if_neg (by omega)]; exact h1
    have e2 : fb_ct (e_b (x &&& (x - (1 : Int64)))) i = k := by
      have a := fb_ct_upd (e_b x) false hj
      rw [fb_ct_cong (fun t _ => hcl t)]
      rw [g1] at a
      simp only [if_true, Bool.false_eq_true, if_false] at a
      omega
    have := ih n _ i (c + 1) (by omega) (by omega) e1 e2
    rw [fX5_placeOfBit_L5.eq_2, if_neg (z_nle (show c < c + (k + 1) by omega) (by omega)), z_ltE, nI_1]
    rw [show c + 1 + k = c + (k + 1) by omega] at this
    exact this
theorem q_place {x : Int64} {i k : Nat} (h1 : e_b x i = true) (h2 : fb_ct (e_b x) i = k) : fX5_placeOfBit x (nI k) = some (nI i) := by
  have hi := e_lt h1
  have hk := fb_ct_le (e_b x) i
  unfold fX5_placeOfBit
  have := q_bitat k z_F x i 0 (by show _ < 5000; omega) (by omega) h1 h2
  rw [Nat.zero_add] at this
  exact this
