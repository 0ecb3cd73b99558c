/-! pure: loops over a list, checks of arguments -/
theorem z_fold {α β γ : Type} (f : Nat → α → Int32 → β) (F : List γ) (step : α → γ → α) (K : α → β) (hs : ∀ n k x a, F[k]? = some x → f (n + 1) a (nI k) = f n (step a x) (nI (k + 1))) (he : ∀ n a, f (n + 1) a (nI F.length) = K a) : ∀ (n : Nat) (a : α), F.length < n → f n a (nI 0) = K (F.foldl step a) := by
  have key : ∀ (d k n : Nat) (a : α), k + d = F.length → d < n → f n a (nI k) = K ((F.drop k).foldl step a) := by
    intro d
    induction d with
    | zero =>
      intro k n a h1 h2
      obtain ⟨n, rfl⟩ : ∃ j, n = j + 1 := ⟨n - 1, by omega⟩
      rw [show k = F.length by omega, he, List.drop_length]
      rfl
    | succ d ih =>
      intro k n a h1 h2
      obtain ⟨n, rfl⟩ : ∃ j, n = j + 1 := ⟨n - 1, by omega⟩
      have hk : k < F.length := by omega
      have hx : F[k]? = some F[k] := List.getElem?_eq_getElem hk
      rw [hs n k F[k] a hx, ih (k + 1) n _ (by omega) (by omega), List.drop_eq_getElem_cons hk]
      rfl
  intro n a h
  have := key F.length 0 n a (by omega) h
  rw [List.drop_zero] at this
  exact this
/-- a search along a list: nothing found -/
theorem z_findN {β γ : Type} (f : Nat → Int32 → β) (F : List γ) (K : β) (hs : ∀ n k x, F[k]? = some x → f (n + 1) (nI k) = f n (nI (k + 1))) (he : ∀ n, f (n + 1) (nI F.length) = K) : ∀ n : Nat, F.length < n → f n (nI 0) = K := by
  intro n h
  exact z_up (fun m (x : Int32) => f m x) (fun i => nI i) F.length K (fun m i hi => hs m i F[i] (List.getElem?_eq_getElem hi)) he 0 n (Nat.zero_le _) (by omega)
/-- found at j, and not before -/
theorem z_findS {β γ : Type} (f : Nat → Int32 → β) (F : List γ) (j : Nat) (K : β) (hj : j < F.length) (hs : ∀ n k x, F[k]? = some x → k < j → f (n + 1) (nI k) = f n (nI (k + 1))) (he : ∀ n, f (n + 1) (nI j) = K) : ∀ n : Nat, F.length < n → f n (nI 0) = K := by
  intro n h
  exact z_up (fun m (x : Int32) => f m x) (fun i => nI i) j K (fun m i hi => hs m i F[i] (List.getElem?_eq_getElem (by omega)) hi) he 0 n (Nat.zero_le _) (by omega)
theorem z_bd {α β : Type} {x : Option α} {a : α} {f : α → Option β} (h : x = some a) : x.bind f = f a := by rw [h]; rfl
/-! numbers -/
theorem n_1 : (1 : Int32) = nI 1 := rfl
theorem n_4 : (4 : Int32) = nI 4 := rfl
theorem n_5 : (5 : Int32) = nI 5 := rfl
theorem n_12 : (12 : Int32) = nI 12 := rfl
theorem n_40 : (40 : Int32) = nI 40 := rfl
theorem n_99 : (99 : Int32) = nI 99 := rfl
theorem n_4095 : (4095 : Int32) = nI 4095 := rfl
theorem n_ne_neg {n : Nat} (h : n < 2 ^ 31) {z : Int32} (hz : z.toInt < 0) : ¬ nI n = z := by
  intro e
  have := nI_toInt h
  rw [e] at this
  omega
theorem n_lt0 {x : Int32} (h : x < 0) : x.toInt < 0 := by
  have := Int32.lt_iff_toInt_lt.mp h
  have e : (0 : Int32).toInt = 0 := rfl
  omega
theorem n_ge {x : Int32} {n : Nat} (hn : n < 2 ^ 31) (h : nI n ≤ x) : (n : Int) ≤ x.toInt := by
  have := Int32.le_iff_toInt_le.mp h
  rw [nI_toInt hn] at this
  exact this
theorem n_ge' {x : Int32} {n : Nat} (hn : n < 2 ^ 31) (h : (n : Int) ≤ x.toInt) : nI n ≤ x := by
  rw [Int32.le_iff_toInt_le, nI_toInt hn]
  exact h
theorem n_nlt {x : Int32} {n : Nat} (hn : n < 2 ^ 31) (h : nI n ≤ x) : ¬ x < nI n := by
  intro q
  have := Int32.lt_iff_toInt_lt.mp q
  have := n_ge hn h
  rw [nI_toInt hn] at *
  omega
theorem n_nlt0 {x : Int32} {n : Nat} (hn : n < 2 ^ 31) (h : nI n ≤ x) : ¬ x < 0 := by
  intro q
  have := n_lt0 q
  have := n_ge hn h
  omega
theorem n_i64 (x : Int32) : x.toInt64.toInt = x.toInt := Int32.toInt_toInt64 x
theorem n_cmp_lt {x y : Int64} : lg_cmp x y < 0 ↔ x.toInt < y.toInt := by
  unfold lg_cmp
  have e : (0 : Int32).toInt = 0 := rfl
  have e1 : (1 : Int32).toInt = 1 := rfl
  have e2 : (-1 : Int32).toInt = -1 := rfl
  rw [Int32.lt_iff_toInt_lt]
  by_cases h1 : x > y
  · rw [if_pos h1]
    have := Int64.lt_iff_toInt_lt.mp h1
    omega
  · rw [if_neg h1]
    have h1' : ¬ y.toInt < x.toInt := fun q => h1 (Int64.lt_iff_toInt_lt.mpr q)
    by_cases h2 : x = y
    · rw [if_pos h2, h2]
      omega
    · rw [if_neg h2]
      have : x.toInt ≠ y.toInt := fun q => h2 (Int64.toInt_inj.mp q)
      omega
theorem n_cmp_gt {x y : Int64} : 0 < lg_cmp x y ↔ y.toInt < x.toInt := by
  unfold lg_cmp
  have e : (0 : Int32).toInt = 0 := rfl
  have e1 : (1 : Int32).toInt = 1 := rfl
  have e2 : (-1 : Int32).toInt = -1 := rfl
  rw [Int32.lt_iff_toInt_lt]
  by_cases h1 : x > y
  · rw [if_pos h1]
    have := Int64.lt_iff_toInt_lt.mp h1
    omega
  · rw [if_neg h1]
    have h1' : ¬ y.toInt < x.toInt := fun q => h1 (Int64.lt_iff_toInt_lt.mpr q)
    by_cases h2 : x = y
    · rw [if_pos h2, h2]
      omega
    · rw [if_neg h2]
      have : x.toInt ≠ y.toInt := fun q => h2 (Int64.toInt_inj.mp q)
      omega
/-- the reference's range check -/
theorem r_in (x y z : Int64) : fX8_in x y z = some (if y.toInt ≤ x.toInt ∧ x.toInt ≤ z.toInt then 1 else 0) := by
  unfold fX8_in
  by_cases h1 : x.toInt < y.toInt
  · rw [if_pos (n_cmp_lt.mpr h1), if_neg (by omega)]
  · rw [if_neg (fun q => h1 (n_cmp_lt.mp q))]
    by_cases h2 : z.toInt < x.toInt
    · rw [if_pos (n_cmp_gt.mpr h2), if_neg (by omega)]
    · rw [if_neg (fun q => h2 (n_cmp_gt.mp q)), if_pos (by omega)]
theorem r_in1 {x y z : Int64} (h : y.toInt ≤ x.toInt ∧ x.toInt ≤ z.toInt) : fX8_in x y z = some 1 := by rw [r_in, if_pos h]
theorem r_in0 {x y z : Int64} (h : ¬ (y.toInt ≤ x.toInt ∧ x.toInt ≤ z.toInt)) : fX8_in x y z = some 0 := by rw [r_in, if_neg h]
theorem n_j {j : Nat} (h : j < 2 ^ 31) : (nI j).toInt64.toInt = j := by rw [n_i64, nI_toInt h]
/-- out of 0 .. n - 1 -/
def n_out (x : Int32) (n : Nat) : Prop := x < 0 ∨ nI n ≤ x
theorem n_cases (x : Int32) {n : Nat} (hn : n < 2 ^ 31) : n_out x n ∨ ∃ j : Nat, j < n ∧ x = nI j := by
  rcases pk_ix x hn with h | h | h
  · exact Or.inl (Or.inl h)
  · exact Or.inl (Or.inr h)
  · exact Or.inr h
theorem n_out_int {x : Int32} {n : Nat} (hn : n < 2 ^ 31) (h : n_out x n) : x.toInt < 0 ∨ (n : Int) ≤ x.toInt := by
  rcases h with h | h
  · exact Or.inl (n_lt0 h)
  · exact Or.inr (n_ge hn h)
theorem q_nf0 {j : Nat} (h : j < 4) : fX7_isNoFamily (nI j) = some 0 := by
  unfold fX7_isNoFamily
  rw [if_neg (nI_pos (by omega)), n_4, if_pos (nI_lt h (by decide))]
theorem q_nf1 {x : Int32} (h : n_out x 4) : fX7_isNoFamily x = some 1 := by
  unfold fX7_isNoFamily
  rcases h with h | h
  · rw [if_pos h]
  · rw [if_neg (n_nlt0 (by decide) h), n_4, if_neg (n_nlt (by decide) h)]
theorem q_ns0 {j : Nat} (h : j < 4) : fX7_isNoSheet (nI j) = some 0 := by
  unfold fX7_isNoSheet
  rw [if_neg (nI_pos (by omega)), n_4, if_pos (nI_lt h (by decide))]
theorem q_ns1 {x : Int32} (h : n_out x 4) : fX7_isNoSheet x = some 1 := by
  unfold fX7_isNoSheet
  rcases h with h | h
  · rw [if_pos h]
  · rw [if_neg (n_nlt0 (by decide) h), n_4, if_neg (n_nlt (by decide) h)]
theorem q_np0 {j : Nat} (h : j < 12) : fX7_isNoPoint (nI j) = some 0 := by
  unfold fX7_isNoPoint
  rw [if_neg (nI_pos (by omega)), n_12, if_pos (nI_lt h (by decide))]
theorem q_np1 {x : Int32} (h : n_out x 12) : fX7_isNoPoint x = some 1 := by
  unfold fX7_isNoPoint
  rcases h with h | h
  · rw [if_pos h]
  · rw [if_neg (n_nlt0 (by decide) h), n_12, if_neg (n_nlt (by decide) h)]
theorem n_nle {x : Int32} {n : Nat} (hn : n + 1 < 2 ^ 31) (h : nI (n + 1) ≤ x) : ¬ x ≤ nI n := by
  intro q
  have := Int32.le_iff_toInt_le.mp q
  have := n_ge hn h
  rw [nI_toInt (by omega)] at *
  omega
theorem q_st0 {j : Nat} (h : j < 4096) : fX7_isNoSet (nI j) = some 0 := by
  unfold fX7_isNoSet
  rw [if_neg (nI_pos (by omega)), n_4095, if_pos (nI_le (by omega) (by decide))]
theorem q_st1 {x : Int32} (h : n_out x 4096) : fX7_isNoSet x = some 1 := by
  unfold fX7_isNoSet
  rcases h with h | h
  · rw [if_pos h]
  · rw [if_neg (n_nlt0 (by decide) h), n_4095, if_neg (n_nle (by decide) h)]
theorem q_nt0 {j : Nat} (h : j < 6) : fX7_isNoTest (nI j) = some 0 := by
  unfold fX7_isNoTest
  rw [if_neg (nI_pos (by omega)), n_5, if_pos (nI_le (by omega) (by decide))]
theorem q_nt1 {x : Int32} (h : n_out x 6) : fX7_isNoTest x = some 1 := by
  unfold fX7_isNoTest
  rcases h with h | h
  · rw [if_pos h]
  · rw [if_neg (n_nlt0 (by decide) h), n_5, if_neg (n_nle (by decide) h)]
theorem r_z1 {α : Type} {f : Int32 → Option α} {x : Option Int32} (h : x = some 1) : x.bind (fun r => z_gd (z_bz r) (f r)) = f 1 := by
  rw [h]
  rfl
theorem r_z0 {α : Type} {f : Int32 → Option α} {x : Option Int32} (h : x = some 0) : x.bind (fun r => z_gd (z_bz r) (f r)) = f 0 := by
  rw [h]
  rfl
theorem r_isFamily1 {j : Nat} (h : j < 4) : fX8_isFamily (nI j) = some 1 := by
  unfold fX8_isFamily
  exact r_z1 (r_in1 (by rw [n_j (by omega)]; show (0 : Int) ≤ _ ∧ _ ≤ (3 : Int); omega))
theorem r_isFamily0 {x : Int32} (h : n_out x 4) : fX8_isFamily x = some 0 := by
  unfold fX8_isFamily
  have := n_out_int (by decide) h
  exact r_z0 (r_in0 (by rw [n_i64]; show ¬ ((0 : Int) ≤ _ ∧ _ ≤ (3 : Int)); omega))
theorem r_isSheet1 {j : Nat} (h : j < 4) : fX8_isSheet (nI j) = some 1 := by
  unfold fX8_isSheet
  exact r_z1 (r_in1 (by rw [n_j (by omega)]; show (0 : Int) ≤ _ ∧ _ ≤ (3 : Int); omega))
theorem r_isSheet0 {x : Int32} (h : n_out x 4) : fX8_isSheet x = some 0 := by
  unfold fX8_isSheet
  have := n_out_int (by decide) h
  exact r_z0 (r_in0 (by rw [n_i64]; show ¬ ((0 : Int) ≤ _ ∧ _ ≤ (3 : Int)); omega))
theorem r_isPoint1 {j : Nat} (h : j < 12) : fX8_isPoint (nI j) = some 1 := by
  unfold fX8_isPoint
  exact r_z1 (r_in1 (by rw [n_j (by omega)]; show (0 : Int) ≤ _ ∧ _ ≤ (11 : Int); omega))
theorem r_isPoint0 {x : Int32} (h : n_out x 12) : fX8_isPoint x = some 0 := by
  unfold fX8_isPoint
  have := n_out_int (by decide) h
  exact r_z0 (r_in0 (by rw [n_i64]; show ¬ ((0 : Int) ≤ _ ∧ _ ≤ (11 : Int)); omega))
theorem r_isSet1 {j : Nat} (h : j < 4096) : fX8_isSet (nI j) = some 1 := by
  unfold fX8_isSet
  exact r_z1 (r_in1 (by rw [n_j (by omega)]; show (0 : Int) ≤ _ ∧ _ ≤ (4095 : Int); omega))
theorem r_isSet0 {x : Int32} (h : n_out x 4096) : fX8_isSet x = some 0 := by
  unfold fX8_isSet
  have := n_out_int (by decide) h
  exact r_z0 (r_in0 (by rw [n_i64]; show ¬ ((0 : Int) ≤ _ ∧ _ ≤ (4095 : Int)); omega))
theorem r_isTest1 {j : Nat} (h : j < 6) : fX8_isTest (nI j) = some 1 := by
  unfold fX8_isTest
  exact r_z1 (r_in1 (by rw [n_j (by omega)]; show (0 : Int) ≤ _ ∧ _ ≤ (5 : Int); omega))
theorem r_isTest0 {x : Int32} (h : n_out x 6) : fX8_isTest x = some 0 := by
  unfold fX8_isTest
  have := n_out_int (by decide) h
  exact r_z0 (r_in0 (by rw [n_i64]; show ¬ ((0 : Int) ≤ _ ∧ _ ≤ (5 : Int)); omega))
theorem n_40k (f k : Nat) : (40 : Int32) * nI f + nI k = nI (40 * f + k) := by
  rw [n_40, pk_mul, nI_add]
