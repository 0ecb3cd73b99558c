/-! pure: what is made by rule -/
theorem n_big {x : Int32} {k : Nat} (hk : k + 1 < 2 ^ 31) (h : nI (k + 1) ≤ x) : nI k < x ∧ (0 : Int32) ≤ x := by
  have a := n_ge hk h
  constructor
  · rw [Int32.lt_iff_toInt_lt, nI_toInt (by omega)]
    omega
  · rw [Int32.le_iff_toInt_le]
    have e : (0 : Int32).toInt = 0 := rfl
    omega
theorem n_neg {x : Int32} (h : x < 0) : ¬ (0 : Int32) ≤ x := fun q => by
  have a := n_lt0 h
  have b := Int32.le_iff_toInt_le.mp q
  have e : (0 : Int32).toInt = 0 := rfl
  omega
theorem n_pos0 (j : Nat) (h : j < 2 ^ 31) : (0 : Int32) ≤ nI j := nI_le (a := 0) (Nat.zero_le _) h
/-- a range check of both sides: low .. k -/
theorem r_inN {x : Int32} {lo k : Nat} {z y : Int64} (hz : z.toInt = lo) (hy : y.toInt = k) (hk : k < 1000) : (fX8_in x.toInt64 z y = some 1 ∧ ∃ j, lo ≤ j ∧ j ≤ k ∧ x = nI j) ∨ (fX8_in x.toInt64 z y = some 0 ∧ (x.toInt < lo ∨ (k : Int) < x.toInt)) := by
  by_cases h : (lo : Int) ≤ x.toInt ∧ x.toInt ≤ k
  · refine Or.inl ⟨r_in1 (by rw [n_i64, hz, hy]; exact h), x.toInt.toNat, by omega, by omega, ?_⟩
    apply Int32.toInt_inj.mp
    rw [nI_toInt (by omega)]
    omega
  · refine Or.inr ⟨r_in0 (by rw [n_i64, hz, hy]; exact h), by omega⟩
theorem i_le (x y : Int32) : x ≤ y ↔ x.toInt ≤ y.toInt := Int32.le_iff_toInt_le
theorem i_lt (x y : Int32) : x < y ↔ x.toInt < y.toInt := Int32.lt_iff_toInt_lt
theorem s_can (a2 a3 a4 : Int32) : (fX7_canMake a2 a3 a4 = some 0 ∧ fX8_canMake a2 a3 a4 = some 0) ∨ (fX7_canMake a2 a3 a4 = some 1 ∧ fX8_canMake a2 a3 a4 = some 1 ∧ ∃ how n, a2 = nI how ∧ how ≤ 4 ∧ a3 = nI n ∧ n ≤ 12 ∧ (how = 1 → n ≤ 6) ∧ (how = 0 ∨ how = 2 ∨ how = 3 → ∃ m, a4 = nI m ∧ m ≤ 12 ∧ (how ≠ 0 → 1 ≤ m))) := by
  unfold fX7_canMake fX8_canMake
  have e0 : (0 : Int32).toInt = 0 := rfl
  have e1 : (1 : Int32).toInt = 1 := rfl
  have e6 : (6 : Int32).toInt = 6 := rfl
  have e12 : (12 : Int32).toInt = 12 := rfl
  by_cases h0 : a2 = 0
  · rw [if_pos h0, if_pos h0]
    rcases r_inN (x := a3) (lo := 0) (k := 12) (z := 0) (y := 12) rfl rfl (by decide) with ⟨b, n, hn1, hn2, rfl⟩ | ⟨b, hn⟩
    · rw [z_bd b, i_f, if_pos (n_pos0 n (by omega)), if_neg (show ¬ (12 : Int32) < nI n from nI_nlt hn2 (by decide))]
      rcases r_inN (x := a4) (lo := 0) (k := 12) (z := 0) (y := 12) rfl rfl (by decide) with ⟨c, m, hm1, hm2, rfl⟩ | ⟨c, hm⟩
      · rw [z_bd c, i_f, if_neg (nI_pos (by omega)), if_neg (show ¬ (12 : Int32) < nI m from nI_nlt hm2 (by decide))]
        exact Or.inr ⟨rfl, rfl, 0, n, h0, by decide, rfl, hn2, fun q => absurd q (by decide), fun _ => ⟨m, rfl, hm2, fun q => absurd rfl q⟩⟩
      · rw [z_bd c, i_t]
        left
        by_cases q : a4 < 0
        · rw [if_pos q]
          exact ⟨rfl, rfl⟩
        · rw [if_neg q, if_pos ((i_lt _ _).mpr (by rw [i_lt] at q; omega))]
          exact ⟨rfl, rfl⟩
    · rw [z_bd b, i_t]
      left
      by_cases q : (0 : Int32) ≤ a3
      · rw [if_pos q, if_pos ((i_lt _ _).mpr (by rw [i_le] at q; omega))]
        exact ⟨rfl, rfl⟩
      · rw [if_neg q]
        exact ⟨rfl, rfl⟩
  rw [if_neg h0, if_neg h0]
  by_cases h1 : a2 = 1
  · rw [if_pos h1, if_pos h1]
    rcases r_inN (x := a3) (lo := 0) (k := 6) (z := 0) (y := 6) rfl rfl (by decide) with ⟨b, n, hn1, hn2, rfl⟩ | ⟨b, hn⟩
    · rw [z_bd b, z_gd_t (by decide), if_pos (n_pos0 n (by omega)), if_neg (show ¬ (6 : Int32) < nI n from nI_nlt hn2 (by decide))]
      exact Or.inr ⟨rfl, rfl, 1, n, h1, by decide, rfl, by omega, fun _ => hn2, fun q => by omega⟩
    · rw [z_bd b, z_gd_t (by decide)]
      left
      by_cases q : (0 : Int32) ≤ a3
      · rw [if_pos q, if_pos ((i_lt _ _).mpr (by rw [i_le] at q; omega))]
        exact ⟨rfl, rfl⟩
      · rw [if_neg q]
        exact ⟨rfl, rfl⟩
  rw [if_neg h1, if_neg h1]
  have two : ∀ how : Nat, how = 2 ∨ how = 3 → a2 = nI how → ((if (0 : Int32) ≤ a3 then (if (12 : Int32) < a3 then some (0 : Int32) else (if a4 < (1 : Int32) then some (0 : Int32) else (if (12 : Int32) < a4 then some (0 : Int32) else some (1 : Int32)))) else some (0 : Int32)) = some 0 ∧ (fX8_in (a3.toInt64) (0 : Int64) (12 : Int64)).bind (fun r4 => (if r4 = 0 then some (0 : Int32) else (fX8_in (a4.toInt64) (1 : Int64) (12 : Int64)).bind (fun r5 => (if r5 = 0 then some (0 : Int32) else some (1 : Int32))))) = some 0) ∨ ((if (0 : Int32) ≤ a3 then (if (12 : Int32) < a3 then some (0 : Int32) else (if a4 < (1 : Int32) then some (0 : Int32) else (if (12 : Int32) < a4 then some (0 : Int32) else some (1 : Int32)))) else some (0 : Int32)) = some 1 ∧ (fX8_in (a3.toInt64) (0 : Int64) (12 : Int64)).bind (fun r4 => (if r4 = 0 then some (0 : Int32) else (fX8_in (a4.toInt64) (1 : Int64) (12 : Int64)).bind (fun r5 => (if r5 = 0 then some (0 : Int32) else some (1 : Int32))))) = some 1 ∧ ∃ how n, a2 = nI how ∧ how ≤ 4 ∧ a3 = nI n ∧ n ≤ 12 ∧ (how = 1 → n ≤ 6) ∧ (how = 0 ∨ how = 2 ∨ how = 3 → ∃ m, a4 = nI m ∧ m ≤ 12 ∧ (how ≠ 0 → 1 ≤ m))) := by
    intro how hh e
    rcases r_inN (x := a3) (lo := 0) (k := 12) (z := 0) (y := 12) rfl rfl (by decide) with ⟨b, n, hn1, hn2, rfl⟩ | ⟨b, hn⟩
    · rw [z_bd b, i_f, if_pos (n_pos0 n (by omega)), if_neg (show ¬ (12 : Int32) < nI n from nI_nlt hn2 (by decide))]
      rcases r_inN (x := a4) (lo := 1) (k := 12) (z := 1) (y := 12) rfl rfl (by decide) with ⟨c, m, hm1, hm2, rfl⟩ | ⟨c, hm⟩
      · rw [z_bd c, i_f, if_neg (show ¬ nI m < (1 : Int32) from nI_nlt hm1 (by omega)), if_neg (show ¬ (12 : Int32) < nI m from nI_nlt hm2 (by decide))]
        exact Or.inr ⟨rfl, rfl, how, n, e, by omega, rfl, hn2, fun q => by omega, fun _ => ⟨m, rfl, hm2, fun _ => hm1⟩⟩
      · rw [z_bd c, i_t]
        left
        by_cases q : a4 < (1 : Int32)
        · rw [if_pos q]
          exact ⟨rfl, rfl⟩
        · rw [if_neg q, if_pos ((i_lt _ _).mpr (by rw [i_lt] at q; omega))]
          exact ⟨rfl, rfl⟩
    · rw [z_bd b, i_t]
      left
      by_cases q : (0 : Int32) ≤ a3
      · rw [if_pos q, if_pos ((i_lt _ _).mpr (by rw [i_le] at q; omega))]
        exact ⟨rfl, rfl⟩
      · rw [if_neg q]
        exact ⟨rfl, rfl⟩
  by_cases h2 : a2 = 2
  · rw [if_pos h2, if_pos h2]
    exact two 2 (Or.inl rfl) h2
  rw [if_neg h2, if_neg h2]
  by_cases h3 : a2 = 3
  · rw [if_pos h3, if_pos h3]
    exact two 3 (Or.inr rfl) h3
  rw [if_neg h3, if_neg h3]
  by_cases h4 : a2 = 4
  · rw [if_pos h4, if_pos (show a2 = (4 : Int32) from h4)]
    rcases r_inN (x := a3) (lo := 0) (k := 12) (z := 0) (y := 12) rfl rfl (by decide) with ⟨b, n, hn1, hn2, rfl⟩ | ⟨b, hn⟩
    · rw [z_bd b, i_f, if_pos (n_pos0 n (by omega)), if_neg (show ¬ (12 : Int32) < nI n from nI_nlt hn2 (by decide))]
      exact Or.inr ⟨rfl, rfl, 4, n, h4, by decide, rfl, hn2, fun q => by omega, fun q => by omega⟩
    · rw [z_bd b, i_t]
      left
      by_cases q : (0 : Int32) ≤ a3
      · rw [if_pos q, if_pos ((i_lt _ _).mpr (by rw [i_le] at q; omega))]
        exact ⟨rfl, rfl⟩
      · rw [if_neg q]
        exact ⟨rfl, rfl⟩
  · rw [if_neg h4, if_neg (show ¬ a2 = (4 : Int32) from h4)]
    left
    by_cases q : (0 : Int32) ≤ a3
    · rw [if_pos q]
      exact ⟨rfl, rfl⟩
    · rw [if_neg q]
      exact ⟨rfl, rfl⟩
/-! the sets that are made -/
def f_rg (h : Nat → Nat) : Nat → Nat
  | 0 => 0
  | j + 1 => f_rg h j ||| 2 ^ h j
theorem f_rg_lt {h : Nat → Nat} : ∀ {m : Nat}, (∀ j, j < m → h j < 12) → f_rg h m < 4096
  | 0, _ => by show 0 < 4096; decide
  | m + 1, hh => Nat.or_lt_two_pow (n := 12) (f_rg_lt (fun j hj => hh j (by omega))) (wb_lt2 (hh m (Nat.lt_succ_self m)))
theorem f_rgA : ∀ i : Fin 13, ∀ m : Fin 13, f_rg (fun j => i.val + j) m.val = (2 ^ m.val - 1) * 2 ^ i.val ∧ (m.val + i.val ≤ 12 → (2 ^ m.val - 1) * 2 ^ i.val < 4096) := by decide +kernel
theorem m_1 : ∀ i : Fin 6, (3 : Int32) <<< (((2 : Int32) * nI i.val) &&& 31) = nI (3 * 4 ^ i.val) ∧ 3 * 4 ^ i.val < 4096 := by decide +kernel
theorem r_run0 {i m : Nat} (h : i + m ≤ 12) : fX8_run (nI i) (nI m) 0 = some (nI (f_rg (fun j => i + j) m)) := by
  unfold fX8_run
  have h2 := z_up (fun n (x : Int32 × Int32) => fX8_run_L5 (nI i) (nI m) 0 (fun x1 _ => some x1) n x.1 x.2) (fun j => (nI (f_rg (fun j => i + j) j), nI j)) m (some (nI (f_rg (fun j => i + j) m))) ?_ (fun n => ?_) 0 z_F (Nat.zero_le _) (by show m < 5000 + 0; omega)
  · exact h2
  · intro n j hj
    show fX8_run_L5 (nI i) (nI m) 0 _ (n + 1) (nI (f_rg (fun j => i + j) j)) (nI j) = fX8_run_L5 (nI i) (nI m) 0 _ n (nI (f_rg (fun j => i + j) j ||| 2 ^ (i + j))) (nI (j + 1))
    rw [fX8_run_L5.eq_2, if_neg (z_nle hj (by omega)), if_pos rfl, nI_add, b_one (by omega), b_or, z_ltE, nI_1]
  · show fX8_run_L5 (nI i) (nI m) 0 _ (n + 1) _ (nI m) = _
    rw [fX8_run_L5.eq_2, if_pos (nI_le (Nat.le_refl _) (by omega))]
theorem r_runN {i m n : Nat} (hn0 : 0 < n) (hn : n ≤ 12) (hi : i ≤ 12) (hm : m ≤ 12) : fX8_run (nI i) (nI m) (nI n) = some (nI (f_rg (fun j => (i + j) % n) m)) := by
  unfold fX8_run
  have h2 := z_up (fun k (x : Int32 × Int32) => fX8_run_L5 (nI i) (nI m) (nI n) (fun x1 _ => some x1) k x.1 x.2) (fun j => (nI (f_rg (fun j => (i + j) % n) j), nI j)) m (some (nI (f_rg (fun j => (i + j) % n) m))) ?_ (fun k => ?_) 0 z_F (Nat.zero_le _) (by show m < 5000 + 0; omega)
  · exact h2
  · intro k j hj
    have hlt : (i + j) % n < n := Nat.mod_lt _ hn0
    have hz : z_nz (nI n) = true := decide_eq_true (nI_ne0 (by omega) (by omega))
    show fX8_run_L5 (nI i) (nI m) (nI n) _ (k + 1) (nI (f_rg (fun j => (i + j) % n) j)) (nI j) = fX8_run_L5 (nI i) (nI m) (nI n) _ k (nI (f_rg (fun j => (i + j) % n) j ||| 2 ^ ((i + j) % n))) (nI (j + 1))
    rw [fX8_run_L5.eq_2, if_neg (z_nle hj (by omega)), if_neg (nI_ne0 (by omega) (by omega)), z_gd_t hz, nI_add, pk_rem (by omega) hn0 (by omega), b_one (by omega), b_or, z_ltE, nI_1]
  · show fX8_run_L5 (nI i) (nI m) (nI n) _ (k + 1) _ (nI m) = _
    rw [fX8_run_L5.eq_2, if_pos (nI_le (Nat.le_refl _) (by omega))]
theorem q_ring {i m n : Nat} (hn0 : 0 < n) (hn : n ≤ 12) (hi : i ≤ 12) (hm : m ≤ 12) : fX7_ringSet (nI n) (nI m) (nI i) = some (nI (f_rg (fun j => (i + j) % n) m)) := by
  unfold fX7_ringSet
  have h2 := z_up (fun k (x : Int32 × Int32) => fX7_ringSet_L5 (nI n) (nI m) (nI i) (fun x1 _ => some x1) k x.1 x.2) (fun j => (nI (f_rg (fun j => (i + j) % n) j), nI (i + j))) m (some (nI (f_rg (fun j => (i + j) % n) m))) ?_ (fun k => ?_) 0 z_F (Nat.zero_le _) (by show m < 5000 + 0; omega)
  · exact h2
  · intro k j hj
    have hlt : (i + j) % n < n := Nat.mod_lt _ hn0
    have hz : z_nz (nI n) = true := decide_eq_true (nI_ne0 (by omega) (by omega))
    have c0 : ¬ nI n ≤ (0 : Int32) := by
      rw [z_i0]
      exact z_nle hn0 (by omega)
    show fX7_ringSet_L5 (nI n) (nI m) (nI i) _ (k + 1) (nI (f_rg (fun j => (i + j) % n) j)) (nI (i + j)) = fX7_ringSet_L5 (nI n) (nI m) (nI i) _ k (nI (f_rg (fun j => (i + j) % n) j ||| 2 ^ ((i + j) % n))) (nI (i + (j + 1)))
    rw [fX7_ringSet_L5.eq_2, if_neg c0, nI_add, if_neg (z_nle (show i + j < i + m by omega) (by omega)), z_gd_t hz, pk_rem (by omega) hn0 (by omega), b_one (by omega), b_or, z_ltE, nI_1]
    rfl
  · have c0 : ¬ nI n ≤ (0 : Int32) := by
      rw [z_i0]
      exact z_nle hn0 (by omega)
    show fX7_ringSet_L5 (nI n) (nI m) (nI i) _ (k + 1) _ (nI (i + m)) = _
    rw [fX7_ringSet_L5.eq_2, if_neg c0, nI_add, if_pos (nI_le (Nat.le_refl _) (by omega))]
theorem s_class {n : Nat} (hn0 : 0 < n) (hn : n ≤ 12) : ∀ (d p v k : Nat), 12 ≤ p + d → d < k → v < 4096 → p < 24 → ∃ u, u < 4096 ∧ fX7_classSet_L4 (nI n) (fun x1 _ => some x1) k (nI v) (nI p) = some (nI u) ∧ fX8_rest_L4 (nI n) (fun x1 _ => some x1) k (nI v) (nI p) = some (nI u) := by
  have c0 : ¬ nI n ≤ (0 : Int32) := by
    rw [z_i0]
    exact z_nle hn0 (by omega)
  intro d
  induction d with
  | zero =>
    intro p v k h1 h2 h3 h4
    obtain ⟨k, rfl⟩ : ∃ j, k = j + 1 := ⟨k - 1, by omega⟩
    refine ⟨v, h3, ?_, ?_⟩
    · rw [fX7_classSet_L4.eq_2, if_neg c0, n_12, if_pos (nI_le (by omega) (by omega))]
    · rw [fX8_rest_L4.eq_2, n_12, if_pos (nI_le (by omega) (by omega))]
  | succ d ih =>
    intro p v k h1 h2 h3 h4
    obtain ⟨k, rfl⟩ : ∃ j, k = j + 1 := ⟨k - 1, by omega⟩
    by_cases hp : p < 12
    · obtain ⟨u, a, b, c⟩ := ih (p + n) (v ||| 2 ^ p) k (by omega) (by omega) (Nat.or_lt_two_pow (n := 12) h3 (wb_lt2 hp)) (by omega)
      refine ⟨u, a, ?_, ?_⟩
      · rw [fX7_classSet_L4.eq_2, if_neg c0, n_12, if_neg (z_nle hp (by omega)), b_one (by omega), b_or, z_ltE, nI_add, z_ltE]
        exact b
      · rw [fX8_rest_L4.eq_2, n_12, if_neg (z_nle hp (by omega)), b_one (by omega), b_or, z_ltE, nI_add, z_ltE]
        exact c
    · refine ⟨v, h3, ?_, ?_⟩
      · rw [fX7_classSet_L4.eq_2, if_neg c0, n_12, if_pos (nI_le (by omega) (by omega))]
      · rw [fX8_rest_L4.eq_2, n_12, if_pos (nI_le (by omega) (by omega))]
/-- the set that a how (1 .. 4) makes at i, by both sides -/
theorem s_made {how n i : Nat} {a4 : Int32} (h1 : 1 ≤ how) (h4 : how ≤ 4) (hn : n ≤ 12) (hn6 : how = 1 → n ≤ 6) (hm : how = 0 ∨ how = 2 ∨ how = 3 → ∃ m, a4 = nI m ∧ m ≤ 12 ∧ (how ≠ 0 → 1 ≤ m)) (hi : i < n) (hi2 : how = 2 → ∀ m, a4 = nI m → m ≤ 12 → i + m ≤ n) : ∃ v, v < 4096 ∧ fX7_madeSet (nI how) (nI n) a4 (nI i) = some (nI v) ∧ (if nI how = (1 : Int32) then some ((3 : Int32) <<< (((2 : Int32) * nI i) &&& 31)) else if nI how = (2 : Int32) then fX8_run (nI i) a4 0 else if nI how = (3 : Int32) then fX8_run (nI i) a4 (nI n) else fX8_rest (nI n) (nI i)) = some (nI v) := by
  unfold fX7_madeSet
  have hc : how = 1 ∨ how = 2 ∨ how = 3 ∨ how = 4 := by omega
  rcases hc with rfl | rfl | rfl | rfl
  · have := hn6 rfl
    obtain ⟨a, b⟩ := m_1 ⟨i, by omega⟩
    refine ⟨3 * 4 ^ i, b, ?_, ?_⟩
    · rw [if_neg (by decide), if_pos (by decide), a]
    · rw [if_pos (by decide), a]
  · obtain ⟨m, rfl, hm1, hm2⟩ := hm (by omega)
    have him := hi2 rfl m rfl hm1
    obtain ⟨a, b⟩ := f_rgA ⟨i, by omega⟩ ⟨m, by omega⟩
    have b := b (by show m + i ≤ 12; omega)
    simp only at a b
    have hp : 2 ^ m ≤ 2 ^ 12 := Nat.pow_le_pow_right (by decide) hm1
    have hp2 : (2 : Nat) ^ 12 = 4096 := rfl
    have e1 : nI (2 ^ m) - (1 : Int32) = nI (2 ^ m - 1) := pk_sub (b := 1) (Nat.two_pow_pos m)
    refine ⟨(2 ^ m - 1) * 2 ^ i, b, ?_, ?_⟩
    · rw [if_neg (by decide), if_neg (by decide), if_pos (by decide), b_one (by omega), e1, pk_shlN _ i (b_sm (by omega)) (by omega)]
    · rw [if_neg (by decide), if_pos (by decide), r_run0 (by omega), a]
  · obtain ⟨m, rfl, hm1, hm2⟩ := hm (by omega)
    have hlt : f_rg (fun j => (i + j) % n) m < 4096 := f_rg_lt (fun j _ => by
      have := Nat.mod_lt (i + j) (show 0 < n by omega)
      show (i + j) % n < 12
      omega)
    refine ⟨_, hlt, ?_, ?_⟩
    · rw [if_neg (by decide), if_neg (by decide), if_neg (by decide), if_pos (by decide), z_bd (q_ring (by omega) hn (by omega) hm1)]
    · rw [if_neg (by decide), if_neg (by decide), if_pos (by decide), r_runN (by omega) hn (by omega) hm1]
  · obtain ⟨u, a, b, c⟩ := s_class (show 0 < n by omega) hn 12 i 0 z_F (by omega) (by show 12 < 5000; decide) (by decide) (by omega)
    have b : fX7_classSet (nI n) (nI i) = some (nI u) := b
    have c : fX8_rest (nI n) (nI i) = some (nI u) := c
    refine ⟨u, a, ?_, ?_⟩
    · rw [if_neg (by decide), if_neg (by decide), if_neg (by decide), if_neg (by decide), z_bd b]
    · rw [if_neg (by decide), if_neg (by decide), if_neg (by decide), c]
