/-! pure: what the first rules and the rules 6 and 7 tell -/
theorem r_has1 {S p : Nat} (hS : S < 2 ^ 31) (hp : p < 32) (h : S.testBit p = true) : fX8_has (nI S) (nI p) = some 1 := by
  unfold fX8_has
  rw [b_bit hS hp, if_pos h, if_pos rfl]
theorem r_has0 {S p : Nat} (hS : S < 2 ^ 31) (hp : p < 32) (h : S.testBit p = false) : fX8_has (nI S) (nI p) = some 0 := by
  unfold fX8_has
  rw [b_bit hS hp, if_neg (show ¬ S.testBit p = true by rw [h]; decide), if_neg (by decide)]
def f_dear (S : Nat) (f : Nat → Int32) : Nat → Int32
  | 0 => 0
  | n + 1 => if S.testBit n then (if f_dear S f n < f n then f n else f_dear S f n) else f_dear S f n
theorem q_dear {σ : zS} {S q : Nat} (hS : S < 2 ^ 31) : fX7_dearest σ (nI S) q = some (f_dear S (σ.1 q) 12) := by
  unfold fX7_dearest
  have h := z_up (fun n (s : Int32 × Int32) => fX7_dearest_L4 σ (nI S) q (fun x1 _ => some x1) n s.1 s.2) (fun i => (f_dear S (σ.1 q) i, nI i)) 12 (some (f_dear S (σ.1 q) 12)) ?_ (fun n => ?_) 0 z_F (Nat.zero_le _) (by show 12 < 5000 + 0; decide)
  · exact h
  · intro n i hi
    show fX7_dearest_L4 σ (nI S) q _ (n + 1) (f_dear S (σ.1 q) i) (nI i) = fX7_dearest_L4 σ (nI S) q _ n (if S.testBit i then (if f_dear S (σ.1 q) i < σ.1 q i then σ.1 q i else f_dear S (σ.1 q) i) else f_dear S (σ.1 q) i) (nI (i + 1))
    rw [fX7_dearest_L4.eq_2, n_12, if_neg (z_nle hi (by decide)), nI_1]
    cases e : S.testBit i
    · rw [z_bd (q_hasP0 hS (by omega) e), if_neg (show ¬ (false = true) by decide), i_t]
    · rw [z_bd (q_hasP1 hS (by omega) e), if_pos (show true = true from rfl), i_f, z_gd_t (z_in_nI hi (by decide)), nI_clamp (by omega), z_bd (n_max _ _)]
  · show fX7_dearest_L4 σ (nI S) q _ (n + 1) _ (nI 12) = _
    rw [fX7_dearest_L4.eq_2, n_12, if_pos (nI_le (Nat.le_refl _) (by decide))]
theorem r_first12 {μ : zS} {S : Nat} (hS : S < 2 ^ 31) (K : Int32 → Int32 → Option Int32) : fX8_first_L30 μ (nI S) (fun x1 x2 _ => K x1 x2) z_F 0 0 0 = K (f_pay S (μ.1 1) 12) (f_dear S (μ.1 1) 12) := by
  have h := z_up (fun n (s : Int32 × Int32 × Int32) => fX8_first_L30 μ (nI S) (fun x1 x2 _ => K x1 x2) n s.1 s.2.1 s.2.2) (fun i => (f_pay S (μ.1 1) i, f_dear S (μ.1 1) i, nI i)) 12 (K (f_pay S (μ.1 1) 12) (f_dear S (μ.1 1) 12)) ?_ (fun n => ?_) 0 z_F (Nat.zero_le _) (by show 12 < 5000 + 0; decide)
  · exact h
  · intro n i hi
    show fX8_first_L30 μ (nI S) _ (n + 1) (f_pay S (μ.1 1) i) (f_dear S (μ.1 1) i) (nI i) = fX8_first_L30 μ (nI S) _ n (if S.testBit i then f_pay S (μ.1 1) i + μ.1 1 i else f_pay S (μ.1 1) i) (if S.testBit i then (if f_dear S (μ.1 1) i < μ.1 1 i then μ.1 1 i else f_dear S (μ.1 1) i) else f_dear S (μ.1 1) i) (nI (i + 1))
    rw [fX8_first_L30.eq_2, n_12, if_neg (z_nle hi (by decide)), nI_1]
    cases e : S.testBit i
    · rw [z_bd (r_has0 hS (by omega) e), if_neg (show ¬ (false = true) by decide), if_neg (show ¬ (false = true) by decide), z_jnE, i_t]
      dsimp only
      rw [z_ltE, z_bd (r_has0 hS (by omega) e), i_t, Int32.add_zero]
    · rw [z_bd (r_has1 hS (by omega) e), if_pos (show true = true from rfl), if_pos (show true = true from rfl), z_jnE, i_f, z_gd_t (z_in_nI hi (by decide)), nI_clamp (by omega)]
      dsimp only
      rw [z_ltE, z_bd (r_has1 hS (by omega) e), i_f, z_gd_t (z_in_nI hi (by decide))]
      by_cases q : μ.1 1 i ≤ f_dear S (μ.1 1) i
      · rw [if_pos q, if_neg (fun w => by
          have a := Int32.le_iff_toInt_le.mp q
          have b := Int32.lt_iff_toInt_lt.mp w
          omega)]
      · rw [if_neg q, if_pos (Int32.lt_iff_toInt_lt.mpr (by
          have a : ¬ (μ.1 1 i).toInt ≤ (f_dear S (μ.1 1) i).toInt := fun w => q (Int32.le_iff_toInt_le.mpr w)
          omega)), z_gd_t (z_in_nI hi (by decide)), z_ltE]
  · show fX8_first_L30 μ (nI S) _ (n + 1) _ _ (nI 12) = _
    rw [fX8_first_L30.eq_2, n_12, if_pos (nI_le (Nat.le_refl _) (by decide))]
theorem r_pay {μ : zS} {S r : Nat} (hr : r < 12) (hS : S < 2 ^ 31) : fX8_worthOf_L217 μ (nI r) (nI S) (fun x1 _ => some x1) z_F 0 0 = some (f_pay S (fun i => μ.1 9 (12 * r + i)) 12) := by
  have h := z_up (fun n (s : Int32 × Int32) => fX8_worthOf_L217 μ (nI r) (nI S) (fun x1 _ => some x1) n s.1 s.2) (fun i => (f_pay S (fun i => μ.1 9 (12 * r + i)) i, nI i)) 12 (some (f_pay S (fun i => μ.1 9 (12 * r + i)) 12)) ?_ (fun n => ?_) 0 z_F (Nat.zero_le _) (by show 12 < 5000 + 0; decide)
  · exact h
  · intro n i hi
    show fX8_worthOf_L217 μ (nI r) (nI S) _ (n + 1) _ (nI i) = fX8_worthOf_L217 μ (nI r) (nI S) _ n (if S.testBit i then f_pay S (fun i => μ.1 9 (12 * r + i)) i + μ.1 9 (12 * r + i) else f_pay S (fun i => μ.1 9 (12 * r + i)) i) (nI (i + 1))
    rw [fX8_worthOf_L217.eq_2, n_12, if_neg (z_nle hi (by decide)), nI_1, pk_mul, nI_add]
    cases e : S.testBit i
    · rw [z_bd (r_has0 hS (by omega) e), if_neg (show ¬ (false = true) by decide), i_t, z_ltE, Int32.add_zero]
    · rw [z_bd (r_has1 hS (by omega) e), if_pos (show true = true from rfl), i_f, z_gd_t (z_in_nI (by omega) (by decide)), z_ltE, nI_clamp (by omega)]
  · show fX8_worthOf_L217 μ (nI r) (nI S) _ (n + 1) _ (nI 12) = _
    rw [fX8_worthOf_L217.eq_2, n_12, if_pos (nI_le (Nat.le_refl _) (by decide))]
theorem f_pay_c {S : Nat} {f g : Nat → Int32} : ∀ {n : Nat}, (∀ i, i < n → f i = g i) → f_pay S f n = f_pay S g n
  | 0, _ => rfl
  | n + 1, h => by
    show (if S.testBit n then f_pay S f n + f n else f_pay S f n) = (if S.testBit n then f_pay S g n + g n else f_pay S g n)
    rw [f_pay_c (fun i hi => h i (by omega)), h n (by omega)]
theorem f_dear_c {S : Nat} {f g : Nat → Int32} : ∀ {n : Nat}, (∀ i, i < n → f i = g i) → f_dear S f n = f_dear S g n
  | 0, _ => rfl
  | n + 1, h => by
    show (if S.testBit n then (if f_dear S f n < f n then f n else f_dear S f n) else f_dear S f n) = (if S.testBit n then (if f_dear S g n < g n then g n else f_dear S g n) else f_dear S g n)
    rw [f_dear_c (fun i hi => h i (by omega)), h n (by omega)]
def f_met (S : Int32) (F : List (Nat × Nat)) : Int32 := F.foldl (fun a x => if (nI x.1 &&& S) = 0 then a else a + 1) 0
theorem q_met {σ : zS} {q : Nat} {S : Int32} {F : List (Nat × Nat)} (hX : h_X σ q F) (hl : F.length ≤ 40) : fX1_countMet σ q S = some (f_met S F) := by
  unfold fX1_countMet f_met
  have h := z_fold (fun n (a : Int32) v => fX1_countMet_L4 σ q S (fun x1 _ => some x1) n a v) F (fun a x => if (nI x.1 &&& S) = 0 then a else a + 1) (fun a => some a) ?_ ?_ z_F 0 (by show _ < 5000; omega)
  · exact h
  · intro n k x a hx
    have hk := h_at hx
    show fX1_countMet_L4 σ q S _ (n + 1) a (nI k) = fX1_countMet_L4 σ q S _ n _ (nI (k + 1))
    rw [fX1_countMet_L4.eq_2, hX.1, if_neg (z_nle hk.1 (by omega)), z_gd_t (z_in_nI (by omega) (by decide)), nI_clamp (by omega), (hX.2 k x hx).1, nI_1]
    by_cases e : (nI x.1 &&& S) = 0
    · rw [if_pos e, if_pos e]
    · rw [if_neg e, if_neg e]
  · intro n a
    show fX1_countMet_L4 σ q S _ (n + 1) a (nI F.length) = _
    rw [fX1_countMet_L4.eq_2, hX.1, if_pos (nI_le (Nat.le_refl _) (by omega))]
theorem r_met {μ : zS} {f : Nat} {S : Int32} {F : List (Nat × Nat)} (hf : f < 4) (hM : h_M μ f F) (hl : F.length ≤ 40) : fX8_metBy μ (nI f) S = some (f_met S F) := by
  unfold fX8_metBy f_met
  have h := z_fold (fun n (a : Int32) v => fX8_metBy_L5 μ (nI f) S (fun x1 _ => some x1) n a v) F (fun a x => if (nI x.1 &&& S) = 0 then a else a + 1) (fun a => some a) ?_ ?_ z_F 0 (by show _ < 5000; omega)
  · exact h
  · intro n k x a hx
    have hk := h_at hx
    show fX8_metBy_L5 μ (nI f) S _ (n + 1) a (nI k) = fX8_metBy_L5 μ (nI f) S _ n _ (nI (k + 1))
    rw [fX8_metBy_L5.eq_2, z_gd_t (r_f4 hf), r_sz hf hM, if_neg (z_nle hk.1 (by omega)), z_bd (r_set_at hM hf hl hx), nI_1]
    by_cases e : (nI x.1 &&& S) = 0
    · rw [if_pos e, if_pos e, z_ltE, Int32.add_zero]
    · rw [if_neg e, if_neg e, z_ltE]
  · intro n a
    show fX8_metBy_L5 μ (nI f) S _ (n + 1) a (nI F.length) = _
    rw [fX8_metBy_L5.eq_2, z_gd_t (r_f4 hf), r_sz hf hM, if_pos (nI_le (Nat.le_refl _) (by omega))]
