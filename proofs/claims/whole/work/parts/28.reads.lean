/-! pure: support, isSimple, count -/
def f_sup (s : Nat) (F : List (Nat × Nat)) : Int32 := F.foldl (fun a x => if (nI s &&& (nI x.1 ^^^ (-1 : Int32))) = 0 then a + nI x.2 else a) 0
theorem q_around {σ : zS} {q s : Nat} {F : List (Nat × Nat)} (hX : h_X σ q F) (hl : F.length ≤ 40) : fX1_talliesAround σ q (nI s) = some (f_sup s F) := by
  unfold fX1_talliesAround f_sup
  have h := z_fold (fun n (a : Int32) v => fX1_talliesAround_L4 σ q (nI s) (fun x1 _ => some x1) n a v) F (fun a x => if (nI s &&& (nI x.1 ^^^ (-1 : Int32))) = 0 then a + nI x.2 else a) (fun a => some a) ?_ ?_ z_F 0 (by show _ < 5000; omega)
  · exact h
  · intro n k x a hx
    have hk := h_at hx
    show fX1_talliesAround_L4 σ q (nI s) _ (n + 1) a (nI k) = fX1_talliesAround_L4 σ q (nI s) _ n _ (nI (k + 1))
    rw [fX1_talliesAround_L4.eq_2, hX.1, if_neg (z_nle hk.1 (by omega)), z_gd_t (z_in_nI (by omega) (by decide)), nI_clamp (by omega), (hX.2 k x hx).1, (hX.2 k x hx).2, nI_1]
    unfold fX7_isPart
    by_cases e : (nI s &&& (nI x.1 ^^^ (-1 : Int32))) = 0
    · rw [if_pos e, if_pos e, z_bd rfl, i_f, z_gd_t (z_in_nI (by omega) (by decide)), z_ltE]
    · rw [if_neg e, if_neg e, z_bd rfl, i_t]
  · intro n a
    show fX1_talliesAround_L4 σ q (nI s) _ (n + 1) a (nI F.length) = _
    rw [fX1_talliesAround_L4.eq_2, hX.1, if_pos (nI_le (Nat.le_refl _) (by omega))]
theorem r_around {μ : zS} {f s : Nat} {F : List (Nat × Nat)} (hf : f < 4) (hM : h_M μ f F) (hl : F.length ≤ 40) : fX8_supportOf μ (nI f) (nI s) = some (f_sup s F) := by
  unfold fX8_supportOf f_sup
  have h := z_fold (fun n (a : Int32) v => fX8_supportOf_L5 μ (nI f) (nI s) (fun x1 _ => some x1) n a v) F (fun a x => if (nI s &&& (nI x.1 ^^^ (-1 : Int32))) = 0 then a + nI x.2 else a) (fun a => some a) ?_ ?_ z_F 0 (by show _ < 5000; omega)
  · exact h
  · intro n k x a hx
    have hk := h_at hx
    show fX8_supportOf_L5 μ (nI f) (nI s) _ (n + 1) a (nI k) = fX8_supportOf_L5 μ (nI f) (nI s) _ n _ (nI (k + 1))
    rw [fX8_supportOf_L5.eq_2, z_gd_t (r_f4 hf), r_sz hf hM, if_neg (z_nle hk.1 (by omega)), z_bd (r_set_at hM hf hl hx), n_40k, nI_1]
    unfold fX8_isPart
    by_cases e : (nI s &&& (nI x.1 ^^^ (-1 : Int32))) = 0
    · rw [if_pos e, if_pos e, z_bd rfl, i_f, z_gd_t (z_in_nI (by omega) (by decide)), z_ltE, nI_clamp (by omega), h_M2 hM hx]
    · rw [if_neg e, if_neg e, z_bd rfl, i_t, z_ltE, Int32.add_zero]
  · intro n a
    show fX8_supportOf_L5 μ (nI f) (nI s) _ (n + 1) a (nI F.length) = _
    rw [fX8_supportOf_L5.eq_2, z_gd_t (r_f4 hf), r_sz hf hM, if_pos (nI_le (Nat.le_refl _) (by omega))]
theorem s_support_p : s_support pP := by
  intro σ μ h a1 a2
  unfold fX7_support fX8_support
  rcases n_cases a1 (n := 4) (by decide) with ho | ⟨f, hf, rfl⟩
  · rw [z_bd (q_nf1 ho), z_bd (r_isFamily0 ho), i_f, i_t]
    exact ⟨_, rfl, rfl⟩
  rw [z_bd (q_nf0 hf), z_bd (r_isFamily1 hf), i_t, i_f]
  rcases n_cases a2 (n := 4096) (by decide) with ho | ⟨s, hs, rfl⟩
  · rw [z_bd (q_st1 ho), z_bd (r_isSet0 ho), i_f, i_t]
    exact ⟨_, rfl, rfl⟩
  rw [z_bd (q_st0 hs), z_bd (r_isSet1 hs), i_t, i_f, z_gd_t (r_f4 hf), nI_clamp (by omega)]
  obtain ⟨F, A, nr, h1, h2, h3, h4, h5, h6⟩ := p_un h
  obtain ⟨hX, hM, hw⟩ := h2 f hf
  rw [z_bd (q_around hX hw.1), z_bd (r_around hf hM hw.1)]
  exact ⟨_, rfl, rfl⟩
/-! a set of F that is not at k and a part of the one at k -/
def f_part (F : List (Nat × Nat)) (k : Nat) : Prop := ∃ (j : Nat) (x y : Nat × Nat), F[j]? = some x ∧ F[k]? = some y ∧ j ≠ k ∧ (nI x.1 &&& (nI y.1 ^^^ (-1 : Int32))) = 0
theorem q_part1 (a b : Int32) (h : (a &&& (b ^^^ (-1 : Int32))) = 0) : fX7_isPart a b = some 1 ∧ fX8_isPart a b = some 1 := by
  unfold fX7_isPart fX8_isPart
  rw [if_pos h]
  exact ⟨rfl, rfl⟩
theorem q_part0 (a b : Int32) (h : ¬ (a &&& (b ^^^ (-1 : Int32))) = 0) : fX7_isPart a b = some 0 ∧ fX8_isPart a b = some 0 := by
  unfold fX7_isPart fX8_isPart
  rw [if_neg h]
  exact ⟨rfl, rfl⟩
/-- the first number at which p holds, below n -/
theorem n_first (p : Nat → Prop) (n : Nat) : (∀ j, j < n → ¬ p j) ∨ ∃ j, j < n ∧ p j ∧ ∀ i, i < j → ¬ p i := by
  classical
  by_cases h : ∃ j, p j ∧ j < n
  · obtain ⟨j, hj, hm⟩ := pk_least (fun j => p j ∧ j < n) h
    exact Or.inr ⟨j, hj.2, hj.1, fun i hi q => hm i hi ⟨q, by omega⟩⟩
  · exact Or.inl (fun j hj q => h ⟨j, q, hj⟩)
section PART
variable {σ μ : zS} {q f k : Nat} {F : List (Nat × Nat)} {y : Nat × Nat}
theorem q_hasPart (hX : h_X σ q F) (hl : F.length ≤ 40) (hy : F[k]? = some y) : (f_part F k ∧ fX1_hasPart σ q (nI k) = some 1) ∨ (¬ f_part F k ∧ fX1_hasPart σ q (nI k) = some 0) := by
  have hk := h_at hy
  have st : ∀ (n j : Nat) (x : Nat × Nat), F[j]? = some x → ¬ (j ≠ k ∧ (nI x.1 &&& (nI y.1 ^^^ (-1 : Int32))) = 0) → fX1_hasPart_L2 σ q (nI k) (fun _ => some 0) (n + 1) (nI j) = fX1_hasPart_L2 σ q (nI k) (fun _ => some 0) n (nI (j + 1)) := by
    intro n j x hx hn
    have hj := h_at hx
    rw [fX1_hasPart_L2.eq_2, hX.1, if_neg (z_nle hj.1 (by omega)), nI_1]
    by_cases e : j = k
    · rw [if_pos (by rw [e])]
    · rw [if_neg (fun h => e ((nI_eq (by omega) (by omega)).mp h)), z_gd_t (z_in_nI (by omega) (by decide)), z_gd_t (z_in_nI (by omega) (by decide)), nI_clamp (by omega), nI_clamp (by omega), (hX.2 j x hx).1, (hX.2 k y hy).1, z_bd (q_part0 _ _ (fun h => hn ⟨e, h⟩)).1, i_t]
  unfold fX1_hasPart
  rw [z_i0]
  rcases n_first (fun j => ∃ x, F[j]? = some x ∧ j ≠ k ∧ (nI x.1 &&& (nI y.1 ^^^ (-1 : Int32))) = 0) F.length with h | ⟨j, hj, ⟨x, hx, hne, hp⟩, hm⟩
  · refine Or.inr ⟨fun ⟨j, x, y', hx, hy', hne, hp⟩ => h j (h_at hx).1 ⟨x, hx, hne, ?_⟩, ?_⟩
    · rw [hy] at hy'
      cases hy'
      exact hp
    · refine z_findN (fun n v => fX1_hasPart_L2 σ q (nI k) (fun _ => some (nI 0)) n v) F (some (nI 0)) (fun n j x hx => st n j x hx (fun e => h j (h_at hx).1 ⟨x, hx, e⟩)) (fun n => ?_) z_F (by show _ < 5000; omega)
      show fX1_hasPart_L2 σ q (nI k) _ (n + 1) (nI F.length) = _
      rw [fX1_hasPart_L2.eq_2, hX.1, if_pos (nI_le (Nat.le_refl _) (by omega))]
  · refine Or.inl ⟨⟨j, x, y, hx, hy, hne, hp⟩, ?_⟩
    refine z_findS (fun n v => fX1_hasPart_L2 σ q (nI k) (fun _ => some (nI 0)) n v) F j (some 1) hj (fun n i z hz hi => st n i z hz (fun e => hm i hi ⟨z, hz, e⟩)) (fun n => ?_) z_F (by show _ < 5000; omega)
    show fX1_hasPart_L2 σ q (nI k) _ (n + 1) (nI j) = _
    rw [fX1_hasPart_L2.eq_2, hX.1, if_neg (z_nle hj (by omega)), if_neg (fun h => hne ((nI_eq (by omega) (by omega)).mp h)), z_gd_t (z_in_nI (by omega) (by decide)), z_gd_t (z_in_nI (by omega) (by decide)), nI_clamp (by omega), nI_clamp (by omega), (hX.2 j x hx).1, (hX.2 k y hy).1, z_bd (q_part1 _ _ hp).1, i_f]
theorem r_hasPart (hf : f < 4) (hM : h_M μ f F) (hl : F.length ≤ 40) (hy : F[k]? = some y) : (f_part F k ∧ fX8_hasPart μ (nI f) (nI k) = some 1) ∨ (¬ f_part F k ∧ fX8_hasPart μ (nI f) (nI k) = some 0) := by
  have hk := h_at hy
  have st : ∀ (n j : Nat) (x : Nat × Nat), F[j]? = some x → ¬ (j ≠ k ∧ (nI x.1 &&& (nI y.1 ^^^ (-1 : Int32))) = 0) → fX8_hasPart_L2 μ (nI f) (nI k) (fun _ => some 0) (n + 1) (nI j) = fX8_hasPart_L2 μ (nI f) (nI k) (fun _ => some 0) n (nI (j + 1)) := by
    intro n j x hx hn
    have hj := h_at hx
    rw [fX8_hasPart_L2.eq_2, z_gd_t (r_f4 hf), r_sz hf hM, if_neg (z_nle hj.1 (by omega)), nI_1]
    by_cases e : j = k
    · rw [if_pos (by rw [e])]
    · rw [if_neg (fun h => e ((nI_eq (by omega) (by omega)).mp h)), z_bd (r_set_at hM hf hl hx), z_bd (r_set_at hM hf hl hy), z_bd (q_part0 _ _ (fun h => hn ⟨e, h⟩)).2, i_t]
  unfold fX8_hasPart
  rw [z_i0]
  rcases n_first (fun j => ∃ x, F[j]? = some x ∧ j ≠ k ∧ (nI x.1 &&& (nI y.1 ^^^ (-1 : Int32))) = 0) F.length with h | ⟨j, hj, ⟨x, hx, hne, hp⟩, hm⟩
  · refine Or.inr ⟨fun ⟨j, x, y', hx, hy', hne, hp⟩ => h j (h_at hx).1 ⟨x, hx, hne, ?_⟩, ?_⟩
    · rw [hy] at hy'
      cases hy'
      exact hp
    · refine z_findN (fun n v => fX8_hasPart_L2 μ (nI f) (nI k) (fun _ => some (nI 0)) n v) F (some (nI 0)) (fun n j x hx => st n j x hx (fun e => h j (h_at hx).1 ⟨x, hx, e⟩)) (fun n => ?_) z_F (by show _ < 5000; omega)
      show fX8_hasPart_L2 μ (nI f) (nI k) _ (n + 1) (nI F.length) = _
      rw [fX8_hasPart_L2.eq_2, z_gd_t (r_f4 hf), r_sz hf hM, if_pos (nI_le (Nat.le_refl _) (by omega))]
  · refine Or.inl ⟨⟨j, x, y, hx, hy, hne, hp⟩, ?_⟩
    refine z_findS (fun n v => fX8_hasPart_L2 μ (nI f) (nI k) (fun _ => some (nI 0)) n v) F j (some 1) hj (fun n i z hz hi => st n i z hz (fun e => hm i hi ⟨z, hz, e⟩)) (fun n => ?_) z_F (by show _ < 5000; omega)
    show fX8_hasPart_L2 μ (nI f) (nI k) _ (n + 1) (nI j) = _
    rw [fX8_hasPart_L2.eq_2, z_gd_t (r_f4 hf), r_sz hf hM, if_neg (z_nle hj (by omega)), if_neg (fun h => hne ((nI_eq (by omega) (by omega)).mp h)), z_bd (r_set_at hM hf hl hx), z_bd (r_set_at hM hf hl hy), z_bd (q_part1 _ _ hp).2, i_f]
/-- both answer alike -/
theorem s_hasPart (hX : h_X σ q F) (hf : f < 4) (hM : h_M μ f F) (hl : F.length ≤ 40) (hy : F[k]? = some y) : (f_part F k ∧ fX1_hasPart σ q (nI k) = some 1 ∧ fX8_hasPart μ (nI f) (nI k) = some 1) ∨ (¬ f_part F k ∧ fX1_hasPart σ q (nI k) = some 0 ∧ fX8_hasPart μ (nI f) (nI k) = some 0) := by
  rcases q_hasPart hX hl hy with ⟨a, b⟩ | ⟨a, b⟩
  · rcases r_hasPart hf hM hl hy with ⟨_, c⟩ | ⟨c, _⟩
    · exact Or.inl ⟨a, b, c⟩
    · exact absurd a c
  · rcases r_hasPart hf hM hl hy with ⟨c, _⟩ | ⟨_, c⟩
    · exact absurd c a
    · exact Or.inr ⟨a, b, c⟩
end PART
theorem s_isSimple_p : s_isSimple pP := by
  intro σ μ h a1
  unfold fX7_isSimple fX8_isSimple
  rcases n_cases a1 (n := 4) (by decide) with ho | ⟨f, hf, rfl⟩
  · rw [z_bd (q_nf1 ho), z_bd (r_isFamily0 ho), i_f, i_t]
    exact ⟨_, rfl, rfl⟩
  rw [z_bd (q_nf0 hf), z_bd (r_isFamily1 hf), i_t, i_f, z_gd_t (r_f4 hf), nI_clamp (by omega)]
  obtain ⟨F, A, nr, h1, h2, h3, h4, h5, h6⟩ := p_un h
  obtain ⟨hX, hM, hw⟩ := h2 f hf
  have hl := hw.1
  have sX : ∀ (n j : Nat) (x : Nat × Nat), (F f)[j]? = some x → ¬ f_part (F f) j → fX7_isSimple_L22 σ (7 + f) (fun _ => some 1) (n + 1) (nI j) = fX7_isSimple_L22 σ (7 + f) (fun _ => some 1) n (nI (j + 1)) := by
    intro n j x hx hn
    rcases s_hasPart hX hf hM hl hx with ⟨c, _⟩ | ⟨_, c, _⟩
    · exact absurd c hn
    · rw [fX7_isSimple_L22.eq_2, hX.1, if_neg (z_nle (h_at hx).1 (by omega)), z_bd c, i_t, nI_1]
  have sM : ∀ (n j : Nat) (x : Nat × Nat), (F f)[j]? = some x → ¬ f_part (F f) j → fX8_isSimple_L12 μ (nI f) (fun _ => some 1) (n + 1) (nI j) = fX8_isSimple_L12 μ (nI f) (fun _ => some 1) n (nI (j + 1)) := by
    intro n j x hx hn
    rcases s_hasPart hX hf hM hl hx with ⟨c, _⟩ | ⟨_, _, c⟩
    · exact absurd c hn
    · rw [fX8_isSimple_L12.eq_2, z_gd_t (r_f4 hf), r_sz hf hM, if_neg (z_nle (h_at hx).1 (by omega)), z_bd c, i_t, nI_1]
  rw [z_i0]
  rcases n_first (fun j => f_part (F f) j) (F f).length with h | ⟨j, hj, hp, hm⟩
  · refine ⟨1, z_findN (fun n v => fX7_isSimple_L22 σ (7 + f) (fun _ => some 1) n v) (F f) (some 1) (fun n j x hx => sX n j x hx (h j (h_at hx).1)) (fun n => ?_) z_F (by show _ < 5000; omega), z_findN (fun n v => fX8_isSimple_L12 μ (nI f) (fun _ => some 1) n v) (F f) (some 1) (fun n j x hx => sM n j x hx (h j (h_at hx).1)) (fun n => ?_) z_F (by show _ < 5000; omega)⟩
    · show fX7_isSimple_L22 σ (7 + f) _ (n + 1) (nI (F f).length) = _
      rw [fX7_isSimple_L22.eq_2, hX.1, if_pos (nI_le (Nat.le_refl _) (by omega))]
    · show fX8_isSimple_L12 μ (nI f) _ (n + 1) (nI (F f).length) = _
      rw [fX8_isSimple_L12.eq_2, z_gd_t (r_f4 hf), r_sz hf hM, if_pos (nI_le (Nat.le_refl _) (by omega))]
  · have hx : (F f)[j]? = some (F f)[j] := List.getElem?_eq_getElem hj
    rcases s_hasPart hX hf hM hl hx with ⟨_, c, d⟩ | ⟨c, _⟩
    · refine ⟨nI 0, z_findS (fun n v => fX7_isSimple_L22 σ (7 + f) (fun _ => some 1) n v) (F f) j (some (nI 0)) hj (fun n i x hx hi => sX n i x hx (hm i hi)) (fun n => ?_) z_F (by show _ < 5000; omega), z_findS (fun n v => fX8_isSimple_L12 μ (nI f) (fun _ => some 1) n v) (F f) j (some (nI 0)) hj (fun n i x hx hi => sM n i x hx (hm i hi)) (fun n => ?_) z_F (by show _ < 5000; omega)⟩
      · show fX7_isSimple_L22 σ (7 + f) _ (n + 1) (nI j) = _
        rw [fX7_isSimple_L22.eq_2, hX.1, if_neg (z_nle hj (by omega)), z_bd c, i_f]
        rfl
      · show fX8_isSimple_L12 μ (nI f) _ (n + 1) (nI j) = _
        rw [fX8_isSimple_L12.eq_2, z_gd_t (r_f4 hf), r_sz hf hM, if_neg (z_nle hj (by omega)), z_bd d, i_f]
        rfl
    · exact absurd hp c
