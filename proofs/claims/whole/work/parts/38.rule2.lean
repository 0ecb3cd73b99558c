/-! pure: rule -/
def f_good (k : Nat) (c : Int32) : Prop := ((k = 3 ∨ k = 5) → ∃ j, j < 12 ∧ c = nI j) ∧ (k = 4 → -12 < c.toInt ∧ c.toInt < 12) ∧ (k = 7 → ∃ j, j < 4 ∧ c = nI j)
theorem r_c1 {x : Option Int32} (h : x = some 1) : x.bind (fun r => z_gd (z_bz r) (some r)) = some 1 := by
  rw [h]
  rfl
theorem r_c0 {x : Option Int32} (h : x = some 0) : x.bind (fun r => z_gd (z_bz r) (some r)) = some 0 := by
  rw [h]
  rfl
theorem q_c1 {x : Option Int32} (h : x = some 0) : x.bind (fun r => if r = 0 then some (1 : Int32) else some (0 : Int32)) = some 1 := by
  rw [h]
  rfl
theorem q_c0 {x : Option Int32} (h : x = some 1) : x.bind (fun r => if r = 0 then some (1 : Int32) else some (0 : Int32)) = some 0 := by
  rw [h]
  rfl
theorem s_fits {k : Nat} (hk : k ≤ 8) (c : Int32) : (fX7_fitsHow (nI k) c = some 1 ∧ fX8_isC (nI k) c = some 1 ∧ f_good k c) ∨ (fX7_fitsHow (nI k) c = some 0 ∧ fX8_isC (nI k) c = some 0) := by
  have pt : ∀ k, k ≠ 4 → k ≠ 7 → (fX7_isNoPoint c).bind (fun r => if r = 0 then some (1 : Int32) else some (0 : Int32)) = some 1 ∧ (fX8_isPoint c).bind (fun r => z_gd (z_bz r) (some r)) = some 1 ∧ f_good k c ∨ (fX7_isNoPoint c).bind (fun r => if r = 0 then some (1 : Int32) else some (0 : Int32)) = some 0 ∧ (fX8_isPoint c).bind (fun r => z_gd (z_bz r) (some r)) = some 0 := by
    intro k k4 k7
    rcases n_cases c (n := 12) (by decide) with ho | ⟨j, hj, rfl⟩
    · exact Or.inr ⟨q_c0 (q_np1 ho), r_c0 (r_isPoint0 ho)⟩
    · exact Or.inl ⟨q_c1 (q_np0 hj), r_c1 (r_isPoint1 hj), fun _ => ⟨j, hj, rfl⟩, fun e => absurd e k4, fun e => absurd e k7⟩
  have t9 : (9 : Int32).toInt = 9 := rfl
  have tm9 : (-9 : Int32).toInt = -9 := rfl
  have t12 : (12 : Int32).toInt = 12 := rfl
  have tm12 : (-12 : Int32).toInt = -12 := rfl
  have gd : ∀ k, k ≠ 3 → k ≠ 5 → k ≠ 4 → k ≠ 7 → f_good k c := fun k a b d e => ⟨fun q => by omega, fun q => absurd q d, fun q => absurd q e⟩
  unfold fX7_fitsHow fX8_isC
  by_cases e2 : k = 2
  · subst e2
    rw [if_pos (show nI 2 = 2 from rfl), if_pos (show nI 2 = 2 from rfl)]
    by_cases hr : (-9 : Int) ≤ c.toInt ∧ c.toInt ≤ 9
    · rw [if_neg (fun q => by have := Int32.lt_iff_toInt_lt.mp q; omega), if_neg (fun q => by have := Int32.lt_iff_toInt_lt.mp q; omega), r_c1 (r_in1 (by rw [n_i64]; exact hr))]
      exact Or.inl ⟨rfl, rfl, gd 2 (by decide) (by decide) (by decide) (by decide)⟩
    · rw [r_c0 (r_in0 (by rw [n_i64]; exact hr))]
      refine Or.inr ⟨?_, rfl⟩
      by_cases q : c < -9
      · rw [if_pos q]
      · rw [if_neg q, if_pos (Int32.lt_iff_toInt_lt.mpr (by
          have : ¬ c.toInt < -9 := fun z => q (Int32.lt_iff_toInt_lt.mpr z)
          omega))]
  rw [if_neg (show ¬ nI k = 2 from fun q => e2 ((nI_eq (b := 2) (by omega) (by decide)).mp q)), if_neg (show ¬ nI k = 2 from fun q => e2 ((nI_eq (b := 2) (by omega) (by decide)).mp q))]
  by_cases e3 : k = 3
  · subst e3
    rw [if_pos (show nI 3 = 3 from rfl), if_pos (show nI 3 = 3 from rfl)]
    exact pt 3 (by decide) (by decide)
  rw [if_neg (show ¬ nI k = 3 from fun q => e3 ((nI_eq (b := 3) (by omega) (by decide)).mp q)), if_neg (show ¬ nI k = 3 from fun q => e3 ((nI_eq (b := 3) (by omega) (by decide)).mp q))]
  by_cases e4 : k = 4
  · subst e4
    rw [if_pos (show nI 4 = 4 from rfl), if_pos (show nI 4 = 4 from rfl)]
    by_cases hr : (-11 : Int) ≤ c.toInt ∧ c.toInt ≤ 11
    · rw [if_neg (fun q => by have := Int32.le_iff_toInt_le.mp q; omega), if_neg (fun q => by have := Int32.le_iff_toInt_le.mp q; omega), r_c1 (r_in1 (by rw [n_i64]; exact hr))]
      exact Or.inl ⟨rfl, rfl, fun q => by omega, fun _ => ⟨by omega, by omega⟩, fun q => by omega⟩
    · rw [r_c0 (r_in0 (by rw [n_i64]; exact hr))]
      refine Or.inr ⟨?_, rfl⟩
      by_cases q : c ≤ -12
      · rw [if_pos q]
      · rw [if_neg q, if_pos (Int32.le_iff_toInt_le.mpr (by
          have : ¬ c.toInt ≤ -12 := fun z => q (Int32.le_iff_toInt_le.mpr z)
          omega))]
  rw [if_neg (show ¬ nI k = 4 from fun q => e4 ((nI_eq (b := 4) (by omega) (by decide)).mp q)), if_neg (show ¬ nI k = 4 from fun q => e4 ((nI_eq (b := 4) (by omega) (by decide)).mp q))]
  by_cases e5 : k = 5
  · subst e5
    rw [if_pos (show nI 5 = 5 from rfl), if_pos (show nI 5 = 5 from rfl)]
    exact pt 5 (by decide) (by decide)
  rw [if_neg (show ¬ nI k = 5 from fun q => e5 ((nI_eq (b := 5) (by omega) (by decide)).mp q)), if_neg (show ¬ nI k = 5 from fun q => e5 ((nI_eq (b := 5) (by omega) (by decide)).mp q))]
  by_cases e6 : k = 6
  · subst e6
    rw [if_pos (show nI 6 = 6 from rfl), if_pos (show nI 6 = 6 from rfl)]
    exact Or.inl ⟨rfl, rfl, gd 6 (by decide) (by decide) (by decide) (by decide)⟩
  rw [if_neg (show ¬ nI k = 6 from fun q => e6 ((nI_eq (b := 6) (by omega) (by decide)).mp q)), if_neg (show ¬ nI k = 6 from fun q => e6 ((nI_eq (b := 6) (by omega) (by decide)).mp q))]
  by_cases e7 : k = 7
  · subst e7
    rw [if_pos (show nI 7 = 7 from rfl), if_pos (show nI 7 = 7 from rfl)]
    rcases n_cases c (n := 4) (by decide) with ho | ⟨j, hj, rfl⟩
    · exact Or.inr ⟨q_c0 (q_nf1 ho), r_c0 (r_isFamily0 ho)⟩
    · exact Or.inl ⟨q_c1 (q_nf0 hj), r_c1 (r_isFamily1 hj), fun q => by omega, fun q => by omega, fun _ => ⟨j, hj, rfl⟩⟩
  rw [if_neg (show ¬ nI k = 7 from fun q => e7 ((nI_eq (b := 7) (by omega) (by decide)).mp q)), if_neg (show ¬ nI k = 7 from fun q => e7 ((nI_eq (b := 7) (by omega) (by decide)).mp q))]
  exact Or.inl ⟨rfl, rfl, gd k e3 e5 e4 e7⟩
theorem s_norule {σ μ : zS} {nr : Nat} (h1 : σ.1 1 2 = nI nr) (h2 : μ.1 0 4 = nI nr) (hn : nr ≤ 12) (a : Int32) : (∃ j, j < nr ∧ a = nI j ∧ fX7_isNoRule σ a = some 0 ∧ fX8_isRule μ a = some 1) ∨ (n_out a nr ∧ fX7_isNoRule σ a = some 1 ∧ fX8_isRule μ a = some 0) := by
  have e1 : (nI nr - 1).toInt64.toInt = nr - 1 := by
    rw [n_i64, n_1, pk_sub_toInt (by omega) (by decide)]
    rfl
  unfold fX7_isNoRule fX8_isRule
  rw [h1, h2]
  rcases n_cases a (n := nr) (by omega) with ho | ⟨i, hi, rfl⟩
  · have := n_out_int (by omega) ho
    refine Or.inr ⟨ho, ?_, r_c0 (r_in0 (by rw [n_i64, e1]; show ¬ ((0 : Int) ≤ _ ∧ _); omega))⟩
    rcases ho with ho | ho
    · rw [if_pos ho]
    · rw [if_neg (n_nlt0 (by omega) ho), if_neg (n_nlt (by omega) ho)]
  · refine Or.inl ⟨i, hi, rfl, ?_, r_c1 (r_in1 (by rw [n_j (by omega), e1]; show (0 : Int) ≤ _ ∧ _; omega))⟩
    rw [if_neg (nI_pos (by omega)), if_pos (nI_lt hi (by omega))]
theorem s_asks {k : Nat} (hk : k ≤ 8) : ((k ≤ 5 ∨ k = 8) ∧ fX7_asksFirst (nI k) = some 1 ∧ fX8_isOfA (nI k) = some 1) ∨ (¬ (k ≤ 5 ∨ k = 8) ∧ fX7_asksFirst (nI k) = some 0 ∧ fX8_isOfA (nI k) = some 0) := by
  have : k = 0 ∨ k = 1 ∨ k = 2 ∨ k = 3 ∨ k = 4 ∨ k = 5 ∨ k = 6 ∨ k = 7 ∨ k = 8 := by omega
  rcases this with rfl | rfl | rfl | rfl | rfl | rfl | rfl | rfl | rfl
  all_goals first
    | exact Or.inl ⟨by decide, by decide, by decide⟩
    | exact Or.inr ⟨by decide, by decide, by decide⟩
theorem s_second {k : Nat} (hk : k ≤ 8) : ((k = 0 ∨ k = 1 ∨ k = 5) ∧ fX7_asksSecond (nI k) = some 1 ∧ (nI k < (2 : Int32) ∨ (¬ nI k < (2 : Int32) ∧ nI k = 5))) ∨ (¬ (k = 0 ∨ k = 1 ∨ k = 5) ∧ fX7_asksSecond (nI k) = some 0 ∧ ¬ nI k < (2 : Int32) ∧ ¬ nI k = 5) := by
  have : k = 0 ∨ k = 1 ∨ k = 2 ∨ k = 3 ∨ k = 4 ∨ k = 5 ∨ k = 6 ∨ k = 7 ∨ k = 8 := by omega
  rcases this with rfl | rfl | rfl | rfl | rfl | rfl | rfl | rfl | rfl
  all_goals first
    | exact Or.inl ⟨by decide, by decide, by decide⟩
    | exact Or.inr ⟨by decide, by decide, by decide, by decide⟩
theorem s_rule_p : s_rule pP := by
  intro σ μ h a1 a2 a3 a4
  obtain ⟨F, A, nr, h1, h2, h3, h4, h5, h6⟩ := p_un h
  obtain ⟨r1, r2, r3, r4, r5, r6⟩ := h1.2.1
  unfold fX7_rule fX8_rule
  rcases n_cases a1 (n := 9) (by decide) with ho | ⟨k, hk, rfl⟩
  · have := n_out_int (by decide) ho
    rw [z_bd (r_in0 (by rw [n_i64]; show ¬ ((0 : Int) ≤ _ ∧ _ ≤ (8 : Int)); omega)), i_t]
    rcases ho with ho | ho
    · rw [if_pos ho]
      exact ⟨_, _, _, rfl, rfl, h⟩
    · rw [if_neg (n_nlt0 (by decide) ho), if_pos (Int32.lt_iff_toInt_lt.mpr (by have := n_ge (by decide) ho; show (8 : Int) < _; omega))]
      exact ⟨_, _, _, rfl, rfl, h⟩
  rw [z_bd (r_in1 (by rw [n_j (by omega)]; show (0 : Int) ≤ _ ∧ _ ≤ (8 : Int); omega)), i_f, if_neg (nI_pos (by omega)), show (8 : Int32) = nI 8 from rfl, if_neg (nI_nlt (by omega) (by decide))]
  have nw : ∀ (g : f_good k a4) (x : (k ≤ 5 ∨ k = 8) → ∃ j, j < nr ∧ a2 = nI j) (y : (k = 0 ∨ k = 1 ∨ k = 5) → ∃ j, j < nr ∧ a3 = nI j), ∀ m, σ.1 1 2 = nI m → m ≤ 12 → p_rok (nI k) a2 a3 a4 m := fun g x y m hm1 hm2 => by
    have : m = nr := (nI_eq (by omega) (by omega)).mp (hm1.symm.trans r1)
    subst this
    exact ⟨k, by omega, rfl, x, y, g.1, g.2.1, g.2.2⟩
  rcases s_fits (show k ≤ 8 by omega) a4 with ⟨f1, f2, f3⟩ | ⟨f1, f2⟩
  · rw [z_bd f1, i_f]
    rcases s_asks (show k ≤ 8 by omega) with ⟨b1, b2, b3⟩ | ⟨b1, b2, b3⟩
    · rw [z_bd b2, i_f, z_bd b3, i_f]
      rcases s_norule r1 r2 r4 a2 with ⟨j, hj, ej, d1, d2⟩ | ⟨_, d1, d2⟩
      · rw [z_bd d1, i_t, z_bd d2, i_f]
        rcases s_second (show k ≤ 8 by omega) with ⟨c1, c2, c3⟩ | ⟨c1, c2, c3, c4⟩
        · rw [z_bd c2, i_f]
          rcases s_norule r1 r2 r4 a3 with ⟨i, hi, ei, g1, g2⟩ | ⟨_, g1, g2⟩
          · rw [z_bd g1, i_t]
            rcases c3 with c3 | ⟨c3, c4⟩
            · rw [if_pos c3, z_bd g2, i_f, z_bd f2, i_f]
              exact s_newrule h (nw f3 (fun _ => ⟨j, hj, ej⟩) (fun _ => ⟨i, hi, ei⟩))
            · rw [if_neg c3, if_pos c4, z_bd g2, i_f, z_bd f2, i_f]
              exact s_newrule h (nw f3 (fun _ => ⟨j, hj, ej⟩) (fun _ => ⟨i, hi, ei⟩))
          · rw [z_bd g1, i_f]
            rcases c3 with c3 | ⟨c3, c4⟩
            · rw [if_pos c3, z_bd g2, i_t]
              exact ⟨_, _, _, rfl, rfl, h⟩
            · rw [if_neg c3, if_pos c4, z_bd g2, i_t]
              exact ⟨_, _, _, rfl, rfl, h⟩
        · rw [z_bd c2, i_t, if_neg c3, if_neg c4, z_bd f2, i_f]
          exact s_newrule h (nw f3 (fun _ => ⟨j, hj, ej⟩) (fun q => absurd q c1))
      · rw [z_bd d1, i_f, z_bd d2, i_t]
        exact ⟨_, _, _, rfl, rfl, h⟩
    · rw [z_bd b2, i_t, z_bd b3, i_t]
      rcases s_second (show k ≤ 8 by omega) with ⟨c1, c2, c3⟩ | ⟨c1, c2, c3, c4⟩
      · omega
      · rw [z_bd c2, i_t, if_neg c3, if_neg c4, z_bd f2, i_f]
        exact s_newrule h (nw f3 (fun q => absurd q b1) (fun q => absurd q c1))
  · rw [z_bd f1, i_t]
    rcases s_asks (show k ≤ 8 by omega) with ⟨b1, b2, b3⟩ | ⟨b1, b2, b3⟩
    · rw [z_bd b3, i_f]
      rcases s_norule r1 r2 r4 a2 with ⟨j, hj, ej, d1, d2⟩ | ⟨_, d1, d2⟩
      · rw [z_bd d2, i_f]
        rcases s_second (show k ≤ 8 by omega) with ⟨c1, c2, c3⟩ | ⟨c1, c2, c3, c4⟩
        · rcases s_norule r1 r2 r4 a3 with ⟨i, hi, ei, g1, g2⟩ | ⟨_, g1, g2⟩
          · rcases c3 with c3 | ⟨c3, c4⟩
            · rw [if_pos c3, z_bd g2, i_f, z_bd f2, i_t]
              exact ⟨_, _, _, rfl, rfl, h⟩
            · rw [if_neg c3, if_pos c4, z_bd g2, i_f, z_bd f2, i_t]
              exact ⟨_, _, _, rfl, rfl, h⟩
          · rcases c3 with c3 | ⟨c3, c4⟩
            · rw [if_pos c3, z_bd g2, i_t]
              exact ⟨_, _, _, rfl, rfl, h⟩
            · rw [if_neg c3, if_pos c4, z_bd g2, i_t]
              exact ⟨_, _, _, rfl, rfl, h⟩
        · rw [if_neg c3, if_neg c4, z_bd f2, i_t]
          exact ⟨_, _, _, rfl, rfl, h⟩
      · rw [z_bd d2, i_t]
        exact ⟨_, _, _, rfl, rfl, h⟩
    · rw [z_bd b3, i_t]
      rcases s_second (show k ≤ 8 by omega) with ⟨c1, c2, c3⟩ | ⟨c1, c2, c3, c4⟩
      · omega
      · rw [if_neg c3, if_neg c4, z_bd f2, i_t]
        exact ⟨_, _, _, rfl, rfl, h⟩
