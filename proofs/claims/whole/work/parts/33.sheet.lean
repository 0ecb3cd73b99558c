/-! pure: sheets -/
theorem uL_s {f : Nat → Int64} {k : Nat} {x : Int64} : vp_updL f k x k = x := if_pos rfl
theorem uL_n {f : Nat → Int64} {k j : Nat} {x : Int64} (h : j ≠ k) : vp_updL f k x j = f j := if_neg h
theorem pP_j {σ μ τ ν : zS} (h : pP σ μ) (a : ∀ p, p < 64 ∨ 68 ≤ p → τ.1 p = σ.1 p) (b : ∀ p, p ≠ 19 → p ≠ 20 → ν.1 p = μ.1 p) (s : p_sh τ ν) : pP τ ν := by
  obtain ⟨F, A, nr, h1, h2, h3, h4, h5, h6⟩ := h
  refine ⟨F, A, nr, p_pr_c h1 (a _ (by omega)) (b _ (by decide) (by decide)), p_fa_c h2 (fun p _ _ => ⟨a _ (by omega), a _ (by omega), a _ (by omega)⟩) ⟨b _ (by decide) (by decide), b _ (by decide) (by decide), b _ (by decide) (by decide)⟩, p_ru_c h3 (by rw [a _ (by omega)]) (by rw [b _ (by decide) (by decide)]) (fun r _ => ⟨fun i _ => by rw [a _ (by omega)], a _ (by omega)⟩) (fun p _ _ => b p (by omega) (by omega)), p_ac_c h4 (by rw [a _ (by omega)]) (by rw [b _ (by decide) (by decide)]) (fun p _ _ => a p (by omega)) (fun p _ _ => b p (by omega) (by omega)) h4.2.2.2.2, s, ?_⟩
  exact p_ke_c h6 (Nat.le_refl _) (by rw [a _ (by omega)]) ⟨by rw [b _ (by decide) (by decide)], by rw [b _ (by decide) (by decide)]⟩ (a _ (by omega)) (by rw [a _ (by omega)]) (fun p _ _ => ⟨a _ (by omega), a _ (by omega), a _ (by omega)⟩) (fun p _ _ => b p (by omega) (by omega))
theorem p_shs {σ μ : zS} (h : pP σ μ) : p_sh σ μ := by
  obtain ⟨F, A, nr, h1, h2, h3, h4, h5, h6⟩ := h
  exact h5
theorem p_cell {σ μ : zS} {s i : Nat} (h : pP σ μ) (hs : s < 4) (hi : i < 40) (v : Int64) : pP (z_sJ σ (68 + s) i v) (z_sJ μ 21 (40 * s + i) v) := by
  refine pP_j h (fun _ _ => rfl) (fun _ _ _ => rfl) (fun t ht => ?_)
  obtain ⟨a, b, c, d, e⟩ := p_shs h t ht
  refine ⟨a, b, fun j hj => ?_, d, e⟩
  rw [z_rj_s]
  by_cases q : t = s
  · subst q
    rw [z_rj_s]
    by_cases w : j = i
    · subst w
      rw [uL_s, uL_s]
    · rw [uL_n w, uL_n (by omega)]
      exact c j hj
  · rw [z_rj_n (by omega), uL_n (by omega)]
    exact c j hj
theorem r_wrong1 {σ μ : zS} {s : Nat} (h : pP σ μ) (hs : s < 4) {a : Int32} (hk : σ.1 (64 + s) 1 = -1) : fX8_wrong μ (nI s) a = some (-11) := by
  obtain ⟨c1, c2, c3, c4, c5⟩ := p_shs h s hs
  unfold fX8_wrong
  rw [z_bd (r_isSheet1 hs), i_f, z_gd_t (r_f4 hs), nI_clamp (by omega), ← c1, hk, if_neg (by decide)]
/-- a cell is there, or it is not -/
theorem r_wrong {σ μ : zS} {s : Nat} (h : pP σ μ) (hs : s < 4) (hk : ¬ σ.1 (64 + s) 1 = -1) (a : Int32) : ∃ n, n ≤ 40 ∧ σ.1 (64 + s) 2 = nI n ∧ μ.1 20 s = nI n ∧ ((n_out a n ∧ fX8_wrong μ (nI s) a = some (-12)) ∨ (∃ i, i < n ∧ a = nI i ∧ fX8_wrong μ (nI s) a = some 0)) := by
  obtain ⟨c1, c2, c3, c4, n, hn, c5⟩ := p_shs h s hs
  refine ⟨n, hn, c2.trans c5, c5, ?_⟩
  have h0 : 0 ≤ μ.1 19 s := by
    rcases c4 with e | e | e
    · rw [c1] at hk
      exact absurd e hk
    · rw [e]
      decide
    · rw [e]
      decide
  have e1 : (nI n - 1).toInt64.toInt = n - 1 := by
    rw [n_i64, n_1, pk_sub_toInt (by omega) (by decide)]
    rfl
  unfold fX8_wrong
  rw [z_bd (r_isSheet1 hs), i_f, z_gd_t (r_f4 hs), nI_clamp (by omega), if_pos h0, z_gd_t (r_f4 hs), c5]
  rcases n_cases a (n := n) (by omega) with ho | ⟨i, hi, rfl⟩
  · have := n_out_int (by omega) ho
    rw [z_bd (r_in0 (by rw [n_i64, e1]; show ¬ ((0 : Int) ≤ _ ∧ _); omega)), i_t]
    exact Or.inl ⟨ho, rfl⟩
  · rw [z_bd (r_in1 (by rw [n_j (by omega), e1]; show (0 : Int) ≤ _ ∧ _; omega)), i_f]
    exact Or.inr ⟨i, hi, rfl, rfl⟩
theorem s_put {σ μ : zS} {s : Nat} (h : pP σ μ) (hs : s < 4) (hk : ¬ σ.1 (64 + s) 1 = -1) (a : Int32) (v : Int64) : ∃ n, n ≤ 40 ∧ σ.1 (64 + s) 2 = nI n ∧ μ.1 20 s = nI n ∧ ((n_out a n ∧ fX3_put σ (64 + s) a v = some (0, σ) ∧ fX8_cell μ (nI s) a v = some (-12, μ)) ∨ (∃ i σ' μ', i < n ∧ a = nI i ∧ fX3_put σ (64 + s) a v = some (1, σ') ∧ fX8_cell μ (nI s) a v = some (1, μ') ∧ pP σ' μ' ∧ σ'.1 = σ.1 ∧ μ'.1 = μ.1)) := by
  obtain ⟨n, hn, w1, w2, w3⟩ := r_wrong h hs hk a
  refine ⟨n, hn, w1, w2, ?_⟩
  obtain ⟨c1, c2, c3, c4, c5⟩ := p_shs h s hs
  unfold fX3_put fX8_cell
  rcases w3 with ⟨ho, hw⟩ | ⟨i, hi, rfl, hw⟩
  · refine Or.inl ⟨ho, ?_, ?_⟩
    · rw [w1]
      rcases ho with ho | ho
      · rw [if_pos ho]
      · rw [if_neg (n_nlt0 (by omega) ho), if_neg (n_nlt (by omega) ho)]
    · rw [z_bd hw, if_neg (by decide)]
  · refine Or.inr ⟨i, ?_⟩
    rw [show 64 + s + 4 = 68 + s by omega, w1, if_neg (nI_pos (by omega)), if_pos (nI_lt hi (by omega)), z_bd hw, i_t, z_gd_t (r_f4 hs), n_40k, nI_clamp (by omega), nI_clamp (by omega), nI_clamp (by omega), c1]
    by_cases e : μ.1 19 s = 0
    · rw [if_pos e, if_pos e, z_gd_t (z_in_nI (by omega) (by decide)), z_gd_t (z_in_nI (by omega) (by decide)), z_ltE, z_ltE]
      exact ⟨_, _, hi, rfl, rfl, rfl, p_cell (i := i) h hs (by omega) _, rfl, rfl⟩
    · rw [if_neg e, if_neg e, z_gd_t (z_in_nI (by omega) (by decide)), z_gd_t (z_in_nI (by omega) (by decide)), z_ltE, z_ltE]
      exact ⟨_, _, hi, rfl, rfl, rfl, p_cell (i := i) h hs (by omega) _, rfl, rfl⟩
theorem r_cell_out {μ : zS} {x : Int32} {a : Int32} {v : Int64} (ho : n_out x 4) : fX8_cell μ x a v = some (-2, μ) := by
  unfold fX8_cell fX8_wrong
  rw [z_bd (r_isSheet0 ho), i_t, z_bd rfl, if_neg (by decide)]
theorem r_cell_no {σ μ : zS} {s : Nat} (h : pP σ μ) (hs : s < 4) {a : Int32} {v : Int64} (hk : σ.1 (64 + s) 1 = -1) : fX8_cell μ (nI s) a v = some (-11, μ) := by
  unfold fX8_cell
  rw [z_bd (r_wrong1 h hs hk), if_neg (by decide)]
theorem s_cell_p : s_cell pP := by
  intro σ μ h a1 a2 a3
  unfold fX7_cell
  rcases n_cases a1 (n := 4) (by decide) with ho | ⟨s, hs, rfl⟩
  · rw [z_bd (q_ns1 ho), i_f, r_cell_out ho]
    exact ⟨_, _, _, rfl, rfl, h⟩
  rw [z_bd (q_ns0 hs), i_t, z_gd_t (r_f4 hs), nI_clamp (by omega)]
  by_cases hk : σ.1 (64 + s) 1 = -1
  · rw [if_pos hk, r_cell_no h hs hk]
    exact ⟨_, _, _, rfl, rfl, h⟩
  · rw [if_neg hk, z_gd_t (r_f4 hs)]
    obtain ⟨n, hn, w1, w2, w3⟩ := s_put h hs hk a2 a3
    rcases w3 with ⟨ho, p1, p2⟩ | ⟨i, σ', μ', hi, rfl, p1, p2, p3, p4, p5⟩
    · rw [z_bd p1, p2, i_t]
      exact ⟨_, _, _, rfl, rfl, h⟩
    · rw [z_bd p1, p2, i_f]
      exact ⟨_, _, _, rfl, rfl, p3⟩
theorem s_read_p : s_read pP := by
  intro σ μ h a1 a2
  unfold fX7_read fX8_read
  rcases n_cases a1 (n := 4) (by decide) with ho | ⟨s, hs, rfl⟩
  · have e : fX8_wrong μ a1 a2 = some (-2) := by
      unfold fX8_wrong
      rw [z_bd (r_isSheet0 ho), i_t]
    rw [z_bd (q_ns1 ho), i_f, z_bd e, if_neg (by decide)]
    exact ⟨_, rfl, rfl⟩
  rw [z_bd (q_ns0 hs), i_t, z_gd_t (r_f4 hs), nI_clamp (by omega)]
  by_cases hk : σ.1 (64 + s) 1 = -1
  · rw [if_pos hk, z_bd (r_wrong1 h hs hk), if_neg (by decide)]
    exact ⟨_, rfl, rfl⟩
  · rw [if_neg hk]
    obtain ⟨n, hn, w1, w2, w3⟩ := r_wrong h hs hk a2
    obtain ⟨c1, c2, c3, c4, c5⟩ := p_shs h s hs
    rcases w3 with ⟨ho, hw⟩ | ⟨i, hi, rfl, hw⟩
    · rw [z_bd hw, if_neg (show ¬ (-12 : Int32) = 0 by decide), w1]
      rcases ho with ho | ho
      · rw [if_pos ho]
        exact ⟨_, rfl, rfl⟩
      · rw [if_neg (n_nlt0 (by omega) ho), if_neg (n_nlt (by omega) ho)]
        exact ⟨_, rfl, rfl⟩
    · rw [z_bd hw, i_t, w1, if_neg (nI_pos (by omega)), if_pos (nI_lt hi (by omega)), z_gd_t (z_in_nI (by omega) (by decide)), n_40k, z_gd_t (z_in_nI (by omega) (by decide)), nI_clamp (by omega), nI_clamp (by omega), ← c3 i (by omega), show 64 + s + 4 = 68 + s by omega]
      exact ⟨_, rfl, rfl⟩
theorem s_freqs_p : s_freqs pP := by
  intro σ μ h a1 a2
  unfold fX7_freqs fX8_freqs
  rcases n_cases a1 (n := 4) (by decide) with ho | ⟨s, hs, rfl⟩
  · rw [z_bd (q_ns1 ho), i_f, z_bd (r_isSheet0 ho), i_t]
    exact ⟨_, _, _, rfl, rfl, h⟩
  rw [z_bd (q_ns0 hs), i_t, z_bd (r_isSheet1 hs), i_f]
  rcases n_cases a2 (n := 4) (by decide) with ho | ⟨f, hf, rfl⟩
  · rw [z_bd (q_nf1 ho), i_f, z_bd (r_isFamily0 ho), i_t]
    exact ⟨_, _, _, rfl, rfl, h⟩
  rw [z_bd (q_nf0 hf), i_t, z_bd (r_isFamily1 hf), i_f, z_gd_t (r_f4 hs)]
  have step : ∀ (σ μ : zS), pP σ μ → ∃ F : List (Nat × Nat), h_X σ (7 + f) F ∧ h_M μ f F ∧ h_wf F := fun σ μ h => by
    obtain ⟨F, A, nr, h1, h2, h3, h4, h5, h6⟩ := p_un h
    exact ⟨F f, h2 f hf⟩
  by_cases hk : σ.1 (64 + s) 1 = -1
  · obtain ⟨F, hX, hM, hw⟩ := step σ μ h
    rw [nI_clamp (by omega), if_pos hk]
    refine ⟨_, _, _, rfl, ?_, h⟩
    obtain ⟨m, hm⟩ : ∃ m, z_F = m + 1 := ⟨4999, rfl⟩
    rw [hm, z_i0, fX8_freqs_L19.eq_2, if_neg (by decide), z_bd (r_oft hf hM hw (by decide)), z_bd (r_cell_no h hs hk), if_neg (show ¬ (0 : Int32) ≤ -11 by decide)]
  · rw [nI_clamp (by omega), if_neg hk, z_i0]
    have key : ∀ (d i n : Nat) (σ μ : zS), i + d = 12 → d < n → pP σ μ → ¬ σ.1 (64 + s) 1 = -1 → ∃ r σ' μ', fX7_freqs_L35 (nI s) (nI f) (fun w1 _ => some (12, w1)) n σ (nI i) = some (r, σ') ∧ fX8_freqs_L19 (nI s) (nI f) (fun w1 _ => some (12, w1)) n μ (nI i) = some (r, μ') ∧ pP σ' μ' := by
      intro d
      induction d with
      | zero =>
        intro i n σ μ h1 h2 h hk
        obtain ⟨n, rfl⟩ : ∃ j, n = j + 1 := ⟨n - 1, by omega⟩
        have hi : i = 12 := by omega
        subst hi
        rw [fX7_freqs_L35.eq_2, fX8_freqs_L19.eq_2, if_pos (show (12 : Int32) ≤ nI 12 by decide), if_pos (show (12 : Int32) ≤ nI 12 by decide)]
        exact ⟨_, _, _, rfl, rfl, h⟩
      | succ d ih =>
        intro i n σ μ h1 h2 h hk
        obtain ⟨n, rfl⟩ : ∃ j, n = j + 1 := ⟨n - 1, by omega⟩
        obtain ⟨F, hX, hM, hw⟩ := step σ μ h
        have hi : i < 12 := by omega
        rw [fX7_freqs_L35.eq_2, fX8_freqs_L19.eq_2, if_neg (show ¬ (12 : Int32) ≤ nI i from z_nle hi (by decide)), if_neg (show ¬ (12 : Int32) ≤ nI i from z_nle hi (by decide)), z_gd_t (r_f4 hs), z_gd_t (r_f4 hf), nI_clamp (show f < 2 ^ 31 by omega), nI_clamp (show s < 2 ^ 31 by omega), z_bd (q_with hX hw hi), z_bd (r_oft hf hM hw hi), nI_1]
        obtain ⟨m, hm, w1, w2, w3⟩ := s_put h hs hk (nI i) (f_oft i F).toInt64
        rcases w3 with ⟨ho, p1, p2⟩ | ⟨j, σ', μ', hj, e, p1, p2, p3, p4, p5⟩
        · rw [z_bd p1, z_bd p2, i_t, if_neg (show ¬ (0 : Int32) ≤ -12 by decide)]
          exact ⟨_, _, _, rfl, rfl, h⟩
        · rw [z_bd p1, z_bd p2, i_f, if_pos (show (0 : Int32) ≤ 1 by decide)]
          exact ih (i + 1) n σ' μ' (by omega) (by omega) p3 (by rw [p4]; exact hk)
    exact key 12 0 z_F σ μ (by decide) (by show 12 < 5000; decide) h hk
