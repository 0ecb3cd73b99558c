/-! pure: unpacks -/
/-- alike, with nothing remembered -/
def pP0 (σ μ : zS) : Prop := ∃ (F : Nat → List (Nat × Nat)) (nr : Nat), p_rs σ μ nr ∧ p_fa σ μ F ∧ h_ac (σ.1 59 3) (fun i => σ.1 (60 + i)) [] ∧ h_ac (μ.1 0 10) (fun i => μ.1 (10 + i)) []
theorem pP0_P {σ μ : zS} (h : pP0 σ μ) : pP σ μ := by
  obtain ⟨F, nr, h1, h2, h3, h4⟩ := h
  exact p_mk h1 h2 h3 h4 (by decide) trivial
theorem pP0_of {σ μ : zS} (h : pP σ μ) : pP0 (z_sI σ 59 3 0) (z_sI μ 0 10 0) := by
  obtain ⟨F, A, nr, h1, h2, h3, h4, h5, h6⟩ := p_un h
  exact ⟨F, nr, p_rs_c h1 (o_ac_k (o_all_o σ)) (o_mc_k (o_alm_o μ)), p_fa_o h2 (o_all_o σ) (o_alm_o μ), o_all_h σ, o_alm_h μ⟩
theorem s_add0 {σ μ : zS} {f s : Nat} (h : pP0 σ μ) (hf : f < 4) (hs : s < 4096) : ∃ r σ' μ', fX1_add σ (7 + f) (nI s) = some (r, σ') ∧ fX8_tells μ (nI f) (nI s) = some (r, μ') ∧ pP0 σ' μ' ∧ ((r = -4 ∧ ¬ (0 : Int32) ≤ r) ∨ (¬ r = -4 ∧ (0 : Int32) ≤ r)) ∧ h_off (7 + f) σ σ' ∧ h_mf f μ μ' := by
  obtain ⟨F, nr, h1, h2, h3, h4⟩ := id h
  obtain ⟨hX, hM, hw⟩ := h2 f hf
  rcases h_dich (F f) s with hn | ⟨j, t, hj⟩
  · by_cases hl : (F f).length = 40
    · exact ⟨_, _, _, q_add_full hX hw hs hn hl, r_tells_full hM hf hw hs hn hl, h, Or.inl ⟨rfl, by decide⟩, h_off_rf, h_mf_rf⟩
    · have hl' : (F f).length < 40 := by have := hw.1; omega
      obtain ⟨τ, g1, g2, g3⟩ := q_add_new hX hw hs hn hl'
      obtain ⟨ν, k1, k2, k3⟩ := r_tells_new hM hf hw hs hn hl'
      exact ⟨_, _, _, g1, k1, ⟨_, nr, p_rs_c h1 (h_off_k hf g3) (h_mf_k k3), p_put hf h2 g3 k3 g2 k2 (h_wf_app hw hl' hs hn (by decide) (by decide)), h_ac_off hf h3 g3, h_ac_mf h4 k3⟩, Or.inr ⟨by decide, by decide⟩, g3, k3⟩
  · have ht := hw.2.1 _ (h_at hj).2
    have ht1 : 1 ≤ t := ht.2.1
    have ht2 : t ≤ 99 := ht.2.2
    obtain ⟨τ, g1, g2, g3⟩ := q_add_at hX hw hs hj
    obtain ⟨ν, k1, k2, k3⟩ := r_tells_at hM hf hw hs hj
    exact ⟨_, _, _, g1, k1, ⟨_, nr, p_rs_c h1 (h_off_k hf g3) (h_mf_k k3), p_put hf h2 g3 k3 g2 k2 (h_wf_set hw hj (by omega) (by omega)), h_ac_off hf h3 g3, h_ac_mf h4 k3⟩, Or.inr ⟨n_ne_neg (by omega) (by decide), by rw [z_i0]; exact nI_le (Nat.zero_le _) (by omega)⟩, g3, k3⟩
theorem r_noLongs {σ μ : zS} {s : Nat} (h : pP σ μ) (hs : s < 4) : (σ.1 (64 + s) 1 = 1 ∧ fX8_noLongs μ (nI s) = some 0) ∨ (¬ σ.1 (64 + s) 1 = 1 ∧ σ.1 (64 + s) 1 = -1 ∧ fX8_noLongs μ (nI s) = some (-11)) ∨ (¬ σ.1 (64 + s) 1 = 1 ∧ ¬ σ.1 (64 + s) 1 = -1 ∧ fX8_noLongs μ (nI s) = some (-13)) := by
  obtain ⟨c1, c2, c3, c4, c5⟩ := p_shs h s hs
  unfold fX8_noLongs
  rw [z_gd_t (r_f4 hs), z_gd_t (r_f4 hs), nI_clamp (by omega), c1]
  rcases c4 with e | e | e
  · rw [e]
    exact Or.inr (Or.inl ⟨by decide, rfl, by decide⟩)
  · rw [e]
    exact Or.inr (Or.inr ⟨by decide, by decide, by decide⟩)
  · rw [e]
    exact Or.inl ⟨rfl, by decide⟩
theorem n_div5 {i : Nat} (h : i < 2 ^ 31) : nI i / 5 = nI (i / 5) := by
  rw [n_5]
  exact pk_div h (by decide) (by decide)
theorem s_unpacks_p : s_unpacks pP := by
  intro σ μ h a1 a2 a3
  unfold fX7_unpacks fX8_unpacks
  rcases n_cases a1 (n := 4) (by decide) with ho | ⟨s, hs, rfl⟩
  · rw [z_bd (q_ns1 ho), i_f, z_bd (r_isSheet0 ho), i_t]
    exact ⟨_, _, _, rfl, rfl, h⟩
  rw [z_bd (q_ns0 hs), i_t, z_bd (r_isSheet1 hs), i_f]
  rcases n_cases a2 (n := 4) (by decide) with ho | ⟨f, hf, rfl⟩
  · rw [z_bd (q_nf1 ho), i_f, z_bd (r_isFamily0 ho), i_t]
    exact ⟨_, _, _, rfl, rfl, h⟩
  rw [z_bd (q_nf0 hf), i_t, z_bd (r_isFamily1 hf), i_f]
  rcases n_cases a3 (n := 201) (by decide) with ho | ⟨N, hN, rfl⟩
  · have := n_out_int (by decide) ho
    rw [z_bd (r_in0 (by rw [n_i64]; show ¬ ((0 : Int) ≤ _ ∧ _ ≤ (200 : Int)); omega)), i_t]
    rcases ho with ho | ho
    · rw [if_pos ho]
      exact ⟨_, _, _, rfl, rfl, h⟩
    · rw [if_neg (n_nlt0 (by decide) ho), show (200 : Int32) = nI 200 from rfl, if_neg (n_nle (by decide) ho)]
      exact ⟨_, _, _, rfl, rfl, h⟩
  rw [z_bd (r_in1 (by rw [n_j (by omega)]; show (0 : Int) ≤ _ ∧ _ ≤ (200 : Int); omega)), i_f, if_neg (nI_pos (by omega)), show (200 : Int32) = nI 200 from rfl, if_pos (nI_le (by omega) (by decide)), z_gd_t (r_f4 hs), nI_clamp (show s < 2 ^ 31 by omega)]
  rcases r_noLongs h hs with ⟨e1, e2⟩ | ⟨e1, e2, e3⟩ | ⟨e1, e2, e3⟩
  · rw [if_pos e1, z_bd e2, i_t, z_bd (o_all σ), z_ltE]
    have key : ∀ (d i n : Nat) (v : Int32) (σ μ : zS), i + d = N → d < n → pP0 σ μ → ∃ r σ' μ', fX7_unpacks_L75 (nI f) (nI N) (64 + s) (fun w1 x1 _ => some (x1, w1)) n σ v (nI i) = some (r, σ') ∧ fX8_unpacks_L55 (nI s) (nI f) (nI N) (fun w1 x1 _ => some (x1, w1)) n μ v (nI i) = some (r, μ') ∧ pP σ' μ' := by
      intro d
      induction d with
      | zero =>
        intro i n v σ μ h1 h2 h
        obtain ⟨n, rfl⟩ : ∃ j, n = j + 1 := ⟨n - 1, by omega⟩
        have hi : i = N := by omega
        subst hi
        rw [fX7_unpacks_L75.eq_2, fX8_unpacks_L55.eq_2, if_pos (nI_le (Nat.le_refl _) (by omega)), if_pos (nI_le (Nat.le_refl _) (by omega))]
        exact ⟨_, _, _, rfl, rfl, pP0_P h⟩
      | succ d ih =>
        intro i n v σ μ h1 h2 h
        obtain ⟨n, rfl⟩ : ∃ j, n = j + 1 := ⟨n - 1, by omega⟩
        have hi : i < N := by omega
        obtain ⟨c1, c2, c3, c4, m, hm, c5⟩ := p_shs (pP0_P h) s hs
        have hz : z_nz (5 : Int32) = true := by decide
        have hd5 := n_div5 (i := i) (by omega)
        rw [fX7_unpacks_L75.eq_2, fX8_unpacks_L55.eq_2, if_neg (z_nle hi (by omega)), if_neg (z_nle hi (by omega)), z_gd_t hz, z_gd_t hz, z_gd_t (r_f4 hs), nI_clamp (show s < 2 ^ 31 by omega), hd5, c2, c5]
        by_cases hq : i / 5 < m
        · rw [if_pos (nI_lt hq (by omega)), if_pos (nI_lt hq (by omega)), z_gd_t hz, n_40k, z_gd_t (z_in_nI (show 40 * s + i / 5 < 160 by omega) (by decide)), z_gd_t hz, nI_clamp (show 40 * s + i / 5 < 2 ^ 31 by omega), z_gd_t (r_f4 hf), nI_clamp (show f < 2 ^ 31 by omega)]
          have hpa : fX3_packedAt σ (64 + s) (nI i) = some ((((μ.2 21 (40 * s + i / 5)).toUInt64 >>> (((12 : Int32) * (nI i - nI (i / 5) * (5 : Int32))).toInt64.toUInt64 &&& Int64.toUInt64 63)).toInt64).toInt32 &&& (4095 : Int32)) := by
            unfold fX3_packedAt
            rw [z_gd_t hz, hd5, z_gd_t (z_in_nI (show i / 5 < 40 by omega) (by decide)), z_gd_t hz, nI_clamp (show i / 5 < 2 ^ 31 by omega), ← c3 (i / 5) (by omega), show 64 + s + 4 = 68 + s by omega]
          obtain ⟨y, hy, ey⟩ := pk_andE (m := 4095) ((((μ.2 21 (40 * s + i / 5)).toUInt64 >>> (((12 : Int32) * (nI i - nI (i / 5) * (5 : Int32))).toInt64.toUInt64 &&& Int64.toUInt64 63)).toInt64).toInt32) 12 (by decide)
          rw [ey] at hpa
          rw [z_bd hpa, ey, z_ltE, nI_1]
          obtain ⟨r, σ', μ', g1, g2, g3, g4, _⟩ := s_add0 (s := y) h hf hy
          rw [z_bd g1, z_bd g2]
          dsimp only
          rcases g4 with ⟨g5, g6⟩ | ⟨g5, g6⟩
          · rw [if_pos g5, if_neg g6, z_ltE, Int32.add_zero]
            exact ih (i + 1) n v σ' μ' (by omega) (by omega) g3
          · rw [if_neg g5, if_pos g6, z_ltE]
            exact ih (i + 1) n (v + 1) σ' μ' (by omega) (by omega) g3
        · rw [if_neg (nI_nlt (by omega) (by omega)), if_neg (nI_nlt (by omega) (by omega))]
          exact ⟨_, _, _, rfl, rfl, pP0_P h⟩
    exact key N 0 z_F 0 _ _ (by omega) (by show _ < 5000; omega) (pP0_of h)
  · rw [if_neg e1, if_pos e2, z_bd e3, if_neg (show ¬ (-11 : Int32) = 0 by decide)]
    exact ⟨_, _, _, rfl, rfl, h⟩
  · rw [if_neg e1, if_neg e2, z_bd e3, if_neg (show ¬ (-13 : Int32) = 0 by decide)]
    exact ⟨_, _, _, rfl, rfl, h⟩
