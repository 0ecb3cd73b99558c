/-! pure: worth, sums -/
theorem t_all {σ μ : zS} {nr : Nat} {F : Nat → List (Nat × Nat)} (hp : p_pr σ μ) (hu : p_ru σ μ nr) (hfa : p_fa σ μ F) : ∀ r, r < nr → ∀ S, S < 4096 → ∃ v, w_v μ r S v ∧ t_c σ μ nr r S v := by
  intro r
  induction r using Nat.strongRecOn with
  | _ r ih =>
    intro hr S hS
    by_cases h : r < 4
    · exact t_first h hS hp hu
    · exact t_rule hu hfa (by omega) hr hS (fun j hj S hS => ih j hj (by omega) S hS)
theorem m_rf {σ : zS} : m_off σ σ := ⟨fun _ _ _ => rfl, rfl⟩
theorem m_tr {σ τ υ : zS} (a : m_off σ τ) (b : m_off τ υ) : m_off σ υ := ⟨fun p i h => (b.1 p i h).trans (a.1 p i h), b.2.trans a.2⟩
theorem pP_m {σ τ μ : zS} (h : pP σ μ) (g : m_off σ τ) : pP τ μ := by
  obtain ⟨F, A, nr, h1, h2, h3, h4, h5, h6⟩ := p_un h
  have hk : k_X σ τ := ⟨fun p i _ hi => g.1 p i (fun a b => by have := hi a b; omega), fun p _ => by rw [g.2]⟩
  refine p_mk (p_rs_c h1 hk k_M_rf) (p_fa_c h2 (fun p _ _ => ⟨m_f g (by omega), m_f g (by omega), m_f g (by omega)⟩) ⟨rfl, rfl, rfl⟩) ?_ h4 h5 h6
  have e2 : (fun i => τ.1 (60 + i)) = (fun i => σ.1 (60 + i)) := funext (fun i => m_f g (by omega))
  rw [e2, m_f g (by omega)]
  exact h3
theorem q_clr (K : zS → Option (Int32 × zS)) {σ : zS} : ∀ (d i n : Nat) (τ : zS), i + d = 12 → d < n → m_off σ τ → (∀ q, q < i → τ.1 (35 + q) 5 = -1) → ∃ τ', fX7_tellsNow_L2 (fun w _ => K w) n τ (nI i) = K τ' ∧ m_off σ τ' ∧ (∀ q, q < 12 → τ'.1 (35 + q) 5 = -1) := by
  intro d
  induction d with
  | zero =>
    intro i n τ h1 h2 h3 h4
    obtain ⟨n, rfl⟩ : ∃ j, n = j + 1 := ⟨n - 1, by omega⟩
    have hi : i = 12 := by omega
    subst hi
    exact ⟨τ, by rw [fX7_tellsNow_L2.eq_2, if_pos (show (12 : Int32) ≤ nI 12 by decide)], h3, h4⟩
  | succ d ih =>
    intro i n τ h1 h2 h3 h4
    obtain ⟨n, rfl⟩ : ∃ j, n = j + 1 := ⟨n - 1, by omega⟩
    have hi : i < 12 := by omega
    obtain ⟨τ', k1, k2, k3⟩ := ih (i + 1) n (z_sI τ (35 + i) 5 (-1)) (by omega) (by omega) ⟨fun p j hj => by
      by_cases e : p = 35 + i
      · have := hj (by omega) (by omega)
        subst e
        rw [z_rd_s, u_n this.1]
        exact h3.1 _ j hj
      · rw [z_rd_n e]
        exact h3.1 p j hj, h3.2⟩ (fun q hq => by
      by_cases e : q = i
      · subst e
        rw [z_rd_s, u_s]
      · rw [z_rd_n (by omega)]
        exact h4 q (by omega))
    refine ⟨τ', ?_, k2, k3⟩
    rw [fX7_tellsNow_L2.eq_2, if_neg (show ¬ (12 : Int32) ≤ nI i from z_nle hi (by decide)), z_gd_t (z_in_nI hi (by decide)), z_ltE, nI_clamp (by omega), nI_1]
    exact k1
theorem q_now {σ μ : zS} {nr r S : Nat} (h : pP σ μ) (hn : σ.1 1 2 = nI nr) (hnr : nr ≤ 12) (hr : r < nr) (hS : S < 4096) : ∃ v σ', fX7_tellsNow σ (nI r) (nI S) = some (v, σ') ∧ fX8_worthOf 13 μ (nI r) (nI S) = some v ∧ m_off σ σ' := by
  obtain ⟨F, A, nr', h1, h2, h3, h4, h5, h6⟩ := p_un h
  have : nr' = nr := (nI_eq (by have := h1.2.1.2.2.2.1; omega) (by omega)).mp (h1.2.1.1.symm.trans hn)
  subst this
  obtain ⟨v, w1, w2⟩ := t_all h1.1 h1.2.1 h2 r hr S hS
  obtain ⟨τ, k1, k2, k3⟩ := q_clr (fun w1 => (fX7_tells 14 w1 (nI r) (nI S) (0 : Int32)).bind (fun r1 => some (r1.1, r1.2))) (σ := σ) 12 0 z_F σ (by decide) (by show 12 < 5000; decide) m_rf (fun q hq => absurd hq (Nat.not_lt_zero q))
  obtain ⟨τ', g1, g2, g3⟩ := w2 τ k2 (fun q hq => Or.inl (k3 q (by omega))) 14 0 (by omega) (by omega)
  refine ⟨v, τ', ?_, w1 13 (by omega), g2⟩
  unfold fX7_tellsNow
  refine Eq.trans k1 ?_
  rw [z_i0, z_bd g1]
theorem s_worth_p : s_worth pP := by
  intro σ μ h a1 a2
  obtain ⟨F, A, nr, h1, h2, h3, h4, h5, h6⟩ := p_un h
  obtain ⟨r1, r2, r3, r4, r5, r6⟩ := h1.2.1
  unfold fX7_worth fX8_worth
  rcases s_norule r1 r2 r4 a1 with ⟨r, hr, rfl, e1, e2⟩ | ⟨_, e1, e2⟩
  · rw [z_bd e1, i_t, z_bd e2, i_f]
    rcases n_cases a2 (n := 4096) (by decide) with ho | ⟨S, hS, rfl⟩
    · rw [z_bd (q_st1 ho), i_f, z_bd (r_isSet0 ho), i_t]
      exact ⟨_, _, rfl, rfl, h⟩
    · obtain ⟨v, σ', k1, k2, k3⟩ := q_now h r1 r4 hr hS
      rw [z_bd (q_st0 hS), i_t, z_bd (r_isSet1 hS), i_f, z_bd k1, z_bd k2]
      exact ⟨_, _, rfl, rfl, pP_m h k3⟩
  · rw [z_bd e1, i_f, z_bd e2, i_t]
    exact ⟨_, _, rfl, rfl, h⟩
theorem s_sums_p : s_sums pP := by
  intro σ μ h a1 a2
  obtain ⟨F, A, nr, h1, h2, h3, h4, h5, h6⟩ := p_un h
  obtain ⟨r1, r2, r3, r4, r5, r6⟩ := h1.2.1
  unfold fX7_sums fX8_sums
  rcases n_cases a1 (n := 4) (by decide) with ho | ⟨f, hf, rfl⟩
  · rw [z_bd (q_nf1 ho), z_bd (r_isFamily0 ho), i_f, i_t]
    exact ⟨_, _, rfl, rfl, h⟩
  rw [z_bd (q_nf0 hf), z_bd (r_isFamily1 hf), i_t, i_f]
  rcases s_norule r1 r2 r4 a2 with ⟨r, hr, rfl, e1, e2⟩ | ⟨_, e1, e2⟩
  · rw [z_bd e1, i_t, z_bd e2, i_f, z_gd_t (r_f4 hf), nI_clamp (by omega)]
    obtain ⟨hX, hM, hw⟩ := h2 f hf
    have hl := hw.1
    have key : ∀ (d i n : Nat) (a : Int32) (τ : zS), i + d = (F f).length → d < n → m_off σ τ → ∃ v τ', fX7_sums_L34 (nI r) (7 + f) (fun w1 x1 _ => some (x1, w1)) n τ a (nI i) = some (v, τ') ∧ fX8_sums_L23 μ (nI f) (nI r) (fun x1 _ => some x1) n a (nI i) = some v ∧ m_off σ τ' := by
      intro d
      induction d with
      | zero =>
        intro i n a τ g1 g2 g3
        obtain ⟨n, rfl⟩ : ∃ j, n = j + 1 := ⟨n - 1, by omega⟩
        have hi : i = (F f).length := by omega
        subst hi
        rw [fX7_sums_L34.eq_2, fX8_sums_L23.eq_2, m_f g3 (by omega), hX.1, z_gd_t (r_f4 hf), r_sz hf hM, if_pos (nI_le (Nat.le_refl _) (by omega)), if_pos (nI_le (Nat.le_refl _) (by omega))]
        exact ⟨_, _, rfl, rfl, g3⟩
      | succ d ih =>
        intro i n a τ g1 g2 g3
        obtain ⟨n, rfl⟩ : ∃ j, n = j + 1 := ⟨n - 1, by omega⟩
        have hi : i < (F f).length := by omega
        have hx : (F f)[i]? = some (F f)[i] := List.getElem?_eq_getElem hi
        have hb := (hw.2.1 _ (h_at hx).2).1
        obtain ⟨v, τ', k1, k2, k3⟩ := q_now (pP_m h g3) (by rw [m_f g3 (by omega)]; exact r1) r4 hr hb
        rw [fX7_sums_L34.eq_2, fX8_sums_L23.eq_2, m_f (p := 7 + f) g3 (by omega), hX.1, z_gd_t (r_f4 hf), r_sz hf hM, if_neg (z_nle hi (by omega)), if_neg (z_nle hi (by omega)), z_gd_t (z_in_nI (show i < 40 by omega) (by decide)), z_gd_t (z_in_nI (show i < 40 by omega) (by decide)), nI_clamp (show i < 2 ^ 31 by omega), m_f (p := 7 + f + 9) g3 (by omega), m_f (p := 7 + f + 18) g3 (by omega), (hX.2 i _ hx).1, (hX.2 i _ hx).2, z_bd k1, n_40k, z_gd_t (z_in_nI (show 40 * f + i < 160 by omega) (by decide)), z_bd (r_set_at hM hf hl hx), z_bd k2, z_ltE, z_ltE, nI_clamp (show 40 * f + i < 2 ^ 31 by omega), h_M2 hM hx, nI_1]
        exact ih (i + 1) n _ τ' (by omega) (by omega) (m_tr g3 k3)
    obtain ⟨v, τ', k1, k2, k3⟩ := key (F f).length 0 z_F 0 σ (by omega) (by show _ < 5000; omega) m_rf
    exact ⟨v, τ', k1, k2, pP_m h k3⟩
  · rw [z_bd e1, i_f, z_bd e2, i_t]
    exact ⟨_, _, rfl, rfl, h⟩
