/-! pure: best -/
theorem s_bestL {σ ν : zS} {T : Nat → Bool} {sk : Nat → Nat} {nr r : Nat} (h : pP σ ν) (hn : σ.1 1 2 = nI nr) (hnr : nr ≤ 12) (hr : r < nr) (hT : t_B (σ.2 90) T) (hL : t_ls ν T) (hsk : ∀ k, k < fb_ct T 4096 → sk k < 4096 ∧ T (sk k) = true ∧ fb_ct T (sk k) = k) : ∀ (d k n m p : Nat) (w : zS) (b l : Int32), k + d = fb_ct T 4096 → d < n → d < m → n_X σ w → w.2 = σ.2 → fb_ct T (p + 1) = k → ∃ w' b' l', (∀ K : zS → Int32 → Int32 → Option (Int32 × zS), fX7_best_L82 (nI r) (fun w1 x2 x3 _ _ => K w1 x2 x3) n w b l (nI p) (nI d) = K w' b' l') ∧ (∀ K : Int32 → Int32 → Option (Int32 × zS), fX8_best_L62 ν (nI r) (fun x2 x3 _ => K x2 x3) m b l (nI k) = K b' l') ∧ n_X σ w' := by
  have hle := fb_ct_le T 4096
  intro d
  induction d with
  | zero =>
    intro k n m p w b l h1 h2 h3 h4 h5 h6
    obtain ⟨n, rfl⟩ : ∃ j, n = j + 1 := ⟨n - 1, by omega⟩
    obtain ⟨m, rfl⟩ : ∃ j, m = j + 1 := ⟨m - 1, by omega⟩
    refine ⟨w, b, l, fun K => by rw [fX7_best_L82.eq_2, if_pos (by decide)], fun K => ?_, h4⟩
    rw [fX8_best_L62.eq_2, hL.1, if_pos (nI_le (by omega) (by omega))]
  | succ d ih =>
    intro k n m p w b l h1 h2 h3 h4 h5 h6
    obtain ⟨n, rfl⟩ : ∃ j, n = j + 1 := ⟨n - 1, by omega⟩
    obtain ⟨m, rfl⟩ : ∃ j, m = j + 1 := ⟨m - 1, by omega⟩
    have hk : k < fb_ct T 4096 := by omega
    obtain ⟨a1, a2, a3⟩ := hsk k hk
    have hp := hL.2 _ a1 a2
    rw [a3] at hp
    have hB : t_B (w.2 90) T := by rw [h5]; exact hT
    have hnx := q_next_k (q := 88) hB a1 a2 (show fb_ct T (p + 1) = fb_ct T (sk k) by omega)
    obtain ⟨v, w1, k1, k2, k3⟩ := q_now (pP_s h h4 n_M_rf) (by rw [n_Xf h4 (by omega) (by omega) (by omega) (by omega)]; exact hn) hnr hr a1
    have c0 : ¬ nI (d + 1) ≤ (0 : Int32) := by
      rw [z_i0]
      exact z_nle (by omega) (by omega)
    have e1 : fb_ct T (sk k + 1) = k + 1 := by
      rw [fb_ct_succ, a2, a3]
      rfl
    by_cases hc : l ≤ v
    · obtain ⟨w', b', l', g1, g2, g3⟩ := ih (k + 1) n m (sk k) w1 b l (by omega) (by omega) (by omega) (n_X_tr h4 (m_n k3)) (k3.2.trans h5) e1
      refine ⟨w', b', l', fun K => ?_, fun K => ?_, g3⟩
      · rw [fX7_best_L82.eq_2, if_neg c0, nI_1, z_bd hnx, z_bd k1]
        dsimp only
        rw [if_pos hc, pk_m1]
        exact g1 K
      · rw [fX8_best_L62.eq_2, hL.1, if_neg (z_nle hk (by omega)), z_gd_t (z_in_nI (by omega) (by decide)), nI_clamp (by omega), hp, z_bd k2, if_pos hc, if_pos hc, nI_1]
        exact g2 K
    · obtain ⟨w', b', l', g1, g2, g3⟩ := ih (k + 1) n m (sk k) w1 (nI (sk k)) v (by omega) (by omega) (by omega) (n_X_tr h4 (m_n k3)) (k3.2.trans h5) e1
      refine ⟨w', b', l', fun K => ?_, fun K => ?_, g3⟩
      · rw [fX7_best_L82.eq_2, if_neg c0, nI_1, z_bd hnx, z_bd k1]
        dsimp only
        rw [if_neg hc, pk_m1]
        exact g1 K
      · rw [fX8_best_L62.eq_2, hL.1, if_neg (z_nle hk (by omega)), z_gd_t (z_in_nI (by omega) (by decide)), nI_clamp (by omega), hp, z_bd k2, if_neg hc, z_gd_t (z_in_nI (by omega) (by decide)), z_ltE, if_neg hc, nI_1]
        exact g2 K
theorem s_best_p : s_best pP := by
  intro σ μ h a1 a2 a3
  obtain ⟨F0, A0, nr, u1, u2, u3, u4, u5, u6⟩ := p_un h
  obtain ⟨r1, r2, r3, r4, r5, r6⟩ := u1.2.1
  unfold fX7_best fX8_best
  rcases n_cases a1 (n := 4) (by decide) with ho | ⟨f, hf, rfl⟩
  · rw [z_bd (q_nf1 ho), z_bd (r_isFamily0 ho), i_f, i_t]
    exact ⟨_, _, _, rfl, rfl, h⟩
  rw [z_bd (q_nf0 hf), z_bd (r_isFamily1 hf), i_t, i_f]
  rcases s_norule r1 r2 r4 a2 with ⟨r, hr, rfl, e1, e2⟩ | ⟨_, e1, e2⟩
  rotate_left
  · rw [z_bd e1, i_f, z_bd e2, i_t]
    exact ⟨_, _, _, rfl, rfl, h⟩
  rw [z_bd e1, i_t, z_bd e2, i_f]
  rcases n_cases a3 (n := 2) (by decide) with ho | ⟨v, hv, rfl⟩
  · have hb := n_out_int (by decide) ho
    rw [z_bd (r_in0 (by rw [n_i64]; show ¬ ((0 : Int) ≤ _ ∧ _ ≤ (1 : Int)); omega)), i_t]
    rcases ho with ho | ho
    · rw [if_pos ho]
      exact ⟨_, _, _, rfl, rfl, h⟩
    · rw [if_neg (n_nlt0 (by decide) ho), if_neg (show ¬ a3 ≤ (1 : Int32) from n_nle (n := 1) (by decide) ho)]
      exact ⟨_, _, _, rfl, rfl, h⟩
  rw [z_bd (r_in1 (by rw [n_j (by omega)]; show (0 : Int) ≤ _ ∧ _ ≤ (1 : Int); omega)), i_f, if_neg (nI_pos (by omega)), if_pos (show nI v ≤ (1 : Int32) from nI_le (show v ≤ 1 by omega) (by decide)), z_gd_t (r_f4 hf), nI_clamp (show f < 2 ^ 31 by omega)]
  obtain ⟨hX, hM, hw⟩ := u2 f hf
  obtain ⟨b, e, k1, k2, k3⟩ := q_dual hX hw
  obtain ⟨ν, m1, m2, m3, m4⟩ := r_dual hf hM hw
  have hP := pP_s h (n_XJJ (g := b) (h := e)) m4
  have hB : t_B ((z_fJ (z_fJ σ 89 b) 90 e).2 (88 + 2)) (t_lst true (t_hit ((F0 f).map Prod.fst))) := by rw [z_fJ_s]; exact k3
  have hn : (z_fJ (z_fJ σ 89 b) 90 e).1 1 2 = nI nr := r1
  rw [z_bd k1, z_bd m1, m2.1]
  generalize z_fJ (z_fJ σ 89 b) 90 e = σ1 at hP hB hn
  generalize t_lst true (t_hit ((F0 f).map Prod.fst)) = T at m2 hB
  have hle := fb_ct_le T 4096
  by_cases hc : fb_ct T 4096 = 0
  · have hz := fb_ct_zero.mp hc
    rw [z_i0, z_bd (q_next_no hB (by decide) (fun u _ hu => hz u hu)), if_pos rfl, hc, if_pos rfl]
    exact ⟨_, _, _, rfl, rfl, hP⟩
  · obtain ⟨sk, hsk⟩ := t_seq T
    obtain ⟨x1, x2, x3⟩ := hsk 0 (by omega)
    have hp := m2.2 _ x1 x2
    rw [x3] at hp
    have hnx : fX5_next σ1 88 0 = some (nI (sk 0)) := q_next_k (s0 := 0) hB x1 x2 (by rw [x3]; rfl)
    obtain ⟨w0, σ2, y1, y2, y3⟩ := q_now hP hn r4 hr x1
    have hB2 : t_B (σ2.2 (88 + 2)) T := by rw [y3.2]; exact hB
    have hP2 : pP σ2 ν := pP_s hP (m_n y3) n_M_rf
    have hn2 : σ2.1 1 2 = nI nr := by rw [n_Xf (m_n y3) (by omega) (by omega) (by omega) (by omega)]; exact hn
    obtain ⟨w', b', l', g1, g2, g3⟩ := s_bestL hP2 hn2 r4 hr hB2 m2 hsk (fb_ct T 4096 - 1) 1 z_F z_F (sk 0) σ2 (nI (sk 0)) w0 (by omega) (by show _ < 5000; omega) (by show _ < 5000; omega) n_X_rf rfl (by rw [fb_ct_succ, x2, x3]; rfl)
    have ec : nI (fb_ct T 4096) - (1 : Int32) = nI (fb_ct T 4096 - 1) := pk_sub (b := 1) (by omega)
    have eX := g1 (fun w1 x2 x3 => if nI v = 0 then some (x2, w1) else some (x3, w1))
    have eM : fX8_best_L62 ν (nI r) (fun (x2 : Int32) (x3 : Int32) (x4 : Int32) => (if nI v = 0 then some (x2, ν) else some (x3, ν))) z_F (nI (sk 0)) w0 (1 : Int32) = (if nI v = 0 then some (b', ν) else some (l', ν)) := g2 (fun x2 x3 => if nI v = 0 then some (x2, ν) else some (x3, ν))
    rw [z_bd hnx, if_neg (n_ne_neg (by omega) (by decide)), z_bd y1]
    dsimp only
    rw [z_bd (q_countAll hB2), z_ltE, ec, eX, if_neg (show ¬ nI (fb_ct T 4096) = 0 from nI_ne0 (by omega) (by omega)), z_gd_t (by decide), z_ltE, show (0 : Int32).toNatClampNeg = 0 from rfl, hp, z_bd y2, eM]
    by_cases e0 : nI v = 0
    · rw [if_pos e0, if_pos e0]
      exact ⟨_, _, _, rfl, rfl, pP_s hP2 g3 n_M_rf⟩
    · rw [if_neg e0, if_neg e0]
      exact ⟨_, _, _, rfl, rfl, pP_s hP2 g3 n_M_rf⟩
