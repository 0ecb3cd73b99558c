/-! pure: tell, take, tally, at, size, wipe -/
theorem s_tell_p : s_tell pP := by
  intro σ μ h a1 a2
  unfold fX7_tell fX8_tell
  rcases n_cases a1 (n := 4) (by decide) with ho | ⟨f, hf, rfl⟩
  · rw [z_bd (q_nf1 ho), z_bd (r_isFamily0 ho), i_f, i_t]
    exact ⟨_, _, _, rfl, rfl, h⟩
  rw [z_bd (q_nf0 hf), z_bd (r_isFamily1 hf), i_t, i_f]
  rcases n_cases a2 (n := 4096) (by decide) with ho | ⟨s, hs, rfl⟩
  · rw [z_bd (q_st1 ho), z_bd (r_isSet0 ho), i_f, i_t]
    exact ⟨_, _, _, rfl, rfl, h⟩
  rw [z_bd (q_st0 hs), z_bd (r_isSet1 hs), i_t, i_f, z_gd_t (r_f4 hf), nI_clamp (by omega)]
  obtain ⟨F, A, nr, h1, h2, h3, h4, h5, h6⟩ := p_un h
  obtain ⟨hX, hM, hw⟩ := h2 f hf
  rcases h_dich (F f) s with hn | ⟨j, t, hj⟩
  · rw [z_bd (q_tally_no hX hw hs hn), z_bd (r_tally_no hM hf hw hs hn), z_gd_t (r_f4 hf)]
    by_cases hl : (F f).length = 40
    · rw [z_bd (q_add_full hX hw hs hn hl), z_bd (r_tells_full hM hf hw hs hn hl)]
      simp only
      rw [if_pos (by decide), if_pos (by decide)]
      exact ⟨_, _, _, rfl, rfl, h⟩
    · have hl' : (F f).length < 40 := by have := hw.1; omega
      obtain ⟨τ, g1, g2, g3⟩ := q_add_new hX hw hs hn hl'
      obtain ⟨ν, k1, k2, k3⟩ := r_tells_new hM hf hw hs hn hl'
      rw [z_bd g1, z_bd k1]
      simp only
      rw [if_neg (by decide), if_neg (by decide), if_neg (by decide), if_neg (by decide)]
      obtain ⟨τ2, ν2, m1, m2, m3⟩ := p_rem (a := 1) (b := f) (c := nI s) (p_rs_c h1 (h_off_k hf g3) (h_mf_k k3)) (p_put hf h2 g3 k3 g2 k2 (h_wf_app hw hl' hs hn (by decide) (by decide))) (h_ac_off hf h3 g3) (h_ac_mf h4 k3) h5 (h_push_hi h6 (h_by_told hf hs (fun u => by
        rw [h_tl_app hw hn]
        by_cases hu : u = s
        · rw [if_pos hu, if_pos hu, hu, h_tl_no hn]
        · rw [if_neg hu, if_neg hu])) (fun f hf => (h2 f hf).2.2))
      rw [n_1, z_bd m1, z_bd m2]
      exact ⟨_, _, _, rfl, rfl, m3⟩
  · have ht := hw.2.1 _ (h_at hj).2
    have ht1 : 1 ≤ t := ht.2.1
    have ht2 : t ≤ 99 := ht.2.2
    obtain ⟨τ, g1, g2, g3⟩ := q_add_at hX hw hs hj
    obtain ⟨ν, k1, k2, k3⟩ := r_tells_at hM hf hw hs hj
    rw [z_bd (q_tally_at hX hw hs hj), z_bd (r_tally_at hM hf hw hs hj), z_gd_t (r_f4 hf), z_bd g1, z_bd k1]
    simp only
    rw [if_neg (n_ne_neg (by omega) (by decide)), if_neg (nI_pos (by omega))]
    have hp := p_put hf h2 g3 k3 g2 k2 (h_wf_set hw hj (by omega) (by omega))
    have hrs := p_rs_c h1 (h_off_k hf g3) (h_mf_k k3)
    by_cases h99 : t = 99
    · rw [if_pos (by rw [h99]; rfl), if_pos (by rw [h99]; rfl)]
      refine ⟨_, _, _, rfl, rfl, p_mk hrs hp (h_ac_off hf h3 g3) (h_ac_mf h4 k3) h5 (h_hi_c (fun g u hg => ?_) h6)⟩
      unfold h_pt
      by_cases e : g = f
      · subst e
        rw [if_pos rfl, h_tl_set hw hj]
        by_cases hu : u = s
        · rw [if_pos hu, hu, h_tl_at hw.2.2 hj, h99]
          rfl
        · rw [if_neg hu]
      · rw [if_neg e]
    · have hne : ¬ nI (min (t + 1) 99) = nI t := fun e => by
        have := (nI_eq (by omega) (by omega)).mp e
        omega
      rw [if_neg hne, if_neg hne]
      obtain ⟨τ2, ν2, m1, m2, m3⟩ := p_rem (a := 1) (b := f) (c := nI s) hrs hp (h_ac_off hf h3 g3) (h_ac_mf h4 k3) h5 (h_push_hi h6 (h_by_told hf hs (fun u => by
        rw [h_tl_set hw hj]
        by_cases hu : u = s
        · rw [if_pos hu, if_pos hu, hu, h_tl_at hw.2.2 hj]
          omega
        · rw [if_neg hu, if_neg hu])) (fun f hf => (h2 f hf).2.2))
      rw [n_1, z_bd m1, z_bd m2]
      exact ⟨_, _, _, rfl, rfl, m3⟩
theorem s_take_p : s_take pP := by
  intro σ μ h a1 a2
  unfold fX7_take fX8_take
  rcases n_cases a1 (n := 4) (by decide) with ho | ⟨f, hf, rfl⟩
  · rw [z_bd (q_nf1 ho), z_bd (r_isFamily0 ho), i_f, i_t]
    exact ⟨_, _, _, rfl, rfl, h⟩
  rw [z_bd (q_nf0 hf), z_bd (r_isFamily1 hf), i_t, i_f]
  rcases n_cases a2 (n := 4096) (by decide) with ho | ⟨s, hs, rfl⟩
  · rw [z_bd (q_st1 ho), z_bd (r_isSet0 ho), i_f, i_t]
    exact ⟨_, _, _, rfl, rfl, h⟩
  rw [z_bd (q_st0 hs), z_bd (r_isSet1 hs), i_t, i_f, z_gd_t (r_f4 hf), nI_clamp (by omega)]
  obtain ⟨F, A, nr, h1, h2, h3, h4, h5, h6⟩ := p_un h
  obtain ⟨hX, hM, hw⟩ := h2 f hf
  rcases h_dich (F f) s with hn | ⟨j, t, hj⟩
  · rw [z_bd (q_drop_no hX hw hs hn), z_bd (r_place_no hM hf hw hs hn), if_pos rfl, if_pos rfl]
    exact ⟨_, _, _, rfl, rfl, h⟩
  · have hjl := h_at hj
    have hl := hw.1
    have ht := hw.2.1 _ hjl.2
    have ht1 : 1 ≤ t := ht.2.1
    have ht2 : t ≤ 99 := ht.2.2
    obtain ⟨τ, g1, g2, g3⟩ := q_drop_at hX hw hs hj
    obtain ⟨τ2, m1, m2, m3⟩ := q_remember (a := 2) (b := f) (c := nI s) (h_ac_off hf h3 g3) h5
    obtain ⟨ν, k1, k2, k3⟩ := r_remembers (a := 2) (b := f) (c := nI s) h4 h5
    have hM2 : h_M ν f (F f) := h_M_c hM (k3.1 2 (by omega)) (k3.1 3 (by omega)) (k3.1 4 (by omega))
    obtain ⟨ν2, n1, n2, n3⟩ := r_takes_at hM2 hf hw hs hj
    rw [z_bd g1, z_bd (r_place_at hM hf hw hs hj), if_neg (n_ne_neg (by omega) (by decide))]
    simp only
    rw [if_neg (n_ne_neg (by omega) (by decide)), show (2 : Int32) = nI 2 from rfl, z_bd m1, z_bd k1, z_bd n1]
    refine ⟨_, _, _, rfl, rfl, p_mk (F := h_pt F f (h_dr (F f) j s t)) (A := h_push A (2, f, nI s)) (nr := nr) (p_rs_c h1 (k_X_tr (h_off_k hf g3) (o_ac_k m3)) (k_M_tr (o_mc_k k3) (h_mf_k n3))) ?_ m2 (h_ac_mf k2 n3) (h_push_len h5) (h_push_hi h6 (h_by_took hf hs (fun u => ?_)) (fun f hf => (h2 f hf).2.2))⟩
    · have hμ : p_fa σ ν F := p_fa_c h2 (fun _ _ _ => ⟨rfl, rfl, rfl⟩) ⟨k3.1 2 (by omega), k3.1 3 (by omega), k3.1 4 (by omega)⟩
      have hp := p_put hf hμ g3 n3 g2 n2 (h_wf_dr hw hj)
      exact p_fa_c hp (fun p _ _ => ⟨m3.1 _ (by omega), m3.1 _ (by omega), m3.1 _ (by omega)⟩) ⟨rfl, rfl, rfl⟩
    · rw [h_tl_dr hw hj]
      by_cases hu : u = s
      · rw [if_pos hu, if_pos hu, hu, h_tl_at hw.2.2 hj]
        omega
      · rw [if_neg hu, if_neg hu]
theorem s_tally_p : s_tally pP := by
  intro σ μ h a1 a2
  unfold fX7_tally fX8_tally
  rcases n_cases a1 (n := 4) (by decide) with ho | ⟨f, hf, rfl⟩
  · rw [z_bd (q_nf1 ho), z_bd (r_isFamily0 ho), i_f, i_t]
    exact ⟨_, rfl, rfl⟩
  rw [z_bd (q_nf0 hf), z_bd (r_isFamily1 hf), i_t, i_f]
  rcases n_cases a2 (n := 4096) (by decide) with ho | ⟨s, hs, rfl⟩
  · rw [z_bd (q_st1 ho), z_bd (r_isSet0 ho), i_f, i_t]
    exact ⟨_, rfl, rfl⟩
  rw [z_bd (q_st0 hs), z_bd (r_isSet1 hs), i_t, i_f, z_gd_t (r_f4 hf), nI_clamp (by omega)]
  obtain ⟨F, A, nr, h1, h2, h3, h4, h5, h6⟩ := p_un h
  obtain ⟨hX, hM, hw⟩ := h2 f hf
  rcases h_dich (F f) s with hn | ⟨j, t, hj⟩
  · rw [z_bd (q_tally_no hX hw hs hn), z_bd (r_tally_no hM hf hw hs hn)]
    exact ⟨_, rfl, rfl⟩
  · rw [z_bd (q_tally_at hX hw hs hj), z_bd (r_tally_at hM hf hw hs hj)]
    exact ⟨_, rfl, rfl⟩
theorem s_size_p : s_size pP := by
  intro σ μ h a1
  unfold fX7_size fX8_size
  rcases n_cases a1 (n := 4) (by decide) with ho | ⟨f, hf, rfl⟩
  · rw [z_bd (q_nf1 ho), z_bd (r_isFamily0 ho), i_f, i_t]
    exact ⟨_, rfl, rfl⟩
  rw [z_bd (q_nf0 hf), z_bd (r_isFamily1 hf), i_t, i_f, z_gd_t (r_f4 hf), z_gd_t (r_f4 hf), nI_clamp (by omega)]
  obtain ⟨F, A, nr, h1, h2, h3, h4, h5, h6⟩ := p_un h
  obtain ⟨hX, hM, hw⟩ := h2 f hf
  exact ⟨_, rfl, by rw [hX.1, hM.1]⟩
theorem s_at_p : s_at pP := by
  intro σ μ h a1 a2
  unfold fX7_at fX8_at
  rcases n_cases a1 (n := 4) (by decide) with ho | ⟨f, hf, rfl⟩
  · rw [z_bd (q_nf1 ho), z_bd (r_isFamily0 ho), i_f, i_t]
    exact ⟨_, rfl, rfl⟩
  rw [z_bd (q_nf0 hf), z_bd (r_isFamily1 hf), i_t, i_f, z_gd_t (r_f4 hf), z_gd_t (r_f4 hf)]
  obtain ⟨F, A, nr, h1, h2, h3, h4, h5, h6⟩ := p_un h
  obtain ⟨hX, hM, hw⟩ := h2 f hf
  have hl := hw.1
  rw [r_sz hf hM, nI_clamp (by omega), hX.1]
  have e1 : (nI (F f).length - 1).toInt64.toInt = (F f).length - 1 := by
    rw [n_i64, n_1, pk_sub_toInt (by omega) (by decide)]
    rfl
  rcases n_cases a2 (n := (F f).length) (by omega) with ho | ⟨k, hk, rfl⟩
  · have := n_out_int (by omega) ho
    rw [z_bd (r_in0 (by rw [n_i64, e1]; show ¬ ((0 : Int) ≤ _ ∧ _); omega)), i_t]
    rcases ho with ho | ho
    · rw [if_pos ho]
      exact ⟨_, rfl, rfl⟩
    · rw [if_neg (n_nlt0 (by omega) ho), if_neg (n_nlt (by omega) ho)]
      exact ⟨_, rfl, rfl⟩
  · have hx : (F f)[k]? = some (F f)[k] := List.getElem?_eq_getElem hk
    rw [z_bd (r_in1 (by rw [n_j (by omega), e1]; show (0 : Int) ≤ _ ∧ _; omega)), i_f, if_neg (nI_pos (by omega)), if_pos (nI_lt hk (by omega)), z_gd_t (z_in_nI (by omega) (by decide)), nI_clamp (by omega), z_bd (r_set_at hM hf hl hx), (hX.2 k _ hx).1]
    exact ⟨_, rfl, rfl⟩
theorem o_all (τ : zS) : fX0_forgetAll τ = some (z_sI τ 59 3 0) := by
  unfold fX0_forgetAll
  rw [z_ltE]
theorem o_all_o (τ : zS) : o_ac τ (z_sI τ 59 3 0) := ⟨fun p hp => z_rd_n (by omega), rfl⟩
theorem o_all_h (τ : zS) : h_ac ((z_sI τ 59 3 0).1 59 3) (fun i => (z_sI τ 59 3 0).1 (60 + i)) [] := ⟨by rw [z_rd_s, u_s]; rfl, fun k x hx => by simp at hx⟩
theorem o_alm_o (ν : zS) : o_mc ν (z_sI ν 0 10 0) := ⟨fun p hp => z_rd_n (by omega), fun k hk => by rw [z_rd_s, u_n hk], rfl⟩
theorem o_alm_h (ν : zS) : h_ac ((z_sI ν 0 10 0).1 0 10) (fun i => (z_sI ν 0 10 0).1 (10 + i)) [] := ⟨by rw [z_rd_s, u_s]; rfl, fun k x hx => by simp at hx⟩
theorem s_wipe_p : s_wipe pP := by
  intro σ μ h a1
  unfold fX7_wipe fX8_wipe
  rcases n_cases a1 (n := 4) (by decide) with ho | ⟨f, hf, rfl⟩
  · rw [z_bd (q_nf1 ho), z_bd (r_isFamily0 ho), i_f, i_t]
    exact ⟨_, _, _, rfl, rfl, h⟩
  rw [z_bd (q_nf0 hf), z_bd (r_isFamily1 hf), i_t, i_f, z_gd_t (r_f4 hf), z_gd_t (r_f4 hf), nI_clamp (by omega)]
  simp only [z_ltE]
  rw [z_gd_t (r_f4 hf), z_gd_t (r_f4 hf)]
  obtain ⟨F, A, nr, h1, h2, h3, h4, h5, h6⟩ := p_un h
  obtain ⟨hX, hM, hw⟩ := h2 f hf
  obtain ⟨τ, g1, g2, g3⟩ := q_clear (σ := σ) (q := 7 + f)
  rw [z_bd g1, z_bd (o_all τ), hX.1, hM.1]
  have hm : h_mf f μ (z_sI μ 2 f 0) := ⟨fun p hp _ _ => z_rd_n hp, rfl, fun g hg => by rw [z_rd_s, u_n hg], fun j _ => ⟨by rw [z_rd_n (by decide)], by rw [z_rd_n (by decide)]⟩⟩
  have hM2 : h_M (z_sI μ 2 f 0) f [] := ⟨by rw [z_rd_s, u_s]; rfl, fun k x hx => by simp at hx⟩
  refine ⟨_, _, _, rfl, rfl, p_mk (F := h_pt F f []) (A := []) (nr := nr) (p_rs_c h1 (k_X_tr (h_off_k hf g3) (o_ac_k (o_all_o τ))) (k_M_tr (h_mf_k hm) (o_mc_k (o_alm_o _)))) (p_fa_o (p_put hf h2 g3 hm g2 hM2 h_wf_nil) (o_all_o τ) (o_alm_o _)) (o_all_h τ) (o_alm_h _) (by decide) trivial⟩
