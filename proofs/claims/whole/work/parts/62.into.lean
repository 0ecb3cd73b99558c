/-! pure: into -/
/-- the sets of a table, numbered in order -/
theorem t_seq (T : Nat → Bool) : ∃ sk : Nat → Nat, ∀ k, k < fb_ct T 4096 → sk k < 4096 ∧ T (sk k) = true ∧ fb_ct T (sk k) = k := by
  have h : ∀ k, ∃ s, k < fb_ct T 4096 → s < 4096 ∧ T s = true ∧ fb_ct T s = k := fun k => by
    by_cases hk : k < fb_ct T 4096
    · obtain ⟨s, a⟩ := fb_ct_kth hk
      exact ⟨s, fun _ => a⟩
    · exact ⟨0, fun q => absurd q hk⟩
  exact ⟨fun k => Classical.choose (h k), fun k hk => Classical.choose_spec (h k) hk⟩
def f_sq (sk : Nat → Nat) (k : Nat) : List (Nat × Nat) := (List.range k).map (fun j => (sk j, 1))
theorem f_sq_s (sk : Nat → Nat) (k : Nat) : f_sq sk (k + 1) = f_sq sk k ++ [(sk k, 1)] := by
  unfold f_sq
  rw [List.range_succ, List.map_append]
  rfl
theorem f_sq_len (sk : Nat → Nat) (k : Nat) : (f_sq sk k).length = k := by
  unfold f_sq
  rw [List.length_map, List.length_range]
section INTO
variable {T : Nat → Bool} {sk : Nat → Nat} {g : Nat}
theorem f_sq_new (hsk : ∀ k, k < fb_ct T 4096 → sk k < 4096 ∧ T (sk k) = true ∧ fb_ct T (sk k) = k) {k : Nat} (hk : k < fb_ct T 4096) : ∀ x, x ∈ f_sq sk k → x.1 ≠ sk k := by
  intro x hx e
  unfold f_sq at hx
  obtain ⟨j, hj, rfl⟩ := List.mem_map.mp hx
  have hj := List.mem_range.mp hj
  have a := (hsk j (by omega)).2.2
  have e : sk j = sk k := e
  rw [e, (hsk k hk).2.2] at a
  omega
theorem f_sq_wf (hsk : ∀ k, k < fb_ct T 4096 → sk k < 4096 ∧ T (sk k) = true ∧ fb_ct T (sk k) = k) (hc : fb_ct T 4096 ≤ 40) : ∀ k, k ≤ fb_ct T 4096 → h_wf (f_sq sk k)
  | 0, _ => h_wf_nil
  | k + 1, hk => by
    rw [f_sq_s]
    exact h_wf_app (f_sq_wf hsk hc k (by omega)) (by rw [f_sq_len]; omega) (hsk k hk).1 (f_sq_new hsk hk) (by decide) (by decide)
theorem q_into (hsk : ∀ k, k < fb_ct T 4096 → sk k < 4096 ∧ T (sk k) = true ∧ fb_ct T (sk k) = k) (hc : fb_ct T 4096 ≤ 40) (hg : g < 4) (K : zS → Option (Int32 × zS)) : ∀ (d k n : Nat) (w : zS), k + d = fb_ct T 4096 → d < n → h_X w (7 + g) (f_sq sk k) → t_B (w.2 90) T → ∃ w', fX7_into_L62 (nI g) (nI (fb_ct T 4096)) (fun w1 _ => K w1) n w (nI k) = K w' ∧ h_X w' (7 + g) (f_sq sk (fb_ct T 4096)) ∧ h_off (7 + g) w w' := by
  intro d
  induction d with
  | zero =>
    intro k n w h1 h2 h3 h4
    obtain ⟨n, rfl⟩ : ∃ j, n = j + 1 := ⟨n - 1, by omega⟩
    have hk : k = fb_ct T 4096 := by omega
    rw [hk] at h3 ⊢
    exact ⟨w, by rw [fX7_into_L62.eq_2, if_pos (nI_le (Nat.le_refl _) (by omega))], h3, h_off_rf⟩
  | succ d ih =>
    intro k n w h1 h2 h3 h4
    obtain ⟨n, rfl⟩ : ∃ j, n = j + 1 := ⟨n - 1, by omega⟩
    have hk : k < fb_ct T 4096 := by omega
    obtain ⟨a1, a2, a3⟩ := hsk k hk
    have hp := q_pick (q := 88) h4 a1 a2
    rw [a3] at hp
    obtain ⟨τ, b1, b2, b3⟩ := q_append (s := sk k) (t := 1) h3 (by rw [f_sq_len]; omega)
    rw [← f_sq_s] at b2
    obtain ⟨w', c1, c2, c3⟩ := ih (k + 1) n τ (by omega) (by omega) b2 (by rw [b3.2]; exact h4)
    refine ⟨w', ?_, c2, h_off_tr b3 c3⟩
    rw [fX7_into_L62.eq_2, if_neg (z_nle hk (by omega)), z_gd_t (r_f4 hg), z_bd hp, nI_clamp (by omega), n_1, z_bd b1, ← n_1, nI_1]
    exact c1
theorem r_into (hsk : ∀ k, k < fb_ct T 4096 → sk k < 4096 ∧ T (sk k) = true ∧ fb_ct T (sk k) = k) (hc : fb_ct T 4096 ≤ 40) (hg : g < 4) (K : zS → Option (Int32 × zS)) : ∀ (d k n : Nat) (w : zS), k + d = fb_ct T 4096 → d < n → h_M w g (f_sq sk k) → t_ls w T → ∃ w', fX8_into_L43 (nI g) (fun w1 _ => K w1) n w (nI k) = K w' ∧ h_M w' g (f_sq sk (fb_ct T 4096)) ∧ h_mf g w w' := by
  intro d
  induction d with
  | zero =>
    intro k n w h1 h2 h3 h4
    obtain ⟨n, rfl⟩ : ∃ j, n = j + 1 := ⟨n - 1, by omega⟩
    have hk : k = fb_ct T 4096 := by omega
    rw [hk] at h3 ⊢
    exact ⟨w, by rw [fX8_into_L43.eq_2, h4.1, if_pos (nI_le (Nat.le_refl _) (by omega))], h3, h_mf_rf⟩
  | succ d ih =>
    intro k n w h1 h2 h3 h4
    obtain ⟨n, rfl⟩ : ∃ j, n = j + 1 := ⟨n - 1, by omega⟩
    have hk : k < fb_ct T 4096 := by omega
    obtain ⟨a1, a2, a3⟩ := hsk k hk
    have hp := h4.2 _ a1 a2
    rw [a3] at hp
    obtain ⟨ν, b1, b2, b3⟩ := r_tells_new h3 hg (f_sq_wf hsk hc k (by omega)) a1 (f_sq_new hsk hk) (by rw [f_sq_len]; omega)
    rw [← f_sq_s] at b2
    have b4 : t_ls ν T := ⟨by rw [b3.1 0 (by decide) (by decide) (by decide)]; exact h4.1, fun s hs ht => by rw [b3.1 15 (by decide) (by decide) (by decide)]; exact h4.2 s hs ht⟩
    obtain ⟨w', c1, c2, c3⟩ := ih (k + 1) n ν (by omega) (by omega) b2 b4
    refine ⟨w', ?_, c2, h_mf_tr b3 c3⟩
    rw [fX8_into_L43.eq_2, h4.1, if_neg (z_nle hk (by omega)), z_gd_t (z_in_nI (by omega) (by decide)), nI_clamp (by omega), hp, z_bd b1, nI_1]
    exact c1
end INTO
theorem h_mf0 {f : Nat} (μ : zS) : h_mf f μ (z_sI μ 2 f 0) ∧ h_M (z_sI μ 2 f 0) f [] := ⟨⟨fun p hp _ _ => z_rd_n hp, rfl, fun g hg => by rw [z_rd_s, u_n hg], fun j _ => ⟨by rw [z_rd_n (by decide)], by rw [z_rd_n (by decide)]⟩⟩, ⟨by rw [z_rd_s, u_s]; rfl, fun k x hx => by simp at hx⟩⟩
theorem s_into_p : s_into pP := by
  intro σ μ h a1 a2
  unfold fX7_into fX8_into
  rcases n_cases a1 (n := 4) (by decide) with ho | ⟨f, hf, rfl⟩
  · rw [z_bd (q_nf1 ho), z_bd (r_isFamily0 ho), i_f, i_t]
    exact ⟨_, _, _, rfl, rfl, h⟩
  rw [z_bd (q_nf0 hf), z_bd (r_isFamily1 hf), i_t, i_f]
  rcases n_cases a2 (n := 4) (by decide) with ho | ⟨g, hg, rfl⟩
  · rw [z_bd (q_nf1 ho), z_bd (r_isFamily0 ho), i_f, i_t]
    exact ⟨_, _, _, rfl, rfl, h⟩
  rw [z_bd (q_nf0 hg), z_bd (r_isFamily1 hg), i_t, i_f, z_gd_t (r_f4 hf), nI_clamp (show f < 2 ^ 31 by omega), nI_clamp (show g < 2 ^ 31 by omega)]
  obtain ⟨F0, A0, nr0, u1, u2, u3, u4, u5, u6⟩ := p_un h
  obtain ⟨hX, hM, hw⟩ := u2 f hf
  obtain ⟨b, e, k1, k2, k3⟩ := q_dual hX hw
  obtain ⟨ν, m1, m2, m3, m4⟩ := r_dual hf hM hw
  have hP := pP_s h (n_XJJ (g := b) (h := e)) m4
  generalize t_lst true (t_hit ((F0 f).map Prod.fst)) = T at k3 m2
  have hB : t_B ((z_fJ (z_fJ σ 89 b) 90 e).2 90) T := by rw [z_fJ_s]; exact k3
  have hle := fb_ct_le T 4096
  rw [z_bd k1, z_bd m1, z_bd (q_countAll (q := 88) hB), m2.1]
  generalize z_fJ (z_fJ σ 89 b) 90 e = σ1 at hP hB
  by_cases hc : fb_ct T 4096 ≤ 40
  · obtain ⟨sk, hsk⟩ := t_seq T
    obtain ⟨F, A, nr, h1, h2, h3, h4, h5, h6⟩ := p_un hP
    obtain ⟨τ0, c1, c2, c3⟩ := q_clear (σ := σ1) (q := 7 + g)
    obtain ⟨τ1, d1, d2, d3⟩ := q_into hsk hc hg (fun w1 => (fX0_forgetAll w1).bind (fun r6 => some (nI (fb_ct T 4096), r6))) (fb_ct T 4096) 0 z_F τ0 (by omega) (by show _ < 5000; omega) c2 (by rw [c3.2]; exact hB)
    obtain ⟨hm, hm2⟩ := h_mf0 (f := g) ν
    have ht0 : t_ls (z_sI ν 2 g 0) T := ⟨by rw [z_rd_n (by decide)]; exact m2.1, fun s hs ht => by rw [z_rd_n (by decide)]; exact m2.2 s hs ht⟩
    obtain ⟨ν1, e1, e2, e3⟩ := r_into hsk hc hg (fun w2 => z_lt (z_sI w2 0 10 (0 : Int32)) (fun (w3 : zS) => some ((w3.1 0 18), w3))) (fb_ct T 4096) 0 z_F (z_sI ν 2 g 0) (by omega) (by show _ < 5000; omega) hm2 ht0
    have e18 : (z_sI ν1 0 10 0).1 0 18 = nI (fb_ct T 4096) := by rw [z_rd_s, u_n (by decide), e3.1 0 (by decide) (by decide) (by decide)]; exact ht0.1
    have eX : fX7_into_L62 (nI g) (nI (fb_ct T 4096)) (fun (w1 : zS) (x1 : Int32) => (fX0_forgetAll w1).bind (fun r6 => some (nI (fb_ct T 4096), r6))) z_F τ0 (0 : Int32) = some (nI (fb_ct T 4096), z_sI τ1 59 3 0) := by
      rw [z_i0]
      refine Eq.trans d1 ?_
      show (fX0_forgetAll τ1).bind _ = _
      rw [z_bd (o_all τ1)]
      rfl
    have eM : fX8_into_L43 (nI g) (fun (w2 : zS) (x1 : Int32) => z_lt (z_sI w2 0 10 (0 : Int32)) (fun (w3 : zS) => some ((w3.1 0 18), w3))) z_F (z_sI ν 2 g 0) (0 : Int32) = some (nI (fb_ct T 4096), z_sI ν1 0 10 0) := by
      rw [show (nI 0 : Int32) = 0 from rfl] at e1
      refine Eq.trans e1 ?_
      rw [z_ltE, e18]
    rw [n_40, if_pos (nI_le hc (by omega)), if_pos (nI_le hc (by omega)), z_gd_t (r_f4 hg), z_gd_t (r_f4 hg), z_bd c1, eX, z_ltE, eM]
    refine ⟨_, _, _, rfl, rfl, p_mk (F := h_pt F g (f_sq sk (fb_ct T 4096))) (A := []) (nr := nr) (p_rs_c h1 (k_X_tr (h_off_k hg (h_off_tr c3 d3)) (o_ac_k (o_all_o τ1))) (k_M_tr (h_mf_k (h_mf_tr hm e3)) (o_mc_k (o_alm_o _)))) (p_fa_o (p_put hg h2 (h_off_tr c3 d3) (h_mf_tr hm e3) d2 e2 (f_sq_wf hsk hc _ (Nat.le_refl _))) (o_all_o τ1) (o_alm_o _)) (o_all_h τ1) (o_alm_h _) (by decide) trivial⟩
  · rw [n_40, if_neg (z_nle (by omega) (by omega)), if_neg (z_nle (by omega) (by omega))]
    exact ⟨_, _, _, rfl, rfl, hP⟩
