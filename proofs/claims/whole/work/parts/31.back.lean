/-! pure: image and back -/
theorem r_img (μ : zS) : ∃ ν : zS, fX8_image μ = some (f_sum (ν.1 2) 4, ν) ∧ (∀ p, p ≠ 0 → p < 22 → ν.1 p = μ.1 p) ∧ (∀ k, k ≠ 33 → k ≠ 38 → ν.1 0 k = μ.1 0 k) ∧ ν.1 0 33 = 1 ∧ ν.1 0 38 = μ.1 0 4 ∧ (∀ j, j < 12 → ν.1 22 j = μ.1 1 j) ∧ (∀ j, j < 4 → ν.1 23 j = μ.1 2 j) ∧ (∀ j, j < 160 → ν.1 24 j = μ.1 3 j) ∧ (∀ j, j < 160 → ν.1 25 j = μ.1 4 j) ∧ ν.2 = μ.2 := by
  unfold fX8_image
  rw [z_ltE, z_bd (r_copies (by decide) (by decide)), z_bd (r_copies (by decide) (by decide)), z_bd (r_copies (by decide) (by decide)), z_bd (r_copies (by decide) (by decide)), z_ltE, z_bd r_held]
  refine ⟨_, rfl, ?_, ?_, ?_, ?_, ?_, ?_, ?_, ?_, rfl⟩
  · intro p h0 h1
    rw [z_rd_n h0, z_fI_n (by omega), z_fI_n (by omega), z_fI_n (by omega), z_fI_n (by omega), z_rd_n h0]
  · intro k h1 h2
    rw [z_rd_s, u_n h2, z_fI_n (by decide), z_fI_n (by decide), z_fI_n (by decide), z_fI_n (by decide), z_rd_s, u_n h1]
  · rw [z_rd_s, u_n (by decide), z_fI_n (by decide), z_fI_n (by decide), z_fI_n (by decide), z_fI_n (by decide), z_rd_s, u_s]
  · rw [z_rd_s, u_s, z_fI_n (by decide), z_fI_n (by decide), z_fI_n (by decide), z_fI_n (by decide), z_rd_s, u_n (by decide)]
  · intro j hj
    rw [z_rd_n (by decide), z_fI_n (by decide), z_fI_n (by decide), z_fI_n (by decide), z_fI_s, z_mx_in hj, z_rd_n (by decide)]
  · intro j hj
    rw [z_rd_n (by decide), z_fI_n (by decide), z_fI_n (by decide), z_fI_s, z_mx_in hj, z_fI_n (by decide), z_rd_n (by decide)]
  · intro j hj
    rw [z_rd_n (by decide), z_fI_n (by decide), z_fI_s, z_mx_in hj, z_fI_n (by decide), z_fI_n (by decide), z_rd_n (by decide)]
  · intro j hj
    rw [z_rd_n (by decide), z_fI_s, z_mx_in hj, z_fI_n (by decide), z_fI_n (by decide), z_fI_n (by decide), z_rd_n (by decide)]
theorem r_bck (μ : zS) (h : ¬ μ.1 0 33 = 0) : ∃ ν : zS, fX8_back μ = some (f_sum (ν.1 2) 4, ν) ∧ (∀ p, 5 ≤ p → ν.1 p = μ.1 p) ∧ (∀ k, k ≠ 4 → k ≠ 10 → ν.1 0 k = μ.1 0 k) ∧ ν.1 0 4 = μ.1 0 38 ∧ ν.1 0 10 = 0 ∧ (∀ j, j < 12 → ν.1 1 j = μ.1 22 j) ∧ (∀ j, j < 4 → ν.1 2 j = μ.1 23 j) ∧ (∀ j, j < 160 → ν.1 3 j = μ.1 24 j) ∧ (∀ j, j < 160 → ν.1 4 j = μ.1 25 j) ∧ ν.2 = μ.2 := by
  unfold fX8_back
  rw [if_neg h, z_bd (r_copies (by decide) (by decide)), z_bd (r_copies (by decide) (by decide)), z_bd (r_copies (by decide) (by decide)), z_bd (r_copies (by decide) (by decide)), z_ltE, z_ltE, z_bd r_held]
  refine ⟨_, rfl, ?_, ?_, ?_, ?_, ?_, ?_, ?_, ?_, rfl⟩
  · intro p h0
    rw [z_rd_n (by omega), z_rd_n (by omega), z_fI_n (by omega), z_fI_n (by omega), z_fI_n (by omega), z_fI_n (by omega)]
  · intro k h1 h2
    rw [z_rd_s, u_n h2, z_rd_s, u_n h1, z_fI_n (by decide), z_fI_n (by decide), z_fI_n (by decide), z_fI_n (by decide)]
  · rw [z_rd_s, u_n (by decide), z_rd_s, u_s, z_fI_n (by decide), z_fI_n (by decide), z_fI_n (by decide), z_fI_n (by decide)]
  · rw [z_rd_s, u_s]
  · intro j hj
    rw [z_rd_n (by decide), z_rd_n (by decide), z_fI_n (by decide), z_fI_n (by decide), z_fI_n (by decide), z_fI_s, z_mx_in hj]
  · intro j hj
    rw [z_rd_n (by decide), z_rd_n (by decide), z_fI_n (by decide), z_fI_n (by decide), z_fI_s, z_mx_in hj, z_fI_n (by decide)]
  · intro j hj
    rw [z_rd_n (by decide), z_rd_n (by decide), z_fI_n (by decide), z_fI_s, z_mx_in hj, z_fI_n (by decide), z_fI_n (by decide)]
  · intro j hj
    rw [z_rd_n (by decide), z_rd_n (by decide), z_fI_s, z_mx_in hj, z_fI_n (by decide), z_fI_n (by decide), z_fI_n (by decide)]
theorem s_image_p : s_image pP := by
  intro σ μ h
  obtain ⟨F, A, nr, h1, h2, h3, h4, h5, h6⟩ := p_un h
  obtain ⟨τ, t1, t2, t3, t4, t5, t6⟩ := q_stock (σ := σ) (q0 := 2) (q1 := 1) (by omega) F (fun g hg => (h2 g hg).2.2.1) (fun g hg => (h2 g hg).1)
  obtain ⟨ν, n1, n2, n3, n4, n5, n6, n7, n8, n9, n10⟩ := r_img μ
  unfold fX7_image
  rw [z_bd t1, z_ltE, z_bd q_held, n1]
  have ep : ∀ p, p ≠ 0 → p ≠ 2 → p ≠ 4 → (∀ g, g < 4 → p ≠ 11 + g ∧ p ≠ 20 + g ∧ p ≠ 29 + g) → (z_sI τ 0 2 1).1 p = σ.1 p := fun p p0 p2 p4 pg => by
    rw [z_rd_n p0]
    exact t5 p p2 p4 (fun g hg => ⟨by have := (pg g hg).1; omega, by have := (pg g hg).2.1; omega, by have := (pg g hg).2.2; omega⟩)
  have es : f_sum (fun i => (z_sI τ 0 2 1).1 (7 + i) 2) 4 = f_sum (ν.1 2) 4 := f_sum_c (fun i hi => by
    rw [ep _ (by omega) (by omega) (by omega) (by omega), n2 2 (by decide) (by decide), (h2 i hi).1.1, (h2 i hi).2.1.1])
  rw [es]
  refine ⟨_, _, _, rfl, rfl, p_mk (F := F) (A := A) (nr := nr) ⟨?_, ?_, ?_, ?_⟩ ?_ ?_ ?_ h5 h6⟩
  · exact p_pr_c h1.1 (ep 3 (by omega) (by omega) (by omega) (by omega)) (n2 1 (by omega) (by omega))
  · exact p_ru_c h1.2.1 (by rw [ep 1 (by omega) (by omega) (by omega) (by omega)]) (n3 4 (by decide) (by decide)) (fun r hr => ⟨fun i _ => by rw [ep _ (by omega) (by omega) (by omega) (by omega)], ep _ (by omega) (by omega) (by omega) (by omega)⟩) (fun p _ _ => n2 p (by omega) (by omega))
  · exact p_sh_c h1.2.2.1 (fun s _ => ep _ (by omega) (by omega) (by omega) (by omega)) (fun s _ => by rw [z_rd_2, t6]) ⟨n2 19 (by omega) (by omega), n2 20 (by omega) (by omega)⟩ (by rw [n10])
  · refine ⟨by rw [z_rd_s, u_s, n4], Or.inr ⟨n4, F, nr, fun p hp => ?_, fun f hf => ⟨?_, ⟨?_, fun k x hx => ?_⟩, (h2 f hf).2.2⟩, ?_, ?_, h1.2.1.2.2.1, Nat.le_refl _⟩⟩
    · rw [z_rd_n (by decide), n6 p hp, ← h1.1 p hp]
      exact t2 p hp
    · exact h_X_c (t3 f hf) (z_rd_n (by omega)) (z_rd_n (by omega)) (z_rd_n (by omega))
    · rw [n7 f hf]
      exact (h2 f hf).2.1.1
    · have hk := (h_at hx).1
      have hl := (h2 f hf).2.2.1
      show ν.1 24 (40 * f + k) = _ ∧ ν.1 25 (40 * f + k) = _
      rw [n8 _ (by omega), n9 _ (by omega)]
      exact (h2 f hf).2.1.2 k x hx
    · rw [z_rd_n (by decide), t4]
      exact h1.2.1.1
    · rw [n5]
      exact h1.2.1.2.1
  · exact p_fa_c h2 (fun p _ _ => ⟨ep _ (by omega) (by omega) (by omega) (by omega), ep _ (by omega) (by omega) (by omega) (by omega), ep _ (by omega) (by omega) (by omega) (by omega)⟩) ⟨n2 2 (by omega) (by omega), n2 3 (by omega) (by omega), n2 4 (by omega) (by omega)⟩
  · have e2 : (fun i => (z_sI τ 0 2 1).1 (60 + i)) = (fun i => σ.1 (60 + i)) := funext (fun i => ep _ (by omega) (by omega) (by omega) (by omega))
    rw [e2, ep 59 (by omega) (by omega) (by omega) (by omega)]
    exact h3
  · refine ⟨by rw [n3 10 (by decide) (by decide)]; exact h4.1, fun k x hx => ?_⟩
    show ν.1 10 k = _ ∧ ν.1 11 k = _ ∧ ν.1 12 k = _
    rw [n2 10 (by decide) (by decide), n2 11 (by decide) (by decide), n2 12 (by decide) (by decide)]
    exact h4.2 k x hx
theorem s_back_p : s_back pP := by
  intro σ μ h
  obtain ⟨F, A, nr, h1, h2, h3, h4, h5, h6⟩ := p_un h
  obtain ⟨k1, k2⟩ := h1.2.2.2
  rcases k2 with k2 | ⟨k2, G, kr, c1, c2, c3, c4, c5, c6⟩
  · unfold fX7_back fX8_back
    rw [k1, if_pos k2, if_pos k2]
    exact ⟨_, _, _, rfl, rfl, h⟩
  have hne : ¬ μ.1 0 33 = 0 := by rw [k2]; decide
  obtain ⟨τ, t1, t2, t3, t4, t5, t6⟩ := q_stock (σ := σ) (q0 := 1) (q1 := 2) (by omega) G (fun g hg => (c2 g hg).2.2.1) (fun g hg => (c2 g hg).1)
  obtain ⟨ν, n1, n2, n3, n4, n5, n6, n7, n8, n9, n10⟩ := r_bck μ hne
  unfold fX7_back
  rw [k1, if_neg hne, z_bd t1, z_bd (o_all τ), z_bd q_held, n1]
  have ep : ∀ p, p ≠ 1 → p ≠ 3 → p ≠ 59 → (∀ g, g < 4 → p ≠ 7 + g ∧ p ≠ 16 + g ∧ p ≠ 25 + g) → (z_sI τ 59 3 0).1 p = σ.1 p := fun p p0 p2 p4 pg => by
    rw [z_rd_n p4]
    exact t5 p p0 p2 (fun g hg => ⟨by have := (pg g hg).1; omega, by have := (pg g hg).2.1; omega, by have := (pg g hg).2.2; omega⟩)
  have hX : ∀ g, g < 4 → h_X (z_sI τ 59 3 0) (7 + g) (G g) := fun g hg => h_X_c (t3 g hg) (z_rd_n (by omega)) (z_rd_n (by omega)) (z_rd_n (by omega))
  have hM : ∀ g, g < 4 → h_M ν g (G g) := fun f hf => by
    refine ⟨by rw [n7 f hf]; exact (c2 f hf).2.1.1, fun k x hx => ?_⟩
    have hk := (h_at hx).1
    have hl := (c2 f hf).2.2.1
    show ν.1 3 (40 * f + k) = _ ∧ ν.1 4 (40 * f + k) = _
    rw [n8 _ (by omega), n9 _ (by omega)]
    exact (c2 f hf).2.1.2 k x hx
  have es : f_sum (fun i => (z_sI τ 59 3 0).1 (7 + i) 2) 4 = f_sum (ν.1 2) 4 := f_sum_c (fun i hi => by
    rw [(hX i hi).1, (hM i hi).1])
  rw [es]
  refine ⟨_, _, _, rfl, rfl, p_mk (F := G) (A := []) (nr := kr) ⟨?_, ?_, ?_, ?_⟩ (fun g hg => ⟨hX g hg, hM g hg, (c2 g hg).2.2⟩) (o_all_h τ) ⟨n5, fun k x hx => by simp at hx⟩ (by decide) trivial⟩
  · intro p hp
    rw [z_rd_n (by decide), n6 p hp, ← c1 p hp]
    exact t2 p hp
  · have hr : p_ru (z_sI τ 59 3 0) ν kr := by
      obtain ⟨r1, r2, r3, r4, r5, r6⟩ := h1.2.1
      refine ⟨?_, ?_, c5, by omega, fun r hr => ?_, fun r hr1 hr2 => ?_⟩
      · rw [z_rd_n (by decide), t4]
        exact c3
      · rw [n4]
        exact c4
      · rw [ep _ (by omega) (by omega) (by omega) (by omega)]
        exact r5 r hr
      · exact p_rule_c (r6 r hr1 (by omega)) (fun i _ => by rw [ep _ (by omega) (by omega) (by omega) (by omega)]) (fun p _ => by rw [ep _ (by omega) (by omega) (by omega) (by omega)]) (fun i _ => by rw [n2 _ (by omega)]) (fun p _ => by rw [n2 _ (by omega)])
    exact hr
  · exact p_sh_c h1.2.2.1 (fun s _ => ep _ (by omega) (by omega) (by omega) (by omega)) (fun s _ => by rw [z_rd_2, t6]) ⟨n2 19 (by omega), n2 20 (by omega)⟩ (by rw [n10])
  · have e : p_ke σ μ kr := ⟨k1, Or.inr ⟨k2, G, kr, c1, c2, c3, c4, c5, Nat.le_refl _⟩⟩
    exact p_ke_c e (Nat.le_refl _) (by rw [ep _ (by omega) (by omega) (by omega) (by omega)]) ⟨n3 33 (by decide) (by decide), n3 38 (by decide) (by decide)⟩ (ep _ (by omega) (by omega) (by omega) (by omega)) (by rw [ep _ (by omega) (by omega) (by omega) (by omega)]) (fun p _ _ => ⟨ep _ (by omega) (by omega) (by omega) (by omega), ep _ (by omega) (by omega) (by omega) (by omega), ep _ (by omega) (by omega) (by omega) (by omega)⟩) (fun p _ _ => n2 p (by omega))
