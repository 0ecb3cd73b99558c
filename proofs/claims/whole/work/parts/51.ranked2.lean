/-! pure: ranked, the end -/
theorem s_ranked_p : s_ranked pP := by
  intro σ μ h a1 a2 a3
  obtain ⟨F, A, nr, h1, h2, h3, h4, h5, h6⟩ := p_un h
  obtain ⟨r1, r2, r3, r4, r5, r6⟩ := h1.2.1
  unfold fX7_ranked fX8_ranked
  rcases n_cases a1 (n := 4) (by decide) with ho | ⟨f, hf, rfl⟩
  · rw [z_bd (q_nf1 ho), z_bd (r_isFamily0 ho), i_f, i_t]
    exact ⟨_, _, _, rfl, rfl, h⟩
  rw [z_bd (q_nf0 hf), z_bd (r_isFamily1 hf), i_t, i_f]
  rcases s_norule r1 r2 r4 a2 with ⟨r, hr, rfl, e1, e2⟩ | ⟨_, e1, e2⟩
  · obtain ⟨hX, hM, hw⟩ := h2 f hf
    have hl := hw.1
    obtain ⟨τ, ν, k1, k2, k3, k4, k5⟩ := s_worths h r1 r4 hr hf hX hM hw (F f).length 0 z_F σ μ (by omega) (by show _ < 5000; omega) n_X_rf n_M_rf (fun q hq => absurd hq (Nat.not_lt_zero q))
    have hX' := n_fam hf hX k3
    have hM' := n_famM hM k4
    have hP := pP_s h k3 k4
    rw [z_bd e1, i_t, z_bd e2, i_f, z_gd_t (r_f4 hf), nI_clamp (by omega), hX.1, z_i0, k2 (fun w1 => fX8_ranked_L60 w1 (nI f) a3 (fun (x2 : Int32) => some ((-12 : Int32), w1)) z_F (nI 0))]
    have st : ∀ (n i : Nat), i < (F f).length → ¬ nI (f_rk (ν.1 18) i (F f).length) = a3 → fX8_ranked_L60 ν (nI f) a3 (fun (x2 : Int32) => some ((-12 : Int32), ν)) (n + 1) (nI i) = fX8_ranked_L60 ν (nI f) a3 (fun (x2 : Int32) => some ((-12 : Int32), ν)) n (nI (i + 1)) := by
      intro n i hi hne
      rw [fX8_ranked_L60.eq_2, z_gd_t (r_f4 hf), r_sz hf hM', if_neg (z_nle hi (by omega)), r_rank hf hM'.1 (by omega) hl (fun x1 => (if x1 = a3 then (fX8_setOf ν (nI f) (nI i)).bind (fun r1 => some (r1, ν)) else fX8_ranked_L60 ν (nI f) a3 (fun (x2 : Int32) => some ((-12 : Int32), ν)) n (nI i + (1 : Int32)))), if_neg hne, nI_1]
    rcases n_cases a3 (n := (F f).length) (by omega) with ho | ⟨t, ht, rfl⟩
    · have hno : ∀ i, i < (F f).length → ¬ nI (f_rk (ν.1 18) i (F f).length) = a3 := fun i hi e => by
        have a := n_out_int (by omega) ho
        have b := f_rk_lt (w := ν.1 18) hi
        rw [← e, nI_toInt (by omega)] at a
        omega
      have hm : fX8_ranked_L60 ν (nI f) a3 (fun (x2 : Int32) => some ((-12 : Int32), ν)) z_F (nI 0) = some (-12, ν) := z_up (fun n v => fX8_ranked_L60 ν (nI f) a3 (fun (x2 : Int32) => some ((-12 : Int32), ν)) n v) (fun i => nI i) (F f).length (some (-12, ν)) (fun n i hi => st n i hi (hno i hi)) (fun n => by
        show fX8_ranked_L60 ν (nI f) a3 _ (n + 1) (nI (F f).length) = _
        rw [fX8_ranked_L60.eq_2, z_gd_t (r_f4 hf), r_sz hf hM', if_pos (nI_le (Nat.le_refl _) (by omega))]) 0 z_F (Nat.zero_le _) (by show _ < 5000 + 0; omega)
      rw [hm]
      rcases ho with ho | ho
      · rw [← z_i0, if_pos ho]
        exact ⟨_, _, _, rfl, rfl, pP_s h n_X_rf k4⟩
      · rw [← z_i0, if_neg (n_nlt0 (by omega) ho), if_neg (n_nlt (by omega) ho)]
        exact ⟨_, _, _, rfl, rfl, pP_s h n_X_rf k4⟩
    · rw [← z_i0, if_neg (nI_pos (by omega)), if_pos (nI_lt ht (by omega)), z_i0, k1 (fun w1 => fX7_ranked_L87 w1 (nI t) (7 + f) (fun (x2 : Int32) => z_gd (z_in x2 40) (some ((w1.1 ((7 + f) + 9) x2.toNatClampNeg), w1))) z_F (nI 0))]
      obtain ⟨i, hi, ei⟩ := f_rk_on (w := ν.1 18) ht
      have hx : (F f)[i]? = some (F f)[i] := List.getElem?_eq_getElem hi
      have hne : ∀ j, j < i → ¬ nI (f_rk (ν.1 18) j (F f).length) = nI t := fun j hj e => by
        have b := f_rk_lt (w := ν.1 18) (show j < (F f).length by omega)
        have := (nI_eq (by omega) (by omega)).mp e
        have := f_rk_inj (show j < (F f).length by omega) hi (this.trans ei.symm)
        omega
      have hm : fX8_ranked_L60 ν (nI f) (nI t) (fun (x2 : Int32) => some ((-12 : Int32), ν)) z_F (nI 0) = some (nI (F f)[i].1, ν) := z_up (fun n v => fX8_ranked_L60 ν (nI f) (nI t) (fun (x2 : Int32) => some ((-12 : Int32), ν)) n v) (fun i => nI i) i (some (nI (F f)[i].1, ν)) (fun n j hj => st n j (by omega) (hne j hj)) (fun n => by
        show fX8_ranked_L60 ν (nI f) (nI t) _ (n + 1) (nI i) = _
        rw [fX8_ranked_L60.eq_2, z_gd_t (r_f4 hf), r_sz hf hM', if_neg (z_nle hi (by omega)), r_rank hf hM'.1 (by omega) hl (fun x1 => (if x1 = nI t then (fX8_setOf ν (nI f) (nI i)).bind (fun r1 => some (r1, ν)) else fX8_ranked_L60 ν (nI f) (nI t) (fun (x2 : Int32) => some ((-12 : Int32), ν)) n (nI i + (1 : Int32)))), if_pos (by rw [ei]), z_bd (r_set_at hM' hf hl hx)]) 0 z_F (Nat.zero_le _) (by show _ < 5000 + 0; omega)
      have ep : nI (F f).length - 1 = nI ((F f).length - 1) := by
        obtain ⟨m, hm⟩ : ∃ m, (F f).length = m + 1 := ⟨(F f).length - 1, by omega⟩
        rw [hm, nI_pred]
        rfl
      have hK : z_gd (z_in (nI i) 40) (some ((τ.1 ((7 + f) + 9) (nI i).toNatClampNeg), τ)) = some (nI (F f)[i].1, τ) := by
        rw [z_gd_t (z_in_nI (by omega) (by decide)), nI_clamp (by omega), (hX'.2 i _ hx).1]
      have hc : fX7_ranked_L87 τ (nI t) (7 + f) (fun (x2 : Int32) => z_gd (z_in x2 40) (some ((τ.1 ((7 + f) + 9) x2.toNatClampNeg), τ))) z_F (nI 0) = some (nI (F f)[i].1, τ) := z_up (fun n v => fX7_ranked_L87 τ (nI t) (7 + f) (fun (x2 : Int32) => z_gd (z_in x2 40) (some ((τ.1 ((7 + f) + 9) x2.toNatClampNeg), τ))) n v) (fun i => nI i) i (some (nI (F f)[i].1, τ)) (fun n j hj => by
        show fX7_ranked_L87 τ (nI t) (7 + f) _ (n + 1) (nI j) = fX7_ranked_L87 τ (nI t) (7 + f) _ n (nI (j + 1))
        rw [fX7_ranked_L87.eq_2, hX'.1, ep, if_neg (z_nle (show j < (F f).length - 1 by omega) (by omega)), z_bd (q_rank (by omega) hl), f_rk_c k5 (by omega), if_neg (hne j hj), nI_1]) (fun n => by
        show fX7_ranked_L87 τ (nI t) (7 + f) _ (n + 1) (nI i) = _
        rw [fX7_ranked_L87.eq_2, hX'.1, ep]
        by_cases e : i < (F f).length - 1
        · rw [if_neg (z_nle e (by omega)), z_bd (q_rank (by omega) hl), f_rk_c k5 hi, if_pos (by rw [ei]), hK]
        · rw [if_pos (nI_le (by omega) (by omega)), hK]) 0 z_F (Nat.zero_le _) (by show _ < 5000 + 0; omega)
      rw [hc, hm]
      exact ⟨_, _, _, rfl, rfl, hP⟩
  · rw [z_bd e1, i_f, z_bd e2, i_t]
    exact ⟨_, _, _, rfl, rfl, h⟩
