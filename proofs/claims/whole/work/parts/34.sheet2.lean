/-! pure: a sheet is made -/
def f_zr (f : Nat → Int64) (b i : Nat) : Nat → Int64 := fun k => if b ≤ k ∧ k < b + i then 0 else f k
theorem f_zr_s {f : Nat → Int64} {b i : Nat} : vp_updL (f_zr f b i) (b + i) 0 = f_zr f b (i + 1) := by
  funext k
  unfold vp_updL f_zr
  by_cases hk : k = b + i
  · subst hk
    rw [if_pos rfl, if_pos (by omega)]
  · rw [if_neg hk]
    by_cases h2 : b ≤ k ∧ k < b + i
    · rw [if_pos h2, if_pos (by omega)]
    · rw [if_neg h2, if_neg (by omega)]
theorem r_shb (w : zS) {s : Nat} (hs : s < 4) (K : zS → Option (Int32 × zS)) : fX8_sheet_L68 (nI s) (fun w _ => K w) z_F w (nI 0) = K (z_fJ w 21 (f_zr (w.2 21) (40 * s) 40)) := by
  have h := z_up (fun m (x : zS × Int32) => fX8_sheet_L68 (nI s) (fun w _ => K w) m x.1 x.2) (fun i => (z_fJ w 21 (f_zr (w.2 21) (40 * s) i), nI i)) 40 (K (z_fJ w 21 (f_zr (w.2 21) (40 * s) 40))) ?_ (fun m => ?_) 0 z_F (Nat.zero_le _) (by show 40 < 5000 + 0; decide)
  · have e0 : f_zr (w.2 21) (40 * s) 0 = w.2 21 := by
      funext k
      exact if_neg (by omega)
    have e1 : z_fJ w 21 (f_zr (w.2 21) (40 * s) 0) = w := by rw [e0, z_fJ_self]
    rw [e1] at h
    exact h
  · intro m i hi
    show fX8_sheet_L68 (nI s) _ (m + 1) _ (nI i) = fX8_sheet_L68 (nI s) _ m _ (nI (i + 1))
    rw [fX8_sheet_L68.eq_2, n_40, if_neg (z_nle hi (by decide)), ← n_40, n_40k, z_gd_t (z_in_nI (by omega) (by decide)), nI_clamp (by omega), nI_1, z_ltE, z_sJ_fJ, f_zr_s]
  · show fX8_sheet_L68 (nI s) _ (m + 1) _ (nI 40) = _
    rw [fX8_sheet_L68.eq_2, n_40, if_pos (nI_le (Nat.le_refl _) (by decide))]
theorem q_shb (σ : zS) {s : Nat} (a b : Int32) : fX3_become σ (64 + s) a b = some (z_fJ (z_sI (z_sI σ (64 + s) 1 a) (64 + s) 2 b) (68 + s) (z_mx (fun _ => 0) (σ.2 (68 + s)) 40)) := by
  unfold fX3_become
  rw [z_ltE, z_ltE, z_bd (q_fillJ _ _ _ _ (by decide)), show 64 + s + 4 = 68 + s by omega]
  rfl
theorem p_new {σ μ : zS} {s n : Nat} {a : Int32} (h : pP σ μ) (hs : s < 4) (hn : n ≤ 40) (ha : a = -1 ∨ a = 0 ∨ a = 1) : pP (z_fJ (z_sI (z_sI σ (64 + s) 1 a) (64 + s) 2 (nI n)) (68 + s) (z_mx (fun _ => 0) (σ.2 (68 + s)) 40)) (z_fJ (z_sI (z_sI μ 19 s a) 20 s (nI n)) 21 (f_zr ((z_sI (z_sI μ 19 s a) 20 s (nI n)).2 21) (40 * s) 40)) := by
  refine pP_j h (fun p hp => ?_) (fun p h1 h2 => ?_) (fun t ht => ?_)
  · rw [z_fJ_1, z_rd_n (by omega), z_rd_n (by omega)]
  · rw [z_fJ_1, z_rd_n h2, z_rd_n h1]
  obtain ⟨c1, c2, c3, c4, c5⟩ := p_shs h t ht
  rw [z_fJ_1, z_fJ_1, z_fJ_s, z_rd_2, z_rd_2, z_rd_n (show 19 ≠ 20 by decide), z_rd_s (p := 19), z_rd_s (p := 20), z_rd_n (show 20 ≠ 19 by decide)]
  by_cases e : t = s
  · subst e
    rw [u_s, u_s, z_rd_s, z_rd_s, u_n (show 1 ≠ 2 by decide), u_s, u_s]
    refine ⟨rfl, rfl, fun i hi => ?_, ha, n, hn, rfl⟩
    rw [z_fJ_s, z_mx_in hi]
    exact (if_pos (by omega)).symm
  · rw [u_n e, u_n e, z_rd_n (by omega), z_rd_n (by omega)]
    refine ⟨c1, c2, fun i hi => ?_, c4, c5⟩
    rw [z_fJ_n (by omega)]
    show σ.2 (68 + t) i = f_zr _ _ _ _
    rw [c3 i hi]
    exact (if_neg (by omega)).symm
theorem s_sheet_p : s_sheet pP := by
  intro σ μ h a1 a2 a3
  unfold fX7_sheet fX8_sheet
  rcases n_cases a1 (n := 4) (by decide) with ho | ⟨s, hs, rfl⟩
  · rw [z_bd (q_ns1 ho), i_f, z_bd (r_isSheet0 ho), i_t]
    exact ⟨_, _, _, rfl, rfl, h⟩
  rw [z_bd (q_ns0 hs), i_t, z_bd (r_isSheet1 hs), i_f]
  have t1 : (-1 : Int32).toInt = -1 := rfl
  have t2 : (1 : Int32).toInt = 1 := rfl
  by_cases hr : (-1 : Int) ≤ a2.toInt ∧ a2.toInt ≤ 1
  · rw [z_bd (r_in1 (by rw [n_i64]; exact hr)), i_f, if_neg (show ¬ a2 < -1 from fun q => by have := Int32.lt_iff_toInt_lt.mp q; omega), if_pos (show a2 ≤ 1 from Int32.le_iff_toInt_le.mpr (by omega))]
    by_cases e : a2 = -1
    · subst e
      rw [if_pos rfl, if_pos (show (-1 : Int32) < 0 by decide), if_pos (show (-1 : Int32) < 0 by decide), z_gd_t (r_f4 hs), z_gd_t (r_f4 hs), nI_clamp (by omega), z_bd (q_shb σ _ _), z_ltE, z_jnE, if_neg (show ¬ (0 : Int32) ≤ -1 by decide)]
      dsimp only
      rw [z_gd_t (r_f4 hs), z_ltE, z_i0, r_shb _ hs]
      exact ⟨_, _, _, rfl, rfl, p_new h hs (by decide) (Or.inl rfl)⟩
    · have e0 : ¬ a2.toInt = -1 := fun q => e (Int32.toInt_inj.mp (q.trans t1.symm))
      have hn : ¬ a2 < 0 := fun q => by
        have := n_lt0 q
        omega
      have h0 : (0 : Int32) ≤ a2 := Int32.le_iff_toInt_le.mpr (by show (0 : Int) ≤ _; omega)
      rw [if_neg e, if_neg hn, if_neg hn]
      have e01 : a2 = 0 ∨ a2 = 1 := by
        have : a2.toInt = 0 ∨ a2.toInt = 1 := by omega
        rcases this with q | q
        · exact Or.inl (Int32.toInt_inj.mp q)
        · exact Or.inr (Int32.toInt_inj.mp q)
      by_cases h40 : a3 ≤ 40
      · rw [if_pos h40, if_pos h40]
        by_cases h30 : (0 : Int32) ≤ a3
        · rw [if_pos h30, if_pos h30]
          rcases n_cases a3 (n := 41) (by decide) with ho | ⟨n, hn, rfl⟩
          · have := n_out_int (by decide) ho
            have q1 := Int32.le_iff_toInt_le.mp h40
            have q2 := Int32.le_iff_toInt_le.mp h30
            have q3 : (40 : Int32).toInt = 40 := rfl
            have q4 : (0 : Int32).toInt = 0 := rfl
            omega
          · rw [z_gd_t (r_f4 hs), z_gd_t (r_f4 hs), nI_clamp (show s < 2 ^ 31 by omega), z_bd (q_shb σ _ _), z_ltE, z_jnE, if_pos h0]
            dsimp only
            rw [z_gd_t (r_f4 hs), z_ltE, z_i0, r_shb _ hs]
            exact ⟨_, _, _, rfl, rfl, p_new h hs (by omega) (Or.inr e01)⟩
        · rw [if_neg h30, if_neg h30]
          exact ⟨_, _, _, rfl, rfl, h⟩
      · rw [if_neg h40, if_neg h40]
        exact ⟨_, _, _, rfl, rfl, h⟩
  · rw [z_bd (r_in0 (by rw [n_i64]; exact hr)), i_t]
    by_cases q : a2 < -1
    · rw [if_pos q]
      exact ⟨_, _, _, rfl, rfl, h⟩
    · rw [if_neg q, if_neg (fun w => hr ⟨by
        have : ¬ a2.toInt < -1 := fun z => q (Int32.lt_iff_toInt_lt.mpr z)
        omega, Int32.le_iff_toInt_le.mp w⟩)]
      exact ⟨_, _, _, rfl, rfl, h⟩
