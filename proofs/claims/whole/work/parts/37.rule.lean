/-! pure: rules are made -/
def f_rp (f g : Nat → Int32) (b i : Nat) : Nat → Int32 := fun k => if b ≤ k ∧ k < b + i then g (k - b) else f k
theorem f_rp_s {f g : Nat → Int32} {b i : Nat} : upd (f_rp f g b i) (b + i) (g i) = f_rp f g b (i + 1) := by
  funext k
  unfold upd f_rp
  by_cases hk : k = b + i
  · subst hk
    rw [if_pos rfl, if_pos (by omega), show b + i - b = i by omega]
  · rw [if_neg hk]
    by_cases h2 : b ≤ k ∧ k < b + i
    · rw [if_pos h2, if_pos (by omega)]
    · rw [if_neg h2, if_neg (by omega)]
theorem r_rprice (w : zS) {r : Nat} (hr : r < 12) (h0 : w.1 0 4 = nI r) (K : zS → Option (Int32 × zS)) : fX8_rule_L113 (fun w _ => K w) z_F w (nI 0) = K (z_fI w 9 (f_rp (w.1 9) (w.1 1) (12 * r) 12)) := by
  have h := z_up (fun m (x : zS × Int32) => fX8_rule_L113 (fun w _ => K w) m x.1 x.2) (fun i => (z_fI w 9 (f_rp (w.1 9) (w.1 1) (12 * r) i), nI i)) 12 (K (z_fI w 9 (f_rp (w.1 9) (w.1 1) (12 * r) 12))) ?_ (fun m => ?_) 0 z_F (Nat.zero_le _) (by show 12 < 5000 + 0; decide)
  · have e0 : f_rp (w.1 9) (w.1 1) (12 * r) 0 = w.1 9 := by
      funext k
      exact if_neg (by omega)
    have e1 : z_fI w 9 (f_rp (w.1 9) (w.1 1) (12 * r) 0) = w := by rw [e0, z_fI_self]
    rw [e1] at h
    exact h
  · intro m i hi
    show fX8_rule_L113 _ (m + 1) _ (nI i) = fX8_rule_L113 _ m _ (nI (i + 1))
    rw [fX8_rule_L113.eq_2, n_12, if_neg (z_nle hi (by decide)), z_gd_t (z_in_nI hi (by decide)), z_fI_n (show 0 ≠ 9 by decide), z_fI_n (show 1 ≠ 9 by decide), h0, pk_mul, nI_add, z_gd_t (z_in_nI (by omega) (by decide)), nI_clamp (by omega), nI_clamp (by omega), nI_1, z_ltE, z_sI_fI, f_rp_s]
  · show fX8_rule_L113 _ (m + 1) _ (nI 12) = _
    rw [fX8_rule_L113.eq_2, n_12, if_pos (nI_le (Nat.le_refl _) (by decide))]
theorem s_newrule {σ μ : zS} {a b c d : Int32} (h : pP σ μ) (hr : ∀ nr, σ.1 1 2 = nI nr → nr ≤ 12 → p_rok a b c d nr) : ∃ r σ' μ', (if (σ.1 1 2) < (12 : Int32) then z_gd (z_in (σ.1 1 2) 12) ((fX2_become σ (35 + (σ.1 1 2).toNatClampNeg) a b c d 3).bind (fun r4 => z_lt (z_sI r4 1 2 ((r4.1 1 2) + (1 : Int32))) (fun (w1 : zS) => some (((w1.1 1 2) - (1 : Int32)), w1)))) else some ((-4 : Int32), σ)) = some (r, σ') ∧ (if (μ.1 0 4) = (12 : Int32) then some ((-4 : Int32), μ) else z_gd (z_in (μ.1 0 4) 12) (z_lt (z_sI μ 5 (μ.1 0 4).toNatClampNeg a) (fun (w1 : zS) => z_gd (z_in (w1.1 0 4) 12) (z_lt (z_sI w1 6 (w1.1 0 4).toNatClampNeg b) (fun (w2 : zS) => z_gd (z_in (w2.1 0 4) 12) (z_lt (z_sI w2 7 (w2.1 0 4).toNatClampNeg c) (fun (w3 : zS) => z_gd (z_in (w3.1 0 4) 12) (z_lt (z_sI w3 8 (w3.1 0 4).toNatClampNeg d) (fun (w4 : zS) => fX8_rule_L113 (fun (w5 : zS) (x1 : Int32) => z_lt (z_sI w5 0 4 ((w5.1 0 4) + (1 : Int32))) (fun (w6 : zS) => some (((w6.1 0 4) - (1 : Int32)), w6))) z_F w4 (0 : Int32)))))))))) = some (r, μ') ∧ pP σ' μ' := by
  obtain ⟨F, A, nr, h1, h2, h3, h4, h5, h6⟩ := h
  obtain ⟨r1, r2, r3, r4, r5, r6⟩ := id h3
  have hok := hr nr r1 r4
  rw [r1, r2]
  by_cases e : nr = 12
  · rw [if_neg (by rw [e]; decide), if_pos (by rw [e]; rfl)]
    exact ⟨_, _, _, rfl, rfl, F, A, nr, h1, h2, h3, h4, h5, h6⟩
  have hlt : nr < 12 := by omega
  have g : z_in (nI nr) 12 = true := z_in_nI hlt (by decide)
  have hcl : (nI nr).toNatClampNeg = nr := nI_clamp (by omega)
  rw [n_12, if_pos (nI_lt hlt (by decide)), if_neg (fun q => e ((nI_eq (by omega) (by decide)).mp q)), z_gd_t g, z_gd_t g, hcl]
  have hb : fX2_become σ (35 + nr) a b c d 3 = some (z_fI (z_sI (z_sI (z_sI (z_sI σ (35 + nr) 0 a) (35 + nr) 1 b) (35 + nr) 2 c) (35 + nr) 3 d) (47 + nr) (va_cpy (σ.1 3) (σ.1 (47 + nr)) 0 0 12)) := by
    unfold fX2_become
    rw [z_ltE, z_ltE, z_ltE, z_ltE, z_gd_t (by decide), z_ltE, show 35 + nr + 12 = 47 + nr by omega, z_rd_n (show 3 ≠ 35 + nr by omega), z_rd_n (show 3 ≠ 35 + nr by omega), z_rd_n (show 3 ≠ 35 + nr by omega), z_rd_n (show 3 ≠ 35 + nr by omega), z_rd_n (show 47 + nr ≠ 35 + nr by omega), z_rd_n (show 47 + nr ≠ 35 + nr by omega), z_rd_n (show 47 + nr ≠ 35 + nr by omega), z_rd_n (show 47 + nr ≠ 35 + nr by omega)]
    rfl
  rw [z_bd hb, z_ltE, z_fI_n (show 1 ≠ 47 + nr by omega), z_rd_n (show 1 ≠ 35 + nr by omega), z_rd_n (show 1 ≠ 35 + nr by omega), z_rd_n (show 1 ≠ 35 + nr by omega), z_rd_n (show 1 ≠ 35 + nr by omega), r1, nI_1, z_rd_s, u_s, nI_pred]
  have k1 : (z_sI μ 5 nr a).1 0 4 = nI nr := by rw [z_rd_n (by decide)]; exact r2
  have k2 : (z_sI (z_sI μ 5 nr a) 6 nr b).1 0 4 = nI nr := by rw [z_rd_n (by decide)]; exact k1
  have k3 : (z_sI (z_sI (z_sI μ 5 nr a) 6 nr b) 7 nr c).1 0 4 = nI nr := by rw [z_rd_n (by decide)]; exact k2
  have k4 : (z_sI (z_sI (z_sI (z_sI μ 5 nr a) 6 nr b) 7 nr c) 8 nr d).1 0 4 = nI nr := by rw [z_rd_n (by decide)]; exact k3
  rw [z_ltE, k1, z_gd_t g, hcl, z_ltE, k2, z_gd_t g, hcl, z_ltE, k3, z_gd_t g, hcl, z_ltE, z_i0, r_rprice _ hlt k4, z_ltE, z_fI_n (show 0 ≠ 9 by decide), k4, nI_1, z_rd_s, u_s, nI_pred]
  refine ⟨_, _, _, rfl, rfl, F, A, nr + 1, ?_⟩
  have eX : ∀ p, p ≠ 1 → p ≠ 35 + nr → p ≠ 47 + nr → (z_sI (z_fI (z_sI (z_sI (z_sI (z_sI σ (35 + nr) 0 a) (35 + nr) 1 b) (35 + nr) 2 c) (35 + nr) 3 d) (47 + nr) (va_cpy (σ.1 3) (σ.1 (47 + nr)) 0 0 12)) 1 2 (nI (nr + 1))).1 p = σ.1 p := fun p p1 p2 p3 => by
    rw [z_rd_n p1, z_fI_n p3, z_rd_n p2, z_rd_n p2, z_rd_n p2, z_rd_n p2]
  have eM : ∀ p, p ≠ 0 → (p < 5 ∨ 9 < p) → (z_sI (z_fI (z_sI (z_sI (z_sI (z_sI μ 5 nr a) 6 nr b) 7 nr c) 8 nr d) 9 (f_rp ((z_sI (z_sI (z_sI (z_sI μ 5 nr a) 6 nr b) 7 nr c) 8 nr d).1 9) ((z_sI (z_sI (z_sI (z_sI μ 5 nr a) 6 nr b) 7 nr c) 8 nr d).1 1) (12 * nr) 12)) 0 4 (nI (nr + 1))).1 p = μ.1 p := fun p p0 p1 => by
    rw [z_rd_n p0, z_fI_n (by omega), z_rd_n (by omega), z_rd_n (by omega), z_rd_n (by omega), z_rd_n (by omega)]
  have eM0 : ∀ k, k ≠ 4 → (z_sI (z_fI (z_sI (z_sI (z_sI (z_sI μ 5 nr a) 6 nr b) 7 nr c) 8 nr d) 9 (f_rp ((z_sI (z_sI (z_sI (z_sI μ 5 nr a) 6 nr b) 7 nr c) 8 nr d).1 9) ((z_sI (z_sI (z_sI (z_sI μ 5 nr a) 6 nr b) 7 nr c) 8 nr d).1 1) (12 * nr) 12)) 0 4 (nI (nr + 1))).1 0 k = μ.1 0 k := fun k hk => by
    rw [z_rd_s, u_n hk, z_fI_n (by decide), z_rd_n (by decide), z_rd_n (by decide), z_rd_n (by decide), z_rd_n (by decide)]
  refine ⟨p_pr_c h1 (eX 3 (by omega) (by omega) (by omega)) (eM 1 (by omega) (by omega)), p_fa_c h2 (fun p _ _ => ⟨eX _ (by omega) (by omega) (by omega), eX _ (by omega) (by omega) (by omega), eX _ (by omega) (by omega) (by omega)⟩) ⟨eM 2 (by omega) (by omega), eM 3 (by omega) (by omega), eM 4 (by omega) (by omega)⟩, ?_, p_ac_c h4 (by rw [eX _ (by omega) (by omega) (by omega)]) (eM0 10 (by decide)) (fun p _ _ => eX p (by omega) (by omega) (by omega)) (fun p _ _ => eM p (by omega) (by omega)) h4.2.2.2.2, p_sh_c h5 (fun s _ => eX _ (by omega) (by omega) (by omega)) (fun s _ => rfl) ⟨eM 19 (by omega) (by omega), eM 20 (by omega) (by omega)⟩ rfl, p_ke_c h6 (by omega) (by rw [eX _ (by omega) (by omega) (by omega)]) ⟨eM0 33 (by decide), eM0 38 (by decide)⟩ (eX _ (by omega) (by omega) (by omega)) (by rw [eX _ (by omega) (by omega) (by omega)]) (fun p _ _ => ⟨eX _ (by omega) (by omega) (by omega), eX _ (by omega) (by omega) (by omega), eX _ (by omega) (by omega) (by omega)⟩) (fun p _ _ => eM p (by omega) (by omega))⟩
  refine ⟨by rw [z_rd_s, u_s], by rw [z_rd_s, u_s], by omega, by omega, fun r hr => ?_, fun r hr1 hr2 => ?_⟩
  · rw [eX _ (by omega) (by omega) (by omega)]
    exact r5 r hr
  · by_cases er : r = nr
    · subst er
      refine ⟨fun i hi => ?_, fun p hp => ?_, ?_⟩
      · rw [z_rd_n (by omega), z_fI_n (by omega)]
        have : i = 0 ∨ i = 1 ∨ i = 2 ∨ i = 3 := by omega
        rcases this with rfl | rfl | rfl | rfl
        · rw [z_rd_s, u_n (by decide), z_rd_s, u_n (by decide), z_rd_s, u_n (by decide), z_rd_s, u_s]
          rw [z_rd_n (show 5 + 0 ≠ 0 by decide), z_fI_n (show 5 + 0 ≠ 9 by decide), z_rd_n (show 5 + 0 ≠ 8 by decide), z_rd_n (show 5 + 0 ≠ 7 by decide), z_rd_n (show 5 + 0 ≠ 6 by decide)]
          show _ = (z_sI μ 5 r a).1 5 r
          rw [z_rd_s, u_s]
        · rw [z_rd_s, u_n (by decide), z_rd_s, u_n (by decide), z_rd_s, u_s]
          rw [z_rd_n (show 5 + 1 ≠ 0 by decide), z_fI_n (show 5 + 1 ≠ 9 by decide), z_rd_n (show 5 + 1 ≠ 8 by decide), z_rd_n (show 5 + 1 ≠ 7 by decide)]
          show _ = (z_sI (z_sI μ 5 r a) 6 r b).1 6 r
          rw [z_rd_s, u_s]
        · rw [z_rd_s, u_n (by decide), z_rd_s, u_s]
          rw [z_rd_n (show 5 + 2 ≠ 0 by decide), z_fI_n (show 5 + 2 ≠ 9 by decide), z_rd_n (show 5 + 2 ≠ 8 by decide)]
          show _ = (z_sI (z_sI (z_sI μ 5 r a) 6 r b) 7 r c).1 7 r
          rw [z_rd_s, u_s]
        · rw [z_rd_s, u_s]
          rw [z_rd_n (show 5 + 3 ≠ 0 by decide), z_fI_n (show 5 + 3 ≠ 9 by decide)]
          show _ = (z_sI (z_sI (z_sI (z_sI μ 5 r a) 6 r b) 7 r c) 8 r d).1 8 r
          rw [z_rd_s, u_s]
      · rw [z_rd_n (by omega), z_fI_s, pk_cpy_in (by omega) (by omega), Nat.zero_add, Nat.sub_zero, z_rd_n (by decide), z_fI_s]
        show _ = f_rp _ _ _ _ _
        unfold f_rp
        rw [if_pos (by omega), show 12 * r + p - 12 * r = p by omega, z_rd_n (by decide), z_rd_n (by decide), z_rd_n (by decide), z_rd_n (by decide)]
        exact h1 p hp
      · rw [z_rd_n (show 5 ≠ 0 by decide), z_fI_n (show 5 ≠ 9 by decide), z_rd_n (show 5 ≠ 8 by decide), z_rd_n (show 5 ≠ 7 by decide), z_rd_n (show 5 ≠ 6 by decide), z_rd_s (p := 5), u_s, z_rd_n (show 6 ≠ 0 by decide), z_fI_n (show 6 ≠ 9 by decide), z_rd_n (show 6 ≠ 8 by decide), z_rd_n (show 6 ≠ 7 by decide), z_rd_s (p := 6), u_s, z_rd_n (show 7 ≠ 0 by decide), z_fI_n (show 7 ≠ 9 by decide), z_rd_n (show 7 ≠ 8 by decide), z_rd_s (p := 7), u_s, z_rd_n (show 8 ≠ 0 by decide), z_fI_n (show 8 ≠ 9 by decide), z_rd_s (p := 8), u_s]
        exact hok
    · refine p_rule_c (r6 r hr1 (by omega)) (fun i _ => by rw [eX _ (by omega) (by omega) (by omega)]) (fun p _ => by rw [eX _ (by omega) (by omega) (by omega)]) (fun i hi => ?_) (fun p hp => ?_)
      · rw [z_rd_n (by omega), z_fI_n (by omega)]
        have : i = 0 ∨ i = 1 ∨ i = 2 ∨ i = 3 := by omega
        rcases this with rfl | rfl | rfl | rfl
        · rw [z_rd_n (show 5 + 0 ≠ 8 by decide), z_rd_n (show 5 + 0 ≠ 7 by decide), z_rd_n (show 5 + 0 ≠ 6 by decide)]
          show (z_sI μ 5 nr a).1 5 r = _
          rw [z_rd_s, u_n er]
        · rw [z_rd_n (show 5 + 1 ≠ 8 by decide), z_rd_n (show 5 + 1 ≠ 7 by decide)]
          show (z_sI (z_sI μ 5 nr a) 6 nr b).1 6 r = _
          rw [z_rd_s, u_n er, z_rd_n (by decide)]
        · rw [z_rd_n (show 5 + 2 ≠ 8 by decide)]
          show (z_sI (z_sI (z_sI μ 5 nr a) 6 nr b) 7 nr c).1 7 r = _
          rw [z_rd_s, u_n er, z_rd_n (by decide), z_rd_n (by decide)]
        · show (z_sI (z_sI (z_sI (z_sI μ 5 nr a) 6 nr b) 7 nr c) 8 nr d).1 8 r = _
          rw [z_rd_s, u_n er, z_rd_n (by decide), z_rd_n (by decide), z_rd_n (by decide)]
      · rw [z_rd_n (by decide), z_fI_s]
        show f_rp _ _ _ _ _ = _
        unfold f_rp
        rw [if_neg (by omega), z_rd_n (by decide), z_rd_n (by decide), z_rd_n (by decide), z_rd_n (by decide)]
