/-! pure: the first four rules -/
theorem t_alone {τ : zS} {q k : Nat} {a t : Int32} {v : Int32} {rc : zS → Int32 → Int32 → Int32 → Option (Int32 × zS)} (hk : 8 < k ∧ k < 13) (hh : τ.1 q 0 = nI k) (h : fX7_tellsAlone τ q a = some v) : fX7_tellsByParts rc τ q a t = some (v, τ) := by
  have ne : ∀ m, m < 9 → ¬ nI k = nI m := fun m hm e => by
    have := (nI_eq (by omega) (by omega)).mp e
    omega
  unfold fX7_tellsByParts
  rw [hh, if_neg (show ¬ nI k = 0 from ne 0 (by decide)), if_neg (show ¬ nI k = 1 from ne 1 (by decide)), if_neg (show ¬ nI k = 2 from ne 2 (by decide)), if_neg (show ¬ nI k = 3 from ne 3 (by decide)), if_neg (show ¬ nI k = 4 from ne 4 (by decide)), if_neg (show ¬ nI k = 5 from ne 5 (by decide)), if_neg (show ¬ nI k = 6 from ne 6 (by decide)), if_neg (show ¬ nI k = 7 from ne 7 (by decide)), if_neg (show ¬ nI k = 8 from ne 8 (by decide)), z_bd h]
theorem t_first {σ μ : zS} {nr r S : Nat} (hr : r < 4) (hS : S < 4096) (hp : p_pr σ μ) (hu : p_ru σ μ nr) : ∃ v, w_v μ r S v ∧ t_c σ μ nr r S v := by
  obtain ⟨r1, r2, r3, r4, r5, r6⟩ := hu
  have n4 : ¬ (4 : Int32) ≤ nI r := z_nle (a := 4) hr (by decide)
  have go : ∀ v, fX8_first μ (nI r) (nI S) = some v → (∀ τ, m_off σ τ → fX7_tellsAlone τ (35 + r) (nI S) = some v) → ∃ v, w_v μ r S v ∧ t_c σ μ nr r S v := by
    intro v h1 h2
    have hv : w_v μ r S v := fun d hd => by
      obtain ⟨d, rfl⟩ : ∃ j, d = j + 1 := ⟨d - 1, by omega⟩
      rw [fX8_worthOf.eq_2, if_neg n4, z_bd h1]
    refine ⟨v, hv, t_wrap r1 r4 (by omega) hS hv (fun τ g1 g2 D t hD ht => ⟨τ, t_alone (k := 9 + r) (by omega) ?_ (h2 τ g1), g1, g2⟩)⟩
    rw [g1.1 _ 0 (fun _ _ => by decide)]
    exact r5 r hr
  have hh : ∀ τ, m_off σ τ → τ.1 (35 + r) 0 = nI (9 + r) := fun τ g => by
    rw [g.1 _ 0 (fun _ _ => by decide)]
    exact r5 r hr
  have al : ∀ τ, m_off σ τ → fX7_tellsAlone τ (35 + r) (nI S) = (if nI (9 + r) = 9 then (fJ6_bitCount_0f7a4 (nI S)).bind (fun r4 => some r4) else (if nI (9 + r) = 10 then (fX7_priceOfAll τ (nI S) 3).bind (fun r5 => some r5) else (if nI (9 + r) = 11 then (fX7_dearest τ (nI S) 3).bind (fun r6 => some r6) else some (nI S)))) := fun τ g => by
    have ne : ∀ m, m < 9 → ¬ nI (9 + r) = nI m := fun m hm e => by
      have := (nI_eq (by omega) (by omega)).mp e
      omega
    unfold fX7_tellsAlone
    rw [hh τ g, if_neg (show ¬ nI (9 + r) = 6 from ne 6 (by decide)), if_neg (show ¬ nI (9 + r) = 7 from ne 7 (by decide)), if_neg (show ¬ nI (9 + r) = 8 from ne 8 (by decide))]
  have hc : r = 0 ∨ r = 1 ∨ r = 2 ∨ r = 3 := by omega
  rcases hc with rfl | rfl | rfl | rfl
  · refine go (nI (f_cn S)) ?_ (fun τ g => ?_)
    · unfold fX8_first
      rw [if_pos (show nI 0 = 0 from rfl), if_pos (show nI 0 = 0 from rfl), z_bd (r_many hS)]
    · rw [al τ g, if_pos (show nI (9 + 0) = 9 from rfl), z_bd (q_cnt hS)]
  · refine go (f_pay S (μ.1 1) 12) ?_ (fun τ g => ?_)
    · unfold fX8_first
      rw [if_neg (show ¬ nI 1 = 0 by decide), if_neg (show ¬ nI 1 = 3 by decide), r_first12 (by omega) (fun x1 x2 => (if nI 1 = (1 : Int32) then some x1 else some x2)), if_pos (show nI 1 = 1 from rfl)]
    · rw [al τ g, if_neg (show ¬ nI (9 + 1) = 9 by decide), if_pos (show nI (9 + 1) = 10 from rfl), z_bd (q_pay (by omega)), m_f g (by omega), f_pay_c hp]
  · refine go (f_dear S (μ.1 1) 12) ?_ (fun τ g => ?_)
    · unfold fX8_first
      rw [if_neg (show ¬ nI 2 = 0 by decide), if_neg (show ¬ nI 2 = 3 by decide), r_first12 (by omega) (fun x1 x2 => (if nI 2 = (1 : Int32) then some x1 else some x2)), if_neg (show ¬ nI 2 = 1 by decide)]
    · rw [al τ g, if_neg (show ¬ nI (9 + 2) = 9 by decide), if_neg (show ¬ nI (9 + 2) = 10 by decide), if_pos (show nI (9 + 2) = 11 from rfl), z_bd (q_dear (by omega)), m_f g (by omega), f_dear_c hp]
  · refine go (nI S) ?_ (fun τ g => ?_)
    · unfold fX8_first
      rw [if_neg (show ¬ nI 3 = 0 by decide), if_pos (show nI 3 = 3 from rfl), if_neg (show ¬ nI 3 = 0 by decide)]
    · rw [al τ g, if_neg (show ¬ nI (9 + 3) = 9 by decide), if_neg (show ¬ nI (9 + 3) = 10 by decide), if_neg (show ¬ nI (9 + 3) = 11 by decide)]
