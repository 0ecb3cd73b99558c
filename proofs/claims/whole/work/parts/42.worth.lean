/-! pure: what a rule tells -/
def w_v (μ : zS) (r S : Nat) (v : Int32) : Prop := ∀ d, r < d → fX8_worthOf d μ (nI r) (nI S) = some v
def m_off (σ τ : zS) : Prop := (∀ p i, (35 ≤ p → p < 47 → i ≠ 5 ∧ i ≠ 6) → τ.1 p i = σ.1 p i) ∧ τ.2 = σ.2
def m_ok (μ : zS) (nr : Nat) (σ : zS) : Prop := ∀ r, r < nr → σ.1 (35 + r) 5 = -1 ∨ ∃ S, S < 4096 ∧ σ.1 (35 + r) 5 = nI S ∧ w_v μ r S (σ.1 (35 + r) 6)
theorem m_f {σ τ : zS} {p : Nat} (h : m_off σ τ) (hp : p < 35 ∨ 47 ≤ p) : τ.1 p = σ.1 p := funext (fun i => h.1 p i (fun _ _ => by omega))
def t_c (σ μ : zS) (nr r S : Nat) (v : Int32) : Prop := ∀ τ, m_off σ τ → m_ok μ nr τ → ∀ D t, r < D → t + r < 12 → ∃ τ', fX7_tells D τ (nI r) (nI S) (nI t) = some (v, τ') ∧ m_off σ τ' ∧ m_ok μ nr τ'
theorem t_wrap {σ μ : zS} {nr r S : Nat} {v : Int32} (hn : σ.1 1 2 = nI nr) (hnr : nr ≤ 12) (hr : r < nr) (hS : S < 4096) (hv : w_v μ r S v) (h : ∀ τ, m_off σ τ → m_ok μ nr τ → ∀ D t, r ≤ D → t + r < 12 → ∃ τ', fX7_tellsByParts (fX7_tells D) τ (35 + r) (nI S) (nI t) = some (v, τ') ∧ m_off σ τ' ∧ m_ok μ nr τ') : t_c σ μ nr r S v := by
  intro τ h1 h2 D t hD ht
  obtain ⟨D, rfl⟩ : ∃ j, D = j + 1 := ⟨D - 1, by omega⟩
  have e1 : fX7_isNoRule τ (nI r) = some 0 := by
    unfold fX7_isNoRule
    rw [m_f h1 (by omega), hn, if_neg (nI_pos (by omega)), if_pos (nI_lt hr (by omega))]
  rw [fX7_tells.eq_2, z_bd e1, i_t, n_12, if_pos (nI_lt (by omega) (by decide)), z_gd_t (z_in_nI (by omega) (by decide)), nI_clamp (by omega)]
  by_cases q : τ.1 (35 + r) 5 = nI S
  · rw [if_pos q]
    rcases h2 r hr with e | ⟨S', hS', e, w⟩
    · rw [e] at q
      exact absurd q.symm (n_ne_neg (by omega) (by decide))
    · have : S' = S := (nI_eq (by omega) (by omega)).mp (e.symm.trans q)
      subst this
      have : τ.1 (35 + r) 6 = v := Option.some.inj ((w (r + 1) (by omega)).symm.trans (hv (r + 1) (by omega)))
      rw [this]
      exact ⟨τ, rfl, h1, h2⟩
  · rw [if_neg q]
    obtain ⟨τ', g1, g2, g3⟩ := h τ h1 h2 D t (by omega) ht
    rw [z_bd g1, z_ltE, z_ltE, z_rd_s, u_n (by decide), z_rd_s, u_s]
    refine ⟨_, rfl, ⟨fun p i hp => ?_, g2.2⟩, fun k hk => ?_⟩
    · by_cases e : p = 35 + r
      · have := hp (by omega) (by omega)
        subst e
        rw [z_rd_s, u_n this.1, z_rd_s, u_n this.2]
        exact g2.1 _ i hp
      · rw [z_rd_n e, z_rd_n e]
        exact g2.1 p i hp
    · by_cases e : k = r
      · subst e
        rw [z_rd_s, u_s, u_n (by decide), z_rd_s, u_s]
        exact Or.inr ⟨S, hS, rfl, hv⟩
      · rw [z_rd_n (by omega), z_rd_n (by omega)]
        exact g3 k hk
