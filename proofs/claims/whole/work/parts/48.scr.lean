/-! pure: scratch places -/
def n_X (σ τ : zS) : Prop := (∀ p i, p < 72 → p ≠ 15 → p ≠ 24 → p ≠ 33 → (35 ≤ p → p < 47 → i ≠ 5 ∧ i ≠ 6) → τ.1 p i = σ.1 p i) ∧ (∀ p, p < 72 → τ.2 p = σ.2 p)
def n_M (μ ν : zS) : Prop := (∀ p, (1 ≤ p ∧ p ≤ 12) ∨ 19 ≤ p → ν.1 p = μ.1 p) ∧ (∀ k, k = 4 ∨ k = 10 ∨ k = 33 ∨ k = 38 → ν.1 0 k = μ.1 0 k) ∧ ν.2 21 = μ.2 21
theorem n_X_rf {σ : zS} : n_X σ σ := ⟨fun _ _ _ _ _ _ _ => rfl, fun _ _ => rfl⟩
theorem n_M_rf {μ : zS} : n_M μ μ := ⟨fun _ _ => rfl, fun _ _ => rfl, rfl⟩
theorem n_X_tr {σ τ υ : zS} (a : n_X σ τ) (b : n_X τ υ) : n_X σ υ := ⟨fun p i h1 h2 h3 h4 h5 => (b.1 p i h1 h2 h3 h4 h5).trans (a.1 p i h1 h2 h3 h4 h5), fun p h => (b.2 p h).trans (a.2 p h)⟩
theorem n_M_tr {μ ν ξ : zS} (a : n_M μ ν) (b : n_M ν ξ) : n_M μ ξ := ⟨fun p h => (b.1 p h).trans (a.1 p h), fun k h => (b.2.1 k h).trans (a.2.1 k h), b.2.2.trans a.2.2⟩
theorem n_Xf {σ τ : zS} {p : Nat} (h : n_X σ τ) (h1 : p < 35 ∨ (47 ≤ p ∧ p < 72)) (h2 : p ≠ 15) (h3 : p ≠ 24) (h4 : p ≠ 33) : τ.1 p = σ.1 p := funext (fun i => h.1 p i (by omega) h2 h3 h4 (fun _ _ => by omega))
theorem m_n {σ τ : zS} (h : m_off σ τ) : n_X σ τ := ⟨fun p i _ _ _ _ h5 => h.1 p i h5, fun p _ => by rw [h.2]⟩
theorem n_fam {σ τ : zS} {f : Nat} {F : List (Nat × Nat)} (hf : f < 4) (h : h_X σ (7 + f) F) (g : n_X σ τ) : h_X τ (7 + f) F := h_X_c h (n_Xf g (by omega) (by omega) (by omega) (by omega)) (n_Xf g (by omega) (by omega) (by omega) (by omega)) (n_Xf g (by omega) (by omega) (by omega) (by omega))
theorem n_famM {μ ν : zS} {f : Nat} {F : List (Nat × Nat)} (h : h_M μ f F) (g : n_M μ ν) : h_M ν f F := h_M_c h (g.1 _ (by omega)) (g.1 _ (by omega)) (g.1 _ (by omega))
theorem pP_s {σ μ τ ν : zS} (h : pP σ μ) (a : n_X σ τ) (b : n_M μ ν) : pP τ ν := by
  obtain ⟨F, A, nr, h1, h2, h3, h4, h5, h6⟩ := p_un h
  have hk : k_X σ τ := ⟨fun p i hp hi => a.1 p i (by unfold l_X at hp; omega) (by unfold l_X at hp; omega) (by unfold l_X at hp; omega) (by unfold l_X at hp; omega) (fun x y => by have := hi x y; omega), a.2⟩
  have hm : k_M μ ν := ⟨fun p hp => b.1 p (by omega), fun k hk => b.2.1 k (by omega), b.2.2⟩
  refine p_mk (p_rs_c h1 hk hm) (fun f hf => ⟨n_fam hf (h2 f hf).1 a, n_famM (h2 f hf).2.1 b, (h2 f hf).2.2⟩) ?_ ?_ h5 h6
  · refine ⟨by rw [n_Xf a (by omega) (by omega) (by omega) (by omega)]; exact h3.1, fun k x hx => ?_⟩
    show τ.1 60 k = _ ∧ τ.1 61 k = _ ∧ τ.1 62 k = _
    rw [n_Xf a (by omega) (by omega) (by omega) (by omega), n_Xf a (by omega) (by omega) (by omega) (by omega), n_Xf a (by omega) (by omega) (by omega) (by omega)]
    exact h3.2 k x hx
  · refine ⟨by rw [b.2.1 10 (by omega)]; exact h4.1, fun k x hx => ?_⟩
    show ν.1 10 k = _ ∧ ν.1 11 k = _ ∧ ν.1 12 k = _
    rw [b.1 10 (by omega), b.1 11 (by omega), b.1 12 (by omega)]
    exact h4.2 k x hx
