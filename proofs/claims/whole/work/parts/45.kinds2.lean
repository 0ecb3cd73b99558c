/-! pure: a rule of others -/
section GO
variable {σ μ : zS} {nr r S : Nat}
theorem t_go1 (hn : σ.1 1 2 = nI nr) (hnr : nr ≤ 12) (hr : r < nr) (hS : S < 4096) (ih : ∀ j, j < r → ∀ S, S < 4096 → ∃ v, w_v μ j S v ∧ t_c σ μ nr j S v) {j S' : Nat} (hj : j < r) (hS' : S' < 4096) (g : Int32 → Int32) (hm : ∀ d, fX8_worthOf (d + 1) μ (nI r) (nI S) = (fX8_worthOf d μ (nI j) (nI S')).bind (fun x => some (g x))) (hx : ∀ τ, m_off σ τ → ∀ rc t, fX7_tellsByParts rc τ (35 + r) (nI S) t = (rc τ (nI j) (nI S') (t + 1)).bind (fun x => some (g x.1, x.2))) : ∃ v, w_v μ r S v ∧ t_c σ μ nr r S v := by
  obtain ⟨v, h1, h2⟩ := ih j hj S' hS'
  have hv : w_v μ r S (g v) := fun d hd => by
    obtain ⟨d, rfl⟩ : ∃ j, d = j + 1 := ⟨d - 1, by omega⟩
    rw [hm, z_bd (h1 d (by omega))]
  refine ⟨g v, hv, t_wrap hn hnr hr hS hv (fun τ g1 g2 D t hD ht => ?_)⟩
  obtain ⟨τ', k1, k2, k3⟩ := h2 τ g1 g2 D (t + 1) (by omega) (by omega)
  exact ⟨τ', by rw [hx τ g1, nI_1, z_bd k1], k2, k3⟩
theorem t_go2 (hn : σ.1 1 2 = nI nr) (hnr : nr ≤ 12) (hr : r < nr) (hS : S < 4096) (ih : ∀ j, j < r → ∀ S, S < 4096 → ∃ v, w_v μ j S v ∧ t_c σ μ nr j S v) {i j : Nat} (hi : i < r) (hj : j < r) (hb : σ.1 (35 + r) 2 = nI j) (g : Int32 → Int32 → Int32) (hm : ∀ d, fX8_worthOf (d + 1) μ (nI r) (nI S) = (fX8_worthOf d μ (nI i) (nI S)).bind (fun x => (fX8_worthOf d μ (nI j) (nI S)).bind (fun y => some (g x y)))) (hx : ∀ τ, m_off σ τ → ∀ rc t, fX7_tellsByParts rc τ (35 + r) (nI S) t = (rc τ (nI i) (nI S) (t + 1)).bind (fun x => (rc x.2 (x.2.1 (35 + r) 2) (nI S) (t + 1)).bind (fun y => some (g x.1 y.1, y.2)))) : ∃ v, w_v μ r S v ∧ t_c σ μ nr r S v := by
  obtain ⟨v, h1, h2⟩ := ih i hi S hS
  obtain ⟨w, h3, h4⟩ := ih j hj S hS
  have hv : w_v μ r S (g v w) := fun d hd => by
    obtain ⟨d, rfl⟩ : ∃ j, d = j + 1 := ⟨d - 1, by omega⟩
    rw [hm, z_bd (h1 d (by omega)), z_bd (h3 d (by omega))]
  refine ⟨g v w, hv, t_wrap hn hnr hr hS hv (fun τ g1 g2 D t hD ht => ?_)⟩
  obtain ⟨τ1, k1, k2, k3⟩ := h2 τ g1 g2 D (t + 1) (by omega) (by omega)
  obtain ⟨τ2, l1, l2, l3⟩ := h4 τ1 k2 k3 D (t + 1) (by omega) (by omega)
  have e : τ1.1 (35 + r) 2 = nI j := (k2.1 _ 2 (fun _ _ => by decide)).trans hb
  refine ⟨τ2, ?_, l2, l3⟩
  rw [hx τ g1, nI_1, z_bd k1]
  dsimp only
  rw [e, z_bd l1]
theorem t_go0 (hn : σ.1 1 2 = nI nr) (hnr : nr ≤ 12) (hr : r < nr) (hS : S < 4096) (v : Int32) (hm : ∀ d, fX8_worthOf (d + 1) μ (nI r) (nI S) = some v) (hx : ∀ τ, m_off σ τ → ∀ rc t, fX7_tellsByParts rc τ (35 + r) (nI S) t = some (v, τ)) : ∃ v, w_v μ r S v ∧ t_c σ μ nr r S v := by
  have hv : w_v μ r S v := fun d hd => by
    obtain ⟨d, rfl⟩ : ∃ j, d = j + 1 := ⟨d - 1, by omega⟩
    exact hm d
  exact ⟨v, hv, t_wrap hn hnr hr hS hv (fun τ g1 g2 D t hD ht => ⟨τ, hx τ g1 _ _, g1, g2⟩)⟩
end GO
