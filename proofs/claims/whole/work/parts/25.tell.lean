/-! pure: what stays -/
theorem i_f {α : Type} {a b : α} : (if (1 : Int32) = 0 then a else b) = b := if_neg (by decide)
theorem i_t {α : Type} {a b : α} : (if (0 : Int32) = 0 then a else b) = a := if_pos rfl
def l_X (p : Nat) : Prop := (7 ≤ p ∧ p ≤ 10) ∨ (15 ≤ p ∧ p ≤ 19) ∨ (24 ≤ p ∧ p ≤ 28) ∨ p = 33 ∨ (59 ≤ p ∧ p ≤ 62) ∨ 72 ≤ p
def k_X (σ τ : zS) : Prop := (∀ p i, ¬ l_X p → (35 ≤ p → p < 47 → i < 4) → τ.1 p i = σ.1 p i) ∧ (∀ p, p < 72 → τ.2 p = σ.2 p)
def k_M (μ ν : zS) : Prop := (∀ p, p = 1 ∨ (5 ≤ p ∧ p ≤ 9) ∨ 19 ≤ p → ν.1 p = μ.1 p) ∧ (∀ k, k = 4 ∨ k = 33 ∨ k = 38 → ν.1 0 k = μ.1 0 k) ∧ ν.2 21 = μ.2 21
def p_rs (σ μ : zS) (nr : Nat) : Prop := p_pr σ μ ∧ p_ru σ μ nr ∧ p_sh σ μ ∧ p_ke σ μ nr
def h_pt (F : Nat → List (Nat × Nat)) (f : Nat) (G : List (Nat × Nat)) : Nat → List (Nat × Nat) := fun g => if g = f then G else F g
section KEEP
variable {σ τ μ ν : zS} {nr f : Nat} {F : Nat → List (Nat × Nat)} {A : List (Nat × Nat × Int32)}
theorem k_Xf {p : Nat} (h : k_X σ τ) (h1 : ¬ l_X p) (h2 : p < 35 ∨ 47 ≤ p) : τ.1 p = σ.1 p := by
  funext i
  exact h.1 p i h1 (fun _ _ => by omega)
theorem p_rs_c (h : p_rs σ μ nr) (a : k_X σ τ) (b : k_M μ ν) : p_rs τ ν nr := by
  obtain ⟨h1, h2, h3, h4⟩ := h
  refine ⟨p_pr_c h1 (k_Xf a (by unfold l_X; omega) (by omega)) (b.1 1 (by omega)), p_ru_c h2 (by rw [k_Xf a (by unfold l_X; omega) (by omega)]) (b.2.1 4 (by omega)) (fun r hr => ⟨fun i hi => a.1 _ i (by unfold l_X; omega) (fun _ _ => hi), k_Xf a (by unfold l_X; omega) (by omega)⟩) (fun p h1 h2 => b.1 p (by omega)), p_sh_c h3 (fun s hs => k_Xf a (by unfold l_X; omega) (by omega)) (fun s hs => a.2 _ (by omega)) ⟨b.1 19 (by omega), b.1 20 (by omega)⟩ b.2.2, p_ke_c h4 (Nat.le_refl _) (by rw [k_Xf a (by unfold l_X; omega) (by omega)]) ⟨b.2.1 33 (by omega), b.2.1 38 (by omega)⟩ (k_Xf a (by unfold l_X; omega) (by omega)) (by rw [k_Xf a (by unfold l_X; omega) (by omega)]) (fun p h1 h2 => ⟨k_Xf a (by unfold l_X; omega) (by omega), k_Xf a (by unfold l_X; omega) (by omega), k_Xf a (by unfold l_X; omega) (by omega)⟩) (fun p h1 h2 => b.1 p (by omega))⟩
theorem k_X_rf : k_X σ σ := ⟨fun _ _ _ _ => rfl, fun _ _ => rfl⟩
theorem k_M_rf : k_M μ μ := ⟨fun _ _ => rfl, fun _ _ => rfl, rfl⟩
theorem k_X_tr {υ : zS} (a : k_X σ τ) (b : k_X τ υ) : k_X σ υ := ⟨fun p i h1 h2 => (b.1 p i h1 h2).trans (a.1 p i h1 h2), fun p h => (b.2 p h).trans (a.2 p h)⟩
theorem k_M_tr {ξ : zS} (a : k_M μ ν) (b : k_M ν ξ) : k_M μ ξ := ⟨fun p h => (b.1 p h).trans (a.1 p h), fun k h => (b.2.1 k h).trans (a.2.1 k h), b.2.2.trans a.2.2⟩
theorem o_ac_k (h : o_ac σ τ) : k_X σ τ := ⟨fun p i h1 _ => by rw [h.1 p (by unfold l_X at h1; omega)], fun p _ => by rw [h.2]⟩
theorem o_mc_k (h : o_mc μ ν) : k_M μ ν := ⟨fun p h1 => h.1 p (by omega), fun k hk => h.2.1 k (by omega), by rw [h.2.2]⟩
theorem h_off_k (hf : f < 4) (h : h_off (7 + f) σ τ) : k_X σ τ := ⟨fun p i h1 _ => by
  unfold l_X at h1
  rw [h.1 p (by omega) (by omega) (by omega)], fun p _ => by rw [h.2]⟩
theorem h_mf_k (h : h_mf f μ ν) : k_M μ ν := ⟨fun p h1 => h.1 p (by omega) (by omega) (by omega), fun k _ => by rw [h.1 0 (by decide) (by decide) (by decide)], by rw [h.2.1]⟩
theorem p_fa_o (h : p_fa σ μ F) (a : o_ac σ τ) (b : o_mc μ ν) : p_fa τ ν F := p_fa_c h (fun p h1 h2 => ⟨a.1 _ (by omega), a.1 _ (by omega), a.1 _ (by omega)⟩) ⟨b.1 2 (by omega), b.1 3 (by omega), b.1 4 (by omega)⟩
theorem h_ac_off (hf : f < 4) (h : h_ac (σ.1 59 3) (fun i => σ.1 (60 + i)) A) (a : h_off (7 + f) σ τ) : h_ac (τ.1 59 3) (fun i => τ.1 (60 + i)) A := by
  have e : ∀ i, 59 ≤ i → τ.1 i = σ.1 i := fun i hi => a.1 i (by omega) (by omega) (by omega)
  have e2 : (fun i => τ.1 (60 + i)) = (fun i => σ.1 (60 + i)) := funext (fun i => e _ (by omega))
  rw [e2, e 59 (by omega)]
  exact h
theorem h_ac_mf (h : h_ac (μ.1 0 10) (fun i => μ.1 (10 + i)) A) (a : h_mf f μ ν) : h_ac (ν.1 0 10) (fun i => ν.1 (10 + i)) A := by
  have e2 : (fun i => ν.1 (10 + i)) = (fun i => μ.1 (10 + i)) := funext (fun i => a.1 _ (by omega) (by omega) (by omega))
  rw [e2, a.1 0 (by decide) (by decide) (by decide)]
  exact h
theorem p_put {G : List (Nat × Nat)} (hf : f < 4) (h : p_fa σ μ F) (a : h_off (7 + f) σ τ) (b : h_mf f μ ν) (hX : h_X τ (7 + f) G) (hM : h_M ν f G) (hw : h_wf G) : p_fa τ ν (h_pt F f G) := by
  intro g hg
  unfold h_pt
  by_cases e : g = f
  · subst e
    rw [if_pos rfl]
    exact ⟨hX, hM, hw⟩
  · rw [if_neg e]
    obtain ⟨h1, h2, h3⟩ := h g hg
    exact ⟨h_X_c h1 (a.1 _ (by omega) (by omega) (by omega)) (a.1 _ (by omega) (by omega) (by omega)) (a.1 _ (by omega) (by omega) (by omega)), h_mf_M b e h2 h3.1, h3⟩
theorem p_mk (h1 : p_rs σ μ nr) (h2 : p_fa σ μ F) (h3 : h_ac (σ.1 59 3) (fun i => σ.1 (60 + i)) A) (h4 : h_ac (μ.1 0 10) (fun i => μ.1 (10 + i)) A) (h5 : A.length ≤ 20) (h6 : h_hi F A.reverse) : pP σ μ :=
  ⟨F, A, nr, h1.1, h2, h1.2.1, ⟨h3.1, h4.1, h5, fun k x hx => ⟨h3.2 k x hx, h4.2 k x hx⟩, h6⟩, h1.2.2.1, h1.2.2.2⟩
theorem p_un (h : pP σ μ) : ∃ F A nr, p_rs σ μ nr ∧ p_fa σ μ F ∧ h_ac (σ.1 59 3) (fun i => σ.1 (60 + i)) A ∧ h_ac (μ.1 0 10) (fun i => μ.1 (10 + i)) A ∧ A.length ≤ 20 ∧ h_hi F A.reverse := by
  obtain ⟨F, A, nr, h1, h2, h3, h4, h5, h6⟩ := h
  exact ⟨F, A, nr, ⟨h1, h3, h5, h6⟩, h2, ⟨h4.1, fun k x hx => (h4.2.2.2.1 k x hx).1⟩, ⟨h4.2.1, fun k x hx => (h4.2.2.2.1 k x hx).2⟩, h4.2.2.1, h4.2.2.2.2⟩
theorem p_rem {a b : Nat} {c : Int32} (h1 : p_rs σ μ nr) (h2 : p_fa σ μ F) (h3 : h_ac (σ.1 59 3) (fun i => σ.1 (60 + i)) A) (h4 : h_ac (μ.1 0 10) (fun i => μ.1 (10 + i)) A) (h5 : A.length ≤ 20) (h6 : h_hi F (h_push A (a, b, c)).reverse) : ∃ τ ν, fX0_remember σ (nI a) (nI b) c = some τ ∧ fX8_remembers μ (nI a) (nI b) c = some ν ∧ pP τ ν := by
  obtain ⟨τ, a1, a2, a3⟩ := q_remember (a := a) (b := b) (c := c) h3 h5
  obtain ⟨ν, b1, b2, b3⟩ := r_remembers (a := a) (b := b) (c := c) h4 h5
  exact ⟨τ, ν, a1, b1, p_mk (p_rs_c h1 (o_ac_k a3) (o_mc_k b3)) (p_fa_o h2 a3 b3) a2 b2 (h_push_len h5) h6⟩
theorem h_by_told {s : Nat} {G : List (Nat × Nat)} (hf : f < 4) (hs : s < 4096) (hG : ∀ u, h_tl G u = if u = s then h_tl (F f) u + 1 else h_tl (F f) u) : h_by (h_pt F f G) F (1, f, nI s) := by
  refine Or.inr (Or.inl ⟨rfl, hf, s, hs, rfl, fun g u hg => ?_⟩)
  show h_tl (if g = f then G else F g) u = if g = f ∧ u = s then h_tl (F g) u + 1 else h_tl (F g) u
  by_cases e : g = f
  · subst e
    rw [if_pos rfl, hG]
    by_cases hu : u = s
    · rw [if_pos hu, if_pos ⟨rfl, hu⟩]
    · rw [if_neg hu, if_neg (fun q => hu q.2)]
  · rw [if_neg e, if_neg (fun q => e q.1)]
theorem h_by_took {s : Nat} {G : List (Nat × Nat)} (hf : f < 4) (hs : s < 4096) (hG : ∀ u, h_tl (F f) u = if u = s then h_tl G u + 1 else h_tl G u) : h_by (h_pt F f G) F (2, f, nI s) := by
  refine Or.inr (Or.inr ⟨rfl, hf, s, hs, rfl, fun g u hg => ?_⟩)
  show h_tl (F g) u = if g = f ∧ u = s then h_tl (if g = f then G else F g) u + 1 else h_tl (if g = f then G else F g) u
  by_cases e : g = f
  · subst e
    rw [if_pos rfl, hG]
    by_cases hu : u = s
    · rw [if_pos hu, if_pos ⟨rfl, hu⟩]
    · rw [if_neg hu, if_neg (fun q => hu q.2)]
  · rw [if_neg e, if_neg (fun q => e q.1)]
theorem h_tl_le {G : List (Nat × Nat)} {u : Nat} (hw : h_wf G) : h_tl G u ≤ 99 := by
  rcases h_dich G u with h | ⟨k, v, hk⟩
  · rw [h_tl_no h]
    omega
  · rw [h_tl_at hw.2.2 hk]
    exact (hw.2.1 _ (h_at hk).2).2.2
theorem h_tl_pos {G : List (Nat × Nat)} {u : Nat} (hw : h_wf G) (h : 1 ≤ h_tl G u) : ∃ j : Nat, G[j]? = some (u, h_tl G u) := by
  rcases h_dich G u with h1 | ⟨k, v, hk⟩
  · rw [h_tl_no h1] at h
    omega
  · rw [h_tl_at hw.2.2 hk]
    exact ⟨k, hk⟩
end KEEP
theorem s_price_p : s_price pP := by
  intro σ μ h a1 a2
  unfold fX7_price fX8_price
  rcases n_cases a1 (n := 12) (by decide) with ho | ⟨j, hj, rfl⟩
  · rw [z_bd (q_np1 ho), z_bd (r_isPoint0 ho), i_f, i_t]
    exact ⟨_, _, _, rfl, rfl, h⟩
  · rw [z_bd (q_np0 hj), z_bd (r_isPoint1 hj), i_t, i_f]
    rcases n_cases a2 (n := 100) (by decide) with ho | ⟨v, hv, rfl⟩
    · have := n_out_int (by decide) ho
      rw [z_bd (r_in0 (by rw [n_i64]; show ¬ ((0 : Int) ≤ _ ∧ _ ≤ (99 : Int)); omega)), i_t]
      rcases ho with ho | ho
      · rw [if_pos ho]
        exact ⟨_, _, _, rfl, rfl, h⟩
      · rw [if_neg (n_nlt0 (by decide) ho), n_99, if_neg (n_nle (by decide) ho)]
        exact ⟨_, _, _, rfl, rfl, h⟩
    · rw [z_bd (r_in1 (by rw [n_j (by omega)]; show (0 : Int) ≤ _ ∧ _ ≤ (99 : Int); omega)), i_f, if_neg (nI_pos (by omega)), n_99, if_pos (nI_le (by omega) (by decide)), z_gd_t (z_in_nI hj (by decide)), z_gd_t (z_in_nI hj (by decide)), nI_clamp (by omega)]
      simp only [z_ltE]
      rw [z_gd_t (z_in_nI hj (by decide)), z_gd_t (z_in_nI hj (by decide))]
      obtain ⟨F, A, nr, h1, h2, h3, h4, h5, h6⟩ := p_un h
      have e := h1.1 j hj
      have hk : p_rs (z_sI σ 3 j (nI v)) (z_sI μ 1 j (nI v)) nr := by
        refine ⟨fun p hp => ?_, ?_, ?_, ?_⟩
        · rw [z_rd_s, z_rd_s]
          by_cases q : p = j
          · subst q
            rw [u_s, u_s]
          · rw [u_n q, u_n q]
            exact h1.1 p hp
        · exact p_ru_c h1.2.1 (by rw [z_rd_n (by decide)]) (by rw [z_rd_n (by decide)]) (fun r hr => ⟨fun i _ => by rw [z_rd_n (by omega)], by rw [z_rd_n (by omega)]⟩) (fun p _ _ => by rw [z_rd_n (by omega)])
        · exact p_sh_c h1.2.2.1 (fun s _ => by rw [z_rd_n (by omega)]) (fun s _ => rfl) ⟨by rw [z_rd_n (by decide)], by rw [z_rd_n (by decide)]⟩ rfl
        · exact p_ke_c h1.2.2.2 (Nat.le_refl _) (by rw [z_rd_n (by decide)]) ⟨by rw [z_rd_n (by decide)], by rw [z_rd_n (by decide)]⟩ (by rw [z_rd_n (by decide)]) (by rw [z_rd_n (by decide)]) (fun p _ _ => ⟨by rw [z_rd_n (by omega)], by rw [z_rd_n (by omega)], by rw [z_rd_n (by omega)]⟩) (fun p _ _ => by rw [z_rd_n (by omega)])
      have hf : p_fa (z_sI σ 3 j (nI v)) (z_sI μ 1 j (nI v)) F := p_fa_c h2 (fun p _ _ => ⟨by rw [z_rd_n (by omega)], by rw [z_rd_n (by omega)], by rw [z_rd_n (by omega)]⟩) ⟨by rw [z_rd_n (by decide)], by rw [z_rd_n (by decide)], by rw [z_rd_n (by decide)]⟩
      have ha : h_ac ((z_sI σ 3 j (nI v)).1 59 3) (fun i => (z_sI σ 3 j (nI v)).1 (60 + i)) A := by
        have e2 : (fun i => (z_sI σ 3 j (nI v)).1 (60 + i)) = (fun i => σ.1 (60 + i)) := funext (fun i => z_rd_n (by omega))
        rw [e2, z_rd_n (by decide)]
        exact h3
      have hb : h_ac ((z_sI μ 1 j (nI v)).1 0 10) (fun i => (z_sI μ 1 j (nI v)).1 (10 + i)) A := by
        have e2 : (fun i => (z_sI μ 1 j (nI v)).1 (10 + i)) = (fun i => μ.1 (10 + i)) := funext (fun i => z_rd_n (by omega))
        rw [e2, z_rd_n (by decide)]
        exact h4
      rw [e]
      by_cases q : μ.1 1 j = nI v
      · rw [if_pos q, if_pos q]
        refine ⟨_, _, _, rfl, rfl, ?_⟩
        have e1 : z_sI μ 1 j (nI v) = μ := by
          unfold z_sI
          have : upd (μ.1 1) j (nI v) = μ.1 1 := by
            funext p
            by_cases w : p = j
            · subst w
              rw [u_s, q]
            · rw [u_n w]
          rw [this, z_fI_self]
        rw [e1]
        exact h
      · rw [if_neg q, if_neg q]
        obtain ⟨τ, ν, g1, g2, g3⟩ := p_rem (a := 0) (b := j) (c := μ.1 1 j) hk hf ha hb h5 (h_push_hi h6 (Or.inl ⟨rfl, hj, fun _ _ _ => rfl⟩) (fun f hf => (h2 f hf).2.2))
        rw [z_i0, z_bd g1, z_bd g2]
        exact ⟨_, _, _, rfl, rfl, g3⟩
theorem s_priceOf_p : s_priceOf pP := by
  intro σ μ h a1
  unfold fX7_priceOf fX8_priceOf
  rcases n_cases a1 (n := 12) (by decide) with ho | ⟨j, hj, rfl⟩
  · rw [z_bd (q_np1 ho), z_bd (r_isPoint0 ho), i_f, i_t]
    exact ⟨_, rfl, rfl⟩
  · rw [z_bd (q_np0 hj), z_bd (r_isPoint1 hj), i_t, i_f, z_gd_t (z_in_nI hj (by decide)), z_gd_t (z_in_nI hj (by decide)), nI_clamp (by omega)]
    obtain ⟨F, A, nr, h1, h2, h3, h4, h5, h6⟩ := p_un h
    exact ⟨_, rfl, by rw [h1.1 j hj]⟩
