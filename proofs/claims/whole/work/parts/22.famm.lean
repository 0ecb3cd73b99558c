/-! pure: families of the reference -/
/-- nothing but family f has changed -/
def h_mf (f : Nat) (μ ν : zS) : Prop := (∀ p, p ≠ 2 → p ≠ 3 → p ≠ 4 → ν.1 p = μ.1 p) ∧ ν.2 = μ.2 ∧ (∀ g, g ≠ f → ν.1 2 g = μ.1 2 g) ∧ (∀ j, j < 40 * f ∨ 40 * f + 40 ≤ j → ν.1 3 j = μ.1 3 j ∧ ν.1 4 j = μ.1 4 j)
theorem h_mf_rf {f : Nat} {μ : zS} : h_mf f μ μ := ⟨fun _ _ _ _ => rfl, rfl, fun _ _ => rfl, fun _ _ => ⟨rfl, rfl⟩⟩
theorem h_mf_tr {f : Nat} {μ ν ξ : zS} (h1 : h_mf f μ ν) (h2 : h_mf f ν ξ) : h_mf f μ ξ := ⟨fun p a b c => (h2.1 p a b c).trans (h1.1 p a b c), h2.2.1.trans h1.2.1, fun g hg => (h2.2.2.1 g hg).trans (h1.2.2.1 g hg), fun j hj => ⟨(h2.2.2.2 j hj).1.trans (h1.2.2.2 j hj).1, (h2.2.2.2 j hj).2.trans (h1.2.2.2 j hj).2⟩⟩
theorem h_mf_M {f g : Nat} {μ ν : zS} {G : List (Nat × Nat)} (h : h_mf f μ ν) (hg : g ≠ f) (hM : h_M μ g G) (hl : G.length ≤ 40) : h_M ν g G := by
  refine ⟨by rw [h.2.2.1 g hg]; exact hM.1, fun k x hx => ?_⟩
  have hk := (h_at hx).1
  have hj : 40 * g + k < 40 * f ∨ 40 * f + 40 ≤ 40 * g + k := by omega
  show ν.1 3 (40 * g + k) = _ ∧ ν.1 4 (40 * g + k) = _
  rw [(h.2.2.2 _ hj).1, (h.2.2.2 _ hj).2]
  exact hM.2 k x hx
section MFAM
variable {μ : zS} {f s : Nat} {F : List (Nat × Nat)}
theorem h_M1 {k : Nat} {x : Nat × Nat} (hM : h_M μ f F) (hx : F[k]? = some x) : μ.1 3 (40 * f + k) = nI x.1 := (hM.2 k x hx).1
theorem h_M2 {k : Nat} {x : Nat × Nat} (hM : h_M μ f F) (hx : F[k]? = some x) : μ.1 4 (40 * f + k) = nI x.2 := (hM.2 k x hx).2
theorem r_setOf {k : Nat} (hf : f < 4) (hk : k < 40) : fX8_setOf μ (nI f) (nI k) = some (μ.1 3 (40 * f + k)) := by
  unfold fX8_setOf
  rw [n_40k, z_gd_t (z_in_nI (by omega) (by decide)), nI_clamp (by omega)]
theorem r_set_at {k : Nat} {x : Nat × Nat} (hM : h_M μ f F) (hf : f < 4) (hl : F.length ≤ 40) (hx : F[k]? = some x) : fX8_setOf μ (nI f) (nI k) = some (nI x.1) := by
  have hk := (h_at hx).1
  rw [r_setOf hf (by omega), h_M1 hM hx]
theorem r_f4 (hf : f < 4) : z_in (nI f) 4 = true := z_in_nI hf (by decide)
theorem r_sz (hf : f < 4) (hM : h_M μ f F) : μ.1 2 (nI f).toNatClampNeg = nI F.length := by
  rw [nI_clamp (by omega)]
  exact hM.1
theorem r_place_no (hM : h_M μ f F) (hf : f < 4) (hw : h_wf F) (hs : s < 4096) (hn : ∀ x, x ∈ F → x.1 ≠ s) : fX8_placeOf μ (nI f) (nI s) = some (-1) := by
  have hl := hw.1
  unfold fX8_placeOf
  rw [z_i0]
  refine z_findN (fun n v => fX8_placeOf_L2 μ (nI f) (nI s) (fun _ => some (-1)) n v) F (some (-1)) ?_ ?_ z_F (by show _ < 5000; omega)
  · intro n k x hx
    have hk := h_at hx
    have hb := hw.2.1 x hk.2
    show fX8_placeOf_L2 μ (nI f) (nI s) _ (n + 1) (nI k) = fX8_placeOf_L2 μ (nI f) (nI s) _ n (nI (k + 1))
    rw [fX8_placeOf_L2.eq_2, z_gd_t (r_f4 hf), r_sz hf hM, if_neg (z_nle hk.1 (by omega)), z_bd (r_set_at hM hf hl hx), if_neg (fun e => hn x hk.2 ((nI_eq (by omega) (by omega)).mp e)), nI_1]
  · intro n
    show fX8_placeOf_L2 μ (nI f) (nI s) _ (n + 1) (nI F.length) = _
    rw [fX8_placeOf_L2.eq_2, z_gd_t (r_f4 hf), r_sz hf hM, if_pos (nI_le (Nat.le_refl _) (by omega))]
theorem r_place_at (hM : h_M μ f F) (hf : f < 4) (hw : h_wf F) (hs : s < 4096) {j t : Nat} (hj : F[j]? = some (s, t)) : fX8_placeOf μ (nI f) (nI s) = some (nI j) := by
  have hl := hw.1
  have hjl := h_at hj
  unfold fX8_placeOf
  rw [z_i0]
  refine z_findS (fun n v => fX8_placeOf_L2 μ (nI f) (nI s) (fun _ => some (-1)) n v) F j (some (nI j)) hjl.1 ?_ ?_ z_F (by show _ < 5000; omega)
  · intro n k x hx hkj
    have hk := h_at hx
    have hb := hw.2.1 x hk.2
    show fX8_placeOf_L2 μ (nI f) (nI s) _ (n + 1) (nI k) = fX8_placeOf_L2 μ (nI f) (nI s) _ n (nI (k + 1))
    rw [fX8_placeOf_L2.eq_2, z_gd_t (r_f4 hf), r_sz hf hM, if_neg (z_nle hk.1 (by omega)), z_bd (r_set_at hM hf hl hx), if_neg (fun e => by
      have := h_first hw hj hx ((nI_eq (by omega) (by omega)).mp e)
      omega), nI_1]
  · intro n
    show fX8_placeOf_L2 μ (nI f) (nI s) _ (n + 1) (nI j) = _
    rw [fX8_placeOf_L2.eq_2, z_gd_t (r_f4 hf), r_sz hf hM, if_neg (z_nle hjl.1 (by omega)), z_bd (r_set_at hM hf hl hj), if_pos rfl]
theorem r_tally_no (hM : h_M μ f F) (hf : f < 4) (hw : h_wf F) (hs : s < 4096) (hn : ∀ x, x ∈ F → x.1 ≠ s) : fX8_tallyOf μ (nI f) (nI s) = some 0 := by
  unfold fX8_tallyOf
  rw [z_bd (r_place_no hM hf hw hs hn), if_pos rfl]
theorem r_tally_at (hM : h_M μ f F) (hf : f < 4) (hw : h_wf F) (hs : s < 4096) {j t : Nat} (hj : F[j]? = some (s, t)) : fX8_tallyOf μ (nI f) (nI s) = some (nI t) := by
  have hl := hw.1
  have hjl := h_at hj
  unfold fX8_tallyOf
  rw [z_bd (r_place_at hM hf hw hs hj), if_neg (n_ne_neg (by omega) (by decide)), n_40k, z_gd_t (z_in_nI (by omega) (by decide)), nI_clamp (by omega), h_M2 hM hj]
theorem r_mset {j t t' : Nat} (hM : h_M μ f F) (hf : f < 4) (hl : F.length ≤ 40) (hj : F[j]? = some (s, t)) : h_M (z_sI μ 4 (40 * f + j) (nI t')) f (F.set j (s, t')) ∧ h_mf f μ (z_sI μ 4 (40 * f + j) (nI t')) := by
  have hjl := h_at hj
  refine ⟨⟨?_, ?_⟩, ?_, rfl, ?_, ?_⟩
  · rw [z_rd_n (by decide), List.length_set]
    exact hM.1
  · intro k x hx
    show (z_sI μ 4 (40 * f + j) (nI t')).1 3 (40 * f + k) = _ ∧ (z_sI μ 4 (40 * f + j) (nI t')).1 4 (40 * f + k) = _
    rw [z_rd_n (show 3 ≠ 4 by decide), z_rd_s]
    by_cases hk : k = j
    · subst hk
      rw [List.getElem?_set_self hjl.1] at hx
      cases hx
      rw [u_s]
      exact ⟨(hM.2 k _ hj).1, rfl⟩
    · rw [List.getElem?_set_ne (Ne.symm hk)] at hx
      rw [u_n (by omega)]
      exact hM.2 k x hx
  · intro p h1 h2 h3
    rw [z_rd_n h3]
  · intro g hg
    rw [z_rd_n (by decide)]
  · intro z hz
    rw [z_rd_n (show 3 ≠ 4 by decide), z_rd_s, u_n (by omega)]
    exact ⟨rfl, rfl⟩
theorem r_tells_at (hM : h_M μ f F) (hf : f < 4) (hw : h_wf F) (hs : s < 4096) {j t : Nat} (hj : F[j]? = some (s, t)) : ∃ ν, fX8_tells μ (nI f) (nI s) = some (nI (min (t + 1) 99), ν) ∧ h_M ν f (F.set j (s, min (t + 1) 99)) ∧ h_mf f μ ν := by
  have hl := hw.1
  have hjl := h_at hj
  have ht := hw.2.1 _ hjl.2
  refine ⟨z_sI μ 4 (40 * f + j) (nI (min (t + 1) 99)), ?_, r_mset hM hf hl hj⟩
  have g1 : z_in (nI (40 * f + j)) 160 = true := z_in_nI (by omega) (by decide)
  unfold fX8_tells
  rw [z_bd (r_place_at hM hf hw hs hj), if_neg (n_ne_neg (by omega) (by decide)), n_40k, z_gd_t g1, z_gd_t g1, nI_clamp (by omega), show μ.1 4 (40 * f + j) = nI t from (hM.2 j _ hj).2]
  by_cases h : t = 99
  · subst h
    rw [if_pos (by decide), z_gd_t g1]
    simp only [z_lt]
    rw [z_gd_t g1, z_rd_s, u_s]
    rfl
  · rw [n_99, if_neg (z_nle (by omega) (by decide)), z_gd_t g1]
    simp only [z_lt]
    rw [z_gd_t g1, z_rd_s, u_s, nI_1, Nat.min_eq_left (by omega)]
theorem r_tells_full (hM : h_M μ f F) (hf : f < 4) (hw : h_wf F) (hs : s < 4096) (hn : ∀ x, x ∈ F → x.1 ≠ s) (hl : F.length = 40) : fX8_tells μ (nI f) (nI s) = some (-4, μ) := by
  unfold fX8_tells
  rw [z_bd (r_place_no hM hf hw hs hn), if_pos rfl, z_gd_t (r_f4 hf), r_sz hf hM, hl, if_pos n_40.symm]
theorem r_tells_new (hM : h_M μ f F) (hf : f < 4) (hw : h_wf F) (hs : s < 4096) (hn : ∀ x, x ∈ F → x.1 ≠ s) (hl : F.length < 40) : ∃ ν, fX8_tells μ (nI f) (nI s) = some (1, ν) ∧ h_M ν f (F ++ [(s, 1)]) ∧ h_mf f μ ν := by
  have g1 : z_in (nI (40 * f + F.length)) 160 = true := z_in_nI (by omega) (by decide)
  have e1 : (z_sI (z_sI μ 3 (40 * f + F.length) (nI s)) 4 (40 * f + F.length) 0).1 2 f = nI F.length := by
    rw [z_rd_n (by decide), z_rd_n (by decide)]
    exact hM.1
  have e2 : (z_sI (z_sI (z_sI μ 3 (40 * f + F.length) (nI s)) 4 (40 * f + F.length) 0) 2 f (nI (F.length + 1))).1 4 (40 * f + F.length) = 0 := by
    rw [z_rd_n (by decide), z_rd_s, u_s]
  refine ⟨z_sI (z_sI (z_sI (z_sI μ 3 (40 * f + F.length) (nI s)) 4 (40 * f + F.length) 0) 2 f (nI (F.length + 1))) 4 (40 * f + F.length) (nI 1), ?_, ⟨?_, ?_⟩, ?_, rfl, ?_, ?_⟩
  · unfold fX8_tells
    rw [z_bd (r_place_no hM hf hw hs hn), if_pos rfl, z_gd_t (r_f4 hf), r_sz hf hM, n_40, if_neg (fun e => by
      have := (nI_eq (by omega) (by decide)).mp e
      omega), z_gd_t (r_f4 hf)]
    simp only [z_lt]
    rw [← n_40, n_40k, z_gd_t g1, z_gd_t g1, z_gd_t (r_f4 hf), z_gd_t (r_f4 hf), z_gd_t g1, z_gd_t g1, nI_clamp (by omega), nI_clamp (by omega), e1, nI_1, e2, if_neg (by decide), z_gd_t g1, z_gd_t g1, z_rd_s, u_s]
    rfl
  · rw [z_rd_n (by decide), z_rd_s, u_s, List.length_append]
    rfl
  · intro k x hx
    show (z_sI (z_sI (z_sI (z_sI μ 3 (40 * f + F.length) (nI s)) 4 (40 * f + F.length) 0) 2 f (nI (F.length + 1))) 4 (40 * f + F.length) (nI 1)).1 3 (40 * f + k) = _ ∧ (z_sI (z_sI (z_sI (z_sI μ 3 (40 * f + F.length) (nI s)) 4 (40 * f + F.length) 0) 2 f (nI (F.length + 1))) 4 (40 * f + F.length) (nI 1)).1 4 (40 * f + k) = _
    rw [z_rd_n (show 3 ≠ 4 by decide), z_rd_n (show 3 ≠ 2 by decide), z_rd_n (show 3 ≠ 4 by decide), z_rd_s, z_rd_s, z_rd_n (show 4 ≠ 2 by decide), z_rd_s, z_rd_n (show 4 ≠ 3 by decide)]
    by_cases hk : k < F.length
    · rw [List.getElem?_append_left hk] at hx
      rw [u_n (by omega), u_n (by omega), u_n (by omega)]
      exact hM.2 k x hx
    · rw [List.getElem?_append_right (by omega)] at hx
      have h0 : k - F.length < 1 := (List.getElem?_eq_some_iff.mp hx).1
      have hk2 : k = F.length := by omega
      subst hk2
      rw [Nat.sub_self] at hx
      cases hx
      rw [u_s, u_s]
      exact ⟨rfl, rfl⟩
  · intro p h1 h2 h3
    rw [z_rd_n h3, z_rd_n h1, z_rd_n h3, z_rd_n h2]
  · intro g hg
    rw [z_rd_n (by decide), z_rd_s, u_n hg, z_rd_n (by decide), z_rd_n (by decide)]
  · intro z hz
    rw [z_rd_n (show 3 ≠ 4 by decide), z_rd_n (show 3 ≠ 2 by decide), z_rd_n (show 3 ≠ 4 by decide), z_rd_s, z_rd_s, z_rd_n (show 4 ≠ 2 by decide), z_rd_s, z_rd_n (show 4 ≠ 3 by decide), u_n (by omega), u_n (by omega), u_n (by omega)]
    exact ⟨rfl, rfl⟩
theorem r_drops {j : Nat} (hM : h_M μ f F) (hf : f < 4) (hl : F.length ≤ 40) (hj : j < F.length) : ∃ ν, fX8_drops μ (nI f) (nI j) = some ν ∧ h_M ν f (F.eraseIdx j) ∧ h_mf f μ ν := by
  have e0 : nI F.length - 1 = nI (F.length - 1) := by
    obtain ⟨m, hm⟩ : ∃ m, F.length = m + 1 := ⟨F.length - 1, by omega⟩
    rw [hm, nI_pred]
    rfl
  refine ⟨z_fI (z_fI (z_sI μ 2 f (nI (F.length - 1))) 3 (h_sh (μ.1 3) (40 * f + j) (40 * f + (F.length - 1)))) 4 (h_sh (μ.1 4) (40 * f + j) (40 * f + (F.length - 1))), ?_, ⟨?_, ?_⟩, ?_, rfl, ?_, ?_⟩
  · unfold fX8_drops
    rw [z_gd_t (r_f4 hf), z_gd_t (r_f4 hf), r_sz hf hM, e0, nI_clamp (by omega)]
    simp only [z_lt]
    have h := z_upj (fun m (x : zS × Int32) => fX8_drops_L12 (nI f) (fun w2 _ => some w2) m x.1 x.2) (fun i => (z_fI (z_fI (z_sI μ 2 f (nI (F.length - 1))) 3 (h_sh (μ.1 3) (40 * f + j) (40 * f + i))) 4 (h_sh (μ.1 4) (40 * f + j) (40 * f + i)), nI i)) j (F.length - 1) (some (z_fI (z_fI (z_sI μ 2 f (nI (F.length - 1))) 3 (h_sh (μ.1 3) (40 * f + j) (40 * f + (F.length - 1)))) 4 (h_sh (μ.1 4) (40 * f + j) (40 * f + (F.length - 1))))) ?_ ?_ z_F (by omega) (by show _ < 5000 + _; omega)
    · have e1 : z_fI (z_fI (z_sI μ 2 f (nI (F.length - 1))) 3 (h_sh (μ.1 3) (40 * f + j) (40 * f + j))) 4 (h_sh (μ.1 4) (40 * f + j) (40 * f + j)) = z_sI μ 2 f (nI (F.length - 1)) := by
        rw [h_sh_0, h_sh_0]
        have a : μ.1 3 = (z_sI μ 2 f (nI (F.length - 1))).1 3 := (z_rd_n (by decide)).symm
        have b : μ.1 4 = (z_sI μ 2 f (nI (F.length - 1))).1 4 := (z_rd_n (by decide)).symm
        rw [a, z_fI_self, b, z_fI_self]
      simp only [e1] at h
      exact h
    · intro m i hji hi
      show fX8_drops_L12 (nI f) _ (m + 1) _ (nI i) = fX8_drops_L12 (nI f) _ m _ (nI (i + 1))
      rw [fX8_drops_L12.eq_2]
      have r1 : (z_fI (z_fI (z_sI μ 2 f (nI (F.length - 1))) 3 (h_sh (μ.1 3) (40 * f + j) (40 * f + i))) 4 (h_sh (μ.1 4) (40 * f + j) (40 * f + i))).1 2 f = nI (F.length - 1) := by
        rw [z_fI_n (by decide), z_fI_n (by decide), z_rd_s, u_s]
      have g0 : z_in (nI (40 * f + i)) 160 = true := z_in_nI (by omega) (by decide)
      have g1 : z_in (nI (40 * f + i + 1)) 160 = true := z_in_nI (by omega) (by decide)
      rw [z_gd_t (r_f4 hf), nI_clamp (show f < 2 ^ 31 by omega), r1, if_neg (z_nle hi (by omega)), n_40k, nI_1, nI_1, z_gd_t g1, z_gd_t g0, nI_clamp (by omega), nI_clamp (by omega)]
      simp only [z_lt]
      rw [z_gd_t g1, z_gd_t g0]
      have s1 : z_sI (z_fI (z_fI (z_sI μ 2 f (nI (F.length - 1))) 3 (h_sh (μ.1 3) (40 * f + j) (40 * f + i))) 4 (h_sh (μ.1 4) (40 * f + j) (40 * f + i))) 3 (40 * f + i) ((z_fI (z_fI (z_sI μ 2 f (nI (F.length - 1))) 3 (h_sh (μ.1 3) (40 * f + j) (40 * f + i))) 4 (h_sh (μ.1 4) (40 * f + j) (40 * f + i))).1 3 (40 * f + i + 1)) = z_fI (z_fI (z_sI μ 2 f (nI (F.length - 1))) 3 (h_sh (μ.1 3) (40 * f + j) (40 * f + i + 1))) 4 (h_sh (μ.1 4) (40 * f + j) (40 * f + i)) := by
        rw [z_fI_n (show 3 ≠ 4 by decide), z_fI_s, h_sh_i (by omega), z_fI_cm (by decide), z_sI_fI, h_sh_s (by omega), z_fI_cm (by decide)]
      rw [s1]
      have s2 : z_sI (z_fI (z_fI (z_sI μ 2 f (nI (F.length - 1))) 3 (h_sh (μ.1 3) (40 * f + j) (40 * f + i + 1))) 4 (h_sh (μ.1 4) (40 * f + j) (40 * f + i))) 4 (40 * f + i) ((z_fI (z_fI (z_sI μ 2 f (nI (F.length - 1))) 3 (h_sh (μ.1 3) (40 * f + j) (40 * f + i + 1))) 4 (h_sh (μ.1 4) (40 * f + j) (40 * f + i))).1 4 (40 * f + i + 1)) = z_fI (z_fI (z_sI μ 2 f (nI (F.length - 1))) 3 (h_sh (μ.1 3) (40 * f + j) (40 * f + i + 1))) 4 (h_sh (μ.1 4) (40 * f + j) (40 * f + i + 1)) := by
        rw [z_fI_s, h_sh_i (by omega), z_sI_fI, h_sh_s (by omega)]
      rw [s2]
      rfl
    · intro m
      show fX8_drops_L12 (nI f) _ (m + 1) _ (nI (F.length - 1)) = _
      rw [fX8_drops_L12.eq_2, z_gd_t (r_f4 hf), nI_clamp (by omega), z_fI_n (by decide), z_fI_n (by decide), z_rd_s, u_s, if_pos (nI_le (Nat.le_refl _) (by omega))]
  · rw [z_fI_n (by decide), z_fI_n (by decide), z_rd_s, u_s, List.length_eraseIdx, if_pos hj]
  · intro k x hx
    show (z_fI (z_fI (z_sI μ 2 f (nI (F.length - 1))) 3 (h_sh (μ.1 3) (40 * f + j) (40 * f + (F.length - 1)))) 4 (h_sh (μ.1 4) (40 * f + j) (40 * f + (F.length - 1)))).1 3 (40 * f + k) = _ ∧ (z_fI (z_fI (z_sI μ 2 f (nI (F.length - 1))) 3 (h_sh (μ.1 3) (40 * f + j) (40 * f + (F.length - 1)))) 4 (h_sh (μ.1 4) (40 * f + j) (40 * f + (F.length - 1)))).1 4 (40 * f + k) = _
    rw [z_fI_n (show 3 ≠ 4 by decide), z_fI_s, z_fI_s]
    rw [h_er] at hx
    unfold h_sh
    by_cases hk : k < j
    · rw [if_pos hk] at hx
      rw [if_neg (by omega), if_neg (by omega)]
      exact hM.2 k x hx
    · rw [if_neg hk] at hx
      have := (h_at hx).1
      rw [if_pos (by omega), if_pos (by omega)]
      exact hM.2 (k + 1) x hx
  · intro p h1 h2 h3
    rw [z_fI_n h3, z_fI_n h2, z_rd_n h1]
  · intro g hg
    rw [z_fI_n (by decide), z_fI_n (by decide), z_rd_s, u_n hg]
  · intro z hz
    rw [z_fI_n (show 3 ≠ 4 by decide), z_fI_s, z_fI_s]
    unfold h_sh
    rw [if_neg (by omega), if_neg (by omega)]
    exact ⟨rfl, rfl⟩
theorem r_takes_at (hM : h_M μ f F) (hf : f < 4) (hw : h_wf F) (hs : s < 4096) {j t : Nat} (hj : F[j]? = some (s, t)) : ∃ ν, fX8_takes μ (nI f) (nI s) = some (nI (t - 1), ν) ∧ h_M ν f (h_dr F j s t) ∧ h_mf f μ ν := by
  have hl := hw.1
  have hjl := h_at hj
  have ht := hw.2.1 _ hjl.2
  obtain ⟨t, rfl⟩ : ∃ u, t = u + 1 := ⟨t - 1, by have := ht.2.1; omega⟩
  obtain ⟨h1, h2⟩ := r_mset (t' := t) hM hf hl hj
  have g0 : z_in (nI (40 * f + j)) 160 = true := z_in_nI (by omega) (by decide)
  have hd : fX8_takes μ (nI f) (nI s) = (if nI t = 0 then (fX8_drops (z_sI μ 4 (40 * f + j) (nI t)) (nI f) (nI j)).bind (fun r2 => some (nI t, r2)) else some (nI t, z_sI μ 4 (40 * f + j) (nI t))) := by
    unfold fX8_takes
    rw [z_bd (r_place_at hM hf hw hs hj), n_40k, z_gd_t g0, z_gd_t g0, nI_clamp (by omega), show μ.1 4 (40 * f + j) = nI (t + 1) from (hM.2 j _ hj).2, nI_pred]
    simp only [z_lt]
    rw [z_gd_t g0, z_rd_s, u_s]
  rw [hd]
  by_cases h0 : t = 0
  · subst h0
    rw [if_pos nI_0]
    have hl2 : (F.set j (s, 0)).length ≤ 40 := by rw [List.length_set]; exact hl
    obtain ⟨τ, g1, g2, g3⟩ := r_drops (j := j) h1 hf hl2 (by rw [List.length_set]; exact hjl.1)
    refine ⟨τ, by rw [z_bd g1], ?_, h_mf_tr h2 g3⟩
    unfold h_dr
    rw [if_pos rfl]
    have e : (F.set j (s, 0)).eraseIdx j = F.eraseIdx j := List.eraseIdx_set_eq
    rw [← e]
    exact g2
  · rw [if_neg (nI_ne0 (by omega) (by omega))]
    refine ⟨_, rfl, ?_, h2⟩
    unfold h_dr
    rw [if_neg (by omega)]
    exact h1
end MFAM
