/-! pure: copy, undo -/
def h_cp (f : Nat → Int32) (b a i : Nat) : Nat → Int32 := fun k => if b ≤ k ∧ k < b + i then f (a + (k - b)) else f k
theorem h_cp_0 (f : Nat → Int32) (b a : Nat) : h_cp f b a 0 = f := by
  funext k
  exact if_neg (by omega)
theorem h_cp_s {f : Nat → Int32} {b a i : Nat} (h : a = b ∨ a + i < b ∨ b + i < a) : upd (h_cp f b a i) (b + i) (h_cp f b a i (a + i)) = h_cp f b a (i + 1) := by
  have e : h_cp f b a i (a + i) = f (a + i) := if_neg (by omega)
  rw [e]
  funext k
  unfold upd h_cp
  by_cases hk : k = b + i
  · subst hk
    rw [if_pos rfl, if_pos (by omega), show a + (b + i - b) = a + i by omega]
  · rw [if_neg hk]
    by_cases h2 : b ≤ k ∧ k < b + i
    · rw [if_pos h2, if_pos (by omega)]
    · rw [if_neg h2, if_neg (by omega)]
theorem r_copy (μ : zS) {a b : Nat} (ha : a < 4) (hb : b < 4) (K : zS → Option (Int32 × zS)) : fX8_copy_L19 (nI a) (nI b) (fun w _ => K w) z_F μ (nI 0) = K (z_fI (z_fI μ 3 (h_cp (μ.1 3) (40 * b) (40 * a) 40)) 4 (h_cp (μ.1 4) (40 * b) (40 * a) 40)) := by
  have hh := z_up (fun m (x : zS × Int32) => fX8_copy_L19 (nI a) (nI b) (fun w _ => K w) m x.1 x.2) (fun i => (z_fI (z_fI μ 3 (h_cp (μ.1 3) (40 * b) (40 * a) i)) 4 (h_cp (μ.1 4) (40 * b) (40 * a) i), nI i)) 40 (K (z_fI (z_fI μ 3 (h_cp (μ.1 3) (40 * b) (40 * a) 40)) 4 (h_cp (μ.1 4) (40 * b) (40 * a) 40))) ?_ (fun m => ?_) 0 z_F (Nat.zero_le _) (by show 40 < 5000 + 0; decide)
  · have e1 : z_fI (z_fI μ 3 (h_cp (μ.1 3) (40 * b) (40 * a) 0)) 4 (h_cp (μ.1 4) (40 * b) (40 * a) 0) = μ := by
      rw [h_cp_0, h_cp_0, z_fI_self, z_fI_self]
    rw [e1] at hh
    exact hh
  · intro m i hi
    show fX8_copy_L19 (nI a) (nI b) _ (m + 1) _ (nI i) = fX8_copy_L19 (nI a) (nI b) _ m _ (nI (i + 1))
    rw [fX8_copy_L19.eq_2, n_40, if_neg (z_nle hi (by decide)), ← n_40, n_40k, n_40k, z_gd_t (z_in_nI (by omega) (by decide)), z_gd_t (z_in_nI (by omega) (by decide)), nI_clamp (by omega), nI_clamp (by omega), nI_1]
    simp only [z_ltE]
    rw [z_gd_t (z_in_nI (by omega) (by decide)), z_gd_t (z_in_nI (by omega) (by decide))]
    have s1 : ∀ g : Nat → Int32, z_sI (z_fI (z_fI μ 3 (h_cp (μ.1 3) (40 * b) (40 * a) i)) 4 g) 3 (40 * b + i) ((z_fI (z_fI μ 3 (h_cp (μ.1 3) (40 * b) (40 * a) i)) 4 g).1 3 (40 * a + i)) = z_fI (z_fI μ 3 (h_cp (μ.1 3) (40 * b) (40 * a) (i + 1))) 4 g := fun g => by
      rw [z_fI_n (show 3 ≠ 4 by decide), z_fI_s, z_fI_cm (show 3 ≠ 4 by decide), z_sI_fI, h_cp_s (by omega), z_fI_cm (show 4 ≠ 3 by decide)]
    rw [s1]
    have s2 : ∀ w : zS, z_sI (z_fI w 4 (h_cp (μ.1 4) (40 * b) (40 * a) i)) 4 (40 * b + i) ((z_fI w 4 (h_cp (μ.1 4) (40 * b) (40 * a) i)).1 4 (40 * a + i)) = z_fI w 4 (h_cp (μ.1 4) (40 * b) (40 * a) (i + 1)) := fun w => by
      rw [z_fI_s, z_sI_fI, h_cp_s (by omega)]
    rw [s2]
  · show fX8_copy_L19 (nI a) (nI b) _ (m + 1) _ (nI 40) = _
    rw [fX8_copy_L19.eq_2, n_40, if_pos (nI_le (Nat.le_refl _) (by decide))]
theorem s_copy_p : s_copy pP := by
  intro σ μ h a1 a2
  unfold fX7_copy fX8_copy
  rcases n_cases a1 (n := 4) (by decide) with ho | ⟨a, ha, rfl⟩
  · rw [z_bd (q_nf1 ho), z_bd (r_isFamily0 ho), i_f, i_t]
    exact ⟨_, _, _, rfl, rfl, h⟩
  rw [z_bd (q_nf0 ha), z_bd (r_isFamily1 ha), i_t, i_f]
  rcases n_cases a2 (n := 4) (by decide) with ho | ⟨b, hb, rfl⟩
  · rw [z_bd (q_nf1 ho), z_bd (r_isFamily0 ho), i_f, i_t]
    exact ⟨_, _, _, rfl, rfl, h⟩
  rw [z_bd (q_nf0 hb), z_bd (r_isFamily1 hb), i_t, i_f, z_gd_t (r_f4 hb), z_gd_t (r_f4 ha), nI_clamp (by omega), nI_clamp (by omega), z_i0, r_copy μ ha hb, ← z_i0]
  obtain ⟨F, A, nr, h1, h2, h3, h4, h5, h6⟩ := p_un h
  obtain ⟨hX, hM, hw⟩ := h2 a ha
  obtain ⟨τ, g1, g2, g3⟩ := q_become (q := 7 + b) hX hw.1 (by omega) (by omega) (by omega)
  rw [z_bd g1, z_bd (o_all τ), z_gd_t (r_f4 hb), z_gd_t (r_f4 ha), z_gd_t (r_f4 hb)]
  simp only [z_ltE]
  rw [z_gd_t (r_f4 hb), z_rd_n (show 7 + b ≠ 59 by omega), g2.1, z_rd_n (show 2 ≠ 0 by decide), z_rd_s, u_s, z_fI_n (show 2 ≠ 4 by decide), z_fI_n (show 2 ≠ 3 by decide), hM.1]
  have hm : h_mf b μ (z_sI (z_fI (z_fI μ 3 (h_cp (μ.1 3) (40 * b) (40 * a) 40)) 4 (h_cp (μ.1 4) (40 * b) (40 * a) 40)) 2 b (nI (F a).length)) := by
    refine ⟨fun p p2 p3 p4 => by rw [z_rd_n p2, z_fI_n p4, z_fI_n p3], rfl, fun g hg => by rw [z_rd_s, u_n hg, z_fI_n (by decide), z_fI_n (by decide)], fun j hj => ?_⟩
    rw [z_rd_n (by decide), z_rd_n (by decide), z_fI_s, z_fI_n (by decide), z_fI_s]
    exact ⟨if_neg (by omega), if_neg (by omega)⟩
  have hM2 : h_M (z_sI (z_fI (z_fI μ 3 (h_cp (μ.1 3) (40 * b) (40 * a) 40)) 4 (h_cp (μ.1 4) (40 * b) (40 * a) 40)) 2 b (nI (F a).length)) b (F a) := by
    refine ⟨by rw [z_rd_s, u_s], fun k x hx => ?_⟩
    have hk := (h_at hx).1
    have hl := hw.1
    rw [z_rd_n (show 3 ≠ 2 by decide), z_rd_n (show 4 ≠ 2 by decide), z_fI_s, z_fI_n (show 3 ≠ 4 by decide), z_fI_s]
    show h_cp (μ.1 3) (40 * b) (40 * a) 40 (40 * b + k) = _ ∧ h_cp (μ.1 4) (40 * b) (40 * a) 40 (40 * b + k) = _
    unfold h_cp
    rw [if_pos (by omega), if_pos (by omega), show 40 * a + (40 * b + k - 40 * b) = 40 * a + k by omega]
    exact hM.2 k x hx
  exact ⟨_, _, _, rfl, rfl, p_mk (F := h_pt F b (F a)) (A := []) (nr := nr) (p_rs_c h1 (k_X_tr (h_off_k hb g3) (o_ac_k (o_all_o τ))) (k_M_tr (h_mf_k hm) (o_mc_k (o_alm_o _)))) (p_fa_o (p_put hb h2 g3 hm g2 hM2 hw) (o_all_o τ) (o_alm_o _)) (o_all_h τ) (o_alm_h _) (by decide) trivial⟩
theorem n_pig : ∀ (A B : List Nat), A.Nodup → (∀ x, x ∈ A → x ∈ B) → A.length ≤ B.length
  | [], _, _, _ => Nat.zero_le _
  | a :: A, B, hn, h => by
    have hb : a ∈ B := h a (List.mem_cons_self ..)
    have h1 := n_pig A (B.erase a) (List.nodup_cons.mp hn).2 (fun x hx => (List.mem_erase_of_ne (fun e => (List.nodup_cons.mp hn).1 (e ▸ hx))).mpr (h x (List.mem_cons_of_mem _ hx)))
    rw [List.length_erase_of_mem hb] at h1
    have := List.length_pos_of_mem hb
    rw [List.length_cons]
    omega
theorem h_room {F G : List (Nat × Nat)} {s : Nat} (hF : h_wf F) (hG : h_wf G) (hn : ∀ x, x ∈ F → x.1 ≠ s) (h : ∀ u, h_tl G u = if u = s then h_tl F u + 1 else h_tl F u) : F.length < 40 := by
  have h1 := n_pig (s :: F.map Prod.fst) (G.map Prod.fst) (List.nodup_cons.mpr ⟨fun hm => by
    obtain ⟨x, hx, e⟩ := List.mem_map.mp hm
    exact hn x hx e, hF.2.2⟩) (fun u hu => by
      have hp : 1 ≤ h_tl G u := by
        rw [h u]
        by_cases e : u = s
        · rw [if_pos e]
          omega
        · rw [if_neg e]
          rcases List.mem_cons.mp hu with q | q
          · exact absurd q e
          · obtain ⟨x, hx, rfl⟩ := List.mem_map.mp q
            obtain ⟨k, hk⟩ := List.getElem?_of_mem hx
            rw [h_tl_at (t := x.2) hF.2.2 hk]
            exact (hF.2.1 x hx).2.1
      obtain ⟨j, hj⟩ := h_tl_pos hG hp
      exact List.mem_map.mpr ⟨_, (h_at hj).2, rfl⟩)
  rw [List.length_cons, List.length_map, List.length_map] at h1
  have := hG.1
  omega
theorem h_ac_pop {n m : Int32} {S T : Nat → Nat → Int32} {B : List (Nat × Nat × Int32)} {x : Nat × Nat × Int32} (h : h_ac n S (B ++ [x])) (hm : m = nI B.length) (hT : ∀ i, i < 3 → T i = S i) : h_ac m T B := by
  refine ⟨hm, fun k y hy => ?_⟩
  have hk : k < B.length := (List.getElem?_eq_some_iff.mp hy).1
  rw [hT 0 (by decide), hT 1 (by decide), hT 2 (by decide)]
  exact h.2 k y (by rw [List.getElem?_append_left hk]; exact hy)
theorem h_sm_pt {F G : Nat → List (Nat × Nat)} {f : Nat} {H : List (Nat × Nat)} (h1 : ∀ u, h_tl H u = h_tl (G f) u) (h2 : ∀ g u, g < 4 → g ≠ f → h_tl (F g) u = h_tl (G g) u) : h_sm (h_pt F f H) G := by
  intro g u hg
  unfold h_pt
  by_cases e : g = f
  · rw [if_pos e, e]
    exact h1 u
  · rw [if_neg e]
    exact h2 g u hg e
