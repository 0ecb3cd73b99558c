/-! pure: copy, undo -/
def h_cp (f : Nat → Int32) (b a i : Nat) : Nat → Int32 := fun k => if b ≤ k ∧ k < b + i then f (a + (k - b)) else f k
theorem h_cp_0 (f : Nat → Int32) (b a : Nat) : h_cp f b a 0 = f := by
  funext k
  exact if_neg (by omega)
theorem h_cp_s {f : Nat → Int32} {b a i : Nat} (h : a = b ∨ a + i < b ∨ b + i < a) : upd (h_cp f b a i) (b + i) (h_cp f b a i (a + i)) = h_cp f b a (i + 1) := by
  have e : h_cp f b a i (a + i) = f (a + i) := if_neg (by omega)
  rw [e]
  funext k
  unfold upd h_cp
  by_cases hk : k = b + i
  · subst hk
    rw [if_pos rfl, if_pos (by omega), show a + (b + i - b) = a + i by omega]
  · rw [if_neg hk]
    by_cases h2 : b ≤ k ∧ k < b + i
    · rw [if_pos h2, if_pos (by omega)]
    · rw [if_neg h2, if_neg (by omega)]
theorem r_copy (μ : zS) {a b : Nat} (ha : a < 4) (hb : b < 4) (K : zS → Option (Int32 × zS)) : fX8_copy_L19 (nI a) (nI b) (fun w _ => K w) z_F μ (nI 0) = K (z_fI (z_fI μ 3 (h_cp (μ.1 3) (40 * b) (40 * a) 40)) 4 (h_cp (μ.1 4) (40 * b) (40 * a) 40)) := by
  have hh := z_up (fun m (x : zS × Int32) => fX8_copy_L19 (nI a) (nI b) (fun w _ => K w) m x.1 x.2) (fun i => (z_fI (z_fI μ 3 (h_cp (μ.1 3) (40 * b) (40 * a) i)) 4 (h_cp (μ.1 4) (40 * b) (40 * a) i), nI i)) 40 (K (z_fI (z_fI μ 3 (h_cp (μ.1 3) (40 * b) (40 * a) 40)) 4 (h_cp (μ.1 4) (40 * b) (40 * a) 40))) ?_ (fun m => ?_) 0 z_F (Nat.zero_le _) (by show 40 < 5000 + 0; decide)
  · have e1 : z_fI (z_fI μ 3 (h_cp (μ.1 3) (40 * b) (40 * a) 0)) 4 (h_cp (μ.1 4) (40 * b) (40 * a) 0) = μ := by
      rw [h_cp_0, h_cp_0, z_fI_self, z_fI_self]
    rw [e1] at hh
    exact hh
  · intro m i hi
    show fX8_copy_L19 (nI a) (nI b) _ (m + 1) _ (nI i) = fX8_copy_L19 (nI a) (nI b) _ m _ (nI (i + 1))
    rw [fX8_copy_L19.eq_2, n_40, if_neg (z_nle hi (by decide)), ← n_40, n_40k, n_40k, z_gd_t (z_in_nI (by omega) (by decide)), z_gd_t (z_in_nI (by omega) (by decide)), nI_clamp (by omega), nI_clamp (by omega), nI_1]
    simp only [z_ltE]
    rw [z_gd_t (z_in_nI (by omega) (by decide)), z_gd_t (z_in_nI (by omega) (by decide))]
    have s1 : ∀ g : Nat → Int32, z_sI (z_fI (z_fI μ 3 (h_cp (μ.1 3) (40 * b) (40 * a) i)) 4 g) 3 (40 * b + i) ((z_fI (z_fI μ 3 (h_cp (μ.1 3) (40 * b) (40 * a) i)) 4 g).1 3 (40 * a + i)) = z_fI (z_fI μ 3 (h_cp (μ.1 3) (40 * b) (40 * a) (i + 1))) 4 g := fun g => by
      rw [z_fI_n (show 3 ≠ 4 by decide), z_fI_s, z_fI_cm (show 3 ≠ 4 by decide), z_sI_fI, h_cp_s (by omega), z_fI_cm (show 4 ≠ 3 by decide)]
    rw [s1]
    have s2 : ∀ w : zS, z_sI (z_fI w 4 (h_cp (μ.1 4) (40 * b) (40 * a) i)) 4 (40 * b + i) ((z_fI w 4 (h_cp (μ.1 4) (40 * b) (40 * a) i)).1 4 (40 * a + i)) = z_fI w 4 (h_cp (μ.1 4) (40 * b) (40 * a) (i + 1)) := fun w => by
      rw [z_fI_s, z_sI_fI, h_cp_s (by omega)]
    rw [s2]
  · show fX8_copy_L19 (nI a) (nI b) _ (m + 1) _ (nI 40) = _
    rw [fX8_copy_L19.eq_2, n_40, if_pos (nI_le (Nat.le_refl _) (by decide))]
theorem s_copy_p : s_copy pP := by
  intro σ μ h a1 a2
  unfold fX7_copy fX8_copy
  rcases n_cases a1 (n := 4) (by decide) with ho | ⟨a, ha, rfl⟩
  · rw [z_bd (q_nf1 ho), z_bd (r_isFamily0 ho), i_f, i_t]
    exact ⟨_, _, _, rfl, rfl, h⟩
  rw [z_bd (q_nf0 ha), z_bd (r_isFamily1 ha), i_t, i_f]
  rcases n_cases a2 (n := 4) (by decide) with ho | ⟨b, hb, rfl⟩
  · rw [z_bd (q_nf1 ho), z_bd (r_isFamily0 ho), i_f, i_t]
    exact ⟨_, _, _, rfl, rfl, h⟩
  rw [z_bd (q_nf0 hb), z_bd (r_isFamily1 hb), i_t, i_f, z_gd_t (r_f4 hb), z_gd_t (r_f4 ha), nI_clamp (by omega), nI_clamp (by omega), z_i0, r_copy μ ha hb, ← z_i0]
  obtain ⟨F, A, nr, h1, h2, h3, h4, h5, h6⟩ := p_un h
  obtain ⟨hX, hM, hw⟩ := h2 a ha
  obtain ⟨τ, g1, g2, g3⟩ := q_become (q := 7 + b) hX hw.1 (by omega) (by omega) (by omega)
  rw [z_bd g1, z_bd (o_all τ), z_gd_t (r_f4 hb), z_gd_t (r_f4 ha), z_gd_t (r_f4 hb)]
  simp only [z_ltE]
  rw [z_gd_t (r_f4 hb), z_rd_n (show 7 + b ≠ 59 by omega), g2.1, z_rd_n (show 2 ≠ 0 by decide), z_rd_s, u_s, z_fI_n (show 2 ≠ 4 by decide), z_fI_n (show 2 ≠ 3 by decide), hM.1]
  have hm : h_mf b μ (z_sI (z_fI (z_fI μ 3 (h_cp (μ.1 3) (40 * b) (40 * a) 40)) 4 (h_cp (μ.1 4) (40 * b) (40 * a) 40)) 2 b (nI (F a).length)) := by
    refine ⟨fun p p2 p3 p4 => by rw [z_rd_n p2, z_fI_n p4, z_fI_n p3], rfl, fun g hg => by rw [z_rd_s, u_n hg, z_fI_n (by decide), z_fI_n (by decide)], fun j hj => ?_⟩
    rw [z_rd_n (by decide), z_rd_n (by decide), z_fI_s, z_fI_n (by decide), z_fI_s]
    exact ⟨if_neg (by omega), if_neg (by omega)⟩
  have hM2 : h_M (z_sI (z_fI (z_fI μ 3 (h_cp (μ.1 3) (40 * b) (40 * a) 40)) 4 (h_cp (μ.1 4) (40 * b) (40 * a) 40)) 2 b (nI (F a).length)) b (F a) := by
    refine ⟨by rw [z_rd_s, u_s], fun k x hx => ?_⟩
    have hk := (h_at hx).1
    have hl := hw.1
    rw [z_rd_n (show 3 ≠ 2 by decide), z_rd_n (show 4 ≠ 2 by decide), z_fI_s, z_fI_n (show 3 ≠ 4 by decide), z_fI_s]
    show h_cp (μ.1 3) (40 * b) (40 * a) 40 (40 * b + k) = _ ∧ h_cp (μ.1 4) (40 * b) (40 * a) 40 (40 * b + k) = _
    unfold h_cp
    rw [if_pos (by omega), if_pos (by omega), show 40 * a + (40 * b + k - 40 * b) = 40 * a + k by omega]
    exact hM.2 k x hx
  exact ⟨_, _, _, rfl, rfl, p_mk (F := h_pt F b (F a)) (A := []) (nr := nr) (p_rs_c h1 (k_X_tr (h_off_k hb g3) (o_ac_k (o_all_o τ))) (k_M_tr (h_mf_k hm) (o_mc_k (o_alm_o _)))) (p_fa_o (p_put hb h2 g3 hm g2 hM2 hw) (o_all_o τ) (o_alm_o _)) (o_all_h τ) (o_alm_h _) (by decide) trivial⟩
theorem n_pig : ∀ (A B : List Nat), A.Nodup → (∀ x, x ∈ A → x ∈ B) → A.length ≤ B.length
  | [], _, _, _ => Nat.zero_le _
  | a :: A, B, hn, h => by
    have hb : a ∈ B := h a (List.mem_cons_self ..)
    have h1 := n_pig A (B.erase a) (List.nodup_cons.mp hn).2 (fun x hx => (List.mem_erase_of_ne (fun (e : x = a) => (List.nodup_cons.mp hn).1 (e ▸ hx))).mpr (h x (List.mem_cons_of_mem _ hx)))
    rw [List.length_erase_of_mem hb] at h1
    have := List.length_pos_of_mem hb
    rw [List.length_cons]
    omega
theorem h_room {F G : List (Nat × Nat)} {s : Nat} (hF : h_wf F) (hG : h_wf G) (hn : ∀ x, x ∈ F → x.1 ≠ s) (h : ∀ u, h_tl G u = if u = s then h_tl F u + 1 else h_tl F u) : F.length < 40 := by
  have h1 := n_pig (s :: F.map Prod.fst) (G.map Prod.fst) (List.nodup_cons.mpr ⟨fun hm => by
    obtain ⟨x, hx, e⟩ := List.mem_map.mp hm
    exact hn x hx e, hF.2.2⟩) (fun u hu => by
      have hp : 1 ≤ h_tl G u := by
        rw [h u]
        by_cases e : u = s
        · rw [if_pos e]
          omega
        · rw [if_neg e]
          rcases List.mem_cons.mp hu with q | q
          · exact absurd q e
          · obtain ⟨x, hx, rfl⟩ := List.mem_map.mp q
            obtain ⟨k, hk⟩ := List.getElem?_of_mem hx
            rw [h_tl_at (t := x.2) hF.2.2 hk]
            exact (hF.2.1 x hx).2.1
      obtain ⟨j, hj⟩ := h_tl_pos hG hp
      exact List.mem_map.mpr ⟨_, (h_at hj).2, rfl⟩)
  rw [List.length_cons, List.length_map, List.length_map] at h1
  have := hG.1
  omega
theorem h_ac_pop {n m : Int32} {S T : Nat → Nat → Int32} {B : List (Nat × Nat × Int32)} {x : Nat × Nat × Int32} (h : h_ac n S (B ++ [x])) (hm : m = nI B.length) (hT : ∀ i, i < 3 → T i = S i) : h_ac m T B := by
  refine ⟨hm, fun k y hy => ?_⟩
  have hk : k < B.length := (List.getElem?_eq_some_iff.mp hy).1
  rw [hT 0 (by decide), hT 1 (by decide), hT 2 (by decide)]
  exact h.2 k y (by rw [List.getElem?_append_left hk]; exact hy)
theorem h_sm_pt {F G : Nat → List (Nat × Nat)} {f : Nat} {H : List (Nat × Nat)} (h1 : ∀ u, h_tl H u = h_tl (G f) u) (h2 : ∀ g u, g < 4 → g ≠ f → h_tl (F g) u = h_tl (G g) u) : h_sm (h_pt F f H) G := by
  intro g u hg
  unfold h_pt
  by_cases e : g = f
  · rw [if_pos e, e]
    exact h1 u
  · rw [if_neg e]
    exact h2 g u hg e
theorem p_prc {σ μ : zS} {nr j : Nat} {F : Nat → List (Nat × Nat)} {A : List (Nat × Nat × Int32)} (v : Int32) (h1 : p_rs σ μ nr) (h2 : p_fa σ μ F) (h3 : h_ac (σ.1 59 3) (fun i => σ.1 (60 + i)) A) (h4 : h_ac (μ.1 0 10) (fun i => μ.1 (10 + i)) A) : p_rs (z_sI σ 3 j v) (z_sI μ 1 j v) nr ∧ p_fa (z_sI σ 3 j v) (z_sI μ 1 j v) F ∧ h_ac ((z_sI σ 3 j v).1 59 3) (fun i => (z_sI σ 3 j v).1 (60 + i)) A ∧ h_ac ((z_sI μ 1 j v).1 0 10) (fun i => (z_sI μ 1 j v).1 (10 + i)) A := by
  refine ⟨⟨fun p hp => ?_, ?_, ?_, ?_⟩, ?_, ?_, ?_⟩
  · rw [z_rd_s, z_rd_s]
    by_cases q : p = j
    · subst q
      rw [u_s, u_s]
    · rw [u_n q, u_n q]
      exact h1.1 p hp
  · exact p_ru_c h1.2.1 (by rw [z_rd_n (by decide)]) (by rw [z_rd_n (by decide)]) (fun r hr => ⟨fun i _ => by rw [z_rd_n (by omega)], by rw [z_rd_n (by omega)]⟩) (fun p _ _ => by rw [z_rd_n (by omega)])
  · exact p_sh_c h1.2.2.1 (fun s _ => by rw [z_rd_n (by omega)]) (fun s _ => rfl) ⟨by rw [z_rd_n (by decide)], by rw [z_rd_n (by decide)]⟩ rfl
  · exact p_ke_c h1.2.2.2 (Nat.le_refl _) (by rw [z_rd_n (by decide)]) ⟨by rw [z_rd_n (by decide)], by rw [z_rd_n (by decide)]⟩ (by rw [z_rd_n (by decide)]) (by rw [z_rd_n (by decide)]) (fun p _ _ => ⟨by rw [z_rd_n (by omega)], by rw [z_rd_n (by omega)], by rw [z_rd_n (by omega)]⟩) (fun p _ _ => by rw [z_rd_n (by omega)])
  · exact p_fa_c h2 (fun p _ _ => ⟨by rw [z_rd_n (by omega)], by rw [z_rd_n (by omega)], by rw [z_rd_n (by omega)]⟩) ⟨by rw [z_rd_n (by decide)], by rw [z_rd_n (by decide)], by rw [z_rd_n (by decide)]⟩
  · have e2 : (fun i => (z_sI σ 3 j v).1 (60 + i)) = (fun i => σ.1 (60 + i)) := funext (fun i => z_rd_n (by omega))
    rw [e2, z_rd_n (by decide)]
    exact h3
  · have e2 : (fun i => (z_sI μ 1 j v).1 (10 + i)) = (fun i => μ.1 (10 + i)) := funext (fun i => z_rd_n (by omega))
    rw [e2, z_rd_n (by decide)]
    exact h4
theorem q_forgetLast {σ : zS} {n : Nat} (hn : n < 20) (h : σ.1 59 3 = nI (n + 1)) : fX0_forgetLast σ = some (nI n, z_sI σ 59 3 (nI n)) := by
  unfold fX0_forgetLast
  rw [h, nI_pred, z_bd (n_max _ _), if_neg (nI_pos (by omega))]
  simp only [z_ltE]
  rw [z_rd_s, u_s]
theorem s_undo_p : s_undo pP := by
  intro σ μ h
  obtain ⟨F, A, nr, h1, h2, h3, h4, h5, h6⟩ := p_un h
  unfold fX7_undo fX8_undo
  rcases List.eq_nil_or_concat A with rfl | ⟨B, x, rfl⟩
  · rw [h3.1, h4.1, if_neg (by decide), if_pos (show nI ([] : List (Nat × Nat × Int32)).length = 0 from rfl)]
    exact ⟨_, _, _, rfl, rfl, h⟩
  rw [List.concat_eq_append] at h3 h4 h5 h6
  rw [List.length_append] at h5
  have h5 : B.length + 1 ≤ 20 := h5
  have e3 : σ.1 59 3 = nI (B.length + 1) := by rw [h3.1, List.length_append]; rfl
  have e4 : μ.1 0 10 = nI (B.length + 1) := by rw [h4.1, List.length_append]; rfl
  have hx : (B ++ [x])[B.length]? = some x := by rw [List.getElem?_append_right (Nat.le_refl _), Nat.sub_self]; rfl
  have c3 := h3.2 _ _ hx
  have c4 := h4.2 _ _ hx
  have c30 : σ.1 60 B.length = nI x.1 := c3.1
  have c31 : σ.1 61 B.length = nI x.2.1 := c3.2.1
  have c32 : σ.1 62 B.length = x.2.2 := c3.2.2
  have c40 : μ.1 10 B.length = nI x.1 := c4.1
  have c41 : μ.1 11 B.length = nI x.2.1 := c4.2.1
  have c42 : μ.1 12 B.length = x.2.2 := c4.2.2
  have g : z_in (nI B.length) 20 = true := z_in_nI (by omega) (by decide)
  rw [e3, if_pos (by rw [z_i0]; exact nI_lt (by omega) (by omega)), z_bd (q_forgetLast (by omega) e3), e4, if_neg (nI_ne0 (by omega) (by omega)), nI_pred]
  simp only [z_ltE]
  rw [z_gd_t g, z_gd_t g, z_gd_t g, nI_clamp (show B.length < 2 ^ 31 by omega), z_rd_n (show 61 ≠ 59 by decide), z_rd_n (show 62 ≠ 59 by decide), z_rd_n (show 60 ≠ 59 by decide), c30, c31, c32, z_rd_s (p := 0), u_s, z_gd_t g, z_gd_t g, z_gd_t g, nI_clamp (show B.length < 2 ^ 31 by omega), z_rd_n (show 11 ≠ 0 by decide), z_rd_n (show 12 ≠ 0 by decide), z_rd_n (show 10 ≠ 0 by decide), c40, c41, c42]
  rw [List.reverse_append] at h6
  obtain ⟨G, hb, hwG, hh⟩ := h6
  have oX : o_ac σ (z_sI σ 59 3 (nI B.length)) := ⟨fun p hp => z_rd_n (by omega), rfl⟩
  have oM : o_mc μ (z_sI μ 0 10 (nI B.length)) := ⟨fun p hp => z_rd_n (by omega), fun k hk => by rw [z_rd_s, u_n hk], rfl⟩
  have r1 := p_rs_c h1 (o_ac_k oX) (o_mc_k oM)
  have r2 := p_fa_o h2 oX oM
  have r3 : h_ac ((z_sI σ 59 3 (nI B.length)).1 59 3) (fun i => (z_sI σ 59 3 (nI B.length)).1 (60 + i)) B := h_ac_pop h3 (by rw [z_rd_s, u_s]) (fun i hi => z_rd_n (by omega))
  have r4 : h_ac ((z_sI μ 0 10 (nI B.length)).1 0 10) (fun i => (z_sI μ 0 10 (nI B.length)).1 (10 + i)) B := h_ac_pop h4 (by rw [z_rd_s, u_s]) (fun i hi => z_rd_n (by omega))
  have q3 : (z_sI σ 59 3 (nI B.length)).1 59 3 = nI B.length := by rw [z_rd_s, u_s]
  have q4 : (z_sI μ 0 10 (nI B.length)).1 0 10 = nI B.length := by rw [z_rd_s, u_s]
  rcases hb with ⟨b0, b1, b2⟩ | ⟨b0, b1, s, b2, b3, b4⟩ | ⟨b0, b1, s, b2, b3, b4⟩
  · rw [b0, if_pos nI_0, if_pos nI_0, z_gd_t (z_in_nI b1 (by decide)), z_gd_t (z_in_nI b1 (by decide)), nI_clamp (by omega), z_rd_n (show 59 ≠ 3 by decide), z_rd_n (show 0 ≠ 1 by decide), q3, q4]
    obtain ⟨m1, m2, m3, m4⟩ := p_prc (j := x.2.1) x.2.2 r1 r2 r3 r4
    exact ⟨_, _, _, rfl, rfl, p_mk m1 m2 m3 m4 (by omega) (h_hi_c b2 hh)⟩
  · rw [b0, if_neg (show ¬ nI 1 = 0 by decide), if_neg (show ¬ nI 1 = 0 by decide), if_pos (show nI 1 = 1 by decide), if_pos (show nI 1 = 1 by decide), b3, z_gd_t (r_f4 b1), nI_clamp (by omega)]
    obtain ⟨hX, hM, hw⟩ := r2 _ b1
    have hp : 1 ≤ h_tl (F x.2.1) s := by
      rw [b4 _ _ b1, if_pos ⟨rfl, rfl⟩]
      omega
    obtain ⟨j, hj⟩ := h_tl_pos hw hp
    obtain ⟨τ, g1, g2, g3⟩ := q_drop_at hX hw b2 hj
    obtain ⟨ν, k1, k2, k3⟩ := r_takes_at hM b1 hw b2 hj
    rw [z_bd g1, z_bd k1]
    simp only
    rw [(h_ac_off b1 r3 g3).1, (h_ac_mf r4 k3).1]
    refine ⟨_, _, _, rfl, rfl, p_mk (p_rs_c r1 (h_off_k b1 g3) (h_mf_k k3)) (p_put b1 r2 g3 k3 g2 k2 (h_wf_dr hw hj)) (h_ac_off b1 r3 g3) (h_ac_mf r4 k3) (by omega) (h_hi_c (h_sm_pt (fun u => ?_) (fun g u hg hne => ?_)) hh)⟩
    · rw [h_tl_dr hw hj]
      have hb4 := b4 x.2.1
      by_cases hu : u = s
      · rw [if_pos hu, hb4 s b1, if_pos ⟨rfl, rfl⟩, hu]
        omega
      · rw [if_neg hu, hb4 u b1, if_neg (fun q => hu q.2)]
    · rw [b4 g u hg, if_neg (fun q => hne q.1)]
  · rw [b0, if_neg (show ¬ nI 2 = 0 by decide), if_neg (show ¬ nI 2 = 0 by decide), if_neg (show ¬ nI 2 = 1 by decide), if_neg (show ¬ nI 2 = 1 by decide), b3, z_gd_t (r_f4 b1), nI_clamp (by omega)]
    obtain ⟨hX, hM, hw⟩ := r2 _ b1
    rcases h_dich (F x.2.1) s with hn | ⟨j, t, hj⟩
    · have hl := h_room hw (hwG _ b1) hn (fun u => by
        rw [b4 _ _ b1]
        by_cases hu : u = s
        · rw [if_pos hu, if_pos ⟨rfl, hu⟩]
        · rw [if_neg hu, if_neg (fun q => hu q.2)])
      obtain ⟨τ, g1, g2, g3⟩ := q_add_new hX hw b2 hn hl
      obtain ⟨ν, k1, k2, k3⟩ := r_tells_new hM b1 hw b2 hn hl
      rw [z_bd g1, z_bd k1]
      simp only
      rw [(h_ac_off b1 r3 g3).1, (h_ac_mf r4 k3).1]
      refine ⟨_, _, _, rfl, rfl, p_mk (p_rs_c r1 (h_off_k b1 g3) (h_mf_k k3)) (p_put b1 r2 g3 k3 g2 k2 (h_wf_app hw hl b2 hn (by decide) (by decide))) (h_ac_off b1 r3 g3) (h_ac_mf r4 k3) (by omega) (h_hi_c (h_sm_pt (fun u => ?_) (fun g u hg hne => ?_)) hh)⟩
      · rw [h_tl_app hw hn, b4 _ _ b1]
        by_cases hu : u = s
        · rw [if_pos hu, if_pos ⟨rfl, hu⟩, hu, h_tl_no hn]
        · rw [if_neg hu, if_neg (fun q => hu q.2)]
      · rw [b4 g u hg, if_neg (fun q => hne q.1)]
    · have ht := hw.2.1 _ (h_at hj).2
      have ht1 : 1 ≤ t := ht.2.1
      have ht2 : t ≤ 99 := ht.2.2
      have hle := h_tl_le (u := s) (hwG _ b1)
      rw [b4 _ _ b1, if_pos ⟨rfl, rfl⟩, h_tl_at hw.2.2 hj] at hle
      obtain ⟨τ, g1, g2, g3⟩ := q_add_at hX hw b2 hj
      obtain ⟨ν, k1, k2, k3⟩ := r_tells_at hM b1 hw b2 hj
      rw [z_bd g1, z_bd k1]
      simp only
      rw [(h_ac_off b1 r3 g3).1, (h_ac_mf r4 k3).1]
      refine ⟨_, _, _, rfl, rfl, p_mk (p_rs_c r1 (h_off_k b1 g3) (h_mf_k k3)) (p_put b1 r2 g3 k3 g2 k2 (h_wf_set hw hj (by omega) (by omega))) (h_ac_off b1 r3 g3) (h_ac_mf r4 k3) (by omega) (h_hi_c (h_sm_pt (fun u => ?_) (fun g u hg hne => ?_)) hh)⟩
      · rw [h_tl_set hw hj, b4 _ _ b1]
        by_cases hu : u = s
        · rw [if_pos hu, if_pos ⟨rfl, hu⟩, hu, h_tl_at hw.2.2 hj]
          omega
        · rw [if_neg hu, if_neg (fun q => hu q.2)]
      · rw [b4 g u hg, if_neg (fun q => hne q.1)]
