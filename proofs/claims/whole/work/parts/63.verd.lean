/-! pure: verdict -/
theorem ct_gap {p : Nat → Bool} {a b u : Nat} (h : fb_ct p a = fb_ct p b) (h1 : a ≤ u) (h2 : u < b) : p u = false := by
  cases e : p u
  · rfl
  · have x := fb_ct_mono p h1
    have y := fb_ct_mono p (show u + 1 ≤ b from h2)
    rw [fb_ct_succ, e] at y
    simp only [if_true] at y
    omega
theorem ct_ord {p : Nat → Bool} {a s : Nat} (h : fb_ct p a = fb_ct p s) (hs : p s = true) : a ≤ s := by
  rcases Nat.lt_or_ge s a with q | q
  · have y := fb_ct_mono p (show s + 1 ≤ a from q)
    rw [fb_ct_succ, hs] at y
    simp only [if_true] at y
    omega
  · exact q
theorem q_next_k {σ : zS} {q : Nat} {T : Nat → Bool} (h : t_B (σ.2 (q + 2)) T) {s0 s : Nat} (hs : s < 4096) (ht : T s = true) (e : fb_ct T s0 = fb_ct T s) : fX5_next σ q (nI s0) = some (nI s) := q_next h (ct_ord e ht) hs ht (fun _ h1 h2 => ct_gap e h1 h2)
section OUT
variable {σ : zS} {q q1 : Nat} {T : Nat → Bool} {F : List (Nat × Nat)}
theorem q_out_st (hX : h_X σ q F) (hw : h_wf F) (hT : t_B (σ.2 (q1 + 2)) T) {k : Nat} {x : Nat × Nat} (hx : F[k]? = some x) (ht : T x.1 = true) (n : Nat) : fX1_firstOutside_L2 σ q q1 (fun _ => some (-1)) (n + 1) (nI k) = fX1_firstOutside_L2 σ q q1 (fun _ => some (-1)) n (nI (k + 1)) := by
  have hl := hw.1
  have hk := h_at hx
  rw [fX1_firstOutside_L2.eq_2, hX.1, if_neg (z_nle hk.1 (by omega)), z_gd_t (z_in_nI (by omega) (by decide)), nI_clamp (by omega), (hX.2 k x hx).1, z_bd (q_has hT (hw.2.1 x hk.2).1), ht, if_pos rfl, i_f, nI_1]
theorem q_out_no (hX : h_X σ q F) (hw : h_wf F) (hT : t_B (σ.2 (q1 + 2)) T) (h : ∀ x, x ∈ F → T x.1 = true) : fX1_firstOutside σ q q1 = some (-1) := by
  have hl := hw.1
  unfold fX1_firstOutside
  rw [z_i0]
  refine z_findN (fun n v => fX1_firstOutside_L2 σ q q1 (fun _ => some (-1)) n v) F (some (-1)) (fun n k x hx => q_out_st hX hw hT hx (h x (h_at hx).2) n) (fun n => ?_) z_F (by show _ < 5000; omega)
  show fX1_firstOutside_L2 σ q q1 _ (n + 1) (nI F.length) = _
  rw [fX1_firstOutside_L2.eq_2, hX.1, if_pos (nI_le (Nat.le_refl _) (by omega))]
theorem q_out_at (hX : h_X σ q F) (hw : h_wf F) (hT : t_B (σ.2 (q1 + 2)) T) {j : Nat} {y : Nat × Nat} (hj : F[j]? = some y) (hy : T y.1 = false) (h : ∀ k x, F[k]? = some x → k < j → T x.1 = true) : fX1_firstOutside σ q q1 = some (nI y.1) := by
  have hl := hw.1
  have hjl := h_at hj
  unfold fX1_firstOutside
  rw [z_i0]
  refine z_findS (fun n v => fX1_firstOutside_L2 σ q q1 (fun _ => some (-1)) n v) F j (some (nI y.1)) hjl.1 (fun n k x hx hk => q_out_st hX hw hT hx (h k x hx hk) n) (fun n => ?_) z_F (by show _ < 5000; omega)
  show fX1_firstOutside_L2 σ q q1 _ (n + 1) (nI j) = _
  rw [fX1_firstOutside_L2.eq_2, hX.1, if_neg (z_nle hjl.1 (by omega)), z_gd_t (z_in_nI (by omega) (by decide)), nI_clamp (by omega), (hX.2 j y hj).1, z_bd (q_has hT (hw.2.1 y hjl.2).1), hy, if_neg (show ¬ (false = true) by decide), i_t, z_gd_t (z_in_nI (by omega) (by decide))]
end OUT
section VM
variable {μ : zS} {g l : Nat} {a3 : Int32} {W : List Nat} {F : List (Nat × Nat)}
theorem r_ver_st (hg : g < 4) (hM : h_M μ g F) (hw : h_wf F) (hW : r_W μ W) (hl : W.length ≤ 780) (hb : ∀ w, w ∈ W → w < 4096) (h3 : l ≤ 2) (K : Int32 → Option (Int32 × zS)) {k : Nat} {x : Nat × Nat} (hx : F[k]? = some x) (ht : l ≤ f_hit W x.1) (n : Nat) : fX8_verdict_L44 μ (nI g) a3 (nI l) K (n + 1) (nI k) = fX8_verdict_L44 μ (nI g) a3 (nI l) K n (nI (k + 1)) := by
  have hl40 := hw.1
  have hk := h_at hx
  have h2 : f_hit W x.1 ≤ 2 := by
    unfold f_hit
    split
    · split <;> omega
    · omega
  rw [fX8_verdict_L44.eq_2, z_gd_t (r_f4 hg), r_sz hg hM, if_neg (z_nle hk.1 (by omega)), z_bd (r_set_at hM hg hl40 hx), z_bd (r_hits hW hl hb (hw.2.1 x hk.2).1), if_pos (nI_le ht (by omega)), nI_1]
theorem r_ver_no (hg : g < 4) (hM : h_M μ g F) (hw : h_wf F) (hW : r_W μ W) (hl : W.length ≤ 780) (hb : ∀ w, w ∈ W → w < 4096) (h3 : l ≤ 2) (K : Option (Int32 × zS)) (h : ∀ x, x ∈ F → l ≤ f_hit W x.1) : fX8_verdict_L44 μ (nI g) a3 (nI l) (fun _ => K) z_F (nI 0) = K := by
  have hl40 := hw.1
  refine z_findN (fun n v => fX8_verdict_L44 μ (nI g) a3 (nI l) (fun _ => K) n v) F K (fun n k x hx => r_ver_st hg hM hw hW hl hb h3 _ hx (h x (h_at hx).2) n) (fun n => ?_) z_F (by show _ < 5000; omega)
  show fX8_verdict_L44 μ (nI g) a3 (nI l) _ (n + 1) (nI F.length) = _
  rw [fX8_verdict_L44.eq_2, z_gd_t (r_f4 hg), r_sz hg hM, if_pos (nI_le (Nat.le_refl _) (by omega))]
theorem r_ver_at (hg : g < 4) (hM : h_M μ g F) (hw : h_wf F) (hW : r_W μ W) (hl : W.length ≤ 780) (hb : ∀ w, w ∈ W → w < 4096) (h3 : l ≤ 2) (K : Int32 → Option (Int32 × zS)) {j : Nat} {y : Nat × Nat} (hj : F[j]? = some y) (hy : f_hit W y.1 < l) (h : ∀ k x, F[k]? = some x → k < j → l ≤ f_hit W x.1) : fX8_verdict_L44 μ (nI g) a3 (nI l) K z_F (nI 0) = some (if a3 = 0 then nI l else nI y.1, μ) := by
  have hl40 := hw.1
  have hjl := h_at hj
  refine z_findS (fun n v => fX8_verdict_L44 μ (nI g) a3 (nI l) K n v) F j _ hjl.1 (fun n k x hx hk => r_ver_st hg hM hw hW hl hb h3 _ hx (h k x hx hk) n) (fun n => ?_) z_F (by show _ < 5000; omega)
  show fX8_verdict_L44 μ (nI g) a3 (nI l) _ (n + 1) (nI j) = _
  rw [fX8_verdict_L44.eq_2, z_gd_t (r_f4 hg), r_sz hg hM, if_neg (z_nle hjl.1 (by omega)), z_bd (r_set_at hM hg hl40 hj), z_bd (r_hits hW hl hb (hw.2.1 y hjl.2).1), if_neg (z_nle hy (by omega))]
  by_cases e : a3 = 0
  · rw [if_pos e, if_pos e]
  · rw [if_neg e, if_neg e, z_bd (r_set_at hM hg hl40 hj)]
end VM
/-- the first of a family with something, or none -/
theorem h_fst (F : List (Nat × Nat)) (P : Nat → Bool) : (∀ x, x ∈ F → P x.1 = true) ∨ ∃ (j : Nat) (y : Nat × Nat), F[j]? = some y ∧ P y.1 = false ∧ ∀ (k : Nat) (x : Nat × Nat), F[k]? = some x → k < j → P x.1 = true := by
  by_cases h : ∃ (j : Nat), ∃ (y : Nat × Nat), F[j]? = some y ∧ P y.1 = false
  · obtain ⟨j, ⟨y, h1, h2⟩, h3⟩ := pk_least (fun (j : Nat) => ∃ (y : Nat × Nat), F[j]? = some y ∧ P y.1 = false) h
    refine Or.inr ⟨j, y, h1, h2, fun k x hx hk => ?_⟩
    cases e : P x.1
    · exact absurd ⟨x, hx, e⟩ (h3 k hk)
    · rfl
  · refine Or.inl (fun x hx => ?_)
    obtain ⟨k, hk⟩ := List.getElem?_of_mem hx
    cases e : P x.1
    · exact absurd ⟨k, x, hk, e⟩ h
    · rfl
section NH
variable {σ μ : zS} {g : Nat} {T : Nat → Bool} {F : List (Nat × Nat)} {sk : Nat → Nat} {a3 : Int32}
theorem s_nh (hg : g < 4) (hX : h_X σ (7 + g) F) (hM : h_M μ g F) (hw : h_wf F) (hT : t_B (σ.2 90) T) (hL : t_ls μ T) (hsk : ∀ k, k < fb_ct T 4096 → sk k < 4096 ∧ T (sk k) = true ∧ fb_ct T (sk k) = k) (K : Option (Int32 × zS)) : ∀ (d k n m a : Nat) (v : Int32), k + d = fb_ct T 4096 → d < n → d < m → v + 1 = nI a → fb_ct T a = k → (fX7_firstNotHeld_L7 σ 88 (7 + g) (fun _ _ => some (-1)) n v (nI d) = some (-1) ∧ fX8_verdict_L103 μ (nI g) a3 (fun _ => K) m (nI k) = K) ∨ ∃ s, s < 4096 ∧ fX7_firstNotHeld_L7 σ 88 (7 + g) (fun _ _ => some (-1)) n v (nI d) = some (nI s) ∧ fX8_verdict_L103 μ (nI g) a3 (fun _ => K) m (nI k) = some (if a3 = 0 then 3 else nI s, μ) := by
  have hl := hw.1
  have hle := fb_ct_le T 4096
  intro d
  induction d with
  | zero =>
    intro k n m a v h1 h2 h3 h4 h5
    obtain ⟨n, rfl⟩ : ∃ j, n = j + 1 := ⟨n - 1, by omega⟩
    obtain ⟨m, rfl⟩ : ∃ j, m = j + 1 := ⟨m - 1, by omega⟩
    refine Or.inl ⟨by rw [fX7_firstNotHeld_L7.eq_2, if_pos (by decide)], ?_⟩
    rw [fX8_verdict_L103.eq_2, hL.1, if_pos (nI_le (by omega) (by omega))]
  | succ d ih =>
    intro k n m a v h1 h2 h3 h4 h5
    obtain ⟨n, rfl⟩ : ∃ j, n = j + 1 := ⟨n - 1, by omega⟩
    obtain ⟨m, rfl⟩ : ∃ j, m = j + 1 := ⟨m - 1, by omega⟩
    have hk : k < fb_ct T 4096 := by omega
    obtain ⟨a1, a2, a3'⟩ := hsk k hk
    have hp := hL.2 _ a1 a2
    rw [a3'] at hp
    have hnx := q_next_k (q := 88) hT a1 a2 (show fb_ct T a = fb_ct T (sk k) by omega)
    have c0 : ¬ nI (d + 1) ≤ (0 : Int32) := by
      rw [z_i0]
      exact z_nle (by omega) (by omega)
    rw [fX7_firstNotHeld_L7.eq_2, if_neg c0, h4, z_bd hnx, fX8_verdict_L103.eq_2, hL.1, if_neg (z_nle hk (by omega)), z_gd_t (z_in_nI (by omega) (by decide)), nI_clamp (by omega), hp]
    rcases h_dich F (sk k) with hn | ⟨j, t, hj⟩
    · refine Or.inr ⟨sk k, a1, by rw [z_bd (q_place_no hX hw a1 hn), if_pos rfl], ?_⟩
      rw [z_bd (r_place_no hM hg hw a1 hn), if_pos rfl]
      by_cases e : a3 = 0
      · rw [if_pos e, if_pos e]
      · rw [if_neg e, if_neg e, z_gd_t (z_in_nI (by omega) (by decide))]
    · have hjl := (h_at hj).1
      rw [z_bd (q_place_at hX hw a1 hj), if_neg (n_ne_neg (by omega) (by decide)), z_bd (r_place_at hM hg hw a1 hj), if_neg (n_ne_neg (by omega) (by decide)), pk_m1, nI_1]
      refine ih (k + 1) n m (sk k + 1) (nI (sk k)) (by omega) (by omega) (by omega) (nI_1 _) ?_
      rw [fb_ct_succ, a2, a3']
      rfl
end NH
theorem s_verdict_p : s_verdict pP := by
  intro σ μ h a1 a2 a3
  unfold fX7_verdict fX8_verdict
  rcases n_cases a1 (n := 4) (by decide) with ho | ⟨f, hf, rfl⟩
  · rw [z_bd (q_nf1 ho), z_bd (r_isFamily0 ho), i_f, i_t]
    exact ⟨_, _, _, rfl, rfl, h⟩
  rw [z_bd (q_nf0 hf), z_bd (r_isFamily1 hf), i_t, i_f]
  rcases n_cases a2 (n := 4) (by decide) with ho | ⟨g, hg, rfl⟩
  · rw [z_bd (q_nf1 ho), z_bd (r_isFamily0 ho), i_f, i_t]
    exact ⟨_, _, _, rfl, rfl, h⟩
  rw [z_bd (q_nf0 hg), z_bd (r_isFamily1 hg), i_t, i_f]
  rcases n_cases a3 (n := 2) (by decide) with ho | ⟨v, hv, rfl⟩
  · have hb := n_out_int (by decide) ho
    rw [z_bd (r_in0 (by rw [n_i64]; show ¬ ((0 : Int) ≤ _ ∧ _ ≤ (1 : Int)); omega)), i_t]
    rcases ho with ho | ho
    · rw [if_pos ho]
      exact ⟨_, _, _, rfl, rfl, h⟩
    · rw [if_neg (n_nlt0 (by decide) ho), n_1, if_neg (n_nle (by decide) ho)]
      exact ⟨_, _, _, rfl, rfl, h⟩
  rw [z_bd (r_in1 (by rw [n_j (by omega)]; show (0 : Int) ≤ _ ∧ _ ≤ (1 : Int); omega)), i_f, if_neg (nI_pos (by omega)), if_pos (show nI v ≤ (1 : Int32) from nI_le (show v ≤ 1 by omega) (by decide)), z_gd_t (r_f4 hf), nI_clamp (show f < 2 ^ 31 by omega), nI_clamp (show g < 2 ^ 31 by omega)]
  obtain ⟨F0, A0, nr0, u1, u2, u3, u4, u5, u6⟩ := p_un h
  obtain ⟨hX, hM, hw⟩ := u2 f hf
  obtain ⟨b, e, k1, k2, k3⟩ := q_dual hX hw
  obtain ⟨ν, m1, m2, m3, m4⟩ := r_dual hf hM hw
  have hP := pP_s h (n_XJJ (g := b) (h := e)) m4
  have hXg := n_fam hg (u2 g hg).1 (n_XJJ (σ := σ) (g := b) (h := e))
  have hMg := n_famM (u2 g hg).2.1 m4
  have hwg := (u2 g hg).2.2
  have hl780 : ((F0 f).map Prod.fst).length ≤ 780 := by
    rw [List.length_map]
    have := hw.1
    omega
  have hbW := h_map_lt hw
  have hB1 : t_B ((z_fJ (z_fJ σ 89 b) 90 e).2 (87 + 2)) (t_hit ((F0 f).map Prod.fst)) := by rw [z_fJ_n (by decide), z_fJ_s]; exact k2
  have hB2 : t_B ((z_fJ (z_fJ σ 89 b) 90 e).2 (88 + 2)) (t_lst true (t_hit ((F0 f).map Prod.fst))) := by rw [z_fJ_s]; exact k3
  rw [z_bd k1, z_bd m1, z_gd_t (r_f4 hg)]
  generalize z_fJ (z_fJ σ 89 b) 90 e = σ1 at hP hB1 hB2 hXg
  generalize (F0 f).map Prod.fst = W at m2 m3 hl780 hbW hB1 hB2
  have hf1 : ∀ s, (1 ≤ f_hit W s ↔ t_hit W s = true) := fun s => by
    unfold f_hit
    cases t_hit W s
    · simp
    · cases t_lst true (t_hit W) s <;> simp
  have hf2 : ∀ s, (2 ≤ f_hit W s ↔ t_lst true (t_hit W) s = true) := fun s => by
    unfold f_hit
    cases e1 : t_lst true (t_hit W) s
    · cases t_hit W s <;> simp
    · rw [(t_lst_iff.mp e1).1]
      simp
  have lev : ∀ (K : Int32 → Option (Int32 × zS)) (n l : Nat) (z : Int32), z = nI l → l < 3 → fX8_verdict_L35 ν (nI g) (nI v) K (n + 1) z = fX8_verdict_L44 ν (nI g) (nI v) (nI l) (fun _ => fX8_verdict_L35 ν (nI g) (nI v) K n (nI (l + 1))) z_F (nI 0) := by
    intro K n l z hz hl
    rw [hz, fX8_verdict_L35.eq_2, show (3 : Int32) = nI 3 from rfl, if_neg (z_nle hl (by decide)), z_i0, nI_1]
  have nz : ∀ s : Nat, s < 4096 → ¬ nI s = (-1 : Int32) := fun s hs => n_ne_neg (by omega) (by decide)
  have v1 : (nI v = (1 : Int32)) ↔ ¬ nI v = 0 := by
    rw [show (1 : Int32) = nI 1 from rfl, z_i0, nI_eq (by omega) (by decide), nI_eq (by omega) (by decide)]
    omega
  rw [show z_F = 4997 + 1 + 1 + 1 from rfl]
  rw [lev _ _ 1 1 rfl (by decide)]
  rw [show 4997 + 1 + 1 + 1 = z_F from rfl]
  rcases h_fst (F0 g) (t_hit W) with hA | ⟨j, y, hj, hy, hj2⟩
  · rw [z_bd (q_out_no hXg hwg hB1 hA), r_ver_no hg hMg hwg m3 hl780 hbW (by decide) _ (fun x hx => (hf1 _).mpr (hA x hx)), lev _ _ 2 (nI (1 + 1)) rfl (by decide), z_jnE, if_pos rfl]
    rcases h_fst (F0 g) (t_lst true (t_hit W)) with hC | ⟨j, y, hj, hy, hj2⟩
    · rw [z_bd (q_out_no hXg hwg hB2 hC), r_ver_no hg hMg hwg m3 hl780 hbW (by decide) _ (fun x hx => (hf2 _).mpr (hC x hx))]
      rw [fX8_verdict_L35.eq_2, show (3 : Int32) = nI 3 from rfl, if_pos (nI_le (Nat.le_refl _) (by decide))]
      have hle := fb_ct_le (t_lst true (t_hit W)) 4096
      obtain ⟨sk, hsk⟩ := t_seq (t_lst true (t_hit W))
      unfold fX7_firstNotHeld
      rw [z_bd (q_countAll hB2)]
      dsimp only
      rw [if_pos rfl]
      rcases s_nh (a3 := nI v) hg hXg hMg hwg hB2 m2 hsk (if nI v = 0 then some ((0 : Int32), ν) else some ((-1 : Int32), ν)) (fb_ct (t_lst true (t_hit W)) 4096) 0 z_F z_F 0 (-1) (by omega) (by show _ < 5000; omega) (by show _ < 5000; omega) (by decide) rfl with ⟨x1, x2⟩ | ⟨s, hs, x1, x2⟩
      · rw [x1, ← z_i0] at *
        rw [x2]
        by_cases e0 : nI v = 0
        · rw [if_pos e0]
          simp only [Option.bind]
          rw [if_neg (fun q => (v1.mp q) e0), if_pos True.intro]
          exact ⟨_, _, _, rfl, rfl, hP⟩
        · rw [if_neg e0]
          simp only [Option.bind]
          rw [if_pos (v1.mpr e0)]
          exact ⟨_, _, _, rfl, rfl, hP⟩
      · rw [x1, ← z_i0] at *
        rw [x2]
        by_cases e0 : nI v = 0
        · rw [if_pos e0]
          simp only [Option.bind]
          rw [if_neg (fun q => (v1.mp q) e0), if_neg (nz s hs)]
          exact ⟨_, _, _, rfl, rfl, hP⟩
        · rw [if_neg e0]
          simp only [Option.bind]
          rw [if_pos (v1.mpr e0)]
          exact ⟨_, _, _, rfl, rfl, hP⟩
    · have hyl := (hwg.2.1 y (h_at hj).2).1
      rw [z_bd (q_out_at hXg hwg hB2 hj hy hj2), r_ver_at hg hMg hwg m3 hl780 hbW (by decide) _ hj (by
        have := hf2 y.1
        rw [hy] at this
        simp at this
        omega) (fun k x hx hk => (hf2 _).mpr (hj2 k x hx hk))]
      dsimp only
      rw [if_neg (nz _ hyl)]
      by_cases e0 : nI v = 0
      · rw [if_pos e0, if_neg (fun q => (v1.mp q) e0), if_neg (nz _ hyl)]
        exact ⟨_, _, _, rfl, rfl, hP⟩
      · rw [if_neg e0, if_pos (v1.mpr e0)]
        exact ⟨_, _, _, rfl, rfl, hP⟩
  · have hyl := (hwg.2.1 y (h_at hj).2).1
    rw [z_bd (q_out_at hXg hwg hB1 hj hy hj2), r_ver_at hg hMg hwg m3 hl780 hbW (by decide) _ hj (by
      have := hf1 y.1
      rw [hy] at this
      simp at this
      omega) (fun k x hx hk => (hf1 _).mpr (hj2 k x hx hk)), z_jnE, if_neg (nz _ hyl)]
    dsimp only
    rw [if_neg (nz _ hyl)]
    by_cases e0 : nI v = 0
    · rw [if_pos e0, if_neg (fun q => (v1.mp q) e0), if_neg (nz _ hyl)]
      exact ⟨_, _, _, rfl, rfl, hP⟩
    · rw [if_neg e0, if_pos (v1.mpr e0)]
      exact ⟨_, _, _, rfl, rfl, hP⟩
