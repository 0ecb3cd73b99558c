/-! pure: tree, node -/
theorem s_tree0 {σ μ : zS} {f : Nat} {w : Int32} {F : List (Nat × Nat)} (hf : f < 4) (hX : h_X σ (7 + f) F) (hM : h_M μ f F) (hw : h_wf F) : ∃ σ' μ' N, fX6_start σ (7 + f) w = some σ' ∧ fX8_findsTree μ (nI f) w = some μ' ∧ w_J σ' μ' w N ∧ N < 2 ^ 20 ∧ n_X σ σ' ∧ n_M μ μ' := by
  have hl := hw.1
  have hlC : (F.map Prod.fst).length = F.length := List.length_map ..
  have hbC := h_map_lt hw
  have hgd : ∀ k, k < F.length → F[k]? = some F[k]! ∧ (F.map Prod.fst).getD k 0 = F[k]!.1 := fun k hk => by
    have h1 : F[k]? = some F[k]! := by rw [List.getElem!_eq_getElem?_getD, List.getElem?_eq_getElem hk]; rfl
    refine ⟨h1, ?_⟩
    rw [List.getD_eq_getElem?_getD, List.getElem?_map, h1]
    rfl
  obtain ⟨c, hc⟩ : ∃ c : Nat → Bool, ∀ k, c k = true ↔ ∀ o, o < (F.map Prod.fst).length → k_ok (F.map Prod.fst) o k := by
    classical
    exact ⟨fun k => decide (∀ o, o < (F.map Prod.fst).length → k_ok (F.map Prod.fst) o k), fun k => decide_eq_true_iff⟩
  have hcp : ∀ k, k < F.length → (c k = true ↔ ¬ f_part F k) := by
    intro k hk
    rw [hc]
    constructor
    · rintro h ⟨j, x, y, h1, h2, h3, h4⟩
      have hj := (h_at h1).1
      have ex : (F.map Prod.fst).getD j 0 = x.1 := by
        rw [(hgd j hj).2]
        have := (hgd j hj).1.symm.trans h1
        rw [Option.some.inj this]
      have ey : (F.map Prod.fst).getD k 0 = y.1 := by
        rw [(hgd k hk).2]
        have := (hgd k hk).1.symm.trans h2
        rw [Option.some.inj this]
      rcases h j (by rw [hlC]; exact hj) with q | q | q
      · exact h3 q
      · rw [ex, ey] at q
        exact h3 (h_first hw h2 h1 q.1)
      · rw [ex, ey] at q
        unfold n_sub at q
        rw [decide_eq_false_iff_not] at q
        exact q h4
    · intro h o ho
      rw [hlC] at ho
      unfold k_ok
      by_cases q : o = k
      · exact Or.inl q
      · right
        right
        rw [(hgd o ho).2, (hgd k hk).2]
        unfold n_sub
        rw [decide_eq_false_iff_not]
        exact fun z => h ⟨o, F[o]!, F[k]!, (hgd o ho).1, (hgd k hk).1, q, z⟩
  obtain ⟨k1, k2⟩ := k_mn hbC hc
  have hle := k_k_le c (F.map Prod.fst) F.length
  rw [hlC] at k1 k2
  have hnd : w_nd (k_k c (F.map Prod.fst) F.length) (k_k c (F.map Prod.fst) F.length) 0 0 := ⟨k2, k2, fun x => Iff.rfl, fun x hx => hbC x ((k1 x).mp hx).1, fun x y hx hy hs => ((k1 y).mp hy).2 x ((k1 x).mp hx).1 hs, by omega, by decide, fun x _ => Nat.and_zero x⟩
  -- the program
  have e0 : ∃ σ0, σ0 = z_sI (z_sI (z_sI (z_sI (z_sI σ 72 1 w) 72 2 0) 72 3 0) 72 4 0) 72 5 0 := ⟨_, rfl⟩
  obtain ⟨σ0, e0⟩ := e0
  have f0 : v_X 0 σ σ0 := by
    rw [e0]
    exact v_X_tr v_X_s (v_X_tr v_X_s (v_X_tr v_X_s (v_X_tr v_X_s v_X_s)))
  have f1 : σ0.1 72 1 = w := by
    rw [e0, z_rd_s, u_n (by decide), z_rd_s, u_n (by decide), z_rd_s, u_n (by decide), z_rd_s, u_n (by decide), z_rd_s, u_s]
  have f2 : σ0.1 72 2 = 0 := by
    rw [e0, z_rd_s, u_n (by decide), z_rd_s, u_n (by decide), z_rd_s, u_n (by decide), z_rd_s, u_s]
  have f3 : σ0.1 72 3 = 0 := by
    rw [e0, z_rd_s, u_n (by decide), z_rd_s, u_n (by decide), z_rd_s, u_s]
  have f4 : σ0.1 72 4 = 0 := by
    rw [e0, z_rd_s, u_n (by decide), z_rd_s, u_s]
  have f5 : σ0.1 72 5 = 0 := by
    rw [e0, z_rd_s, u_s]
  have hX0 : ∀ g, h_X (z_fI σ0 74 g) (7 + f) F := fun g => h_X_c hX (by rw [z_fI_n (by omega), f0.1 _ (by omega) (by omega)]) (by rw [z_fI_n (by omega), f0.1 _ (by omega) (by omega)]) (by rw [z_fI_n (by omega), f0.1 _ (by omega) (by omega)])
  have keyX : ∀ (d k n : Nat) (g : Nat → Int32), k + d = F.length → d < n → w_row g (k_k c (F.map Prod.fst) k) → ∃ g', (∀ K : zS → Int32 → Option zS, fX6_start_L30 (7 + f) (fun w6 x1 _ => K w6 x1) n (z_fI σ0 74 g) (nI (k_k c (F.map Prod.fst) k).length) (nI k) = K (z_fI σ0 74 g') (nI (k_k c (F.map Prod.fst) F.length).length)) ∧ w_row g' (k_k c (F.map Prod.fst) F.length) := by
    intro d
    induction d with
    | zero =>
      intro k n g h1 h2 h3
      obtain ⟨n, rfl⟩ : ∃ j, n = j + 1 := ⟨n - 1, by omega⟩
      have hk : k = F.length := by omega
      subst hk
      exact ⟨g, fun K => by rw [fX6_start_L30.eq_2, (hX0 g).1, if_pos (nI_le (Nat.le_refl _) (by omega))], h3⟩
    | succ d ih =>
      intro k n g h1 h2 h3
      obtain ⟨n, rfl⟩ : ∃ j, n = j + 1 := ⟨n - 1, by omega⟩
      have hk : k < F.length := by omega
      have hkl := k_k_le c (F.map Prod.fst) k
      obtain ⟨hx, hg⟩ := hgd k hk
      have ek : k_k c (F.map Prod.fst) (k + 1) = if c k then k_k c (F.map Prod.fst) k ++ [(F.map Prod.fst).getD k 0] else k_k c (F.map Prod.fst) k := rfl
      rcases q_hasPart (hX0 g) hl hx with ⟨a, b⟩ | ⟨a, b⟩
      · have hcf : c k = false := by
          cases e : c k
          · rfl
          · exact absurd a ((hcp k hk).mp e)
        rw [hcf, if_neg (by decide)] at ek
        obtain ⟨g', p1, p2⟩ := ih (k + 1) n g (by omega) (by omega) (by rw [ek]; exact h3)
        rw [ek] at p1
        refine ⟨g', fun K => ?_, p2⟩
        rw [fX6_start_L30.eq_2, (hX0 g).1, if_neg (z_nle hk (by omega)), z_bd b, i_f, nI_1]
        exact p1 K
      · have hct : c k = true := (hcp k hk).mpr a
        rw [hct, if_pos rfl, hg] at ek
        obtain ⟨g', p1, p2⟩ := ih (k + 1) n (upd g (k_k c (F.map Prod.fst) k).length (nI F[k]!.1)) (by omega) (by omega) (by rw [ek]; exact w_row_s h3)
        rw [ek, List.length_append (bs := [F[k]!.1])] at p1
        refine ⟨g', fun K => ?_, p2⟩
        rw [fX6_start_L30.eq_2, (hX0 g).1, if_neg (z_nle hk (by omega)), z_bd b, i_t, z_gd_t (by decide), z_gd_t (z_in_nI (by omega) (by decide)), z_gd_t (z_in_nI (by omega) (by decide)), z_ltE, show 74 + (0 : Int32).toNatClampNeg = 74 from rfl, nI_clamp (show k < 2 ^ 31 by omega), ((hX0 g).2 k _ hx).1, nI_clamp (by omega), z_sI_fI, nI_1, nI_1]
        exact p1 K
  obtain ⟨g1, x1, x2⟩ := keyX F.length 0 z_F (σ0.1 74) (by omega) (by show _ < 5000; omega) (w_row_0 _)
  have x1' := x1 (fun w6 x1 => (fX6_visit 15 w6 (0 : Int32) x1 (0 : Int32)).bind (fun r1 => some r1))
  rw [z_fI_self] at x1'
  -- the reference
  obtain ⟨μ0, e4⟩ : ∃ μ0, μ0 = z_sI (z_sI (z_sI (z_sI μ 0 20 0) 0 21 0) 0 22 0) 0 23 w := ⟨_, rfl⟩
  have m20 : μ0.1 0 20 = 0 := by
    rw [e4, z_rd_s, u_n (by decide), z_rd_s, u_n (by decide), z_rd_s, u_n (by decide), z_rd_s, u_s]
  have m21 : μ0.1 0 21 = 0 := by
    rw [e4, z_rd_s, u_n (by decide), z_rd_s, u_n (by decide), z_rd_s, u_s]
  have m22 : μ0.1 0 22 = 0 := by
    rw [e4, z_rd_s, u_n (by decide), z_rd_s, u_s]
  have m23 : μ0.1 0 23 = w := by
    rw [e4, z_rd_s, u_s]
  have m_n0 : n_M μ μ0 := by
    rw [e4]
    exact ⟨fun p hp => by rw [z_rd_n (by omega), z_rd_n (by omega), z_rd_n (by omega), z_rd_n (by omega)], fun k hk => by rw [z_rd_s, u_n (by omega), z_rd_s, u_n (by omega), z_rd_s, u_n (by omega), z_rd_s, u_n (by omega)], rfl⟩
  have hM0 : h_M μ0 f F := n_famM hM m_n0
  have keyM : ∀ (d k n : Nat) (v : zS), k + d = F.length → d < n → (∀ j, j < k → v.1 16 j = nI F[j]!.1) → v_r 0 μ0 v → ∃ v', (∀ K : zS → Option zS, fX8_findsTree_L22 (nI f) (fun w5 _ => K w5) n v (nI k) = K v') ∧ w_rm v' 0 (F.map Prod.fst) ∧ v_r 0 μ0 v' := by
    intro d
    induction d with
    | zero =>
      intro k n v h1 h2 h3 h4
      obtain ⟨n, rfl⟩ : ∃ j, n = j + 1 := ⟨n - 1, by omega⟩
      have hk : k = F.length := by omega
      subst hk
      have hMv : h_M v f F := h_M_c hM0 (h4.1 _ (by decide) (by decide)) (h4.1 _ (by decide) (by decide)) (h4.1 _ (by decide) (by decide))
      refine ⟨v, fun K => by rw [fX8_findsTree_L22.eq_2, z_gd_t (r_f4 hf), r_sz hf hMv, if_pos (nI_le (Nat.le_refl _) (by omega))], fun j y hy => ?_, h4⟩
      have hj : j < F.length := by
        have := (List.getElem?_eq_some_iff.mp hy).1
        rw [hlC] at this
        exact this
      have ey : y = F[j]!.1 := by
        rw [← (hgd j hj).2, List.getD_eq_getElem?_getD, hy]
        rfl
      show v.1 16 (40 * 0 + j) = nI y
      rw [ey, Nat.mul_zero, Nat.zero_add]
      exact h3 j hj
    | succ d ih =>
      intro k n v h1 h2 h3 h4
      obtain ⟨n, rfl⟩ : ∃ j, n = j + 1 := ⟨n - 1, by omega⟩
      have hk : k < F.length := by omega
      have hMv : h_M v f F := h_M_c hM0 (h4.1 _ (by decide) (by decide)) (h4.1 _ (by decide) (by decide)) (h4.1 _ (by decide) (by decide))
      obtain ⟨v', p1, p2, p3⟩ := ih (k + 1) n (z_sI v 16 k (nI F[k]!.1)) (by omega) (by omega) (fun j hj => by
        rw [z_rd_s]
        by_cases q : j = k
        · rw [q, u_s]
        · rw [u_n q]
          exact h3 j (by omega)) (v_r_tr h4 (v_r_s (by omega)))
      refine ⟨v', fun K => ?_, p2, p3⟩
      rw [fX8_findsTree_L22.eq_2, z_gd_t (r_f4 hf), r_sz hf hMv, if_neg (z_nle hk (by omega)), z_bd (r_set_at hMv hf hl (hgd k hk).1), z_gd_t (z_in_nI (by omega) (by decide)), z_ltE, nI_clamp (by omega), nI_1]
      exact p1 K
  obtain ⟨μ1, y1, y2, y3⟩ := keyM F.length 0 z_F μ0 (by omega) (by show _ < 5000; omega) (fun j hj => absurd hj (Nat.not_lt_zero j)) v_r_rf
  obtain ⟨μ2, z1, z2, z3⟩ := r_thins y2 (by rw [hlC]; exact hl) hbC (by decide) hc
  rw [hlC] at z1 z2
  have hMv : h_M μ1 f F := h_M_c hM0 (y3.1 _ (by decide) (by decide)) (y3.1 _ (by decide) (by decide)) (y3.1 _ (by decide) (by decide))
  have h20 : μ2.1 0 = μ0.1 0 := by rw [z3.1 0 (by decide) (by decide), y3.1 0 (by decide) (by decide)]
  have h72 : (z_fI σ0 74 g1).1 72 = σ0.1 72 := z_fI_n (by decide)
  obtain ⟨σ', μ', N, v1, v2, v3, v4, v5, v6⟩ := s_visit 15 0 (k_k c (F.map Prod.fst) F.length) (k_k c (F.map Prod.fst) F.length) 0 0 (z_fI σ0 74 g1) μ2 w 0 (by decide) (by decide) (by decide) hnd (fun _ => by
    show w_row ((z_fI σ0 74 g1).1 74) _
    rw [z_fI_s]
    exact x2) z2 (by
    refine ⟨by rw [h72]; exact f1, by rw [h20]; exact m23, by rw [h20]; exact m20, Or.inl ⟨by rw [h72]; exact f5, by rw [h72]; exact f2, by rw [h72, h20, f3, m21], by rw [h72, h20, f4, m22], fun j hj => absurd hj (Nat.not_lt_zero j)⟩⟩)
  refine ⟨σ', μ', N, ?_, ?_, v3, by omega, ?_, ?_⟩
  · unfold fX6_start
    simp only [z_ltE]
    rw [← e0]
    refine Eq.trans x1' ?_
    have v1' : fX6_visit 15 (z_fI σ0 74 g1) (0 : Int32) (nI (k_k c (F.map Prod.fst) F.length).length) (0 : Int32) = some σ' := v1
    rw [v1']
    rfl
  · unfold fX8_findsTree
    simp only [z_ltE]
    rw [← e4]
    refine Eq.trans (y1 (fun w5 => z_gd (z_in (nI f) 4) ((fX8_thins w5 (0 : Int32) (w5.1 2 (nI f).toNatClampNeg)).bind (fun r1 => (fX8_grows 15 r1.2 (0 : Int32) r1.1 (0 : Int32)).bind (fun r2 => some r2))))) ?_
    have z1' : fX8_thins μ1 (0 : Int32) (nI F.length) = some (nI (k_k c (F.map Prod.fst) F.length).length, μ2) := z1
    have v2' : fX8_grows 15 μ2 (0 : Int32) (nI (k_k c (F.map Prod.fst) F.length).length) (0 : Int32) = some μ' := v2
    rw [z_gd_t (r_f4 hf), r_sz hf hMv, z_bd z1']
    dsimp only
    rw [v2']
    rfl
  · refine ⟨fun p i hp _ _ _ _ => ?_, fun p _ => ?_⟩
    · rw [v5.1 p (by omega) (by omega), z_fI_n (by omega), f0.1 p (by omega) (by omega)]
    · rw [v5.2]
      show σ0.2 p = σ.2 p
      rw [f0.2]
  · refine n_M_tr m_n0 ⟨fun p hp => ?_, fun k hk => ?_, ?_⟩
    · rw [v6.1 p (by omega) (by omega) (by omega), z3.1 p (by omega) (by omega), y3.1 p (by omega) (by omega)]
    · rw [v6.2.2.1 k (by omega), h20]
    · rw [v6.2.1, z3.2.1, y3.2.1]
theorem s_tree_p : s_tree pP := by
  intro σ μ h a1 a2
  unfold fX7_tree fX8_tree
  rcases n_cases a1 (n := 4) (by decide) with ho | ⟨f, hf, rfl⟩
  · rw [z_bd (q_nf1 ho), z_bd (r_isFamily0 ho), i_f, i_t]
    exact ⟨_, _, _, rfl, rfl, h⟩
  rw [z_bd (q_nf0 hf), z_bd (r_isFamily1 hf), i_t, i_f]
  rcases n_cases a2 (n := 3) (by decide) with ho | ⟨v, hv, rfl⟩
  · have hb := n_out_int (by decide) ho
    rw [z_bd (r_in0 (by rw [n_i64]; show ¬ ((0 : Int) ≤ _ ∧ _ ≤ (2 : Int)); omega)), i_t]
    rcases ho with ho | ho
    · rw [if_pos ho]
      exact ⟨_, _, _, rfl, rfl, h⟩
    · rw [if_neg (n_nlt0 (by decide) ho), if_neg (show ¬ a2 ≤ (2 : Int32) from n_nle (n := 2) (by decide) ho)]
      exact ⟨_, _, _, rfl, rfl, h⟩
  obtain ⟨F, A, nr, h1, h2, h3, h4, h5, h6⟩ := p_un h
  obtain ⟨hX, hM, hw⟩ := h2 f hf
  obtain ⟨σ', μ', N, k1, k2, ⟨j1, j2, j3, j4⟩, k4, k5, k6⟩ := s_tree0 (w := -1) hf hX hM hw
  rw [z_bd (r_in1 (by rw [n_j (by omega)]; show (0 : Int) ≤ _ ∧ _ ≤ (2 : Int); omega)), i_f, if_neg (nI_pos (by omega)), if_pos (show nI v ≤ (2 : Int32) from nI_le (show v ≤ 2 by omega) (by decide)), z_gd_t (r_f4 hf), nI_clamp (show f < 2 ^ 31 by omega), z_bd k1, z_bd k2]
  have hP := pP_s h k5 k6
  rcases j4 with ⟨_, b2, b3, b4, _⟩ | ⟨_, ⟨j, hj, q⟩, _⟩
  · by_cases q0 : nI v = 0
    · rw [if_pos q0, if_pos q0, b2, j3]
      exact ⟨_, _, _, rfl, rfl, hP⟩
    · rw [if_neg q0, if_neg q0]
      by_cases q1 : nI v = 1
      · rw [if_pos q1, if_pos q1, b3]
        exact ⟨_, _, _, rfl, rfl, hP⟩
      · rw [if_neg q1, if_neg q1, b4]
        exact ⟨_, _, _, rfl, rfl, hP⟩
  · exact absurd q.symm (n_ne_neg (by omega) (by decide))
theorem s_node_p : s_node pP := by
  intro σ μ h a1 a2 a3
  unfold fX7_node fX8_node
  rcases n_cases a1 (n := 4) (by decide) with ho | ⟨f, hf, rfl⟩
  · rw [z_bd (q_nf1 ho), z_bd (r_isFamily0 ho), i_f, i_t]
    exact ⟨_, _, _, rfl, rfl, h⟩
  rw [z_bd (q_nf0 hf), z_bd (r_isFamily1 hf), i_t, i_f]
  rcases n_cases a3 (n := 4) (by decide) with ho | ⟨v, hv, rfl⟩
  · have hb := n_out_int (by decide) ho
    rw [z_bd (r_in0 (by rw [n_i64]; show ¬ ((0 : Int) ≤ _ ∧ _ ≤ (3 : Int)); omega)), i_t]
    rcases ho with ho | ho
    · rw [if_pos ho]
      exact ⟨_, _, _, rfl, rfl, h⟩
    · rw [if_neg (n_nlt0 (by decide) ho), if_neg (show ¬ a3 ≤ (3 : Int32) from n_nle (n := 3) (by decide) ho)]
      exact ⟨_, _, _, rfl, rfl, h⟩
  obtain ⟨F, A, nr, h1, h2, h3, h4, h5, h6⟩ := p_un h
  obtain ⟨hX, hM, hw⟩ := h2 f hf
  obtain ⟨σ', μ', N, k1, k2, ⟨j1, j2, j3, j4⟩, k4, k5, k6⟩ := s_tree0 (w := a2) hf hX hM hw
  have en : (nI N - (1 : Int32)).toInt64.toInt = (N : Int) - 1 := by
    rw [n_i64, n_1, pk_sub_toInt (by omega) (by omega)]
    rfl
  rw [z_bd (r_in1 (by rw [n_j (by omega)]; show (0 : Int) ≤ _ ∧ _ ≤ (3 : Int); omega)), i_f, if_neg (nI_pos (by omega)), if_pos (show nI v ≤ (3 : Int32) from nI_le (show v ≤ 3 by omega) (by decide)), z_gd_t (r_f4 hf), nI_clamp (show f < 2 ^ 31 by omega), z_bd k2, j3]
  have hP := pP_s h k5 k6
  by_cases q : (0 : Int32) ≤ a2
  · rw [if_pos q, z_bd k1]
    rcases j4 with ⟨b1, _, _, _, b5⟩ | ⟨b1, ⟨j, hj, q2⟩, b6, b7, b8, b9⟩
    · have hno : ¬ ((0 : Int64).toInt ≤ a2.toInt64.toInt ∧ a2.toInt64.toInt ≤ (nI N - (1 : Int32)).toInt64.toInt) := by
        rw [en, n_i64]
        intro z
        have z1 : (0 : Int) ≤ a2.toInt := z.1
        have e : a2 = nI a2.toInt.toNat := by
          apply Int32.toInt_inj.mp
          rw [nI_toInt (by omega)]
          omega
        exact b5 a2.toInt.toNat (by omega) e
      rw [if_pos b1, z_bd (r_in0 hno), i_t]
      exact ⟨_, _, _, rfl, rfl, hP⟩
    · rw [if_neg (by rw [b1]; decide), z_bd (r_in1 (by rw [en, q2, n_j (by omega)]; show (0 : Int) ≤ _ ∧ _; omega)), i_f, b6, b7, b8, b9]
      by_cases q0 : nI v = 0
      · rw [if_pos q0, if_pos q0]
        exact ⟨_, _, _, rfl, rfl, hP⟩
      · rw [if_neg q0, if_neg q0]
        by_cases q1 : nI v = 1
        · rw [if_pos q1, if_pos q1]
          exact ⟨_, _, _, rfl, rfl, hP⟩
        · rw [if_neg q1, if_neg q1]
          by_cases q3 : nI v = 2
          · rw [if_pos q3, if_pos q3]
            exact ⟨_, _, _, rfl, rfl, hP⟩
          · rw [if_neg q3, if_neg q3]
            exact ⟨_, _, _, rfl, rfl, hP⟩
  · rw [if_neg q, z_bd (r_in0 (by
      rw [n_i64]
      intro z
      have z1 : (0 : Int) ≤ a2.toInt := z.1
      exact q (Int32.le_iff_toInt_le.mpr z1))), i_t]
    exact ⟨_, _, _, rfl, rfl, pP_s h n_X_rf k6⟩
