/-! pure: the least ones; dual, keys -/
def t_ls (μ : zS) (T : Nat → Bool) : Prop := μ.1 0 18 = nI (fb_ct T 4096) ∧ ∀ s, s < 4096 → T s = true → μ.1 15 (fb_ct T s) = nI s
theorem r_W_n {μ ν : zS} {W : List Nat} (h : r_W μ W) (a : ν.1 0 16 = μ.1 0 16) (b : ν.1 14 = μ.1 14) : r_W ν W := ⟨by rw [a]; exact h.1, fun k x hx => by rw [b]; exact h.2 k x hx⟩
/-- one more is put into the list of the least ones -/
theorem t_ls_s {w : zS} {T : Nat → Bool} {i : Nat} (hi : i < 4096) (ht : T i = true) (h1 : w.1 0 18 = nI (fb_ct T i)) (h2 : ∀ s, s < i → T s = true → w.1 15 (fb_ct T s) = nI s) : (z_sI (z_sI w 15 (fb_ct T i) (nI i)) 0 18 (nI (fb_ct T i + 1))).1 0 18 = nI (fb_ct T (i + 1)) ∧ ∀ s, s < i + 1 → T s = true → (z_sI (z_sI w 15 (fb_ct T i) (nI i)) 0 18 (nI (fb_ct T i + 1))).1 15 (fb_ct T s) = nI s := by
  constructor
  · rw [z_rd_s, u_s, fb_ct_succ, ht]
    rfl
  · intro s hs hts
    rw [z_rd_n (by decide), z_rd_s]
    by_cases e : s = i
    · rw [e, u_s]
    · rw [u_n (fun q => e (fb_ct_kth_one hts ht q))]
      exact h2 s (by omega) hts
theorem t_ls_n {w : zS} {j : Nat} {v u : Int32} : n_M w (z_sI (z_sI w 15 j v) 0 18 u) := ⟨fun p hp => by rw [z_rd_n (by omega), z_rd_n (by omega)], fun k hk => by rw [z_rd_s, u_n (by omega), z_rd_n (by decide)], rfl⟩
theorem r_least {μ : zS} {W : List Nat} (hW : r_W μ W) (hl : W.length ≤ 780) (hb : ∀ w, w ∈ W → w < 4096) : ∃ ν, fX8_findsLeast μ = some ν ∧ t_ls ν (t_lst true (t_hit W)) ∧ r_W ν W ∧ n_M μ ν := by
  have key : ∀ (d i n : Nat) (w : zS), i + d = 4096 → d < n → w.1 0 18 = nI (fb_ct (t_lst true (t_hit W)) i) → (∀ s, s < i → t_lst true (t_hit W) s = true → w.1 15 (fb_ct (t_lst true (t_hit W)) s) = nI s) → r_W w W → n_M μ w → ∃ w', fX8_findsLeast_L7 (fun w2 _ => some w2) n w (nI i) = some w' ∧ t_ls w' (t_lst true (t_hit W)) ∧ r_W w' W ∧ n_M μ w' := by
    intro d
    induction d with
    | zero =>
      intro i n w h1 h2 h3 h4 h5 h6
      obtain ⟨n, rfl⟩ : ∃ j, n = j + 1 := ⟨n - 1, by omega⟩
      have hi : i = 4096 := by omega
      subst hi
      exact ⟨w, by rw [fX8_findsLeast_L7.eq_2, show (4096 : Int32) = nI 4096 from rfl, if_pos (nI_le (Nat.le_refl _) (by decide))], ⟨h3, h4⟩, h5, h6⟩
    | succ d ih =>
      intro i n w h1 h2 h3 h4 h5 h6
      obtain ⟨n, rfl⟩ : ∃ j, n = j + 1 := ⟨n - 1, by omega⟩
      have hi : i < 4096 := by omega
      have hc := fb_ct_le (t_lst true (t_hit W)) i
      rw [fX8_findsLeast_L7.eq_2, show (4096 : Int32) = nI 4096 from rfl, if_neg (z_nle hi (by decide)), z_bd (r_hits h5 hl hb hi), nI_1]
      cases ht : t_lst true (t_hit W) i
      · have e : ¬ nI (f_hit W i) = (2 : Int32) := by
          unfold f_hit
          rw [ht]
          cases t_hit W i <;> decide
        rw [if_neg e]
        refine ih (i + 1) n w (by omega) (by omega) (by rw [fb_ct_succ, ht]; exact h3) (fun s hs hts => h4 s ?_ hts) h5 h6
        have : s ≠ i := fun q => by rw [q, ht] at hts; cases hts
        omega
      · have e : nI (f_hit W i) = (2 : Int32) := by
          unfold f_hit
          rw [ht, (t_lst_iff.mp ht).1]
          decide
        obtain ⟨k1, k2⟩ := t_ls_s hi ht h3 h4
        rw [if_pos e, h3, z_gd_t (z_in_nI (by omega) (by decide)), z_ltE, nI_clamp (by omega), z_rd_n (show 0 ≠ 15 by decide), h3, z_ltE, nI_1]
        exact ih (i + 1) n _ (by omega) (by omega) k1 k2 (r_W_n h5 (by rw [z_rd_s, u_n (by decide), z_rd_n (by decide)]) (by rw [z_rd_n (by decide), z_rd_n (by decide)])) (n_M_tr h6 t_ls_n)
  unfold fX8_findsLeast
  rw [z_ltE, z_i0]
  exact key 4096 0 z_F _ (by omega) (by show _ < 5000; omega) (by rw [z_rd_s, u_s]; rfl) (fun s hs => absurd hs (Nat.not_lt_zero s)) (r_W_n hW (by rw [z_rd_s, u_n (by decide)]) (by rw [z_rd_n (by decide)])) ⟨fun p hp => by rw [z_rd_n (by omega)], fun k hk => by rw [z_rd_s, u_n (by omega)], rfl⟩
theorem h_map_lt {F : List (Nat × Nat)} (hw : h_wf F) : ∀ w, w ∈ F.map Prod.fst → w < 4096 := fun w h => by
  obtain ⟨x, hx, rfl⟩ := List.mem_map.mp h
  exact (hw.2.1 x hx).1
theorem r_dual {μ : zS} {f : Nat} {F : List (Nat × Nat)} (hf : f < 4) (hM : h_M μ f F) (hw : h_wf F) : ∃ ν, fX8_findsDual μ (nI f) = some ν ∧ t_ls ν (t_lst true (t_hit (F.map Prod.fst))) ∧ r_W ν (F.map Prod.fst) ∧ n_M μ ν := by
  have hl := hw.1
  obtain ⟨ν1, a1, a2, a3⟩ := r_wants hf hM hl
  obtain ⟨ν2, b1, b2, b3, b4⟩ := r_least a2 (by rw [List.length_map]; omega) (h_map_lt hw)
  refine ⟨ν2, ?_, b2, b3, n_M_tr a3 b4⟩
  unfold fX8_findsDual
  rw [z_bd a1, z_bd b1]
theorem r_at_m1 {μ : zS} {T : Nat → Bool} (h : t_ls μ T) : fX8_leastAt μ (-1) = some (nI (fb_ct T 4096)) := by
  unfold fX8_leastAt
  rw [if_pos rfl, h.1]
theorem s_listed {σ μ : zS} {q : Nat} {T : Nat → Bool} (h : t_B (σ.2 (q + 2)) T) (g : t_ls μ T) (k : Int32) : ∃ r, fX7_listed σ q k = some r ∧ fX8_leastAt μ k = some r := by
  have hle := fb_ct_le T 4096
  by_cases h1 : k = -1
  · subst h1
    exact ⟨_, q_listed_m1 h, r_at_m1 g⟩
  · have e2 : (nI (fb_ct T 4096) - (1 : Int32)).toInt64.toInt = (fb_ct T 4096 : Int) - 1 := by
      rw [n_i64, n_1, pk_sub_toInt (by omega) (by omega)]
      rfl
    rcases n_cases k (n := fb_ct T 4096) (by omega) with ho | ⟨j, hj, rfl⟩
    · refine ⟨_, q_listed_no h h1 ho, ?_⟩
      unfold fX8_leastAt
      have a := n_out_int (by omega) ho
      rw [if_neg h1, g.1, z_bd (r_in0 (by rw [n_i64, e2]; show ¬ ((0 : Int) ≤ _ ∧ _); omega)), i_t]
    · obtain ⟨s, hs, ht, e⟩ := fb_ct_kth hj
      subst e
      refine ⟨_, q_listed_at h hs ht, ?_⟩
      unfold fX8_leastAt
      rw [if_neg h1, g.1, z_bd (r_in1 (by rw [n_j (by omega), e2]; show (0 : Int) ≤ _ ∧ _; omega)), i_f, z_gd_t (z_in_nI (by omega) (by decide)), nI_clamp (by omega), g.2 s hs ht]
theorem n_XJ {σ : zS} {p : Nat} {g : Nat → Int64} (hp : 72 ≤ p) : n_X σ (z_fJ σ p g) := ⟨fun _ _ _ _ _ _ _ => rfl, fun q hq => z_fJ_n (by omega)⟩
theorem n_XJJ {σ : zS} {g h : Nat → Int64} : n_X σ (z_fJ (z_fJ σ 89 g) 90 h) := n_X_tr (n_XJ (by decide)) (n_XJ (by decide))
theorem s_dual_p : s_dual pP := by
  intro σ μ h a1 a2
  unfold fX7_dual fX8_dual
  rcases n_cases a1 (n := 4) (by decide) with ho | ⟨f, hf, rfl⟩
  · rw [z_bd (q_nf1 ho), z_bd (r_isFamily0 ho), i_f, i_t]
    exact ⟨_, _, _, rfl, rfl, h⟩
  obtain ⟨F, A, nr, h1, h2, h3, h4, h5, h6⟩ := p_un h
  obtain ⟨hX, hM, hw⟩ := h2 f hf
  obtain ⟨g, e, k1, k2, k3⟩ := q_dual hX hw
  obtain ⟨ν, m1, m2, m3, m4⟩ := r_dual hf hM hw
  obtain ⟨r, l1, l2⟩ := s_listed (σ := z_fJ (z_fJ σ 89 g) 90 e) (q := 88) (by rw [z_fJ_s]; exact k3) m2 a2
  rw [z_bd (q_nf0 hf), z_bd (r_isFamily1 hf), i_t, i_f, z_gd_t (r_f4 hf), nI_clamp (by omega), z_bd k1, z_bd l1, z_bd m1, z_bd l2]
  exact ⟨_, _, _, rfl, rfl, pP_s h n_XJJ m4⟩
theorem d_pr_len (F : List (Nat × Nat)) : ∀ k, k ≤ F.length → 2 * (d_pr F k).length = k * (k - 1)
  | 0, _ => rfl
  | k + 1, hk => by
    have ih := d_pr_len F k (by omega)
    show 2 * (d_pr F k ++ (F.take k).map (fun y => (F.getD k (0, 0)).1 ^^^ y.1)).length = (k + 1) * k
    rw [List.length_append, List.length_map, List.length_take, Nat.min_eq_left (by omega), Nat.mul_add, ih, Nat.add_mul, Nat.one_mul]
    cases k with
    | zero => rfl
    | succ k =>
      rw [Nat.add_sub_cancel, Nat.mul_comm (k + 1) k, Nat.add_mul k 1 (k + 1)]
      omega
theorem d_pr_le {F : List (Nat × Nat)} (hl : F.length ≤ 40) {k : Nat} (hk : k ≤ F.length) : (d_pr F k).length ≤ 780 := by
  have h := d_pr_len F k hk
  have : k * (k - 1) ≤ 40 * 39 := Nat.mul_le_mul (by omega) (by omega)
  omega
theorem d_pr_lt {F : List (Nat × Nat)} (hw : h_wf F) : ∀ k, k ≤ F.length → ∀ w, w ∈ d_pr F k → w < 4096
  | 0, _, w, h => by cases h
  | k + 1, hk, w, h => by
    rcases List.mem_append.mp h with h | h
    · exact d_pr_lt hw k (by omega) w h
    · obtain ⟨y, hy, rfl⟩ := List.mem_map.mp h
      refine n_xlt ?_ (hw.2.1 y (List.mem_of_mem_take hy)).1
      have : F[k]? = some (F.getD k (0, 0)) := by
        rw [List.getD_eq_getElem?_getD, List.getElem?_eq_getElem (by omega)]
        rfl
      exact (hw.2.1 _ (h_at this).2).1
/-- one more is wanted -/
theorem r_W_s {w : zS} {W : List Nat} {x : Nat} (h : r_W w W) : r_W (z_sI (z_sI w 14 W.length (nI x)) 0 16 (nI (W.length + 1))) (W ++ [x]) := by
  refine ⟨by rw [z_rd_s, u_s, List.length_append]; rfl, fun k y hy => ?_⟩
  rw [z_rd_n (by decide), z_rd_s]
  by_cases hk : k < W.length
  · rw [List.getElem?_append_left hk] at hy
    rw [u_n (by omega)]
    exact h.2 k y hy
  · rw [List.getElem?_append_right (by omega)] at hy
    have h0 : k - W.length < 1 := (List.getElem?_eq_some_iff.mp hy).1
    have hk2 : k = W.length := by omega
    subst hk2
    rw [Nat.sub_self] at hy
    cases hy
    rw [u_s]
theorem r_pairs {μ : zS} {f : Nat} {F : List (Nat × Nat)} (hf : f < 4) (hM : h_M μ f F) (hw : h_wf F) (K : zS → Option (Int32 × zS)) : ∀ (d a n : Nat) (w : zS), a + d = F.length → d < n → r_W w (d_pr F a) → n_M μ w → ∃ w', fX8_keys_L17 (nI f) (fun w2 _ => K w2) n w (nI a) = K w' ∧ r_W w' (d_pr F F.length) ∧ n_M μ w' := by
  have hl := hw.1
  intro d
  induction d with
  | zero =>
    intro a n w h1 h2 h3 h4
    obtain ⟨n, rfl⟩ : ∃ j, n = j + 1 := ⟨n - 1, by omega⟩
    have ha : a = F.length := by omega
    subst ha
    exact ⟨w, by rw [fX8_keys_L17.eq_2, z_gd_t (r_f4 hf), r_sz hf (n_famM hM h4), if_pos (nI_le (Nat.le_refl _) (by omega))], h3, h4⟩
  | succ d ih =>
    intro a n w h1 h2 h3 h4
    obtain ⟨n, rfl⟩ : ∃ j, n = j + 1 := ⟨n - 1, by omega⟩
    have ha : a < F.length := by omega
    have hga : F[a]? = some (F.getD a (0, 0)) := by
      rw [List.getD_eq_getElem?_getD, List.getElem?_eq_getElem ha]
      rfl
    have inner : ∀ (e b m : Nat) (v : zS), b + e = a → e < m → r_W v (d_pr F a ++ (F.take b).map (fun y => (F.getD a (0, 0)).1 ^^^ y.1)) → n_M μ v → ∃ v', fX8_keys_L30 (nI f) (nI a) (fun w1 _ => fX8_keys_L17 (nI f) (fun w2 _ => K w2) n w1 (nI a + 1)) m v (nI b) = fX8_keys_L17 (nI f) (fun w2 _ => K w2) n v' (nI a + 1) ∧ r_W v' (d_pr F (a + 1)) ∧ n_M μ v' := by
      intro e
      induction e with
      | zero =>
        intro b m v g1 g2 g3 g4
        obtain ⟨m, rfl⟩ : ∃ j, m = j + 1 := ⟨m - 1, by omega⟩
        have hb : b = a := by omega
        subst hb
        exact ⟨v, by rw [fX8_keys_L30.eq_2, if_pos (nI_le (Nat.le_refl _) (by omega))], g3, g4⟩
      | succ e ihe =>
        intro b m v g1 g2 g3 g4
        obtain ⟨m, rfl⟩ : ∃ j, m = j + 1 := ⟨m - 1, by omega⟩
        have hb : b < F.length := by omega
        have hgb : F[b]? = some F[b] := List.getElem?_eq_getElem hb
        have hM' := n_famM hM g4
        have hlen : (d_pr F a ++ (F.take b).map (fun y => (F.getD a (0, 0)).1 ^^^ y.1)).length < 780 := by
          have q := d_pr_le hl (show a + 1 ≤ F.length by omega)
          have q2 : (d_pr F (a + 1)).length = (d_pr F a).length + a := by
            show (d_pr F a ++ (F.take a).map (fun y => (F.getD a (0, 0)).1 ^^^ y.1)).length = _
            rw [List.length_append, List.length_map, List.length_take, Nat.min_eq_left (by omega)]
          rw [List.length_append, List.length_map, List.length_take, Nat.min_eq_left (by omega)]
          omega
        have g5 := r_W_s (x := (F.getD a (0, 0)).1 ^^^ F[b].1) g3
        have eL : d_pr F a ++ (F.take b).map (fun y => (F.getD a (0, 0)).1 ^^^ y.1) ++ [(F.getD a (0, 0)).1 ^^^ F[b].1] = d_pr F a ++ (F.take (b + 1)).map (fun y => (F.getD a (0, 0)).1 ^^^ y.1) := by
          rw [List.take_succ_eq_append_getElem hb, List.map_append, List.append_assoc]
          rfl
        rw [eL] at g5
        obtain ⟨v', k1, k2, k3⟩ := ihe (b + 1) m _ (by omega) (by omega) g5 (n_M_tr g4 ⟨fun p hp => by rw [z_rd_n (by omega), z_rd_n (by omega)], fun k hk => by rw [z_rd_s, u_n (by omega), z_rd_n (by decide)], rfl⟩)
        refine ⟨v', ?_, k2, k3⟩
        rw [fX8_keys_L30.eq_2, if_neg (z_nle (show b < a by omega) (by omega)), z_bd (r_set_at hM' hf hl hga), z_bd (r_set_at hM' hf hl hgb), g3.1, z_gd_t (z_in_nI hlen (by decide)), b_xor, z_ltE, nI_clamp (by omega), z_rd_n (show 0 ≠ 14 by decide), g3.1, z_ltE, nI_1 (List.length _), nI_1 b]
        exact k1
    obtain ⟨v', k1, k2, k3⟩ := inner a 0 z_F w (by omega) (by show _ < 5000; omega) (by rw [List.take_zero, List.map_nil, List.append_nil]; exact h3) h4
    obtain ⟨w', j1, j2, j3⟩ := ih (a + 1) n v' (by omega) (by omega) k2 k3
    refine ⟨w', ?_, j2, j3⟩
    rw [fX8_keys_L17.eq_2, z_gd_t (r_f4 hf), r_sz hf (n_famM hM h4), if_neg (z_nle ha (by omega)), z_i0, k1, nI_1]
    exact j1
theorem s_keys_p : s_keys pP := by
  intro σ μ h a1 a2
  unfold fX7_keys fX8_keys
  rcases n_cases a1 (n := 4) (by decide) with ho | ⟨f, hf, rfl⟩
  · rw [z_bd (q_nf1 ho), z_bd (r_isFamily0 ho), i_f, i_t]
    exact ⟨_, _, _, rfl, rfl, h⟩
  obtain ⟨F, A, nr, h1, h2, h3, h4, h5, h6⟩ := p_un h
  obtain ⟨hX, hM, hw⟩ := h2 f hf
  have hl := hw.1
  obtain ⟨g, k1, k2⟩ := q_telling (q := 87) hX hw
  obtain ⟨e, j1, j2⟩ := q_least (σ := z_fJ σ 89 g) (q0 := 88) (q1 := 87) (by decide) (by rw [z_fJ_s]; exact k2)
  obtain ⟨w, m1, m2, m3⟩ := r_pairs hf hM hw (fun w2 => (fX8_findsLeast w2).bind (fun r2 => (fX8_leastAt r2 a2).bind (fun r3 => some (r3, r2)))) (F f).length 0 z_F (z_sI μ 0 16 (nI 0)) (by omega) (by show _ < 5000; omega) ⟨by rw [z_rd_s, u_s]; rfl, fun k x hx => by cases hx⟩ ⟨fun p hp => by rw [z_rd_n (by omega)], fun k hk => by rw [z_rd_s, u_n (by omega)], rfl⟩
  obtain ⟨ν, n1, n2, n3, n4⟩ := r_least m2 (d_pr_le hl (Nat.le_refl _)) (d_pr_lt hw _ (Nat.le_refl _))
  obtain ⟨r, l1, l2⟩ := s_listed (σ := z_fJ (z_fJ σ 89 g) 90 e) (q := 88) (by rw [z_fJ_s]; exact j2) n2 a2
  rw [z_bd (q_nf0 hf), z_bd (r_isFamily1 hf), i_t, i_f, z_gd_t (r_f4 hf), nI_clamp (by omega), z_bd k1, z_bd j1, z_bd l1, z_ltE, z_i0, m1, z_bd n1, z_bd l2]
  exact ⟨_, _, _, rfl, rfl, pP_s h n_XJJ (n_M_tr m3 n4)⟩
