/-! pure: ranked -/
theorem f_rk_lt {w : Nat → Int32} {i : Nat} : ∀ {n : Nat}, i < n → f_rk w i n < n
  | 0, h => absurd h (Nat.not_lt_zero _)
  | n + 1, h => by
    show (if f_bf w n i then f_rk w i n + 1 else f_rk w i n) < n + 1
    by_cases e : n = i
    · rw [if_neg (by
        intro q
        rw [e] at q
        unfold f_bf at q
        rw [Int32.lt_iff_toInt_lt] at q
        omega)]
      have := f_rk_le w i n
      omega
    · have := f_rk_lt (w := w) (i := i) (n := n) (by omega)
      split <;> omega
theorem f_rk_on {w : Nat → Int32} {n t : Nat} (ht : t < n) : ∃ i, i < n ∧ f_rk w i n = t := by
  by_cases h : ∃ i, i < n ∧ f_rk w i n = t
  · exact h
  · have h1 := n_pig ((List.range n).map (fun i => f_rk w i n)) ((List.range n).erase t) (by
      rw [List.Nodup, List.pairwise_map]
      exact List.Pairwise.imp_of_mem (fun ha hb hab e => hab (f_rk_inj (List.mem_range.mp ha) (List.mem_range.mp hb) e)) List.nodup_range) (fun x hx => by
      obtain ⟨i, hi, rfl⟩ := List.mem_map.mp hx
      have hi := List.mem_range.mp hi
      exact (List.mem_erase_of_ne (fun e => h ⟨i, hi, e⟩)).mpr (List.mem_range.mpr (f_rk_lt hi)))
    rw [List.length_map, List.length_erase_of_mem (List.mem_range.mpr ht), List.length_range] at h1
    omega
theorem f_rk_c {w v : Nat → Int32} {i n : Nat} (h : ∀ q, q < n → w q = v q) (hi : i < n) : f_rk w i n = f_rk v i n := by
  have : ∀ m, m ≤ n → f_rk w i m = f_rk v i m := by
    intro m
    induction m with
    | zero => intro _; rfl
    | succ m ih =>
      intro hm
      show (if f_bf w m i then f_rk w i m + 1 else f_rk w i m) = (if f_bf v m i then f_rk v i m + 1 else f_rk v i m)
      unfold f_bf
      rw [ih (by omega), h m (by omega), h i hi]
  exact this n (Nat.le_refl _)
theorem s_worths {σ μ : zS} {nr r f : Nat} {F : List (Nat × Nat)} (h : pP σ μ) (hn : σ.1 1 2 = nI nr) (hnr : nr ≤ 12) (hr : r < nr) (hf : f < 4) (hX : h_X σ (7 + f) F) (hM : h_M μ f F) (hw : h_wf F) : ∀ (d i n : Nat) (τ ν : zS), i + d = F.length → d < n → n_X σ τ → n_M μ ν → (∀ q, q < i → τ.1 93 q = ν.1 18 q) → ∃ τ' ν', (∀ K : zS → Option (Int32 × zS), fX7_ranked_L48 (nI r) (7 + f) (fun w _ => K w) n τ (nI i) = K τ') ∧ (∀ K : zS → Option (Int32 × zS), fX8_ranked_L21 (nI f) (nI r) (fun w _ => K w) n ν (nI i) = K ν') ∧ n_X σ τ' ∧ n_M μ ν' ∧ ∀ q, q < F.length → τ'.1 93 q = ν'.1 18 q := by
  have hl := hw.1
  intro d
  induction d with
  | zero =>
    intro i n τ ν h1 h2 h3 h4 h5
    obtain ⟨n, rfl⟩ : ∃ j, n = j + 1 := ⟨n - 1, by omega⟩
    have hi : i = F.length := by omega
    subst hi
    exact ⟨τ, ν, fun K => by rw [fX7_ranked_L48.eq_2, (n_fam hf hX h3).1, if_pos (nI_le (Nat.le_refl _) (by omega))], fun K => by rw [fX8_ranked_L21.eq_2, z_gd_t (r_f4 hf), r_sz hf (n_famM hM h4), if_pos (nI_le (Nat.le_refl _) (by omega))], h3, h4, h5⟩
  | succ d ih =>
    intro i n τ ν h1 h2 h3 h4 h5
    obtain ⟨n, rfl⟩ : ∃ j, n = j + 1 := ⟨n - 1, by omega⟩
    have hi : i < F.length := by omega
    have hx : F[i]? = some F[i] := List.getElem?_eq_getElem hi
    have hb := (hw.2.1 _ (h_at hx).2).1
    have hX' := n_fam hf hX h3
    have hM' := n_famM hM h4
    obtain ⟨v, τ1, k1, k2, k3⟩ := q_now (pP_s h h3 h4) (by rw [n_Xf h3 (by omega) (by omega) (by omega) (by omega)]; exact hn) hnr hr hb
    obtain ⟨τ', ν', g1, g2, g3, g4, g5⟩ := ih (i + 1) n (z_sI τ1 93 i v) (z_sI ν 18 i v) (by omega) (by omega) (n_X_tr h3 (n_X_tr (m_n k3) ⟨fun p j hp _ _ _ _ => by rw [z_rd_n (by omega)], fun _ _ => rfl⟩)) (n_M_tr h4 ⟨fun p hp => z_rd_n (by omega), fun k _ => by rw [z_rd_n (by decide)], rfl⟩) (fun q hq => by
      rw [z_rd_s, z_rd_s]
      by_cases e : q = i
      · rw [e, u_s, u_s]
      · rw [u_n e, u_n e, m_f k3 (by omega)]
        exact h5 q (by omega))
    refine ⟨τ', ν', fun K => ?_, fun K => ?_, g3, g4, g5⟩
    · rw [fX7_ranked_L48.eq_2, hX'.1, if_neg (z_nle hi (by omega)), z_gd_t (z_in_nI (by omega) (by decide)), nI_clamp (by omega), (hX'.2 i _ hx).1, z_bd k1, z_gd_t (z_in_nI (by omega) (by decide)), z_ltE, nI_1]
      exact g1 K
    · rw [fX8_ranked_L21.eq_2, z_gd_t (r_f4 hf), r_sz hf hM', if_neg (z_nle hi (by omega)), z_bd (r_set_at hM' hf hl hx), z_bd k2, z_gd_t (z_in_nI (by omega) (by decide)), z_ltE, nI_clamp (by omega), nI_1]
      exact g2 K
