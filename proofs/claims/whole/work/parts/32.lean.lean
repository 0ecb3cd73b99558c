/-! pure: lean -/
def f_kf (c : Nat → Bool) : Nat → List (Nat × Nat) → List (Nat × Nat)
  | _, [] => []
  | i, x :: r => if c i then f_kf c (i + 1) r else x :: f_kf c (i + 1) r
theorem f_kf_app (c : Nat → Bool) : ∀ (A B : List (Nat × Nat)) (i : Nat), f_kf c i (A ++ B) = f_kf c i A ++ f_kf c (i + A.length) B
  | [], B, i => rfl
  | x :: A, B, i => by
    rw [List.cons_append]
    show (if c i then f_kf c (i + 1) (A ++ B) else x :: f_kf c (i + 1) (A ++ B)) = (if c i then f_kf c (i + 1) A else x :: f_kf c (i + 1) A) ++ f_kf c (i + (A.length + 1)) B
    rw [f_kf_app c A B (i + 1), show i + 1 + A.length = i + (A.length + 1) by omega]
    cases c i
    · rw [if_neg (by decide), if_neg (by decide)]
      rfl
    · rw [if_pos rfl, if_pos rfl]
theorem f_kf_sub (c : Nat → Bool) : ∀ (A : List (Nat × Nat)) (i : Nat), List.Sublist (f_kf c i A) A
  | [], i => List.Sublist.refl _
  | x :: A, i => by
    show List.Sublist (if c i then f_kf c (i + 1) A else x :: f_kf c (i + 1) A) (x :: A)
    cases c i
    · rw [if_neg (by decide)]
      exact (f_kf_sub c A (i + 1)).cons_cons x
    · rw [if_pos rfl]
      exact (f_kf_sub c A (i + 1)).cons x
theorem h_wf_sub {A F : List (Nat × Nat)} (h : List.Sublist A F) (hw : h_wf F) : h_wf A := ⟨Nat.le_trans h.length_le hw.1, fun x hx => hw.2.1 x (h.subset hx), List.Nodup.sublist (h.map Prod.fst) hw.2.2⟩
theorem f_kf_take {c : Nat → Bool} {F : List (Nat × Nat)} {i : Nat} (hi : i < F.length) : f_kf c 0 (F.take (i + 1)) = if c i then f_kf c 0 (F.take i) else f_kf c 0 (F.take i) ++ [F[i]] := by
  rw [List.take_succ_eq_append_getElem hi, f_kf_app, List.length_take, Nat.min_eq_left (by omega), Nat.zero_add]
  show f_kf c 0 (F.take i) ++ (if c i then [] else [F[i]]) = _
  cases c i
  · rfl
  · rw [if_pos rfl, if_pos rfl, List.append_nil]
section LEAN
variable {σ μ : zS} {f : Nat} {F : List (Nat × Nat)} {c : Nat → Bool}
theorem q_lean (hf : f < 4) (hw : h_wf F) (hc : ∀ k, c k = true ↔ f_part F k) (K : zS → Option (Int32 × zS)) : ∀ (d i n : Nat) (w : zS), i + d = F.length → d < n → h_X w (7 + f) F → h_X w 15 (f_kf c 0 (F.take i)) → ∃ w', fX7_lean_L35 (7 + f) (nI F.length) (fun w _ => K w) n w (nI i) = K w' ∧ h_X w' 15 (f_kf c 0 F) ∧ h_off 15 w w' := by
  have hl := hw.1
  intro d
  induction d with
  | zero =>
    intro i n w h1 h2 h3 h4
    obtain ⟨n, rfl⟩ : ∃ j, n = j + 1 := ⟨n - 1, by omega⟩
    have hi : i = F.length := by omega
    subst hi
    rw [List.take_length] at h4
    exact ⟨w, by rw [fX7_lean_L35.eq_2, if_pos (nI_le (Nat.le_refl _) (by omega))], h4, h_off_rf⟩
  | succ d ih =>
    intro i n w h1 h2 h3 h4
    obtain ⟨n, rfl⟩ : ∃ j, n = j + 1 := ⟨n - 1, by omega⟩
    have hi : i < F.length := by omega
    have hx : F[i]? = some F[i] := List.getElem?_eq_getElem hi
    have hk := f_kf_take (c := c) hi
    rw [fX7_lean_L35.eq_2, if_neg (z_nle hi (by omega)), nI_1]
    rcases q_hasPart h3 hl hx with ⟨a, b⟩ | ⟨a, b⟩
    · rw [if_pos ((hc i).mpr a)] at hk
      rw [z_bd b, i_f]
      exact ih (i + 1) n w (by omega) (by omega) h3 (by rw [hk]; exact h4)
    · have hcf : ¬ c i = true := fun e => a ((hc i).mp e)
      rw [if_neg hcf] at hk
      have hlen : (f_kf c 0 (F.take i)).length ≤ i := by
        have := (f_kf_sub c (F.take i) 0).length_le
        rw [List.length_take] at this
        omega
      obtain ⟨w1, g1, g2, g3⟩ := q_append (s := F[i].1) (t := F[i].2) h4 (by omega)
      have e2 : h_X w1 (7 + f) F := h_X_c h3 (g3.1 _ (by omega) (by omega) (by omega)) (g3.1 _ (by omega) (by omega) (by omega)) (g3.1 _ (by omega) (by omega) (by omega))
      obtain ⟨w2, k1, k2, k3⟩ := ih (i + 1) n w1 (by omega) (by omega) e2 (by rw [hk]; exact g2)
      refine ⟨w2, ?_, k2, h_off_tr g3 k3⟩
      rw [z_bd b, i_t, z_gd_t (z_in_nI (by omega) (by decide)), z_gd_t (z_in_nI (by omega) (by decide)), nI_clamp (by omega), (h3.2 i _ hx).1, (h3.2 i _ hx).2, z_bd g1]
      exact k1
/-- only place 13 has changed -/
def o_13 (μ ν : zS) : Prop := (∀ p, p ≠ 13 → ν.1 p = μ.1 p) ∧ ν.2 = μ.2
theorem r_lean1 (hf : f < 4) (hw : h_wf F) (hc : ∀ k, c k = true ↔ f_part F k) (K : zS → Int32 → Option (Int32 × zS)) : ∀ (d i n : Nat) (w : zS), i + d = F.length → d < n → h_M w f F → (∀ j, j < i → w.1 13 j = if c j then 1 else 0) → ∃ w', fX8_lean_L14 (nI f) (fun w x _ => K w x) n w (nI (i - (f_kf c 0 (F.take i)).length)) (nI i) = K w' (nI (F.length - (f_kf c 0 F).length)) ∧ (∀ j, j < F.length → w'.1 13 j = if c j then 1 else 0) ∧ o_13 w w' := by
  have hl := hw.1
  intro d
  induction d with
  | zero =>
    intro i n w h1 h2 h3 h4
    obtain ⟨n, rfl⟩ : ∃ j, n = j + 1 := ⟨n - 1, by omega⟩
    have hi : i = F.length := by omega
    subst hi
    rw [List.take_length]
    exact ⟨w, by rw [fX8_lean_L14.eq_2, z_gd_t (r_f4 hf), r_sz hf h3, if_pos (nI_le (Nat.le_refl _) (by omega))], h4, fun _ _ => rfl, rfl⟩
  | succ d ih =>
    intro i n w h1 h2 h3 h4
    obtain ⟨n, rfl⟩ : ∃ j, n = j + 1 := ⟨n - 1, by omega⟩
    have hi : i < F.length := by omega
    have hx : F[i]? = some F[i] := List.getElem?_eq_getElem hi
    have hk := f_kf_take (c := c) hi
    have hlen : (f_kf c 0 (F.take i)).length ≤ i := by
      have := (f_kf_sub c (F.take i) 0).length_le
      rw [List.length_take] at this
      omega
    rw [fX8_lean_L14.eq_2, z_gd_t (r_f4 hf), r_sz hf h3, if_neg (z_nle hi (by omega)), nI_1]
    have step : ∀ v : Int32, v = (if c i then 1 else 0) → ∃ w', fX8_lean_L14 (nI f) (fun w x _ => K w x) n (z_sI w 13 i v) (nI (i + 1 - (f_kf c 0 (F.take (i + 1))).length)) (nI (i + 1)) = K w' (nI (F.length - (f_kf c 0 F).length)) ∧ (∀ j, j < F.length → w'.1 13 j = if c j then 1 else 0) ∧ o_13 w w' := by
      intro v hv
      obtain ⟨w2, k1, k2, k3⟩ := ih (i + 1) n (z_sI w 13 i v) (by omega) (by omega) (h_M_c h3 (z_rd_n (by decide)) (z_rd_n (by decide)) (z_rd_n (by decide))) (fun j hj => by
        rw [z_rd_s]
        by_cases e : j = i
        · rw [e, u_s, hv]
        · rw [u_n e]
          exact h4 j (by omega))
      exact ⟨w2, k1, k2, fun p hp => (k3.1 p hp).trans (z_rd_n hp), k3.2⟩
    rcases r_hasPart hf h3 hl hx with ⟨a, b⟩ | ⟨a, b⟩
    · rw [if_pos ((hc i).mpr a)] at hk
      obtain ⟨w', e1, e2⟩ := step 1 (by rw [if_pos ((hc i).mpr a)])
      refine ⟨w', ?_, e2⟩
      rw [z_bd b, z_gd_t (z_in_nI (by omega) (by decide)), z_gd_t (by decide), nI_clamp (by omega)]
      simp only [z_ltE]
      rw [z_gd_t (z_in_nI (by omega) (by decide)), z_rd_s, u_s, i_f, nI_1, ← e1, hk, show i - (f_kf c 0 (F.take i)).length + 1 = i + 1 - (f_kf c 0 (F.take i)).length by omega]
    · have hcf : ¬ c i = true := fun e => a ((hc i).mp e)
      rw [if_neg hcf] at hk
      obtain ⟨w', e1, e2⟩ := step 0 (by rw [if_neg hcf])
      refine ⟨w', ?_, e2⟩
      rw [z_bd b, z_gd_t (z_in_nI (by omega) (by decide)), z_gd_t (by decide), nI_clamp (by omega)]
      simp only [z_ltE]
      rw [z_gd_t (z_in_nI (by omega) (by decide)), z_rd_s, u_s, i_t, Int32.add_zero, ← e1, hk, List.length_append, show i + 1 - ((f_kf c 0 (F.take i)).length + [F[i]].length) = i - (f_kf c 0 (F.take i)).length by show i + 1 - ((f_kf c 0 (F.take i)).length + 1) = _; omega]
theorem r_lean2 (hf : f < 4) (hw : h_wf F) (K : zS → Option (Int32 × zS)) : ∀ (i n : Nat) (w : zS), i ≤ F.length → i < n → h_M w f (F.take i ++ f_kf c i (F.drop i)) → (∀ j, j < F.length → w.1 13 j = if c j then 1 else 0) → ∃ w', fX8_lean_L68 (nI f) (fun w _ => K w) n w (nI i - 1) = K w' ∧ h_M w' f (f_kf c 0 F) ∧ h_mf f w w' := by
  have hl := hw.1
  intro i
  induction i with
  | zero =>
    intro n w h1 h2 h3 h4
    obtain ⟨n, rfl⟩ : ∃ j, n = j + 1 := ⟨n - 1, by omega⟩
    exact ⟨w, by rw [fX8_lean_L68.eq_2, if_pos (by decide)], h3, h_mf_rf⟩
  | succ i ih =>
    intro n w h1 h2 h3 h4
    obtain ⟨n, rfl⟩ : ∃ j, n = j + 1 := ⟨n - 1, by omega⟩
    have hi : i < F.length := by omega
    have hd : F.drop i = F[i] :: F.drop (i + 1) := List.drop_eq_getElem_cons hi
    have ht : F.take (i + 1) = F.take i ++ [F[i]] := List.take_succ_eq_append_getElem hi
    have hlt : (F.take i).length = i := by rw [List.length_take]; omega
    have em : nI i + (-1) = nI i - 1 := (Int32.sub_eq_add_neg (nI i) 1).symm
    rw [fX8_lean_L68.eq_2, nI_pred, if_neg (nI_pos (by omega)), z_gd_t (z_in_nI (by omega) (by decide)), nI_clamp (by omega), h4 i hi, em]
    have hk : f_kf c i (F.drop i) = if c i then f_kf c (i + 1) (F.drop (i + 1)) else F[i] :: f_kf c (i + 1) (F.drop (i + 1)) := by rw [hd]; rfl
    cases e : c i
    · rw [if_neg (show ¬ (false = true) by decide), i_t]
      rw [e, if_neg (show ¬ (false = true) by decide)] at hk
      refine ih n w (by omega) (by omega) ?_ h4
      rw [hk, show F.take i ++ F[i] :: f_kf c (i + 1) (F.drop (i + 1)) = (F.take i ++ [F[i]]) ++ f_kf c (i + 1) (F.drop (i + 1)) by rw [List.append_assoc]; rfl, ← ht]
      exact h3
    · rw [if_pos (show true = true from rfl), i_f]
      rw [e, if_pos (show true = true from rfl)] at hk
      have hlen : (F.take (i + 1) ++ f_kf c (i + 1) (F.drop (i + 1))).length ≤ 40 := by
        have := (f_kf_sub c (F.drop (i + 1)) (i + 1)).length_le
        rw [List.length_drop] at this
        rw [List.length_append, List.length_take]
        omega
      obtain ⟨w1, g1, g2, g3⟩ := r_drops (j := i) h3 hf hlen (by rw [List.length_append, ht, List.length_append, hlt]; show i < i + 1 + _; omega)
      have eq : (F.take (i + 1) ++ f_kf c (i + 1) (F.drop (i + 1))).eraseIdx i = F.take i ++ f_kf c i (F.drop i) := by
        rw [hk, ht, List.append_assoc, List.eraseIdx_append_of_length_le (by omega), hlt, Nat.sub_self]
        rfl
      rw [eq] at g2
      obtain ⟨w2, k1, k2, k3⟩ := ih n w1 (by omega) (by omega) g2 (fun j hj => by rw [g3.1 13 (by decide) (by decide) (by decide)]; exact h4 j hj)
      exact ⟨w2, by rw [z_bd g1]; exact k1, k2, h_mf_tr g3 k3⟩
end LEAN
theorem s_lean_p : s_lean pP := by
  intro σ μ h a1
  unfold fX7_lean fX8_lean
  rcases n_cases a1 (n := 4) (by decide) with ho | ⟨f, hf, rfl⟩
  · rw [z_bd (q_nf1 ho), z_bd (r_isFamily0 ho), i_f, i_t]
    exact ⟨_, _, _, rfl, rfl, h⟩
  obtain ⟨F, A, nr, h1, h2, h3, h4, h5, h6⟩ := p_un h
  obtain ⟨hX, hM, hw⟩ := h2 f hf
  have hl := hw.1
  rw [z_bd (q_nf0 hf), z_bd (r_isFamily1 hf), i_t, i_f, z_gd_t (r_f4 hf), nI_clamp (by omega), hX.1, z_ltE]
  obtain ⟨c, hc⟩ : ∃ c : Nat → Bool, ∀ k, c k = true ↔ f_part (F f) k := by
    classical
    exact ⟨fun k => decide (f_part (F f) k), fun k => decide_eq_true_iff⟩
  obtain ⟨τ0, a1, a2, a3⟩ := q_clear (σ := σ) (q := 15)
  have hX0 : h_X τ0 (7 + f) (F f) := h_X_c hX (a3.1 _ (by omega) (by omega) (by omega)) (a3.1 _ (by omega) (by omega) (by omega)) (a3.1 _ (by omega) (by omega) (by omega))
  obtain ⟨τ1, b1, b2, b3⟩ := q_lean hf hw hc (fun w1 => (fX1_become w1 (7 + f) 15).bind (fun r3 => (fX0_forgetAll r3).bind (fun r4 => some ((nI (F f).length - (r4.1 (7 + f) 2)), r4)))) (F f).length 0 z_F τ0 (by omega) (by show _ < 5000; omega) hX0 a2
  have hs := f_kf_sub c (F f) 0
  have hlH := hs.length_le
  obtain ⟨τ2, e1, e2, e3⟩ := q_become (q := 7 + f) b2 (by omega) (by omega) (by omega) (by omega)
  rw [z_bd a1, z_i0, b1, z_bd e1, z_bd (o_all τ2), z_rd_n (show 7 + f ≠ 59 by omega), e2.1, pk_sub hlH]
  obtain ⟨ν1, m1, m2, m3⟩ := r_lean1 hf hw hc (fun w1 x1 => z_gd (z_in (nI f) 4) (z_lt ((w1.1 2 f) - (1 : Int32)) (fun (x3 : Int32) => fX8_lean_L68 (nI f) (fun (w2 : zS) (_ : Int32) => z_lt (z_sI w2 0 10 (0 : Int32)) (fun (w3 : zS) => some (x1, w3))) z_F w1 x3))) (F f).length 0 z_F μ (by omega) (by show _ < 5000; omega) hM (fun j hj => absurd hj (Nat.not_lt_zero j))
  have hM1 : h_M ν1 f (F f) := h_M_c hM (m3.1 _ (by decide)) (m3.1 _ (by decide)) (m3.1 _ (by decide))
  obtain ⟨ν2, p1, p2, p3⟩ := r_lean2 (c := c) hf hw (fun (w2 : zS) => z_lt (z_sI w2 0 10 (0 : Int32)) (fun (w3 : zS) => some (nI ((F f).length - (f_kf c 0 (F f)).length), w3))) (F f).length z_F ν1 (Nat.le_refl _) (by show _ < 5000; omega) (by rw [List.take_length, List.drop_length]; show h_M ν1 f (F f ++ []); rw [List.append_nil]; exact hM1) m2
  have em : fX8_lean_L14 (nI f) (fun (w1 : zS) (x1 : Int32) (x2 : Int32) => z_gd (z_in (nI f) 4) (z_lt ((w1.1 2 f) - (1 : Int32)) (fun (x3 : Int32) => fX8_lean_L68 (nI f) (fun (w2 : zS) (_ : Int32) => z_lt (z_sI w2 0 10 (0 : Int32)) (fun (w3 : zS) => some (x1, w3))) z_F w1 x3))) z_F μ (nI 0) (nI 0) = some (nI ((F f).length - (f_kf c 0 (F f)).length), z_sI ν2 0 10 0) := by
    refine Eq.trans m1 ?_
    show z_gd _ _ = _
    rw [z_gd_t (r_f4 hf), z_ltE, hM1.1, p1, z_ltE]
  refine ⟨_, _, _, rfl, em, p_mk (F := h_pt F f (f_kf c 0 (F f))) (A := []) (nr := nr) ?_ ?_ (o_all_h τ2) (o_alm_h ν2) (by decide) trivial⟩
  · have k15 : ∀ {x y : zS}, h_off 15 x y → k_X x y := fun hh => ⟨fun p i hp _ => by
      unfold l_X at hp
      rw [hh.1 p (by omega) (by omega) (by omega)], fun p _ => by rw [hh.2]⟩
    exact p_rs_c h1 (k_X_tr (k15 a3) (k_X_tr (k15 b3) (k_X_tr (h_off_k hf e3) (o_ac_k (o_all_o τ2))))) (k_M_tr ⟨fun p hp => m3.1 p (by omega), fun k _ => by rw [m3.1 0 (by decide)], by rw [m3.2]⟩ (k_M_tr (h_mf_k p3) (o_mc_k (o_alm_o ν2))))
  · have q1 : p_fa τ1 ν1 F := p_fa_c h2 (fun p _ _ => by
      have e : ∀ r, r ≠ 15 → r ≠ 24 → r ≠ 33 → τ1.1 r = σ.1 r := fun r r1 r2 r3 => (b3.1 r r1 r2 r3).trans (a3.1 r r1 r2 r3)
      exact ⟨e _ (by omega) (by omega) (by omega), e _ (by omega) (by omega) (by omega), e _ (by omega) (by omega) (by omega)⟩) ⟨m3.1 _ (by decide), m3.1 _ (by decide), m3.1 _ (by decide)⟩
    exact p_fa_o (p_put hf q1 e3 p3 e2 p2 (h_wf_sub hs hw)) (o_all_o τ2) (o_alm_o ν2)
