/-! pure: border -/
section SU
variable {μ : zS} {f s : Nat} {F : List (Nat × Nat)}
theorem r_supp (hf : f < 4) (hM : h_M μ f F) (hw : h_wf F) : fX8_supportOf μ (nI f) (nI s) = some (nI (f_su F s)) := by
  have hl := hw.1
  unfold fX8_supportOf f_su
  have h := z_up (fun n (x : Int32 × Int32) => fX8_supportOf_L5 μ (nI f) (nI s) (fun x1 _ => some x1) n x.1 x.2) (fun i => (nI (u_sm (fun x => n_sub s x.1) (F.take i)), nI i)) F.length (some (nI (u_sm (fun x => n_sub s x.1) F))) ?_ (fun n => ?_) 0 z_F (Nat.zero_le _) (by show F.length < 5000 + 0; omega)
  · exact h
  · intro n i hi
    have hx : F[i]? = some F[i] := List.getElem?_eq_getElem hi
    show fX8_supportOf_L5 μ (nI f) (nI s) _ (n + 1) (nI (u_sm (fun x => n_sub s x.1) (F.take i))) (nI i) = fX8_supportOf_L5 μ (nI f) (nI s) _ n (nI (u_sm (fun x => n_sub s x.1) (F.take (i + 1)))) (nI (i + 1))
    rw [fX8_supportOf_L5.eq_2, z_gd_t (r_f4 hf), r_sz hf hM, if_neg (z_nle hi (by omega)), z_bd (r_set_at hM hf hl hx), z_bd (q_sub s F[i].1).2, u_sm_tk hi, nI_1]
    cases e : n_sub s F[i].1
    · rw [if_pos (show o_b false = 0 from rfl), z_ltE, Int32.add_zero]
      rfl
    · rw [if_neg (show ¬ o_b true = 0 by decide), n_40k, z_gd_t (z_in_nI (by omega) (by decide)), z_ltE, nI_clamp (by omega), h_M2 hM hx, nI_add]
      rfl
  · show fX8_supportOf_L5 μ (nI f) (nI s) _ (n + 1) (nI (u_sm (fun x => n_sub s x.1) (F.take F.length))) (nI F.length) = _
    rw [List.take_length, fX8_supportOf_L5.eq_2, z_gd_t (r_f4 hf), r_sz hf hM, if_pos (nI_le (Nat.le_refl _) (by omega))]
end SU
theorem n_XI {σ : zS} {p : Nat} {g : Nat → Int32} (hp : 72 ≤ p) : n_X σ (z_fI σ p g) := ⟨fun q i hq _ _ _ _ => by rw [z_fI_n (by omega)], fun _ _ => rfl⟩
/-- what is common, in the reference's row -/
def r_C (μ : zS) (C : Nat → Bool) : Prop := ∀ s, s < 4096 → μ.1 17 s = o_b (C s)
theorem r_comm {μ : zS} {f t : Nat} {F : List (Nat × Nat)} (hf : f < 4) (hM : h_M μ f F) (hw : h_wf F) (ht : t ≤ 4000) (K : zS → Option (Int32 × zS)) : ∃ w', fX8_border_L35 (nI f) (nI t) (fun w1 _ => K w1) z_F μ (nI 0) = K w' ∧ r_C w' (fun s => decide (t ≤ f_su F s)) ∧ n_M μ w' := by
  have key : ∀ (d i n : Nat) (w : zS), i + d = 4096 → d < n → (∀ s, s < i → w.1 17 s = o_b (decide (t ≤ f_su F s))) → n_M μ w → ∃ w', fX8_border_L35 (nI f) (nI t) (fun w1 _ => K w1) n w (nI i) = K w' ∧ r_C w' (fun s => decide (t ≤ f_su F s)) ∧ n_M μ w' := by
    intro d
    induction d with
    | zero =>
      intro i n w h1 h2 h3 h4
      obtain ⟨n, rfl⟩ : ∃ j, n = j + 1 := ⟨n - 1, by omega⟩
      have hi : i = 4096 := by omega
      subst hi
      exact ⟨w, by rw [fX8_border_L35.eq_2, show (4096 : Int32) = nI 4096 from rfl, if_pos (nI_le (Nat.le_refl _) (by decide))], h3, h4⟩
    | succ d ih =>
      intro i n w h1 h2 h3 h4
      obtain ⟨n, rfl⟩ : ∃ j, n = j + 1 := ⟨n - 1, by omega⟩
      have hi : i < 4096 := by omega
      have hsu : f_su F i ≤ 3960 := u_sm_wf hw
      have step : ∀ v : Int32, v = o_b (decide (t ≤ f_su F i)) → ∃ w', fX8_border_L35 (nI f) (nI t) (fun w1 _ => K w1) n (z_sI w 17 i v) (nI (i + 1)) = K w' ∧ r_C w' (fun s => decide (t ≤ f_su F s)) ∧ n_M μ w' := fun v hv => ih (i + 1) n (z_sI w 17 i v) (by omega) (by omega) (fun s hs => by
        rw [z_rd_s]
        by_cases q : s = i
        · rw [q, u_s, hv]
        · rw [u_n q]
          exact h3 s (by omega)) (n_M_tr h4 ⟨fun p hp => by rw [z_rd_n (by omega)], fun k _ => by rw [z_rd_n (by decide)], rfl⟩)
      rw [fX8_border_L35.eq_2, show (4096 : Int32) = nI 4096 from rfl, if_neg (z_nle hi (by decide)), z_bd (r_supp hf (n_famM hM h4) hw), nI_1]
      by_cases c : t ≤ f_su F i
      · rw [if_neg (nI_nlt c (by omega)), z_gd_t (z_in_nI (by omega) (by decide)), z_gd_t (by decide), z_ltE, nI_clamp (by omega)]
        exact step 1 (by rw [decide_eq_true c]; rfl)
      · rw [if_pos (nI_lt (by omega) (by omega)), z_gd_t (z_in_nI (by omega) (by decide)), z_gd_t (by decide), z_ltE, nI_clamp (by omega)]
        exact step 0 (by rw [decide_eq_false c]; rfl)
  exact key 4096 0 z_F μ (by omega) (by show _ < 5000; omega) (fun s hs => absurd hs (Nat.not_lt_zero s)) n_M_rf
/-- what a border is made of: side 0 what is common, side 1 what isn't -/
def f_bd (C : Nat → Bool) (v : Nat) (s : Nat) : Bool := C s == (v == 0)
theorem o_b_eq (b c : Bool) : (o_b b = o_b c) ↔ b = c := by cases b <;> cases c <;> decide
theorem r_isB {μ : zS} {C : Nat → Bool} {s v : Nat} (hC : r_C μ C) (hs : s < 4096) (hv : v < 2) : fX8_isBorder μ (nI s) (nI v) = some (o_b (t_lst (v == 1) (f_bd C v) s)) := by
  have hvc : v = 0 ∨ v = 1 := by omega
  have hjn : ∀ {α : Type} (j : Int32 → α), z_jn j (fun j1 => (if nI v = 0 then j1 (1 : Int32) else j1 (0 : Int32))) = j (o_b (v == 0)) := fun j => by
    rw [z_jnE]
    rcases hvc with rfl | rfl
    · rw [if_pos (by decide)]
      rfl
    · rw [if_neg (by decide)]
      rfl
  have hjn2 : ∀ {α : Type} (j : Int32 → α), z_jn j (fun j1 => (if nI v = (1 : Int32) then j1 (1 : Int32) else j1 (0 : Int32))) = j (o_b (v == 1)) := fun j => by
    rw [z_jnE]
    rcases hvc with rfl | rfl
    · rw [if_neg (by decide)]
      rfl
    · rw [if_pos (by decide)]
      rfl
  have hhas : ∀ p, p < 12 → fX8_has (nI s) (nI p) = some (o_b (s.testBit p)) := fun p hp => by
    cases e : s.testBit p
    · exact r_has0 (by omega) (by omega) e
    · exact r_has1 (by omega) (by omega) e
  have step : ∀ (n p : Nat), p < 12 → (s.testBit p = (v == 1) → f_bd C v (s ^^^ 2 ^ p) = false) → fX8_isBorder_L22 μ (nI s) (nI v) (fun _ => some 1) (n + 1) (nI p) = fX8_isBorder_L22 μ (nI s) (nI v) (fun _ => some 1) n (nI (p + 1)) := by
    intro n p hp hno
    have hx := n_xs hs hp
    have hpw : 2 ^ p < 2 ^ 31 := wb_lt2 (by omega)
    rw [fX8_isBorder_L22.eq_2, n_12, if_neg (z_nle hp (by decide)), b_one (by omega), b_xor, z_ltE, z_bd (hhas p hp), hjn2, nI_1]
    by_cases e : s.testBit p = (v == 1)
    · have hc := hno e
      unfold f_bd at hc
      rw [if_pos (by rw [e]), z_gd_t (z_in_nI hx (by decide)), nI_clamp (by omega), hC _ hx]
      rcases hvc with rfl | rfl
      · rw [if_pos (by decide), if_neg]
        intro q
        revert hc
        cases ec : C (s ^^^ 2 ^ p)
        · rw [ec] at q
          exact absurd q (by decide)
        · decide
      · rw [if_neg (by decide), if_neg]
        intro q
        revert hc
        cases ec : C (s ^^^ 2 ^ p)
        · decide
        · rw [ec] at q
          exact absurd q (by decide)
    · rw [if_neg (fun q => e ((o_b_eq _ _).mp q))]
  unfold fX8_isBorder
  rw [z_gd_t (z_in_nI hs (by decide)), hjn, nI_clamp (by omega), hC s hs]
  cases hb : f_bd C v s
  · have e1 : t_lst (v == 1) (f_bd C v) s = false := by
      cases q : t_lst (v == 1) (f_bd C v) s
      · rfl
      · rw [(t_lst_iff.mp q).1] at hb
        cases hb
    rw [e1, if_neg (fun q => by
      have := (o_b_eq _ _).mp q
      unfold f_bd at hb
      rw [this] at hb
      revert hb
      cases (v == 0) <;> decide)]
    rfl
  · have e0 : o_b (C s) = o_b (v == 0) := by
      unfold f_bd at hb
      rw [eq_of_beq hb]
    rw [if_pos e0, z_i0]
    cases ht : t_lst (v == 1) (f_bd C v) s
    · have hex : ∃ p, p < 12 ∧ s.testBit p = (v == 1) ∧ f_bd C v (s ^^^ 2 ^ p) = true := Classical.byContradiction fun q => by
        have : t_lst (v == 1) (f_bd C v) s = true := t_lst_iff.mpr ⟨hb, fun p hp hc => by
          cases e : f_bd C v (s ^^^ 2 ^ p)
          · rfl
          · exact absurd ⟨p, hp, hc, e⟩ q⟩
        rw [ht] at this
        cases this
      obtain ⟨p, ⟨h1, h2, h3⟩, h4⟩ := pk_least (fun p => p < 12 ∧ s.testBit p = (v == 1) ∧ f_bd C v (s ^^^ 2 ^ p) = true) hex
      refine z_up (fun n v' => fX8_isBorder_L22 μ (nI s) (nI v) (fun _ => some 1) n v') (fun i => nI i) p (some (o_b false)) (fun n i hi => step n i (by omega) (fun q => ?_)) (fun n => ?_) 0 z_F (Nat.zero_le _) (by show p < 5000 + 0; omega)
      · cases e : f_bd C v (s ^^^ 2 ^ i)
        · rfl
        · exact absurd ⟨by omega, q, e⟩ (h4 i hi)
      · have hx := n_xs hs h1
        show fX8_isBorder_L22 μ (nI s) (nI v) _ (n + 1) (nI p) = _
        unfold f_bd at h3
        have h3 := eq_of_beq h3
        rw [fX8_isBorder_L22.eq_2, n_12, if_neg (z_nle h1 (by decide)), b_one (by omega), b_xor, z_ltE, z_bd (hhas p h1), hjn2, h2, if_pos rfl, z_gd_t (z_in_nI hx (by decide)), nI_clamp (by omega), hC _ hx, h3]
        rcases hvc with rfl | rfl
        · rw [if_pos (by decide), if_pos (by decide)]
          rfl
        · rw [if_neg (by decide), if_pos (by decide)]
          rfl
    · have hall := (t_lst_iff.mp ht).2
      refine z_up (fun n v' => fX8_isBorder_L22 μ (nI s) (nI v) (fun _ => some 1) n v') (fun i => nI i) 12 (some (o_b true)) (fun n i hi => step n i hi (fun q => hall i hi q)) (fun n => ?_) 0 z_F (Nat.zero_le _) (by show 12 < 5000 + 0; decide)
      show fX8_isBorder_L22 μ (nI s) (nI v) _ (n + 1) (nI 12) = _
      rw [fX8_isBorder_L22.eq_2, n_12, if_pos (nI_le (Nat.le_refl _) (by decide))]
      rfl
theorem r_bord {μ : zS} {C : Nat → Bool} {v : Nat} (hv : v < 2) (K : zS → Option (Int32 × zS)) : ∀ (d i n : Nat) (w : zS), i + d = 4096 → d < n → w.1 0 18 = nI (fb_ct (t_lst (v == 1) (f_bd C v)) i) → (∀ s, s < i → t_lst (v == 1) (f_bd C v) s = true → w.1 15 (fb_ct (t_lst (v == 1) (f_bd C v)) s) = nI s) → r_C w C → n_M μ w → ∃ w', fX8_border_L80 (nI v) (fun w1 _ => K w1) n w (nI i) = K w' ∧ t_ls w' (t_lst (v == 1) (f_bd C v)) ∧ n_M μ w' := by
  intro d
  induction d with
  | zero =>
    intro i n w h1 h2 h3 h4 h5 h6
    obtain ⟨n, rfl⟩ : ∃ j, n = j + 1 := ⟨n - 1, by omega⟩
    have hi : i = 4096 := by omega
    subst hi
    exact ⟨w, by rw [fX8_border_L80.eq_2, show (4096 : Int32) = nI 4096 from rfl, if_pos (nI_le (Nat.le_refl _) (by decide))], ⟨h3, h4⟩, h6⟩
  | succ d ih =>
    intro i n w h1 h2 h3 h4 h5 h6
    obtain ⟨n, rfl⟩ : ∃ j, n = j + 1 := ⟨n - 1, by omega⟩
    have hi : i < 4096 := by omega
    have hc := fb_ct_le (t_lst (v == 1) (f_bd C v)) i
    rw [fX8_border_L80.eq_2, show (4096 : Int32) = nI 4096 from rfl, if_neg (z_nle hi (by decide)), z_bd (r_isB h5 hi hv), nI_1]
    cases ht : t_lst (v == 1) (f_bd C v) i
    · rw [if_pos (show o_b false = 0 from rfl)]
      refine ih (i + 1) n w (by omega) (by omega) (by rw [fb_ct_succ, ht]; exact h3) (fun s hs hts => h4 s ?_ hts) h5 h6
      have : s ≠ i := fun q => by rw [q, ht] at hts; cases hts
      omega
    · obtain ⟨k1, k2⟩ := t_ls_s hi ht h3 h4
      rw [if_neg (show ¬ o_b true = 0 by decide), h3, z_gd_t (z_in_nI (by omega) (by decide)), z_ltE, nI_clamp (by omega), z_rd_n (show 0 ≠ 15 by decide), h3, z_ltE, nI_1]
      exact ih (i + 1) n _ (by omega) (by omega) k1 k2 (fun s hs => by
        rw [z_rd_n (by decide), z_rd_n (by decide)]
        exact h5 s hs) (n_M_tr h6 t_ls_n)
theorem s_border_p : s_border pP := by
  intro σ μ h a1 a2 a3 a4
  unfold fX7_border fX8_border
  rcases n_cases a1 (n := 4) (by decide) with ho | ⟨f, hf, rfl⟩
  · rw [z_bd (q_nf1 ho), z_bd (r_isFamily0 ho), i_f, i_t]
    exact ⟨_, _, _, rfl, rfl, h⟩
  rw [z_bd (q_nf0 hf), z_bd (r_isFamily1 hf), i_t, i_f]
  rcases n_cases a2 (n := 4001) (by decide) with ho | ⟨t, ht, rfl⟩
  · have hb := n_out_int (by decide) ho
    rw [z_bd (r_in0 (by rw [n_i64]; show ¬ ((0 : Int) ≤ _ ∧ _ ≤ (4000 : Int)); omega)), i_t]
    rcases ho with ho | ho
    · rw [if_pos ho]
      exact ⟨_, _, _, rfl, rfl, h⟩
    · rw [if_neg (n_nlt0 (by decide) ho), if_pos (show (4000 : Int32) < a2 from Int32.lt_iff_toInt_lt.mpr (by
        have e : (4000 : Int32).toInt = 4000 := rfl
        have := n_ge (by decide) ho
        omega))]
      exact ⟨_, _, _, rfl, rfl, h⟩
  rw [z_bd (r_in1 (by rw [n_j (by omega)]; show (0 : Int) ≤ _ ∧ _ ≤ (4000 : Int); omega)), i_f, if_neg (nI_pos (by omega)), if_neg (show ¬ (4000 : Int32) < nI t from nI_nlt (show t ≤ 4000 by omega) (by decide))]
  rcases n_cases a3 (n := 2) (by decide) with ho | ⟨v, hv, rfl⟩
  · have hb := n_out_int (by decide) ho
    rw [z_bd (r_in0 (by rw [n_i64]; show ¬ ((0 : Int) ≤ _ ∧ _ ≤ (1 : Int)); omega)), i_t]
    rcases ho with ho | ho
    · rw [if_pos ho]
      exact ⟨_, _, _, rfl, rfl, h⟩
    · rw [if_neg (n_nlt0 (by decide) ho), if_neg (show ¬ a3 ≤ (1 : Int32) from n_nle (n := 1) (by decide) ho)]
      exact ⟨_, _, _, rfl, rfl, h⟩
  rw [z_bd (r_in1 (by rw [n_j (by omega)]; show (0 : Int) ≤ _ ∧ _ ≤ (1 : Int); omega)), i_f, if_neg (nI_pos (by omega)), if_pos (show nI v ≤ (1 : Int32) from nI_le (show v ≤ 1 by omega) (by decide)), z_gd_t (r_f4 hf), nI_clamp (show f < 2 ^ 31 by omega)]
  obtain ⟨F, A, nr, h1, h2, h3, h4, h5, h6⟩ := p_un h
  obtain ⟨hX, hM, hw⟩ := h2 f hf
  obtain ⟨g, e, k1, k2⟩ := q_common hX hw (by omega) (show t ≤ 4000 by omega)
  obtain ⟨ν1, m1, m2, m3⟩ := r_comm hf hM hw (show t ≤ 4000 by omega) (fun w1 => z_lt (z_sI w1 0 18 (0 : Int32)) (fun (w2 : zS) => fX8_border_L80 (nI v) (fun (w3 : zS) (x2 : Int32) => (fX8_leastAt w3 a4).bind (fun r4 => some (r4, w3))) z_F w2 (0 : Int32)))
  generalize hC : (fun s => decide (t ≤ f_su (F f) s)) = C at k2 m2
  obtain ⟨ν2, n1, n2, n3⟩ := r_bord (μ := μ) (C := C) hv (fun w3 => (fX8_leastAt w3 a4).bind (fun r4 => some (r4, w3))) 4096 0 z_F (z_sI ν1 0 18 (nI 0)) (by omega) (by show _ < 5000; omega) (by rw [z_rd_s, u_s]; rfl) (fun s hs => absurd hs (Nat.not_lt_zero s)) (fun s hs => by rw [z_rd_n (by decide)]; exact m2 s hs) (n_M_tr m3 ⟨fun p hp => by rw [z_rd_n (by omega)], fun k hk => by rw [z_rd_s, u_n (by omega)], rfl⟩)
  have eM : fX8_border_L35 (nI f) (nI t) (fun (w1 : zS) (x1 : Int32) => z_lt (z_sI w1 0 18 (0 : Int32)) (fun (w2 : zS) => fX8_border_L80 (nI v) (fun (w3 : zS) (x2 : Int32) => (fX8_leastAt w3 a4).bind (fun r4 => some (r4, w3))) z_F w2 (0 : Int32))) z_F μ (0 : Int32) = (fX8_leastAt ν2 a4).bind (fun r4 => some (r4, ν2)) := by
    refine Eq.trans m1 ?_
    rw [z_ltE]
    exact n1
  have hnX : ∀ e2, n_X σ (z_fJ (z_fJ (z_fI σ 91 g) 89 e) 90 e2) := fun e2 => n_X_tr (n_X_tr (n_XI (p := 91) (g := g) (by decide)) (n_XJ (by decide))) (n_XJ (by decide))
  rw [z_bd k1, eM]
  have hvc : v = 0 ∨ v = 1 := by omega
  rcases hvc with rfl | rfl
  · obtain ⟨e2, j1, j2⟩ := q_great (σ := z_fJ (z_fI σ 91 g) 89 e) (q0 := 88) (q1 := 87) (by decide) (by rw [z_fJ_s]; exact k2)
    have j3 : t_B ((z_fJ (z_fJ (z_fI σ 91 g) 89 e) 90 e2).2 (88 + 2)) (t_lst ((0 : Nat) == 1) (f_bd C 0)) := by
      rw [z_fJ_s]
      refine t_cg j2 (fun s hs => t_lst_c (fun u _ => ?_) hs)
      unfold f_bd
      cases C u <;> rfl
    obtain ⟨r, l1, l2⟩ := s_listed j3 n2 a4
    rw [if_pos (by decide), z_bd j1, z_bd l1, z_bd l2]
    exact ⟨_, _, _, rfl, rfl, pP_s h (hnX e2) n3⟩
  · obtain ⟨e1, i1, i2⟩ := q_flip (σ := z_fJ (z_fI σ 91 g) 89 e) (q := 87) (by rw [z_fJ_s]; exact k2)
    rw [z_fJ_fJ] at i1
    obtain ⟨e2, j1, j2⟩ := q_least (σ := z_fJ (z_fI σ 91 g) 89 e1) (q0 := 88) (q1 := 87) (by decide) (by rw [z_fJ_s]; exact i2)
    have j3 : t_B ((z_fJ (z_fJ (z_fI σ 91 g) 89 e1) 90 e2).2 (88 + 2)) (t_lst ((1 : Nat) == 1) (f_bd C 1)) := by
      rw [z_fJ_s]
      refine t_cg j2 (fun s hs => t_lst_c (fun u _ => ?_) hs)
      unfold f_bd
      cases C u <;> rfl
    obtain ⟨r, l1, l2⟩ := s_listed j3 n2 a4
    rw [if_neg (by decide), z_bd i1, z_bd j1, z_bd l1, z_bd l2]
    refine ⟨_, _, _, rfl, rfl, pP_s h (n_X_tr (n_X_tr (n_XI (p := 91) (g := g) (by decide)) (n_XJ (p := 89) (by decide))) (n_XJ (by decide))) n3⟩
