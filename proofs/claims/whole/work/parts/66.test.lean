/-! pure: test, counted -/
def f_does (F : List (Nat × Nat)) (t s : Nat) : Bool :=
  if t = 0 then t_hit (F.map Prod.fst) s else if t = 1 then t_lst true (t_hit (F.map Prod.fst)) s else if t = 2 then F.all (fun x => !n_sub x.1 s) else if t = 3 then F.any (fun x => n_sub s x.1) else if t = 4 then F.all (fun x => decide (f_cn (s &&& x.1) % 2 = 1)) else F.any (fun x => decide (s = x.1))
theorem q_table {σ : zS} {f t : Nat} {F : List (Nat × Nat)} (hf : f < 4) (hX : h_X σ (7 + f) F) (hw : h_wf F) (ht : t < 6) : ∃ q τ, fX7_tableOf σ (nI t) (7 + f) = some (q, τ) ∧ 72 ≤ q + 2 ∧ t_B (τ.2 (q + 2)) (f_does F t) ∧ n_X σ τ := by
  unfold fX7_tableOf
  have hc : t = 0 ∨ t = 1 ∨ t = 2 ∨ t = 3 ∨ t = 4 ∨ t = 5 := by omega
  rcases hc with rfl | rfl | rfl | rfl | rfl | rfl
  · obtain ⟨g, a, b⟩ := q_hitsOf (q := 87) hX hw
    rw [if_pos (by decide), z_bd a]
    exact ⟨87, _, rfl, by decide, by rw [z_fJ_s]; exact b, n_XJ (by decide)⟩
  · obtain ⟨g, h, a, b, c⟩ := q_dual hX hw
    rw [if_neg (by decide), if_pos (by decide), z_bd a]
    exact ⟨88, _, rfl, by decide, by rw [z_fJ_s]; exact c, n_XJJ⟩
  · obtain ⟨g, a, b⟩ := q_setsOf (q := 87) hX hw
    obtain ⟨g2, a2, b2⟩ := q_addWholes (σ := z_fJ σ 89 g) (q := 87) (by rw [z_fJ_s]; exact b)
    obtain ⟨g3, a3, b3⟩ := q_flip (σ := z_fJ σ 89 g2) (q := 87) (by rw [z_fJ_s]; exact b2)
    rw [z_fJ_fJ] at a2 a3
    rw [if_neg (by decide), if_neg (by decide), if_pos (by decide), z_bd a, z_bd a2, z_bd a3]
    refine ⟨87, _, rfl, by decide, ?_, n_XJ (by decide)⟩
    rw [z_fJ_s]
    refine t_cg b3 (fun s hs => ?_)
    rw [t_wh hw hs, List.not_any_eq_all_not]
    rfl
  · obtain ⟨g, a, b⟩ := q_setsOf (q := 87) hX hw
    obtain ⟨g2, a2, b2⟩ := q_addParts (σ := z_fJ σ 89 g) (q := 87) (by rw [z_fJ_s]; exact b)
    rw [z_fJ_fJ] at a2
    rw [if_neg (by decide), if_neg (by decide), if_neg (by decide), if_pos (by decide), z_bd a, z_bd a2]
    refine ⟨87, _, rfl, by decide, ?_, n_XJ (by decide)⟩
    rw [z_fJ_s]
    exact t_cg b2 (fun s hs => t_pa hw hs)
  · obtain ⟨g, a, b⟩ := q_oddOf (q := 87) hX hw
    rw [if_neg (by decide), if_neg (by decide), if_neg (by decide), if_neg (by decide), if_pos (by decide), z_bd a]
    exact ⟨87, _, rfl, by decide, by rw [z_fJ_s]; exact b, n_XJ (by decide)⟩
  · obtain ⟨g, a, b⟩ := q_setsOf (q := 87) hX hw
    rw [if_neg (by decide), if_neg (by decide), if_neg (by decide), if_neg (by decide), if_neg (by decide), z_bd a]
    exact ⟨87, _, rfl, by decide, by rw [z_fJ_s]; exact b, n_XJ (by decide)⟩
theorem l_fa {γ : Type} (p : γ → Bool) : ∀ (L : List γ) (a : Bool), L.foldl (fun a x => a && p x) a = (a && L.all p)
  | [], a => by rw [List.all_nil, Bool.and_true]; rfl
  | x :: L, a => by
    show L.foldl (fun a x => a && p x) (a && p x) = _
    rw [l_fa p L, List.all_cons, Bool.and_assoc]
theorem l_fo {γ : Type} (p : γ → Bool) : ∀ (L : List γ) (a : Bool), L.foldl (fun a x => a || p x) a = (a || L.any p)
  | [], a => by rw [List.any_nil, Bool.or_false]; rfl
  | x :: L, a => by
    show L.foldl (fun a x => a || p x) (a || p x) = _
    rw [l_fo p L, List.any_cons, Bool.or_assoc]
theorem o_b_a1 (b : Bool) : o_b b &&& 1 = o_b (b && true) := by cases b <;> decide
theorem o_b_a0 (b : Bool) : o_b b &&& 0 = o_b (b && false) := by cases b <;> decide
theorem o_b_o1 (b : Bool) : o_b b ||| 1 = o_b (b || true) := by cases b <;> decide
theorem o_b_o0 (b : Bool) : o_b b ||| 0 = o_b (b || false) := by cases b <;> decide
theorem o_b_oo (b c : Bool) : o_b b ||| o_b c = o_b (b || c) := by cases b <;> cases c <;> decide
theorem o_b_bz (b : Bool) : z_bz (o_b b) = true := by cases b <;> decide
section DOES
variable {μ : zS} {f s : Nat} {F : List (Nat × Nat)}
theorem r_doesL (hf : f < 4) (hM : h_M μ f F) (hw : h_wf F) (hs : s < 4096) {t : Nat} (h2 : 2 ≤ t) (ht : t < 6) (step : Bool → (Nat × Nat) → Bool) (hst : ∀ a x, x ∈ F → step a x = if t = 2 then a && !n_sub x.1 s else if t = 3 then a || n_sub s x.1 else if t = 4 then a && decide (f_cn (s &&& x.1) % 2 = 1) else a || decide (s = x.1)) (a0 : Bool) : fX8_does_L45 μ (nI f) (nI t) (nI s) (fun (x2 : Int32) (x3 : Int32) => z_gd (z_bz x2) (some (x2, μ))) z_F (o_b a0) (nI 0) = some (o_b (F.foldl step a0), μ) := by
  have hl := hw.1
  refine z_fold (fun n (a : Bool) v => fX8_does_L45 μ (nI f) (nI t) (nI s) (fun (x2 : Int32) (x3 : Int32) => z_gd (z_bz x2) (some (x2, μ))) n (o_b a) v) F step (fun a => some (o_b a, μ)) ?_ ?_ z_F a0 (by show _ < 5000; omega)
  · intro n k x a hx
    have hk := h_at hx
    have hb := (hw.2.1 x hk.2).1
    show fX8_does_L45 μ (nI f) (nI t) (nI s) _ (n + 1) (o_b a) (nI k) = fX8_does_L45 μ (nI f) (nI t) (nI s) _ n (o_b (step a x)) (nI (k + 1))
    rw [fX8_does_L45.eq_2, z_gd_t (r_f4 hf), r_sz hf hM, if_neg (z_nle hk.1 (by omega)), z_bd (r_set_at hM hf hl hx), hst a x hk.2, nI_1]
    have hc : t = 2 ∨ t = 3 ∨ t = 4 ∨ t = 5 := by omega
    rcases hc with rfl | rfl | rfl | rfl
    · rw [if_pos (by decide), if_pos rfl, z_bd (q_sub x.1 s).2]
      cases e : n_sub x.1 s
      · rw [if_pos (show o_b false = 0 from rfl), z_ltE, o_b_a1]
        rfl
      · rw [if_neg (show ¬ o_b true = 0 by decide), z_ltE, o_b_a0]
        rfl
    · rw [if_neg (by decide), if_pos (by decide), if_neg (by decide), if_pos rfl, z_bd (q_sub s x.1).2, z_ltE, o_b_oo]
    · have hlt : s &&& x.1 < 4096 := Nat.lt_of_le_of_lt Nat.and_le_left hs
      have h12 := f_cn_le (s &&& x.1)
      have er : nI (f_cn (s &&& x.1)) - nI (f_cn (s &&& x.1)) / (2 : Int32) * (2 : Int32) = nI (f_cn (s &&& x.1) % 2) := pk_rem (d := 2) (by omega) (by decide) (by decide)
      rw [if_neg (by decide), if_neg (by decide), if_pos (by decide), if_neg (by decide), if_neg (by decide), if_pos rfl, b_and, z_bd (r_many hlt), z_gd_t (by decide), er]
      by_cases e : f_cn (s &&& x.1) % 2 = 1
      · rw [e, if_pos (by decide), z_ltE, o_b_a1]
        rfl
      · rw [show f_cn (s &&& x.1) % 2 = 0 by omega, if_neg (by decide), z_ltE, o_b_a0]
        rfl
    · rw [if_neg (show ¬ nI 5 = (2 : Int32) by decide), if_neg (show ¬ nI 5 = (3 : Int32) by decide), if_neg (show ¬ nI 5 = (4 : Int32) by decide), if_neg (show ¬ 5 = 2 by decide), if_neg (show ¬ 5 = 3 by decide), if_neg (show ¬ 5 = 4 by decide)]
      by_cases e : x.1 = s
      · rw [if_pos (by rw [e]), z_ltE, o_b_o1, decide_eq_true e.symm]
      · rw [if_neg (fun q => e ((nI_eq (by omega) (by omega)).mp q)), z_ltE, o_b_o0, decide_eq_false (fun q => e q.symm)]
  · intro n a
    show fX8_does_L45 μ (nI f) (nI t) (nI s) _ (n + 1) (o_b a) (nI F.length) = _
    rw [fX8_does_L45.eq_2, z_gd_t (r_f4 hf), r_sz hf hM, if_pos (nI_le (Nat.le_refl _) (by omega)), z_gd_t (o_b_bz a)]
theorem r_does (hf : f < 4) (hM : h_M μ f F) (hw : h_wf F) (hs : s < 4096) {t : Nat} (ht : t < 6) : ∃ ν, fX8_does μ (nI f) (nI t) (nI s) = some (o_b (f_does F t s), ν) ∧ n_M μ ν := by
  have hl := hw.1
  unfold fX8_does
  by_cases h2 : 2 ≤ t
  · refine ⟨μ, ?_, n_M_rf⟩
    rw [if_pos (show (2 : Int32) ≤ nI t from nI_le h2 (by omega)), z_jnE]
    have hc : t = 2 ∨ t = 3 ∨ t = 4 ∨ t = 5 := by omega
    rcases hc with rfl | rfl | rfl | rfl
    · rw [if_pos (by decide)]
      refine Eq.trans (r_doesL hf hM hw hs (by decide) (by decide) (fun a x => a && !n_sub x.1 s) (fun a x _ => by rw [if_pos rfl]) true) ?_
      rw [l_fa, Bool.true_and]
      rfl
    · rw [if_neg (by decide), if_neg (by decide)]
      refine Eq.trans (r_doesL hf hM hw hs (by decide) (by decide) (fun a x => a || n_sub s x.1) (fun a x _ => by rw [if_neg (by decide), if_pos rfl]) false) ?_
      rw [l_fo, Bool.false_or]
      rfl
    · rw [if_neg (by decide), if_pos (by decide)]
      refine Eq.trans (r_doesL hf hM hw hs (by decide) (by decide) (fun a x => a && decide (f_cn (s &&& x.1) % 2 = 1)) (fun a x _ => by rw [if_neg (by decide), if_neg (by decide), if_pos rfl]) true) ?_
      rw [l_fa, Bool.true_and]
      rfl
    · rw [if_neg (by decide), if_neg (by decide)]
      refine Eq.trans (r_doesL hf hM hw hs (by decide) (by decide) (fun a x => a || decide (s = x.1)) (fun a x _ => by rw [if_neg (by decide), if_neg (by decide), if_neg (by decide)]) false) ?_
      rw [l_fo, Bool.false_or]
      rfl
  · obtain ⟨ν, a1, a2, a3⟩ := r_wants hf hM hl
    have hh := r_hits a2 (by rw [List.length_map]; omega) (h_map_lt hw) hs
    refine ⟨ν, ?_, a3⟩
    rw [if_neg (show ¬ (2 : Int32) ≤ nI t from z_nle (a := 2) (by omega) (by decide)), z_bd a1, z_bd hh]
    have hc : t = 0 ∨ t = 1 := by omega
    unfold f_hit
    rcases hc with rfl | rfl
    · show _ = some (o_b (t_hit (F.map Prod.fst) s), ν)
      cases t_hit (F.map Prod.fst) s
      · rw [if_neg (show ¬ (false = true) by decide), if_pos (by decide)]
        rfl
      · rw [if_pos rfl]
        cases t_lst true (t_hit (F.map Prod.fst)) s
        · rw [if_neg (show ¬ (false = true) by decide), if_neg (by decide)]
          rfl
        · rw [if_pos rfl, if_neg (by decide)]
          rfl
    · show _ = some (o_b (t_lst true (t_hit (F.map Prod.fst)) s), ν)
      cases e : t_lst true (t_hit (F.map Prod.fst)) s
      · cases t_hit (F.map Prod.fst) s
        · rw [if_neg (show ¬ (false = true) by decide), if_pos (by decide)]
          rfl
        · rw [if_pos rfl, if_neg (show ¬ (false = true) by decide), if_pos (by decide)]
          rfl
      · rw [(t_lst_iff.mp e).1, if_pos rfl, if_pos rfl, if_neg (by decide)]
        rfl
end DOES
theorem s_test_p : s_test pP := by
  intro σ μ h a1 a2 a3
  unfold fX7_test fX8_test
  rcases n_cases a1 (n := 4) (by decide) with ho | ⟨f, hf, rfl⟩
  · rw [z_bd (q_nf1 ho), z_bd (r_isFamily0 ho), i_f, i_t]
    exact ⟨_, _, _, rfl, rfl, h⟩
  rw [z_bd (q_nf0 hf), z_bd (r_isFamily1 hf), i_t, i_f]
  rcases n_cases a2 (n := 6) (by decide) with ho | ⟨t, ht, rfl⟩
  · rw [z_bd (q_nt1 ho), z_bd (r_isTest0 ho), i_f, i_t]
    exact ⟨_, _, _, rfl, rfl, h⟩
  rw [z_bd (q_nt0 ht), z_bd (r_isTest1 ht), i_t, i_f]
  rcases n_cases a3 (n := 4096) (by decide) with ho | ⟨s, hs, rfl⟩
  · rw [z_bd (q_st1 ho), z_bd (r_isSet0 ho), i_f, i_t]
    exact ⟨_, _, _, rfl, rfl, h⟩
  rw [z_bd (q_st0 hs), z_bd (r_isSet1 hs), i_t, i_f, z_gd_t (r_f4 hf), nI_clamp (by omega)]
  obtain ⟨F, A, nr, h1, h2, h3, h4, h5, h6⟩ := p_un h
  obtain ⟨hX, hM, hw⟩ := h2 f hf
  obtain ⟨q, τ, k1, _, k3, k4⟩ := q_table hf hX hw ht
  obtain ⟨ν, m1, m2⟩ := r_does hf hM hw hs ht
  rw [z_bd k1, z_bd m1]
  dsimp only
  rw [z_bd (q_has k3 hs)]
  cases f_does (F f) t s
  · rw [if_neg (show ¬ (false = true) by decide), i_t, if_pos (by decide)]
    exact ⟨_, _, _, rfl, rfl, pP_s h k4 m2⟩
  · rw [if_pos (show true = true from rfl), i_f, if_neg (by decide)]
    exact ⟨_, _, _, rfl, rfl, pP_s h k4 m2⟩
/-! how many of n points -/
theorem e_ofcA : ∀ l : Fin 7, ∀ i : Fin 64, e_b (z_ofcL l.val) i.val = decide (f_cn i.val = l.val) := by decide +kernel
theorem f_cn6A : ∀ i : Fin 64, f_cn i.val ≤ 6 := by decide +kernel
theorem f_cnw {w i : Nat} (hw : w < 64) (hi : i < 64) : f_cn (64 * w + i) = f_cn w + f_cn i := by
  rw [f_cn_sp (by omega), show (64 * w + i) / 64 = w by omega, show (64 * w + i) % 64 = i by omega]
theorem q_countOf {σ : zS} {q c : Nat} {T : Nat → Bool} (hc : c ≤ 12) (h : t_B (σ.2 (q + 2)) T) : fX5_countOf σ q (nI c) = some (nI (fb_ct (fun s => T s && decide (f_cn s = c)) 4096)) := by
  unfold fX5_countOf
  have h2 := z_up (fun n (x : Int32 × Int32) => fX5_countOf_L4 σ q (nI c) (fun x1 _ => some x1) n x.1 x.2) (fun i => (nI (fb_ct (fun s => T s && decide (f_cn s = c)) (64 * i)), nI i)) 64 (some (nI (fb_ct (fun s => T s && decide (f_cn s = c)) 4096))) ?_ (fun n => ?_) 0 z_F (Nat.zero_le _) (by show 64 < 5000 + 0; decide)
  · exact h2
  · intro n w hw
    have h12 := f_cn_le w
    have es : fb_ct (fun s => T s && decide (f_cn s = c)) (64 * (w + 1)) = fb_ct (fun s => T s && decide (f_cn s = c)) (64 * w) + fb_ct (fun i => T (64 * w + i) && decide (f_cn w + f_cn i = c)) 64 := by
      rw [show 64 * (w + 1) = 64 * w + 64 by omega, fb_ct_split]
      congr 1
      exact fb_ct_cong (fun i hi => by rw [f_cnw hw hi])
    show fX5_countOf_L4 σ q (nI c) _ (n + 1) (nI (fb_ct (fun s => T s && decide (f_cn s = c)) (64 * w))) (nI w) = fX5_countOf_L4 σ q (nI c) _ n (nI (fb_ct (fun s => T s && decide (f_cn s = c)) (64 * (w + 1)))) (nI (w + 1))
    rw [fX5_countOf_L4.eq_2, n_64, if_neg (z_nle hw (by decide)), z_bd (q_cnt (by omega)), z_ltE, nI_1, es]
    by_cases hlt : c < f_cn w
    · rw [if_pos (pk_sneg (by omega) hlt)]
      have : fb_ct (fun i => T (64 * w + i) && decide (f_cn w + f_cn i = c)) 64 = 0 := fb_ct_zero.mpr (fun i _ => by rw [decide_eq_false (by omega), Bool.and_false])
      rw [this]
      rfl
    · rw [pk_sub (by omega), if_neg (nI_pos (by omega))]
      by_cases h6 : 6 < c - f_cn w
      · rw [n_6, if_pos (nI_lt h6 (by omega))]
        have : fb_ct (fun i => T (64 * w + i) && decide (f_cn w + f_cn i = c)) 64 = 0 := fb_ct_zero.mpr (fun i hi => by
          have := f_cn6A ⟨i, hi⟩
          simp only at this
          rw [decide_eq_false (by omega), Bool.and_false])
        rw [this]
        rfl
      · rw [n_6, if_neg (nI_nlt (by omega) (by decide)), z_gd_t (t_in64 hw), z_gd_t (z_in_nI (by omega) (by decide)), nI_clamp (show w < 2 ^ 31 by omega), nI_clamp (show c - f_cn w < 2 ^ 31 by omega), z_bd (q_pop _), z_ltE, nI_add]
        have : fb_ct (e_b (σ.2 (q + 2) w &&& z_ofcL (c - f_cn w))) 64 = fb_ct (fun i => T (64 * w + i) && decide (f_cn w + f_cn i = c)) 64 := fb_ct_cong (fun i hi => by
          rw [e_and, h w i hw hi, e_ofcA ⟨c - f_cn w, by omega⟩ ⟨i, hi⟩]
          congr 1
          exact decide_eq_decide.mpr ⟨fun q => by simp only at q; omega, fun q => by simp only; omega⟩)
        rw [this]
  · show fX5_countOf_L4 σ q (nI c) _ (n + 1) (nI (fb_ct (fun s => T s && decide (f_cn s = c)) 4096)) (nI 64) = _
    rw [fX5_countOf_L4.eq_2, n_64, if_pos (nI_le (Nat.le_refl _) (by decide))]
theorem r_counted {μ : zS} {f t c : Nat} {o : Nat} {F : List (Nat × Nat)} (hf : f < 4) (hM : h_M μ f F) (hw : h_wf F) (ht : t < 6) (hc : c ≤ 12) (ho : o < 2) : ∀ (d i n : Nat) (w : zS), i + d = 4096 → d < n → n_M μ w → ∃ w', fX8_counted_L46 (nI f) (nI t) (nI o) (nI c) (fun w1 x1 _ => some (x1, w1)) n w (nI (fb_ct (fun s => (f_does F t s == (o == 0)) && decide (f_cn s = c)) i)) (nI i) = some (nI (fb_ct (fun s => (f_does F t s == (o == 0)) && decide (f_cn s = c)) 4096), w') ∧ n_M μ w' := by
  intro d
  induction d with
  | zero =>
    intro i n w h1 h2 h3
    obtain ⟨n, rfl⟩ : ∃ j, n = j + 1 := ⟨n - 1, by omega⟩
    have hi : i = 4096 := by omega
    subst hi
    exact ⟨w, by rw [fX8_counted_L46.eq_2, show (4096 : Int32) = nI 4096 from rfl, if_pos (nI_le (Nat.le_refl _) (by decide))], h3⟩
  | succ d ih =>
    intro i n w h1 h2 h3
    obtain ⟨n, rfl⟩ : ∃ j, n = j + 1 := ⟨n - 1, by omega⟩
    have hi : i < 4096 := by omega
    have h12 := f_cn_le i
    rw [fX8_counted_L46.eq_2, show (4096 : Int32) = nI 4096 from rfl, if_neg (z_nle hi (by decide)), z_bd (r_many hi), nI_1 i]
    by_cases e : f_cn i = c
    · obtain ⟨ν, m1, m2⟩ := r_does hf (n_famM hM h3) hw hi ht
      obtain ⟨w', k1, k2⟩ := ih (i + 1) n ν (by omega) (by omega) (n_M_tr h3 m2)
      refine ⟨w', ?_, k2⟩
      rw [← k1, if_pos (by rw [e]), z_bd m1, fb_ct_succ, decide_eq_true e, Bool.and_true]
      dsimp only
      have hoc : o = 0 ∨ o = 1 := by omega
      rcases hoc with rfl | rfl
      · rw [if_pos (by decide)]
        cases f_does F t i
        · rw [if_neg (by decide), z_ltE, Int32.add_zero]
          rfl
        · rw [if_pos (by decide), z_ltE, nI_1]
          rfl
      · rw [if_neg (by decide)]
        cases f_does F t i
        · rw [if_pos (by decide), z_ltE, nI_1]
          rfl
        · rw [if_neg (by decide), z_ltE, Int32.add_zero]
          rfl
    · obtain ⟨w', k1, k2⟩ := ih (i + 1) n w (by omega) (by omega) h3
      refine ⟨w', ?_, k2⟩
      rw [← k1, if_neg (fun q => e ((nI_eq (by omega) (by omega)).mp q)), z_ltE, Int32.add_zero, fb_ct_succ, decide_eq_false e, Bool.and_false]
      rfl
theorem s_counted_p : s_counted pP := by
  intro σ μ h a1 a2 a3 a4
  unfold fX7_counted fX8_counted
  rcases n_cases a1 (n := 4) (by decide) with ho | ⟨f, hf, rfl⟩
  · rw [z_bd (q_nf1 ho), z_bd (r_isFamily0 ho), i_f, i_t]
    exact ⟨_, _, _, rfl, rfl, h⟩
  rw [z_bd (q_nf0 hf), z_bd (r_isFamily1 hf), i_t, i_f]
  rcases n_cases a2 (n := 6) (by decide) with ho | ⟨t, ht, rfl⟩
  · rw [z_bd (q_nt1 ho), z_bd (r_isTest0 ho), i_f, i_t]
    exact ⟨_, _, _, rfl, rfl, h⟩
  rw [z_bd (q_nt0 ht), z_bd (r_isTest1 ht), i_t, i_f]
  rcases n_cases a3 (n := 2) (by decide) with ho | ⟨v, hv, rfl⟩
  · have hb := n_out_int (by decide) ho
    rw [z_bd (r_in0 (by rw [n_i64]; show ¬ ((0 : Int) ≤ _ ∧ _ ≤ (1 : Int)); omega)), i_t]
    rcases ho with ho | ho
    · rw [if_pos ho]
      exact ⟨_, _, _, rfl, rfl, h⟩
    · rw [if_neg (n_nlt0 (by decide) ho), if_pos (show (1 : Int32) < a3 from Int32.lt_iff_toInt_lt.mpr (by
        have e : (1 : Int32).toInt = 1 := rfl
        have := n_ge (by decide) ho
        omega))]
      exact ⟨_, _, _, rfl, rfl, h⟩
  rw [z_bd (r_in1 (by rw [n_j (by omega)]; show (0 : Int) ≤ _ ∧ _ ≤ (1 : Int); omega)), i_f, if_neg (nI_pos (by omega)), if_neg (show ¬ (1 : Int32) < nI v from nI_nlt (show v ≤ 1 by omega) (by decide))]
  rcases n_cases a4 (n := 13) (by decide) with ho | ⟨c, hc, rfl⟩
  · have hb := n_out_int (by decide) ho
    rw [z_bd (r_in0 (by rw [n_i64]; show ¬ ((0 : Int) ≤ _ ∧ _ ≤ (12 : Int)); omega)), i_t]
    rcases ho with ho | ho
    · rw [if_pos ho]
      exact ⟨_, _, _, rfl, rfl, h⟩
    · rw [if_neg (n_nlt0 (by decide) ho), if_neg (show ¬ a4 ≤ (12 : Int32) from n_nle (n := 12) (by decide) ho)]
      exact ⟨_, _, _, rfl, rfl, h⟩
  rw [z_bd (r_in1 (by rw [n_j (by omega)]; show (0 : Int) ≤ _ ∧ _ ≤ (12 : Int); omega)), i_f, if_neg (nI_pos (by omega)), if_pos (show nI c ≤ (12 : Int32) from nI_le (show c ≤ 12 by omega) (by decide)), z_gd_t (r_f4 hf), nI_clamp (show f < 2 ^ 31 by omega)]
  obtain ⟨F, A, nr, h1, h2, h3, h4, h5, h6⟩ := p_un h
  obtain ⟨hX, hM, hw⟩ := h2 f hf
  obtain ⟨q, τ, k1, k2, k3, k4⟩ := q_table hf hX hw ht
  obtain ⟨ν, m1, m2⟩ := r_counted hf hM hw ht (show c ≤ 12 by omega) hv 4096 0 z_F μ (by omega) (by show _ < 5000; omega) n_M_rf
  have eM : fX8_counted_L46 (nI f) (nI t) (nI v) (nI c) (fun (w1 : zS) (x1 : Int32) (x2 : Int32) => some (x1, w1)) z_F μ (0 : Int32) (0 : Int32) = _ := m1
  rw [z_bd k1, eM]
  dsimp only
  have hvc : v = 0 ∨ v = 1 := by omega
  rcases hvc with rfl | rfl
  · rw [if_neg (by decide), z_bd (q_countOf (by omega) k3)]
    refine ⟨_, _, _, rfl, ?_, pP_s h k4 m2⟩
    exact congrArg (fun z => some (nI z, ν)) (fb_ct_cong (fun s _ => by cases f_does (F f) t s <;> rfl))
  · obtain ⟨g, j1, j2⟩ := q_flip k3
    rw [if_pos (by decide), z_bd j1, z_bd (q_countOf (σ := z_fJ τ (q + 2) g) (q := q) (by omega) (by rw [z_fJ_s]; exact j2))]
    refine ⟨_, _, _, rfl, ?_, pP_s h (n_X_tr k4 (n_XJ k2)) m2⟩
    exact congrArg (fun z => some (nI z, ν)) (fb_ct_cong (fun s _ => by cases f_does (F f) t s <;> rfl))
