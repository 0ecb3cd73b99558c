/-! pure: make -/
/-- what a family is behind a tell -/
def f_tl (G : List (Nat × Nat)) (s : Nat) : List (Nat × Nat) := if G.any (fun x => decide (x.1 = s)) then G.map (fun x => if x.1 = s then (s, min (x.2 + 1) 99) else x) else G ++ [(s, 1)]
theorem f_tl_new {G : List (Nat × Nat)} {s : Nat} (h : ∀ x, x ∈ G → x.1 ≠ s) : f_tl G s = G ++ [(s, 1)] := by
  unfold f_tl
  rw [if_neg]
  intro q
  obtain ⟨x, hx, e⟩ := List.any_eq_true.mp q
  exact h x hx (of_decide_eq_true e)
theorem f_tl_at {G : List (Nat × Nat)} {s j t : Nat} (hw : h_wf G) (hj : G[j]? = some (s, t)) : f_tl G s = G.set j (s, min (t + 1) 99) := by
  unfold f_tl
  rw [if_pos (List.any_eq_true.mpr ⟨(s, t), (h_at hj).2, decide_eq_true rfl⟩)]
  apply List.ext_getElem?
  intro k
  rw [List.getElem?_map]
  by_cases hk : k = j
  · subst hk
    rw [List.getElem?_set_self (h_at hj).1, hj]
    show some (if s = s then (s, min (t + 1) 99) else (s, t)) = _
    rw [if_pos rfl]
  · rw [List.getElem?_set_ne (Ne.symm hk)]
    cases e : G[k]? with
    | none => rfl
    | some y =>
      show some (if y.1 = s then (s, min (y.2 + 1) 99) else y) = _
      rw [if_neg (fun q => hk (h_first hw hj e q))]
theorem f_tl_wf {G : List (Nat × Nat)} {s : Nat} (hw : h_wf G) (hl : G.length < 40) (hs : s < 4096) : h_wf (f_tl G s) ∧ (f_tl G s).length ≤ G.length + 1 := by
  rcases h_dich G s with h | ⟨j, t, hj⟩
  · rw [f_tl_new h]
    exact ⟨h_wf_app hw hl hs h (by decide) (by decide), by rw [List.length_append]; exact Nat.le_refl _⟩
  · rw [f_tl_at hw hj]
    exact ⟨h_wf_set hw hj (by omega) (by omega), by rw [List.length_set]; omega⟩
theorem q_tl {w : zS} {q s : Nat} {G : List (Nat × Nat)} (hX : h_X w q G) (hw : h_wf G) (hl : G.length < 40) (hs : s < 4096) : ∃ r τ, fX1_add w q (nI s) = some (r, τ) ∧ ¬ r = -4 ∧ h_X τ q (f_tl G s) ∧ h_off q w τ := by
  rcases h_dich G s with h | ⟨j, t, hj⟩
  · obtain ⟨τ, a, b, c⟩ := q_add_new hX hw hs h hl
    rw [← f_tl_new h] at b
    exact ⟨_, τ, a, by decide, b, c⟩
  · obtain ⟨τ, a, b, c⟩ := q_add_at hX hw hs hj
    rw [← f_tl_at hw hj] at b
    exact ⟨_, τ, a, n_ne_neg (by omega) (by decide), b, c⟩
theorem r_tl {w : zS} {f s : Nat} {G : List (Nat × Nat)} (hf : f < 4) (hM : h_M w f G) (hw : h_wf G) (hl : G.length < 40) (hs : s < 4096) : ∃ r ν, fX8_tells w (nI f) (nI s) = some (r, ν) ∧ h_M ν f (f_tl G s) ∧ h_mf f w ν := by
  rcases h_dich G s with h | ⟨j, t, hj⟩
  · obtain ⟨τ, a, b, c⟩ := r_tells_new hM hf hw hs h hl
    rw [← f_tl_new h] at b
    exact ⟨_, τ, a, b, c⟩
  · obtain ⟨τ, a, b, c⟩ := r_tells_at hM hf hw hs hj
    rw [← f_tl_at hw hj] at b
    exact ⟨_, τ, a, b, c⟩
/-- one tell behind the other -/
def f_ts (vf : Nat → Nat) : Nat → List (Nat × Nat)
  | 0 => []
  | k + 1 => f_tl (f_ts vf k) (vf k)
theorem f_ts_wf {vf : Nat → Nat} {N : Nat} (hN : N ≤ 40) (hv : ∀ i, i < N → vf i < 4096) : ∀ k, k ≤ N → h_wf (f_ts vf k) ∧ (f_ts vf k).length ≤ k
  | 0, _ => ⟨h_wf_nil, Nat.le_refl _⟩
  | k + 1, hk => by
    obtain ⟨a, b⟩ := f_ts_wf hN hv k (by omega)
    obtain ⟨c, d⟩ := f_tl_wf a (show (f_ts vf k).length < 40 by omega) (hv k (by omega))
    exact ⟨c, by show (f_tl (f_ts vf k) (vf k)).length ≤ k + 1; omega⟩
/-- the reference tells what lies in its row -/
theorem r_185 {f c : Nat} {sk : Nat → Nat} {Gs : Nat → List (Nat × Nat)} (hf : f < 4) (hc : c ≤ 4096) (hst : ∀ k, k < c → ∀ w, h_M w f (Gs k) → ∃ r ν, fX8_tells w (nI f) (nI (sk k)) = some (r, ν) ∧ h_M ν f (Gs (k + 1)) ∧ h_mf f w ν) (K : zS → Option (Int32 × zS)) : ∀ (d k n : Nat) (w : zS), k + d = c → d < n → h_M w f (Gs k) → (∀ j, j < c → w.1 15 j = nI (sk j)) → ∃ w', fX8_make_L185 (nI f) (nI c) (fun w1 _ => K w1) n w (nI k) = K w' ∧ h_M w' f (Gs c) ∧ h_mf f w w' := by
  intro d
  induction d with
  | zero =>
    intro k n w h1 h2 h3 h4
    obtain ⟨n, rfl⟩ : ∃ j, n = j + 1 := ⟨n - 1, by omega⟩
    have hk : k = c := by omega
    subst hk
    exact ⟨w, by rw [fX8_make_L185.eq_2, if_pos (nI_le (Nat.le_refl _) (by omega))], h3, h_mf_rf⟩
  | succ d ih =>
    intro k n w h1 h2 h3 h4
    obtain ⟨n, rfl⟩ : ∃ j, n = j + 1 := ⟨n - 1, by omega⟩
    have hk : k < c := by omega
    obtain ⟨r, ν, a, b, e⟩ := hst k hk w h3
    obtain ⟨w', p1, p2, p3⟩ := ih (k + 1) n ν (by omega) (by omega) b (fun j hj => by rw [e.1 15 (by decide) (by decide) (by decide)]; exact h4 j hj)
    refine ⟨w', ?_, p2, h_mf_tr e p3⟩
    rw [fX8_make_L185.eq_2, if_neg (z_nle hk (by omega)), z_gd_t (z_in_nI (by omega) (by decide)), nI_clamp (by omega), h4 k hk, z_bd a, nI_1]
    exact p1
/-! hows 1 .. 4 -/
section MK
variable {how n N : Nat} {a4 B : Int32} {vf : Nat → Nat}
theorem q_fill (h1 : 1 ≤ how) (h4 : how ≤ 4) (hN : N ≤ 12) (hB : ∀ i, i < N → ¬ B ≤ nI i) (hE : B ≤ nI N) (hv : ∀ i, i < N → vf i < 4096 ∧ fX7_madeSet (nI how) (nI n) a4 (nI i) = some (nI (vf i))) : ∀ (d i m : Nat) (w : zS), i + d = N → d < m → h_X w 15 (f_ts vf i) → ∃ w', fX7_fillSpare_L37 (nI how) (nI n) a4 B (fun w1 _ => some ((1 : Int32), w1)) m w (nI i) = some (1, w') ∧ h_X w' 15 (f_ts vf N) ∧ h_off 15 w w' := by
  have hne : ¬ nI how = 0 := nI_ne0 (by omega) (by omega)
  intro d
  induction d with
  | zero =>
    intro i m w g1 g2 g3
    obtain ⟨m, rfl⟩ : ∃ j, m = j + 1 := ⟨m - 1, by omega⟩
    have hi : i = N := by omega
    subst hi
    exact ⟨w, by rw [fX7_fillSpare_L37.eq_2, if_pos hE], g3, h_off_rf⟩
  | succ d ih =>
    intro i m w g1 g2 g3
    obtain ⟨m, rfl⟩ : ∃ j, m = j + 1 := ⟨m - 1, by omega⟩
    have hi : i < N := by omega
    obtain ⟨c1, c2⟩ := f_ts_wf (vf := vf) (N := N) (by omega) (fun j hj => (hv j hj).1) i (by omega)
    obtain ⟨r, τ, a, b, e1, e2⟩ := q_tl g3 c1 (by omega) (hv i hi).1
    obtain ⟨w', p1, p2, p3⟩ := ih (i + 1) m τ (by omega) (by omega) e1
    refine ⟨w', ?_, p2, h_off_tr e2 p3⟩
    rw [fX7_fillSpare_L37.eq_2, if_neg (hB i hi), z_jnE, if_neg hne]
    dsimp only
    rw [if_pos rfl, z_bd (hv i hi).2, z_bd a]
    dsimp only
    rw [if_neg b, nI_1]
    exact p1
theorem r_69 {μ : zS} (h1 : 1 ≤ how) (h4 : how ≤ 4) (hN : N ≤ 12) (hB : ∀ i, i < N → ¬ B ≤ nI i) (hE : B ≤ nI N) (hBe : B = if nI how = (2 : Int32) then nI n - a4 + 1 else nI n) (hv : ∀ i, i < N → vf i < 4096 ∧ (if nI how = (1 : Int32) then some ((3 : Int32) <<< (((2 : Int32) * nI i) &&& 31)) else if nI how = (2 : Int32) then fX8_run (nI i) a4 0 else if nI how = (3 : Int32) then fX8_run (nI i) a4 (nI n) else fX8_rest (nI n) (nI i)) = some (nI (vf i))) (K : zS → Int32 → Option (Int32 × zS)) : ∀ (d i m : Nat) (w : zS), i + d = N → d < m → (∀ j, j < i → w.1 15 j = nI (vf j)) → n_M μ w → ∃ w', fX8_make_L69 (nI how) (nI n) a4 (fun w1 x _ => K w1 x) m w (nI i) (nI i) = K w' (nI N) ∧ (∀ j, j < N → w'.1 15 j = nI (vf j)) ∧ n_M μ w' := by
  have hne : ¬ nI how ≤ (0 : Int32) := by
    rw [z_i0]
    exact z_nle (by omega) (by omega)
  have hjn : ∀ {α : Type} (J : Int32 → α), z_jn J (fun j1 => (if nI how = (2 : Int32) then j1 ((nI n - a4) + (1 : Int32)) else j1 (nI n))) = J B := fun J => by
    rw [z_jnE, hBe]
    by_cases q : nI how = (2 : Int32)
    · rw [if_pos q, if_pos q]
    · rw [if_neg q, if_neg q]
  intro d
  induction d with
  | zero =>
    intro i m w g1 g2 g3 g4
    obtain ⟨m, rfl⟩ : ∃ j, m = j + 1 := ⟨m - 1, by omega⟩
    have hi : i = N := by omega
    subst hi
    exact ⟨w, by rw [fX8_make_L69.eq_2, hjn, if_pos hE], g3, g4⟩
  | succ d ih =>
    intro i m w g1 g2 g3 g4
    obtain ⟨m, rfl⟩ : ∃ j, m = j + 1 := ⟨m - 1, by omega⟩
    have hi : i < N := by omega
    obtain ⟨v1, v2⟩ := hv i hi
    obtain ⟨w', p1, p2, p3⟩ := ih (i + 1) m (z_sI w 15 i (nI (vf i))) (by omega) (by omega) (fun j hj => by
      rw [z_rd_s]
      by_cases q : j = i
      · rw [q, u_s]
      · rw [u_n q]
        exact g3 j (by omega)) (n_M_tr g4 ⟨fun p hp => by rw [z_rd_n (by omega)], fun k hk => by rw [z_rd_n (by decide)], rfl⟩)
    refine ⟨w', ?_, p2, p3⟩
    rw [fX8_make_L69.eq_2, hjn, if_neg (hB i hi), if_neg hne]
    have gi : z_in (nI i) 4096 = true := z_in_nI (by omega) (by decide)
    by_cases q1 : nI how = (1 : Int32)
    · rw [if_pos q1] at v2 ⊢
      rw [Option.some.inj v2, z_gd_t gi, z_ltE, nI_clamp (by omega), nI_1]
      exact p1
    · rw [if_neg q1] at v2 ⊢
      by_cases q2 : nI how = (2 : Int32)
      · rw [if_pos q2] at v2 ⊢
        rw [z_bd v2, z_gd_t gi, z_ltE, nI_clamp (by omega), nI_1]
        exact p1
      · rw [if_neg q2] at v2 ⊢
        by_cases q3 : nI how = (3 : Int32)
        · rw [if_pos q3] at v2 ⊢
          rw [z_bd v2, z_gd_t gi, z_ltE, nI_clamp (by omega), nI_1]
          exact p1
        · rw [if_neg q3] at v2 ⊢
          rw [z_bd v2, z_gd_t gi, z_ltE, nI_clamp (by omega), nI_1]
          exact p1
end MK
/-! how 0: all sets of m of the points below n -/
def f_ch (n m : Nat) (s : Nat) : Bool := decide (s < 2 ^ n) && decide (f_cn s = m)
section CH
variable {n m : Nat} {sk : Nat → Nat}
theorem f_ch_tot (hn : n ≤ 12) : fb_ct (f_ch n m) 4096 = fb_ct (f_ch n m) (2 ^ n) := by
  have hp : 2 ^ n ≤ 4096 := Nat.pow_le_pow_right (n := 2) (by decide) hn
  have z : fb_ct (fun k => f_ch n m (2 ^ n + k)) (4096 - 2 ^ n) = 0 := fb_ct_zero.mpr (fun k _ => by
    show (decide (2 ^ n + k < 2 ^ n) && decide (f_cn (2 ^ n + k) = m)) = false
    rw [decide_eq_false (Nat.not_lt.mpr (Nat.le_add_right _ _)), Bool.false_and])
  have e := fb_ct_split (f_ch n m) (2 ^ n) (4096 - 2 ^ n)
  rw [Nat.add_sub_cancel' hp, z, Nat.add_zero] at e
  exact e
theorem q_fill0 (hn : n ≤ 12) (hm : m ≤ 12) (hsk : ∀ k, k < fb_ct (f_ch n m) 4096 → sk k < 4096 ∧ f_ch n m (sk k) = true ∧ fb_ct (f_ch n m) (sk k) = k) : ∀ (d i k : Nat) (w : zS), i + d = 2 ^ n → d < k → fb_ct (f_ch n m) i ≤ 40 → h_X w 15 (f_sq sk (fb_ct (f_ch n m) i)) → ∃ r w', fX7_fillSpare_L37 0 (nI n) (nI m) (nI (2 ^ n)) (fun w1 _ => some ((1 : Int32), w1)) k w (nI i) = some (r, w') ∧ h_off 15 w w' ∧ ((fb_ct (f_ch n m) 4096 ≤ 40 ∧ r = 1 ∧ h_X w' 15 (f_sq sk (fb_ct (f_ch n m) 4096))) ∨ (40 < fb_ct (f_ch n m) 4096 ∧ r = 0)) := by
  have hp : 2 ^ n ≤ 4096 := Nat.pow_le_pow_right (n := 2) (by decide) hn
  intro d
  induction d with
  | zero =>
    intro i k w g1 g2 g3 g4
    obtain ⟨k, rfl⟩ : ∃ j, k = j + 1 := ⟨k - 1, by omega⟩
    have hi : i = 2 ^ n := by omega
    rw [hi, ← f_ch_tot hn] at g3 g4
    refine ⟨1, w, ?_, h_off_rf, Or.inl ⟨g3, rfl, g4⟩⟩
    rw [fX7_fillSpare_L37.eq_2, if_pos (nI_le (by omega) (by omega))]
  | succ d ih =>
    intro i k w g1 g2 g3 g4
    obtain ⟨k, rfl⟩ : ∃ j, k = j + 1 := ⟨k - 1, by omega⟩
    have hi : i < 2 ^ n := by omega
    have h12 := f_cn_le i
    rw [fX7_fillSpare_L37.eq_2, if_neg (z_nle hi (by omega)), z_jnE, if_pos rfl, z_bd (q_cnt (by omega))]
    dsimp only
    by_cases e : f_cn i = m
    · have hT : f_ch n m i = true := by
        unfold f_ch
        rw [decide_eq_true hi, decide_eq_true e]
        rfl
      have hlt : fb_ct (f_ch n m) i < fb_ct (f_ch n m) 4096 := by
        have a := fb_ct_mono (f_ch n m) (show i + 1 ≤ 4096 by omega)
        rw [fb_ct_succ, hT] at a
        simp only [if_true] at a
        omega
      obtain ⟨s1, s2, s3⟩ := hsk _ hlt
      have es : sk (fb_ct (f_ch n m) i) = i := fb_ct_kth_one s2 hT s3
      have hnew := f_sq_new hsk hlt
      rw [es] at hnew
      have hmade : fX7_madeSet 0 (nI n) (nI m) (nI i) = some (nI i) := by
        unfold fX7_madeSet
        rw [if_pos rfl]
      have hwf : ∀ j, j ≤ 40 → j ≤ fb_ct (f_ch n m) 4096 → h_wf (f_sq sk j) := by
        intro j
        induction j with
        | zero => exact fun _ _ => h_wf_nil
        | succ j ihj =>
          intro j1 j2
          rw [f_sq_s]
          exact h_wf_app (ihj (by omega) (by omega)) (by rw [f_sq_len]; omega) (hsk j (by omega)).1 (f_sq_new hsk (by omega)) (by decide) (by decide)
      rw [if_pos (by rw [e]), if_pos rfl, z_bd hmade]
      rcases Nat.lt_or_ge (fb_ct (f_ch n m) i) 40 with q | q
      · obtain ⟨τ, a, b, c⟩ := q_add_new g4 (hwf _ (by omega) (by omega)) (show i < 4096 by omega) hnew (by rw [f_sq_len]; exact q)
        have ec : fb_ct (f_ch n m) (i + 1) = fb_ct (f_ch n m) i + 1 := by
          rw [fb_ct_succ, hT]
          rfl
        have b' : h_X τ 15 (f_sq sk (fb_ct (f_ch n m) (i + 1))) := by
          rw [ec, f_sq_s, es]
          exact b
        obtain ⟨r, w', p1, p2, p3⟩ := ih (i + 1) k τ (by omega) (by omega) (by omega) b'
        refine ⟨r, w', ?_, h_off_tr c p2, p3⟩
        rw [z_bd a]
        dsimp only
        rw [if_neg (show ¬ (1 : Int32) = -4 by decide), nI_1]
        exact p1
      · have a := q_add_full g4 (hwf _ (by omega) (by omega)) (show i < 4096 by omega) hnew (by rw [f_sq_len]; omega)
        refine ⟨0, w, ?_, h_off_rf, Or.inr ⟨by omega, rfl⟩⟩
        rw [z_bd a]
        dsimp only
        rw [if_pos rfl]
    · have hT : f_ch n m i = false := by
        unfold f_ch
        rw [decide_eq_false e, Bool.and_false]
      have ec : fb_ct (f_ch n m) (i + 1) = fb_ct (f_ch n m) i := by
        rw [fb_ct_succ, hT]
        rfl
      obtain ⟨r, w', p1, p2, p3⟩ := ih (i + 1) k w (by omega) (by omega) (by omega) (by rw [ec]; exact g4)
      refine ⟨r, w', ?_, p2, p3⟩
      rw [if_neg (fun z => e ((nI_eq (by omega) (by omega)).mp z)), i_f, nI_1]
      exact p1
theorem r_30 {μ : zS} (hn : n ≤ 12) (hm : m ≤ 12) (K : zS → Int32 → Option (Int32 × zS)) : ∀ (d i k : Nat) (w : zS), i + d = 2 ^ n → d < k → (∀ s, s < i → f_ch n m s = true → w.1 15 (fb_ct (f_ch n m) s) = nI s) → n_M μ w → ∃ w', fX8_make_L30 (nI n) (nI m) (fun w1 x _ => K w1 x) k w (nI (fb_ct (f_ch n m) i)) (nI i) = K w' (nI (fb_ct (f_ch n m) 4096)) ∧ (∀ s, s < 2 ^ n → f_ch n m s = true → w'.1 15 (fb_ct (f_ch n m) s) = nI s) ∧ n_M μ w' := by
  have hp : 2 ^ n ≤ 4096 := Nat.pow_le_pow_right (n := 2) (by decide) hn
  intro d
  induction d with
  | zero =>
    intro i k w g1 g2 g3 g4
    obtain ⟨k, rfl⟩ : ∃ j, k = j + 1 := ⟨k - 1, by omega⟩
    have hi : i = 2 ^ n := by omega
    subst hi
    refine ⟨w, ?_, g3, g4⟩
    rw [fX8_make_L30.eq_2, b_one (by omega), if_pos (nI_le (Nat.le_refl _) (by omega)), f_ch_tot hn]
  | succ d ih =>
    intro i k w g1 g2 g3 g4
    obtain ⟨k, rfl⟩ : ∃ j, k = j + 1 := ⟨k - 1, by omega⟩
    have hi : i < 2 ^ n := by omega
    have h12 := f_cn_le i
    have hle := fb_ct_le (f_ch n m) i
    rw [fX8_make_L30.eq_2, b_one (by omega), if_neg (z_nle hi (by omega)), z_bd (r_many (by omega)), nI_1 i]
    by_cases e : f_cn i = m
    · have hT : f_ch n m i = true := by
        unfold f_ch
        rw [decide_eq_true hi, decide_eq_true e]
        rfl
      have ec : fb_ct (f_ch n m) (i + 1) = fb_ct (f_ch n m) i + 1 := by
        rw [fb_ct_succ, hT]
        rfl
      obtain ⟨w', p1, p2, p3⟩ := ih (i + 1) k (z_sI w 15 (fb_ct (f_ch n m) i) (nI i)) (by omega) (by omega) (fun s hs hts => by
        rw [z_rd_s]
        by_cases q : s = i
        · rw [q, u_s]
        · rw [u_n (fun z => q (fb_ct_kth_one hts hT z))]
          exact g3 s (by omega) hts) (n_M_tr g4 ⟨fun p hp => by rw [z_rd_n (by omega)], fun k hk => by rw [z_rd_n (by decide)], rfl⟩)
      refine ⟨w', ?_, p2, p3⟩
      rw [if_pos (by rw [e]), z_gd_t (z_in_nI (by omega) (by decide)), z_ltE, nI_clamp (by omega), nI_1, ← ec]
      exact p1
    · have hT : f_ch n m i = false := by
        unfold f_ch
        rw [decide_eq_false e, Bool.and_false]
      have ec : fb_ct (f_ch n m) (i + 1) = fb_ct (f_ch n m) i := by
        rw [fb_ct_succ, hT]
        rfl
      obtain ⟨w', p1, p2, p3⟩ := ih (i + 1) k w (by omega) (by omega) (fun s hs hts => g3 s (by
        have : s ≠ i := fun z => by rw [z, hT] at hts; cases hts
        omega) hts) g4
      refine ⟨w', ?_, p2, p3⟩
      rw [if_neg (fun z => e ((nI_eq (by omega) (by omega)).mp z)), ← ec]
      exact p1
end CH
/-- a family becomes the spare one; acts are forgotten -/
theorem p_mk_sp {σ μ τ τ2 ν : zS} {F : Nat → List (Nat × Nat)} {G : List (Nat × Nat)} {nr f : Nat} (hf : f < 4) (h1 : p_rs σ μ nr) (h2 : p_fa σ μ F) (o1 : h_off 15 σ τ) (o2 : h_off (7 + f) τ τ2) (hX : h_X τ2 (7 + f) G) {ν0 : zS} (m1 : n_M μ ν0) (m2 : h_mf f ν0 ν) (hM : h_M ν f G) (hw : h_wf G) : pP (z_sI τ2 59 3 0) (z_sI ν 0 10 0) := by
  have k15 : ∀ {x y : zS}, h_off 15 x y → k_X x y := fun hh => ⟨fun p i hp _ => by
    unfold l_X at hp
    rw [hh.1 p (by omega) (by omega) (by omega)], fun p _ => by rw [hh.2]⟩
  have kM : k_M μ ν0 := ⟨fun p hp => m1.1 p (by omega), fun k hk => m1.2.1 k (by omega), m1.2.2⟩
  have q1 : p_fa τ ν0 F := p_fa_c h2 (fun p _ _ => ⟨o1.1 _ (by omega) (by omega) (by omega), o1.1 _ (by omega) (by omega) (by omega), o1.1 _ (by omega) (by omega) (by omega)⟩) ⟨m1.1 _ (by omega), m1.1 _ (by omega), m1.1 _ (by omega)⟩
  exact p_mk (F := h_pt F f G) (A := []) (nr := nr) (p_rs_c h1 (k_X_tr (k15 o1) (k_X_tr (h_off_k hf o2) (o_ac_k (o_all_o τ2)))) (k_M_tr kM (k_M_tr (h_mf_k m2) (o_mc_k (o_alm_o ν))))) (p_fa_o (p_put hf q1 o2 m2 hX hM hw) (o_all_o τ2) (o_alm_o ν)) (o_all_h τ2) (o_alm_h ν) (by decide) trivial
theorem n_X15 {σ τ : zS} (h : h_off 15 σ τ) : n_X σ τ := ⟨fun p i hp h1 h2 h3 _ => by rw [h.1 p h1 h2 h3], fun p _ => by rw [h.2]⟩
