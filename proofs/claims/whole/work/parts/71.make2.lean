/-! pure: make, the end -/
theorem m_BA : ∀ n : Fin 13, ∀ m : Fin 13, (m.val ≤ n.val → nI n.val - nI m.val + (1 : Int32) = nI (n.val + 1 - m.val)) ∧ (n.val < m.val → nI n.val - nI m.val + (1 : Int32) ≤ nI 0) := by decide +kernel
theorem s_make1 {σ μ : zS} {f how n : Nat} {a4 : Int32} (h : pP σ μ) (hf : f < 4) (h1 : 1 ≤ how) (h4 : how ≤ 4) (hn : n ≤ 12) (hn6 : how = 1 → n ≤ 6) (hm : how = 0 ∨ how = 2 ∨ how = 3 → ∃ m, a4 = nI m ∧ m ≤ 12 ∧ (how ≠ 0 → 1 ≤ m)) : ∃ r σ' μ', (fX7_fillSpare σ (nI how) (nI n) a4).bind (fun r3 => (if r3.1 = 0 then some ((-4 : Int32), r3.2) else z_gd (z_in (nI f) 4) ((fX1_become r3.2 (7 + (nI f).toNatClampNeg) 15).bind (fun r4 => (fX0_forgetAll r4).bind (fun r5 => some ((r5.1 15 2), r5)))))) = some (r, σ') ∧ fX8_make_L69 (nI how) (nI n) a4 (fun (w2 : zS) (x2 : Int32) (x3 : Int32) => (if nI how = 0 then (if x2 ≤ (40 : Int32) then z_gd (z_in (nI f) 4) (z_lt (z_sI w2 2 (nI f).toNatClampNeg (0 : Int32)) (fun (w6 : zS) => fX8_make_L185 (nI f) x2 (fun (w7 : zS) (x5 : Int32) => z_lt (z_sI w7 0 10 (0 : Int32)) (fun (w8 : zS) => z_gd (z_in (nI f) 4) (some ((w8.1 2 (nI f).toNatClampNeg), w8)))) z_F w6 (0 : Int32))) else some ((-4 : Int32), w2)) else z_gd (z_in (nI f) 4) (z_lt (z_sI w2 2 (nI f).toNatClampNeg (0 : Int32)) (fun (w3 : zS) => fX8_make_L185 (nI f) x2 (fun (w4 : zS) (x4 : Int32) => z_lt (z_sI w4 0 10 (0 : Int32)) (fun (w5 : zS) => z_gd (z_in (nI f) 4) (some ((w5.1 2 (nI f).toNatClampNeg), w5)))) z_F w3 (0 : Int32))))) z_F μ (0 : Int32) (0 : Int32) = some (r, μ') ∧ pP σ' μ' := by
  have hne : ¬ nI how = 0 := nI_ne0 (by omega) (by omega)
  obtain ⟨N, B, hN, hB, hE, hBe, hNn, hN2⟩ : ∃ (N : Nat) (B : Int32), N ≤ 12 ∧ (∀ i, i < N → ¬ B ≤ nI i) ∧ B ≤ nI N ∧ B = (if nI how = (2 : Int32) then nI n - a4 + 1 else nI n) ∧ N ≤ n ∧ (how = 2 → ∀ m, a4 = nI m → m ≤ 12 → ∀ i, i < N → i + m ≤ n) := by
    by_cases q : how = 2
    · subst q
      obtain ⟨m, rfl, hm1, hm2⟩ := hm (by omega)
      have hm2 := hm2 (by decide)
      obtain ⟨b1, b2⟩ := m_BA ⟨n, by omega⟩ ⟨m, by omega⟩
      simp only at b1 b2
      refine ⟨n + 1 - m, nI n - nI m + 1, by omega, fun i hi => ?_, ?_, by rw [if_pos (by decide)], by omega, fun _ m' e hm' i hi => ?_⟩
      · rw [b1 (by omega)]
        exact z_nle hi (by omega)
      · by_cases q : m ≤ n
        · rw [b1 q]
          exact nI_le (Nat.le_refl _) (by omega)
        · rw [show n + 1 - m = 0 by omega]
          exact b2 (by omega)
      · have := (nI_eq (by omega) (by omega)).mp e
        omega
    · refine ⟨n, nI n, by omega, fun i hi => z_nle hi (by omega), nI_le (Nat.le_refl _) (by omega), by rw [if_neg (show ¬ nI how = (2 : Int32) from fun z => q ((nI_eq (b := 2) (by omega) (by decide)).mp z))], Nat.le_refl _, fun z => absurd z q⟩
  have hex : ∀ i, ∃ v, i < N → v < 4096 ∧ fX7_madeSet (nI how) (nI n) a4 (nI i) = some (nI v) ∧ (if nI how = (1 : Int32) then some ((3 : Int32) <<< (((2 : Int32) * nI i) &&& 31)) else if nI how = (2 : Int32) then fX8_run (nI i) a4 0 else if nI how = (3 : Int32) then fX8_run (nI i) a4 (nI n) else fX8_rest (nI n) (nI i)) = some (nI v) := fun i => by
    by_cases q : i < N
    · obtain ⟨v, a, b, c⟩ := s_made h1 h4 hn hn6 hm (show i < n by omega) (fun z m e hm' => hN2 z m e hm' i q)
      exact ⟨v, fun _ => ⟨a, b, c⟩⟩
    · exact ⟨0, fun z => absurd z q⟩
  obtain ⟨vf, hvf⟩ : ∃ vf : Nat → Nat, ∀ i, i < N → vf i < 4096 ∧ fX7_madeSet (nI how) (nI n) a4 (nI i) = some (nI (vf i)) ∧ (if nI how = (1 : Int32) then some ((3 : Int32) <<< (((2 : Int32) * nI i) &&& 31)) else if nI how = (2 : Int32) then fX8_run (nI i) a4 0 else if nI how = (3 : Int32) then fX8_run (nI i) a4 (nI n) else fX8_rest (nI n) (nI i)) = some (nI (vf i)) := ⟨fun i => Classical.choose (hex i), fun i hi => Classical.choose_spec (hex i) hi⟩
  obtain ⟨F, A, nr, u1, u2, u3, u4, u5, u6⟩ := p_un h
  have hwf := f_ts_wf (vf := vf) (N := N) (by omega) (fun i hi => (hvf i hi).1)
  obtain ⟨τ0, c1, c2, c3⟩ := q_clear (σ := σ) (q := 15)
  obtain ⟨τ1, d1, d2, d3⟩ := q_fill h1 h4 hN hB hE (fun i hi => ⟨(hvf i hi).1, (hvf i hi).2.1⟩) N 0 z_F τ0 (by omega) (by show _ < 5000; omega) c2
  obtain ⟨w1, w2⟩ := hwf N (Nat.le_refl _)
  obtain ⟨τ2, e1, e2, e3⟩ := q_become (q := 7 + f) d2 w1.1 (by omega) (by omega) (by omega)
  have eF : fX7_fillSpare σ (nI how) (nI n) a4 = some (1, τ1) := by
    unfold fX7_fillSpare
    rw [z_jnE, if_neg hne]
    by_cases q : nI how = (2 : Int32)
    · rw [if_pos q] at hBe
      rw [if_pos q, z_ltE, ← hBe]
      dsimp only
      rw [z_bd c1, z_i0]
      exact d1
    · rw [if_neg q] at hBe
      have d1' := d1
      rw [hBe] at d1'
      rw [if_neg q]
      dsimp only
      rw [z_bd c1, z_i0]
      exact d1'
  obtain ⟨ν0, m1, m2, m3⟩ := r_69 (μ := μ) h1 h4 hN hB hE hBe (fun i hi => ⟨(hvf i hi).1, (hvf i hi).2.2⟩) (fun w2 x2 => (if nI how = 0 then (if x2 ≤ (40 : Int32) then z_gd (z_in (nI f) 4) (z_lt (z_sI w2 2 (nI f).toNatClampNeg (0 : Int32)) (fun (w6 : zS) => fX8_make_L185 (nI f) x2 (fun (w7 : zS) (x5 : Int32) => z_lt (z_sI w7 0 10 (0 : Int32)) (fun (w8 : zS) => z_gd (z_in (nI f) 4) (some ((w8.1 2 (nI f).toNatClampNeg), w8)))) z_F w6 (0 : Int32))) else some ((-4 : Int32), w2)) else z_gd (z_in (nI f) 4) (z_lt (z_sI w2 2 (nI f).toNatClampNeg (0 : Int32)) (fun (w3 : zS) => fX8_make_L185 (nI f) x2 (fun (w4 : zS) (x4 : Int32) => z_lt (z_sI w4 0 10 (0 : Int32)) (fun (w5 : zS) => z_gd (z_in (nI f) 4) (some ((w5.1 2 (nI f).toNatClampNeg), w5)))) z_F w3 (0 : Int32))))) N 0 z_F μ (by omega) (by show _ < 5000; omega) (fun j hj => absurd hj (Nat.not_lt_zero j)) n_M_rf
  obtain ⟨hm0, hM0⟩ := h_mf0 (f := f) ν0
  obtain ⟨ν1, p1, p2, p3⟩ := r_185 (Gs := f_ts vf) (sk := vf) hf (show N ≤ 4096 by omega) (fun k hk w hw => by
    obtain ⟨x1, x2⟩ := hwf k (by omega)
    exact r_tl hf hw x1 (by omega) (hvf k hk).1) (fun w4 => z_lt (z_sI w4 0 10 (0 : Int32)) (fun (w5 : zS) => z_gd (z_in (nI f) 4) (some ((w5.1 2 f), w5)))) N 0 z_F (z_sI ν0 2 f 0) (by omega) (by show _ < 5000; omega) hM0 (fun j hj => by
    rw [z_rd_n (by decide)]
    exact m2 j hj)
  have m1' : fX8_make_L69 (nI how) (nI n) a4 (fun (w2 : zS) (x2 : Int32) (x3 : Int32) => (if nI how = 0 then (if x2 ≤ (40 : Int32) then z_gd (z_in (nI f) 4) (z_lt (z_sI w2 2 (nI f).toNatClampNeg (0 : Int32)) (fun (w6 : zS) => fX8_make_L185 (nI f) x2 (fun (w7 : zS) (x5 : Int32) => z_lt (z_sI w7 0 10 (0 : Int32)) (fun (w8 : zS) => z_gd (z_in (nI f) 4) (some ((w8.1 2 (nI f).toNatClampNeg), w8)))) z_F w6 (0 : Int32))) else some ((-4 : Int32), w2)) else z_gd (z_in (nI f) 4) (z_lt (z_sI w2 2 (nI f).toNatClampNeg (0 : Int32)) (fun (w3 : zS) => fX8_make_L185 (nI f) x2 (fun (w4 : zS) (x4 : Int32) => z_lt (z_sI w4 0 10 (0 : Int32)) (fun (w5 : zS) => z_gd (z_in (nI f) 4) (some ((w5.1 2 (nI f).toNatClampNeg), w5)))) z_F w3 (0 : Int32))))) z_F μ (0 : Int32) (0 : Int32) = _ := m1
  have p1' : fX8_make_L185 (nI f) (nI N) (fun (w4 : zS) (x4 : Int32) => z_lt (z_sI w4 0 10 (0 : Int32)) (fun (w5 : zS) => z_gd (z_in (nI f) 4) (some ((w5.1 2 f), w5)))) z_F (z_sI ν0 2 f 0) (0 : Int32) = _ := p1
  rw [m1', z_bd eF, nI_clamp (show f < 2 ^ 31 by omega)]
  dsimp only
  rw [if_neg (show ¬ (1 : Int32) = 0 by decide), z_gd_t (r_f4 hf), z_bd e1, z_bd (o_all τ2), if_neg hne, z_gd_t (r_f4 hf), z_ltE, p1', z_ltE, z_gd_t (r_f4 hf)]
  have l1 : (z_sI τ2 59 3 0).1 15 2 = nI (f_ts vf N).length := by
    rw [z_rd_n (by decide), e3.1 15 (by omega) (by omega) (by omega)]
    exact d2.1
  have l2 : (z_sI ν1 0 10 0).1 2 f = nI (f_ts vf N).length := by
    rw [z_rd_n (by decide)]
    exact p2.1
  rw [l1, l2]
  exact ⟨_, _, _, rfl, rfl, p_mk_sp hf u1 u2 (h_off_tr c3 d3) e3 e2 m3 (h_mf_tr hm0 p3) p2 w1⟩
theorem s_make_p : s_make pP := by
  intro σ μ h a1 a2 a3 a4
  unfold fX7_make fX8_make
  rcases n_cases a1 (n := 4) (by decide) with ho | ⟨f, hf, rfl⟩
  · rw [z_bd (q_nf1 ho), z_bd (r_isFamily0 ho), i_f, i_t]
    exact ⟨_, _, _, rfl, rfl, h⟩
  rw [z_bd (q_nf0 hf), z_bd (r_isFamily1 hf), i_t, i_f]
  rcases s_can a2 a3 a4 with ⟨c1, c2⟩ | ⟨c1, c2, how, n, rfl, h4, rfl, hn, hn6, hm⟩
  · rw [z_bd c1, z_bd c2, i_t, i_t]
    exact ⟨_, _, _, rfl, rfl, h⟩
  rw [z_bd c1, z_bd c2, i_f, i_f]
  rcases Nat.eq_zero_or_pos how with h0 | h0
  rotate_left
  · have hne : ¬ nI how = 0 := nI_ne0 (by omega) (by omega)
    rw [z_jnE, if_neg hne]
    exact s_make1 h hf h0 h4 hn hn6 hm
  subst h0
  obtain ⟨m, rfl, hm1, _⟩ := hm (Or.inl rfl)
  have hp : 2 ^ n ≤ 4096 := Nat.pow_le_pow_right (n := 2) (by decide) hn
  obtain ⟨sk, hsk⟩ := t_seq (f_ch n m)
  have hle := fb_ct_le (f_ch n m) 4096
  obtain ⟨F, A, nr, u1, u2, u3, u4, u5, u6⟩ := p_un h
  obtain ⟨τ0, k1, k2, k3⟩ := q_clear (σ := σ) (q := 15)
  obtain ⟨r, τ1, d1, d2, d3⟩ := q_fill0 hn hm1 hsk (2 ^ n) 0 z_F τ0 (by omega) (by show _ < 5000; omega) (Nat.zero_le _) k2
  have eF : fX7_fillSpare σ (nI 0) (nI n) (nI m) = some (r, τ1) := by
    unfold fX7_fillSpare
    rw [z_jnE, if_pos nI_0, z_ltE, b_one (by omega)]
    dsimp only
    rw [z_bd k1]
    exact d1
  obtain ⟨ν0, m1, m2, m3⟩ := r_30 (μ := μ) hn hm1 (fun w9 x6 => fX8_make_L69 (nI 0) (nI n) (nI m) (fun (w2 : zS) (x2 : Int32) (x3 : Int32) => (if nI 0 = 0 then (if x2 ≤ (40 : Int32) then z_gd (z_in (nI f) 4) (z_lt (z_sI w2 2 (nI f).toNatClampNeg (0 : Int32)) (fun (w6 : zS) => fX8_make_L185 (nI f) x2 (fun (w7 : zS) (x5 : Int32) => z_lt (z_sI w7 0 10 (0 : Int32)) (fun (w8 : zS) => z_gd (z_in (nI f) 4) (some ((w8.1 2 (nI f).toNatClampNeg), w8)))) z_F w6 (0 : Int32))) else some ((-4 : Int32), w2)) else z_gd (z_in (nI f) 4) (z_lt (z_sI w2 2 (nI f).toNatClampNeg (0 : Int32)) (fun (w3 : zS) => fX8_make_L185 (nI f) x2 (fun (w4 : zS) (x4 : Int32) => z_lt (z_sI w4 0 10 (0 : Int32)) (fun (w5 : zS) => z_gd (z_in (nI f) 4) (some ((w5.1 2 (nI f).toNatClampNeg), w5)))) z_F w3 (0 : Int32))))) z_F w9 x6 (0 : Int32)) (2 ^ n) 0 z_F μ (by omega) (by show _ < 5000; omega) (fun s hs => absurd hs (Nat.not_lt_zero s)) n_M_rf
  have e69 : ∀ (K : zS → Int32 → Int32 → Option (Int32 × zS)) (w : zS) (x : Int32), fX8_make_L69 (nI 0) (nI n) (nI m) K z_F w x (0 : Int32) = K w x 0 := by
    intro K w x
    rw [show z_F = 4999 + 1 from rfl, fX8_make_L69.eq_2, z_jnE, if_neg (by decide)]
    dsimp only
    by_cases q : nI n ≤ (0 : Int32)
    · rw [if_pos q]
    · rw [if_neg q, if_pos (by decide)]
  rw [z_bd eF, z_jnE, if_pos nI_0]
  have m1' := m1
  rw [e69] at m1'
  rw [if_pos nI_0] at m1'
  refine Exists.imp (fun r => Exists.imp (fun σ' => Exists.imp (fun μ' hh => ⟨hh.1, Eq.trans ?_ hh.2.1, hh.2.2⟩))) (?_ : ∃ r' σ' μ', _ = some (r', σ') ∧ (if nI (fb_ct (f_ch n m) 4096) ≤ (40 : Int32) then z_gd (z_in (nI f) 4) (z_lt (z_sI ν0 2 (nI f).toNatClampNeg (0 : Int32)) (fun (w6 : zS) => fX8_make_L185 (nI f) (nI (fb_ct (f_ch n m) 4096)) (fun (w7 : zS) (x5 : Int32) => z_lt (z_sI w7 0 10 (0 : Int32)) (fun (w8 : zS) => z_gd (z_in (nI f) 4) (some ((w8.1 2 (nI f).toNatClampNeg), w8)))) z_F w6 (0 : Int32))) else some ((-4 : Int32), ν0)) = some (r', μ') ∧ pP σ' μ')
  · exact m1'
  rw [nI_clamp (show f < 2 ^ 31 by omega)]
  dsimp only
  rcases d3 with ⟨x1, x2, x3⟩ | ⟨x1, x2⟩
  · rw [x2, if_neg (show ¬ (1 : Int32) = 0 by decide), if_pos (show nI (fb_ct (f_ch n m) 4096) ≤ (40 : Int32) from nI_le x1 (by decide)), z_gd_t (r_f4 hf), z_gd_t (r_f4 hf), z_ltE]
    have hwf := f_sq_wf hsk x1
    obtain ⟨τ2, e1, e2, e3⟩ := q_become (q := 7 + f) x3 (hwf _ (Nat.le_refl _)).1 (by omega) (by omega) (by omega)
    obtain ⟨hm0, hM0⟩ := h_mf0 (f := f) ν0
    obtain ⟨ν1, p1, p2, p3⟩ := r_185 (Gs := f_sq sk) (sk := sk) hf hle (fun k hk w hw => by
      obtain ⟨ν', y1, y2, y3⟩ := r_tells_new hw hf (hwf k (by omega)) (hsk k hk).1 (f_sq_new hsk hk) (by rw [f_sq_len]; omega)
      rw [← f_sq_s] at y2
      exact ⟨_, ν', y1, y2, y3⟩) (fun w7 => z_lt (z_sI w7 0 10 (0 : Int32)) (fun (w8 : zS) => z_gd (z_in (nI f) 4) (some ((w8.1 2 f), w8)))) (fb_ct (f_ch n m) 4096) 0 z_F (z_sI ν0 2 f 0) (by omega) (by show _ < 5000; omega) hM0 (fun j hj => by
      rw [z_rd_n (by decide)]
      obtain ⟨s1, s2, s3⟩ := hsk j hj
      have s4 : sk j < 2 ^ n := by
        unfold f_ch at s2
        rw [Bool.and_eq_true] at s2
        exact of_decide_eq_true s2.1
      have := m2 (sk j) s4 s2
      rw [s3] at this
      exact this)
    have p1' : fX8_make_L185 (nI f) (nI (fb_ct (f_ch n m) 4096)) (fun (w7 : zS) (x5 : Int32) => z_lt (z_sI w7 0 10 (0 : Int32)) (fun (w8 : zS) => z_gd (z_in (nI f) 4) (some ((w8.1 2 f), w8)))) z_F (z_sI ν0 2 f 0) (0 : Int32) = _ := p1
    rw [p1', z_ltE, z_gd_t (r_f4 hf), z_bd e1, z_bd (o_all τ2)]
    have l1 : (z_sI τ2 59 3 0).1 15 2 = nI (f_sq sk (fb_ct (f_ch n m) 4096)).length := by
      rw [z_rd_n (by decide), e3.1 15 (by omega) (by omega) (by omega)]
      exact x3.1
    have l2 : (z_sI ν1 0 10 0).1 2 f = nI (f_sq sk (fb_ct (f_ch n m) 4096)).length := by
      rw [z_rd_n (by decide)]
      exact p2.1
    rw [l1, l2]
    exact ⟨_, _, _, rfl, rfl, p_mk_sp hf u1 u2 (h_off_tr k3 d2) e3 e2 m3 (h_mf_tr hm0 p3) p2 (hwf _ (Nat.le_refl _))⟩
  · rw [x2, if_pos rfl, if_neg (show ¬ nI (fb_ct (f_ch n m) 4096) ≤ (40 : Int32) from z_nle (b := 40) x1 (by omega))]
    exact ⟨_, _, _, rfl, rfl, pP_s h (n_X15 (h_off_tr k3 d2)) m3⟩
