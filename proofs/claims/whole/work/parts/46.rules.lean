/-! pure: every rule -/
theorem t_rule {σ μ : zS} {nr r S : Nat} {F : Nat → List (Nat × Nat)} (hu : p_ru σ μ nr) (hfa : p_fa σ μ F) (h4 : 4 ≤ r) (hr : r < nr) (hS : S < 4096) (ih : ∀ j, j < r → ∀ S, S < 4096 → ∃ v, w_v μ j S v ∧ t_c σ μ nr j S v) : ∃ v, w_v μ r S v ∧ t_c σ μ nr r S v := by
  obtain ⟨r1, r2, r3, r4, r5, r6⟩ := hu
  obtain ⟨q1, q2, k, hk8, hk, ha, hb, hc, hd4, he⟩ := r6 r h4 hr
  have hr12 : r < 12 := by omega
  have x0 : ∀ τ, m_off σ τ → τ.1 (35 + r) 0 = nI k := fun τ g => (g.1 _ 0 (fun _ _ => by decide)).trans ((q1 0 (by decide)).trans hk)
  have x1 : ∀ τ, m_off σ τ → τ.1 (35 + r) 1 = μ.1 6 r := fun τ g => (g.1 _ 1 (fun _ _ => by decide)).trans (q1 1 (by decide))
  have x2 : ∀ τ, m_off σ τ → τ.1 (35 + r) 2 = μ.1 7 r := fun τ g => (g.1 _ 2 (fun _ _ => by decide)).trans (q1 2 (by decide))
  have x3 : ∀ τ, m_off σ τ → τ.1 (35 + r) 3 = μ.1 8 r := fun τ g => (g.1 _ 3 (fun _ _ => by decide)).trans (q1 3 (by decide))
  have hcs : k = 0 ∨ k = 1 ∨ k = 2 ∨ k = 3 ∨ k = 4 ∨ k = 5 ∨ k = 6 ∨ k = 7 ∨ k = 8 := by omega
  rcases hcs with rfl | rfl | rfl | rfl | rfl | rfl | rfl | rfl | rfl
  · obtain ⟨i, hi, ei⟩ := ha (by omega)
    obtain ⟨j, hj, ej⟩ := hb (by omega)
    refine t_go2 r1 r4 hr hS ih hi hj ((q1 2 (by decide)).trans ej) (fun x y => x + y) (fun d => ?_) (fun τ g rc t => ?_)
    · rw [w_open h4 hr12 hk, if_pos (show nI 0 = 0 from rfl), ei, ej]
    · unfold fX7_tellsByParts
      rw [x0 τ g, if_pos (show nI 0 = 0 from rfl), x1 τ g, ei]
  · obtain ⟨i, hi, ei⟩ := ha (by omega)
    obtain ⟨j, hj, ej⟩ := hb (by omega)
    refine t_go2 r1 r4 hr hS ih hi hj ((q1 2 (by decide)).trans ej) (fun x y => if x < y then y else x) (fun d => ?_) (fun τ g rc t => ?_)
    · rw [w_open h4 hr12 hk, if_neg (show ¬ nI 1 = 0 by decide), if_pos (show nI 1 = 1 from rfl), ei, ej]
      have e : ∀ x y : Int32, (if x ≤ y then some y else some x) = some (if x < y then y else x) := fun x y => by
        by_cases a : x < y
        · rw [if_pos a, if_pos (Int32.le_iff_toInt_le.mpr (by have := Int32.lt_iff_toInt_lt.mp a; omega))]
        · rw [if_neg a]
          by_cases b : x ≤ y
          · rw [if_pos b]
            have c : x.toInt = y.toInt := by
              have := Int32.le_iff_toInt_le.mp b
              have : ¬ x.toInt < y.toInt := fun z => a (Int32.lt_iff_toInt_lt.mpr z)
              omega
            rw [Int32.toInt_inj.mp c]
          · rw [if_neg b]
      simp only [e]
    · unfold fX7_tellsByParts
      rw [x0 τ g, if_neg (show ¬ nI 1 = 0 by decide), if_pos (show nI 1 = 1 from rfl), x1 τ g, ei]
      simp only [n_max]
      rfl
  · obtain ⟨i, hi, ei⟩ := ha (by omega)
    refine t_go1 r1 r4 hr hS ih hi hS (fun x => μ.1 8 r * x) (fun d => ?_) (fun τ g rc t => ?_)
    · rw [w_open h4 hr12 hk, if_neg (show ¬ nI 2 = 0 by decide), if_neg (show ¬ nI 2 = 1 by decide), if_pos (show nI 2 = 2 from rfl), ei]
    · unfold fX7_tellsByParts
      rw [x0 τ g, if_neg (show ¬ nI 2 = 0 by decide), if_neg (show ¬ nI 2 = 1 by decide), if_pos (show nI 2 = 2 from rfl), x1 τ g, x3 τ g, ei]
  · obtain ⟨i, hi, ei⟩ := ha (by omega)
    obtain ⟨S', hS', eS⟩ := b_any S (((1 : Int32) <<< (μ.1 8 r &&& 31)) ^^^ (-1 : Int32))
    refine t_go1 r1 r4 hr hS ih hi (show S' < 4096 by omega) (fun x => x) (fun d => ?_) (fun τ g rc t => ?_)
    · rw [w_open h4 hr12 hk, if_neg (show ¬ nI 3 = 0 by decide), if_neg (show ¬ nI 3 = 1 by decide), if_neg (show ¬ nI 3 = 2 by decide), if_pos (show nI 3 = 3 from rfl), ei, eS]
    · unfold fX7_tellsByParts
      rw [x0 τ g, if_neg (show ¬ nI 3 = 0 by decide), if_neg (show ¬ nI 3 = 1 by decide), if_neg (show ¬ nI 3 = 2 by decide), if_pos (show nI 3 = 3 from rfl), x1 τ g, x3 τ g, ei, eS]
  · obtain ⟨i, hi, ei⟩ := ha (by omega)
    obtain ⟨c1, c2⟩ := hd4 rfl
    by_cases hz : (0 : Int32) ≤ μ.1 8 r
    · obtain ⟨S', hS', eS⟩ := pk_andE (m := 4095) (nI S <<< (μ.1 8 r &&& 31)) 12 (by decide)
      refine t_go1 r1 r4 hr hS ih hi hS' (fun x => x) (fun d => ?_) (fun τ g rc t => ?_)
      · rw [w_open h4 hr12 hk, if_neg (show ¬ nI 4 = 0 by decide), if_neg (show ¬ nI 4 = 1 by decide), if_neg (show ¬ nI 4 = 2 by decide), if_neg (show ¬ nI 4 = 3 by decide), if_pos (show nI 4 = 4 from rfl), if_pos hz, ei, eS]
      · unfold fX7_tellsByParts fX7_shifted
        rw [x0 τ g, if_neg (show ¬ nI 4 = 0 by decide), if_neg (show ¬ nI 4 = 1 by decide), if_neg (show ¬ nI 4 = 2 by decide), if_neg (show ¬ nI 4 = 3 by decide), if_pos (show nI 4 = 4 from rfl), x1 τ g, x3 τ g, ei, if_neg (show ¬ μ.1 8 r < 0 from fun w => by
          have a := Int32.lt_iff_toInt_lt.mp w
          have b := Int32.le_iff_toInt_le.mp hz
          omega), eS, z_bd rfl]
    · have hneg : (μ.1 8 r).toInt < 0 := by
        have : ¬ (0 : Int32).toInt ≤ (μ.1 8 r).toInt := fun w => hz (Int32.le_iff_toInt_le.mpr w)
        have e0 : (0 : Int32).toInt = 0 := rfl
        omega
      obtain ⟨m, hm, em⟩ : ∃ m : Nat, m < 12 ∧ -μ.1 8 r = nI m := by
        refine ⟨(-(μ.1 8 r).toInt).toNat, by omega, ?_⟩
        apply Int32.toInt_inj.mp
        rw [nI_toInt (by omega), Int32.toInt_neg, Int.bmod_eq_of_le (by omega) (by omega)]
        omega
      refine t_go1 r1 r4 hr hS ih hi (show S / 2 ^ m < 4096 from Nat.lt_of_le_of_lt (Nat.div_le_self _ _) hS) (fun x => x) (fun d => ?_) (fun τ g rc t => ?_)
      · rw [w_open h4 hr12 hk, if_neg (show ¬ nI 4 = 0 by decide), if_neg (show ¬ nI 4 = 1 by decide), if_neg (show ¬ nI 4 = 2 by decide), if_neg (show ¬ nI 4 = 3 by decide), if_pos (show nI 4 = 4 from rfl), if_neg hz, ei, em, b_shr (by omega) (by omega)]
      · unfold fX7_tellsByParts fX7_shifted
        rw [x0 τ g, if_neg (show ¬ nI 4 = 0 by decide), if_neg (show ¬ nI 4 = 1 by decide), if_neg (show ¬ nI 4 = 2 by decide), if_neg (show ¬ nI 4 = 3 by decide), if_pos (show nI 4 = 4 from rfl), x1 τ g, x3 τ g, ei, if_pos (show μ.1 8 r < 0 from Int32.lt_iff_toInt_lt.mpr hneg), em, b_shr (by omega) (by omega), z_bd rfl]
  · obtain ⟨i, hi, ei⟩ := ha (by omega)
    obtain ⟨j, hj, ej⟩ := hb (by omega)
    obtain ⟨c, hc1, ec⟩ := hc (by omega)
    cases eb : S.testBit c
    · refine t_go1 r1 r4 hr hS ih hj hS (fun x => x) (fun d => ?_) (fun τ g rc t => ?_)
      · rw [w_open h4 hr12 hk, if_neg (show ¬ nI 5 = 0 by decide), if_neg (show ¬ nI 5 = 1 by decide), if_neg (show ¬ nI 5 = 2 by decide), if_neg (show ¬ nI 5 = 3 by decide), if_neg (show ¬ nI 5 = 4 by decide), if_pos (show nI 5 = 5 from rfl), ei, ej, ec, z_bd (r_has0 (by omega) (by omega) eb), i_t]
      · unfold fX7_tellsByParts
        rw [x0 τ g, if_neg (show ¬ nI 5 = 0 by decide), if_neg (show ¬ nI 5 = 1 by decide), if_neg (show ¬ nI 5 = 2 by decide), if_neg (show ¬ nI 5 = 3 by decide), if_neg (show ¬ nI 5 = 4 by decide), if_pos (show nI 5 = 5 from rfl), x1 τ g, x2 τ g, x3 τ g, ei, ej, ec, z_bd (q_hasP0 (by omega) (by omega) eb), i_t]
    · refine t_go1 r1 r4 hr hS ih hi hS (fun x => x) (fun d => ?_) (fun τ g rc t => ?_)
      · rw [w_open h4 hr12 hk, if_neg (show ¬ nI 5 = 0 by decide), if_neg (show ¬ nI 5 = 1 by decide), if_neg (show ¬ nI 5 = 2 by decide), if_neg (show ¬ nI 5 = 3 by decide), if_neg (show ¬ nI 5 = 4 by decide), if_pos (show nI 5 = 5 from rfl), ei, ej, ec, z_bd (r_has1 (by omega) (by omega) eb), i_f]
      · unfold fX7_tellsByParts
        rw [x0 τ g, if_neg (show ¬ nI 5 = 0 by decide), if_neg (show ¬ nI 5 = 1 by decide), if_neg (show ¬ nI 5 = 2 by decide), if_neg (show ¬ nI 5 = 3 by decide), if_neg (show ¬ nI 5 = 4 by decide), if_pos (show nI 5 = 5 from rfl), x1 τ g, x2 τ g, x3 τ g, ei, ej, ec, z_bd (q_hasP1 (by omega) (by omega) eb), i_f]
  · refine t_go0 r1 r4 hr hS (f_pay S (fun i => μ.1 9 (12 * r + i)) 12) (fun d => ?_) (fun τ g rc t => ?_)
    · rw [w_open h4 hr12 hk, if_neg (show ¬ nI 6 = 0 by decide), if_neg (show ¬ nI 6 = 1 by decide), if_neg (show ¬ nI 6 = 2 by decide), if_neg (show ¬ nI 6 = 3 by decide), if_neg (show ¬ nI 6 = 4 by decide), if_neg (show ¬ nI 6 = 5 by decide), if_pos (show nI 6 = 6 from rfl), r_pay hr12 (by omega)]
    · have e : fX7_tellsAlone τ (35 + r) (nI S) = some (f_pay S (fun i => μ.1 9 (12 * r + i)) 12) := by
        unfold fX7_tellsAlone
        rw [x0 τ g, if_pos (show nI 6 = 6 from rfl), z_bd (q_pay (by omega)), show 35 + r + 12 = 47 + r by omega, m_f g (by omega), f_pay_c q2]
      unfold fX7_tellsByParts
      rw [x0 τ g, if_neg (show ¬ nI 6 = 0 by decide), if_neg (show ¬ nI 6 = 1 by decide), if_neg (show ¬ nI 6 = 2 by decide), if_neg (show ¬ nI 6 = 3 by decide), if_neg (show ¬ nI 6 = 4 by decide), if_neg (show ¬ nI 6 = 5 by decide), if_pos (show nI 6 = 6 from rfl), z_bd e]
  · obtain ⟨f, hf, ef⟩ := he rfl
    obtain ⟨hX, hM, hw⟩ := hfa f hf
    refine t_go0 r1 r4 hr hS (f_met (nI S) (F f)) (fun d => ?_) (fun τ g rc t => ?_)
    · rw [w_open h4 hr12 hk, if_neg (show ¬ nI 7 = 0 by decide), if_neg (show ¬ nI 7 = 1 by decide), if_neg (show ¬ nI 7 = 2 by decide), if_neg (show ¬ nI 7 = 3 by decide), if_neg (show ¬ nI 7 = 4 by decide), if_neg (show ¬ nI 7 = 5 by decide), if_neg (show ¬ nI 7 = 6 by decide), if_pos (show nI 7 = 7 from rfl), ef, z_bd (r_met hf hM hw.1)]
    · have hX' : h_X τ (7 + f) (F f) := h_X_c hX (m_f g (by omega)) (m_f g (by omega)) (m_f g (by omega))
      have e : fX7_tellsAlone τ (35 + r) (nI S) = some (f_met (nI S) (F f)) := by
        unfold fX7_tellsAlone
        rw [x0 τ g, if_neg (show ¬ nI 7 = 6 by decide), if_pos (show nI 7 = 7 from rfl), x3 τ g, ef, z_bd (q_nf0 hf), i_t, z_gd_t (r_f4 hf), nI_clamp (by omega), z_bd (q_met hX' hw.1)]
      unfold fX7_tellsByParts
      rw [x0 τ g, if_neg (show ¬ nI 7 = 0 by decide), if_neg (show ¬ nI 7 = 1 by decide), if_neg (show ¬ nI 7 = 2 by decide), if_neg (show ¬ nI 7 = 3 by decide), if_neg (show ¬ nI 7 = 4 by decide), if_neg (show ¬ nI 7 = 5 by decide), if_neg (show ¬ nI 7 = 6 by decide), if_pos (show nI 7 = 7 from rfl), z_bd e]
  · obtain ⟨i, hi, ei⟩ := ha (by omega)
    obtain ⟨S', hS', eS⟩ := b_any 4095 (nI S ^^^ (-1 : Int32))
    refine t_go1 r1 r4 hr hS ih hi (show S' < 4096 by omega) (fun x => x) (fun d => ?_) (fun τ g rc t => ?_)
    · rw [w_open h4 hr12 hk, if_neg (show ¬ nI 8 = 0 by decide), if_neg (show ¬ nI 8 = 1 by decide), if_neg (show ¬ nI 8 = 2 by decide), if_neg (show ¬ nI 8 = 3 by decide), if_neg (show ¬ nI 8 = 4 by decide), if_neg (show ¬ nI 8 = 5 by decide), if_neg (show ¬ nI 8 = 6 by decide), if_neg (show ¬ nI 8 = 7 by decide), ei, n_4095, eS]
    · unfold fX7_tellsByParts
      rw [x0 τ g, if_neg (show ¬ nI 8 = 0 by decide), if_neg (show ¬ nI 8 = 1 by decide), if_neg (show ¬ nI 8 = 2 by decide), if_neg (show ¬ nI 8 = 3 by decide), if_neg (show ¬ nI 8 = 4 by decide), if_neg (show ¬ nI 8 = 5 by decide), if_neg (show ¬ nI 8 = 6 by decide), if_neg (show ¬ nI 8 = 7 by decide), if_pos (show nI 8 = 8 from rfl), x1 τ g, ei, n_4095, eS]
