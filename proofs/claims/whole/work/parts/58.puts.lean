/-! pure: tables of a family -/
theorem t_puts {γ : Type} (q : Nat) (σ : zS) (f : Nat → zS → Int32 → Option zS) (K : zS → Option zS) (L : List γ) (v : γ → Nat) (hv : ∀ x, x ∈ L → v x < 4096) (hs : ∀ n k x g, L[k]? = some x → f (n + 1) (z_fJ σ (q + 2) g) (nI k) = (fX5_put (z_fJ σ (q + 2) g) q (nI (v x))).bind (fun r => f n r (nI (k + 1)))) (he : ∀ n g, f (n + 1) (z_fJ σ (q + 2) g) (nI L.length) = K (z_fJ σ (q + 2) g)) : ∀ (n : Nat) (g : Nat → Int64) (T : Nat → Bool), L.length < n → t_B g T → ∃ g', f n (z_fJ σ (q + 2) g) (nI 0) = K (z_fJ σ (q + 2) g') ∧ t_B g' (fun u => T u || L.any (fun x => decide (u = v x))) := by
  have key : ∀ (d k n : Nat) (g : Nat → Int64) (T : Nat → Bool), k + d = L.length → d < n → t_B g T → ∃ g', f n (z_fJ σ (q + 2) g) (nI k) = K (z_fJ σ (q + 2) g') ∧ t_B g' (fun u => T u || (L.drop k).any (fun x => decide (u = v x))) := by
    intro d
    induction d with
    | zero =>
      intro k n g T h1 h2 h3
      obtain ⟨n, rfl⟩ : ∃ j, n = j + 1 := ⟨n - 1, by omega⟩
      have hk : k = L.length := by omega
      subst hk
      exact ⟨g, he n g, t_cg h3 (fun s _ => by rw [List.drop_length, List.any_nil, Bool.or_false])⟩
    | succ d ih =>
      intro k n g T h1 h2 h3
      obtain ⟨n, rfl⟩ : ∃ j, n = j + 1 := ⟨n - 1, by omega⟩
      have hk : k < L.length := by omega
      have hx : L[k]? = some L[k] := List.getElem?_eq_getElem hk
      obtain ⟨g1, a1, a2⟩ := q_put (σ := z_fJ σ (q + 2) g) (q := q) (T := T) (by rw [z_fJ_s]; exact h3) (hv _ (List.getElem_mem hk))
      rw [z_fJ_fJ] at a1
      obtain ⟨g2, b1, b2⟩ := ih (k + 1) n g1 _ (by omega) (by omega) a2
      refine ⟨g2, by rw [hs n k _ g hx, z_bd a1]; exact b1, t_cg b2 (fun s _ => ?_)⟩
      rw [List.drop_eq_getElem_cons hk, List.any_cons, Bool.or_assoc]
  intro n g T h1 h2
  have := key L.length 0 n g T (by omega) h1 h2
  rw [List.drop_zero] at this
  exact this
theorem b_xor (x y : Nat) : nI x ^^^ nI y = nI (x ^^^ y) := by
  apply Int32.toBitVec_inj.mp
  apply BitVec.eq_of_toNat_eq
  show ((nI x).toBitVec ^^^ (nI y).toBitVec).toNat = _
  rw [BitVec.toNat_xor]
  show (x % 2 ^ 32) ^^^ (y % 2 ^ 32) = (x ^^^ y) % 2 ^ 32
  rw [Nat.xor_mod_two_pow]
theorem b_or (x y : Nat) : nI x ||| nI y = nI (x ||| y) := by
  apply Int32.toBitVec_inj.mp
  apply BitVec.eq_of_toNat_eq
  show ((nI x).toBitVec ||| (nI y).toBitVec).toNat = _
  rw [BitVec.toNat_or]
  show (x % 2 ^ 32) ||| (y % 2 ^ 32) = (x ||| y) % 2 ^ 32
  rw [Nat.or_mod_two_pow]
theorem n_xlt {x y : Nat} (hx : x < 4096) (hy : y < 4096) : x ^^^ y < 4096 := Nat.xor_lt_two_pow (n := 12) hx hy
section TF
variable {σ : zS} {q q1 : Nat} {F : List (Nat × Nat)}
theorem q_setsOf (hX : h_X σ q1 F) (hw : h_wf F) : ∃ g, fX5_becomeSetsOf σ q q1 = some (z_fJ σ (q + 2) g) ∧ t_B g (fun u => F.any (fun x => decide (u = x.1))) := by
  have hl := hw.1
  obtain ⟨g, a, b⟩ := t_puts q σ (fun n τ v => fX5_becomeSetsOf_L10 q q1 (fun w1 _ => some w1) n τ v) (fun τ => some τ) F (fun x => x.1) (fun x hx => (hw.2.1 x hx).1) (fun n k x g hx => by
    have hk := h_at hx
    show fX5_becomeSetsOf_L10 q q1 _ (n + 1) (z_fJ σ (q + 2) g) (nI k) = _
    rw [fX5_becomeSetsOf_L10.eq_2, z_fJ_1, hX.1, if_neg (z_nle hk.1 (by omega)), z_gd_t (z_in_nI (by omega) (by decide)), nI_clamp (by omega), (hX.2 k x hx).1, nI_1]) (fun n g => by
    show fX5_becomeSetsOf_L10 q q1 _ (n + 1) (z_fJ σ (q + 2) g) (nI F.length) = _
    rw [fX5_becomeSetsOf_L10.eq_2, z_fJ_1, hX.1, if_pos (nI_le (Nat.le_refl _) (by omega))]) z_F _ _ (by show _ < 5000; omega) (t_f0 (f := σ.2 (q + 2)))
  refine ⟨g, ?_, t_cg b (fun s _ => Bool.false_or _)⟩
  unfold fX5_becomeSetsOf
  rw [z_bd (q_fillJ σ (q + 2) 64 0 (by decide)), z_i0]
  exact a
/-- what hits all of a list -/
def t_hit (W : List Nat) (s : Nat) : Bool := W.all (fun w => decide (w &&& s ≠ 0))
theorem n_and0 {w s : Nat} : w &&& s = 0 ↔ ∀ i, w.testBit i = true → s.testBit i = false := by
  constructor
  · intro h i hi
    have := Nat.testBit_and w s i
    rw [h, Nat.zero_testBit, hi, Bool.true_and] at this
    exact this.symm
  · intro h
    apply Nat.eq_of_testBit_eq
    intro i
    rw [Nat.testBit_and, Nat.zero_testBit]
    cases e : w.testBit i
    · rfl
    · rw [h i e]
      rfl
theorem b_hi {s i : Nat} (hs : s < 4096) (hi : 12 ≤ i) : s.testBit i = false := Nat.testBit_lt_two_pow (Nat.lt_of_lt_of_le hs (Nat.pow_le_pow_right (n := 2) (by decide) hi))
theorem b_4095 (i : Nat) : (4095 : Nat).testBit i = decide (i < 12) := Nat.testBit_two_pow_sub_one 12 i
theorem t_hit_eq {W : List Nat} (hW : ∀ w, w ∈ W → w < 4096) {s : Nat} (hs : s < 4096) {T : Nat → Bool} (hT : ∀ u, T u = W.any (fun w => decide (u = 4095 ^^^ w))) : (!t_mv false T 12 s) = t_hit W s := by
  have key : t_mv false T 12 s = true ↔ ∃ w, w ∈ W ∧ w &&& s = 0 := by
    rw [t_mv_sp]
    constructor
    · rintro ⟨t, h1, h2⟩
      rw [hT, List.any_eq_true] at h1
      obtain ⟨w, hw, e⟩ := h1
      have e : t = 4095 ^^^ w := of_decide_eq_true e
      refine ⟨w, hw, n_and0.mpr (fun i hi => ?_)⟩
      cases es : s.testBit i
      · rfl
      · exfalso
        have h12 : i < 12 := by
          rcases Nat.lt_or_ge i 12 with q | q
          · exact q
          · rw [b_hi hs q] at es
            cases es
        have et : t.testBit i = false := by rw [e, Nat.testBit_xor, b_4095, decide_eq_true h12, hi]; rfl
        have := (h2 i (by rw [es, et]; decide)).2
        rw [es] at this
        cases this
    · rintro ⟨w, hw, e⟩
      refine ⟨4095 ^^^ w, by rw [hT, List.any_eq_true]; exact ⟨w, hw, decide_eq_true rfl⟩, fun i hi => ?_⟩
      rw [Nat.testBit_xor, b_4095] at hi
      rcases Nat.lt_or_ge i 12 with q | q
      · refine ⟨q, ?_⟩
        rw [decide_eq_true q] at hi
        cases ew : w.testBit i
        · rw [ew] at hi
          cases es : s.testBit i
          · rfl
          · rw [es] at hi
            exact absurd rfl hi
        · exact n_and0.mp e i ew
      · rw [decide_eq_false (by omega), b_hi hs q, b_hi (hW w hw) q] at hi
        exact absurd rfl hi
  unfold t_hit
  cases e : t_mv false T 12 s
  · symm
    show _ = true
    rw [List.all_eq_true]
    intro w hw
    refine decide_eq_true (fun h0 => ?_)
    have := key.mpr ⟨w, hw, h0⟩
    rw [e] at this
    cases this
  · symm
    show _ = false
    obtain ⟨w, hw, h0⟩ := key.mp e
    rw [List.all_eq_false]
    exact ⟨w, hw, by simp [h0]⟩
theorem q_hitsOf (hX : h_X σ q1 F) (hw : h_wf F) : ∃ g, fX5_becomeHitting σ q q1 = some (z_fJ σ (q + 2) g) ∧ t_B g (t_hit (F.map Prod.fst)) := by
  have hl := hw.1
  obtain ⟨g, a, b⟩ := t_puts q σ (fun n τ v => fX5_becomeHitting_L10 q q1 (fun w1 _ => (fX5_addParts w1 q).bind (fun r2 => (fX5_flip r2 q).bind (fun r3 => some r3))) n τ v) (fun τ => (fX5_addParts τ q).bind (fun r2 => (fX5_flip r2 q).bind (fun r3 => some r3))) F (fun x => 4095 ^^^ x.1) (fun x hx => n_xlt (by decide) (hw.2.1 x hx).1) (fun n k x g hx => by
    have hk := h_at hx
    show fX5_becomeHitting_L10 q q1 _ (n + 1) (z_fJ σ (q + 2) g) (nI k) = _
    rw [fX5_becomeHitting_L10.eq_2, z_fJ_1, hX.1, if_neg (z_nle hk.1 (by omega)), z_gd_t (z_in_nI (by omega) (by decide)), nI_clamp (by omega), (hX.2 k x hx).1, n_4095, b_xor, nI_1]) (fun n g => by
    show fX5_becomeHitting_L10 q q1 _ (n + 1) (z_fJ σ (q + 2) g) (nI F.length) = _
    rw [fX5_becomeHitting_L10.eq_2, z_fJ_1, hX.1, if_pos (nI_le (Nat.le_refl _) (by omega))]) z_F _ _ (by show _ < 5000; omega) (t_f0 (f := σ.2 (q + 2)))
  obtain ⟨g2, a2, b2⟩ := q_addParts (σ := z_fJ σ (q + 2) g) (q := q) (by rw [z_fJ_s]; exact b)
  obtain ⟨g3, a3, b3⟩ := q_flip (σ := z_fJ σ (q + 2) g2) (q := q) (by rw [z_fJ_s]; exact b2)
  rw [z_fJ_fJ] at a2 a3
  refine ⟨g3, ?_, t_cg b3 (fun s hs => t_hit_eq (fun w hw' => ?_) hs (fun u => ?_))⟩
  · unfold fX5_becomeHitting
    rw [z_bd (q_fillJ σ (q + 2) 64 0 (by decide)), z_i0]
    refine Eq.trans a ?_
    rw [z_bd a2, z_bd a3]
  · obtain ⟨x, hx, rfl⟩ := List.mem_map.mp hw'
    exact (hw.2.1 x hx).1
  · rw [Bool.false_or, List.any_map]
    rfl
theorem q_dual (hX : h_X σ q1 F) (hw : h_wf F) : ∃ g h, fX7_findDual σ q1 = some (z_fJ (z_fJ σ 89 g) 90 h) ∧ t_B g (t_hit (F.map Prod.fst)) ∧ t_B h (t_lst true (t_hit (F.map Prod.fst))) := by
  obtain ⟨g, a, b⟩ := q_hitsOf (q := 87) hX hw
  obtain ⟨h, c, d⟩ := q_least (σ := z_fJ σ 89 g) (q0 := 88) (q1 := 87) (by decide) (by rw [z_fJ_s]; exact b)
  refine ⟨g, h, ?_, b, d⟩
  unfold fX7_findDual
  rw [z_bd a, z_bd c]
end TF
/-! what tells two of a family apart -/
def d_pr (F : List (Nat × Nat)) : Nat → List Nat
  | 0 => []
  | k + 1 => d_pr F k ++ (F.take k).map (fun y => (F.getD k (0, 0)).1 ^^^ y.1)
theorem q_telling {σ : zS} {q q1 : Nat} {F : List (Nat × Nat)} (hX : h_X σ q1 F) (hw : h_wf F) : ∃ g, fX5_becomeTelling σ q q1 = some (z_fJ σ (q + 2) g) ∧ t_B g (t_hit (d_pr F F.length)) := by
  have hl := hw.1
  have hgd : ∀ k, k < F.length → F[k]? = some (F.getD k (0, 0)) := fun k hk => by
    rw [List.getD_eq_getElem?_getD, List.getElem?_eq_getElem hk]
    rfl
  have hlt : ∀ k, k < F.length → (F.getD k (0, 0)).1 < 4096 := fun k hk => (hw.2.1 _ (h_at (hgd k hk)).2).1
  have hb : ∀ k, k ≤ F.length → ∀ w, w ∈ d_pr F k → w < 4096 := by
    intro k
    induction k with
    | zero =>
      intro _ w hw'
      cases hw'
    | succ k ih =>
      intro hk w hw'
      rcases List.mem_append.mp hw' with h | h
      · exact ih (by omega) w h
      · obtain ⟨y, hy, rfl⟩ := List.mem_map.mp h
        exact n_xlt (hlt k (by omega)) (hw.2.1 y (List.mem_of_mem_take hy)).1
  have key : ∀ (d k n : Nat) (g : Nat → Int64), k + d = F.length → d < n → t_B g (fun u => (d_pr F k).any (fun w => decide (u = 4095 ^^^ w))) → ∃ g', fX5_becomeTelling_L10 q q1 (fun w1 _ => (fX5_addParts w1 q).bind (fun r2 => (fX5_flip r2 q).bind (fun r3 => some r3))) n (z_fJ σ (q + 2) g) (nI k) = (fX5_addParts (z_fJ σ (q + 2) g') q).bind (fun r2 => (fX5_flip r2 q).bind (fun r3 => some r3)) ∧ t_B g' (fun u => (d_pr F F.length).any (fun w => decide (u = 4095 ^^^ w))) := by
    intro d
    induction d with
    | zero =>
      intro k n g h1 h2 h3
      obtain ⟨n, rfl⟩ : ∃ j, n = j + 1 := ⟨n - 1, by omega⟩
      have hk : k = F.length := by omega
      subst hk
      exact ⟨g, by rw [fX5_becomeTelling_L10.eq_2, z_fJ_1, hX.1, if_pos (nI_le (Nat.le_refl _) (by omega))], h3⟩
    | succ d ih =>
      intro k n g h1 h2 h3
      obtain ⟨n, rfl⟩ : ∃ j, n = j + 1 := ⟨n - 1, by omega⟩
      have hk : k < F.length := by omega
      have hlen : (F.take k).length = k := by rw [List.length_take]; omega
      obtain ⟨g1, a, b⟩ := t_puts q σ (fun m τ v => fX5_becomeTelling_L20 q q1 (nI k) (fun w1 _ => fX5_becomeTelling_L10 q q1 (fun w1 _ => (fX5_addParts w1 q).bind (fun r2 => (fX5_flip r2 q).bind (fun r3 => some r3))) n w1 (nI k + 1)) m τ v) (fun τ => fX5_becomeTelling_L10 q q1 (fun w1 _ => (fX5_addParts w1 q).bind (fun r2 => (fX5_flip r2 q).bind (fun r3 => some r3))) n τ (nI k + 1)) (F.take k) (fun y => 4095 ^^^ ((F.getD k (0, 0)).1 ^^^ y.1)) (fun y hy => n_xlt (by decide) (n_xlt (hlt k hk) (hw.2.1 y (List.mem_of_mem_take hy)).1)) (fun m j y g hy => by
        have hj := h_at hy
        have hyF : F[j]? = some y := by
          rw [List.getElem?_take] at hy
          split at hy
          · exact hy
          · cases hy
        show fX5_becomeTelling_L20 q q1 (nI k) _ (m + 1) (z_fJ σ (q + 2) g) (nI j) = _
        rw [fX5_becomeTelling_L20.eq_2, if_neg (z_nle (show j < k by omega) (by omega)), z_gd_t (z_in_nI (show k < 40 by omega) (by decide)), z_gd_t (z_in_nI (show j < 40 by omega) (by decide)), nI_clamp (show k < 2 ^ 31 by omega), nI_clamp (show j < 2 ^ 31 by omega), z_fJ_1, (hX.2 k _ (hgd k hk)).1, (hX.2 j y hyF).1, n_4095, b_xor, b_xor, Nat.xor_assoc, nI_1 j]) (fun m g => by
        rw [hlen]
        show fX5_becomeTelling_L20 q q1 (nI k) _ (m + 1) (z_fJ σ (q + 2) g) (nI k) = _
        rw [fX5_becomeTelling_L20.eq_2, if_pos (nI_le (Nat.le_refl _) (by omega))]) z_F g _ (by show _ < 5000; omega) h3
      obtain ⟨g2, c1, c2⟩ := ih (k + 1) n g1 (by omega) (by omega) (t_cg b (fun s _ => by
        show _ = (d_pr F k ++ (F.take k).map (fun y => (F.getD k (0, 0)).1 ^^^ y.1)).any (fun w => decide (s = 4095 ^^^ w))
        rw [List.any_append, List.any_map]
        rfl))
      refine ⟨g2, ?_, c2⟩
      rw [fX5_becomeTelling_L10.eq_2, z_fJ_1, hX.1, if_neg (z_nle hk (by omega)), z_i0]
      refine Eq.trans a ?_
      rw [nI_1]
      exact c1
  have hz : ∃ g', fX5_becomeTelling_L10 q q1 (fun w1 _ => (fX5_addParts w1 q).bind (fun r2 => (fX5_flip r2 q).bind (fun r3 => some r3))) z_F (z_fJ σ (q + 2) (z_mx (fun _ => (0 : Int64)) (σ.2 (q + 2)) 64)) (nI 1) = (fX5_addParts (z_fJ σ (q + 2) g') q).bind (fun r2 => (fX5_flip r2 q).bind (fun r3 => some r3)) ∧ t_B g' (fun u => (d_pr F F.length).any (fun w => decide (u = 4095 ^^^ w))) := by
    rcases Nat.eq_zero_or_pos F.length with h0 | h0
    · refine ⟨z_mx (fun _ => (0 : Int64)) (σ.2 (q + 2)) 64, ?_, t_cg t_f0 (fun s _ => by rw [h0]; rfl)⟩
      rw [show z_F = 4999 + 1 from rfl, fX5_becomeTelling_L10.eq_2, z_fJ_1, hX.1, if_pos (nI_le (by omega) (by omega))]
    · exact key (F.length - 1) 1 z_F _ (by omega) (by show _ < 5000; omega) (t_cg t_f0 (fun s _ => by
        show false = (d_pr F 0 ++ (F.take 0).map (fun y => (F.getD 0 (0, 0)).1 ^^^ y.1)).any _
        rw [List.take_zero]
        rfl))
  obtain ⟨g, a, b⟩ := hz
  obtain ⟨g2, a2, b2⟩ := q_addParts (σ := z_fJ σ (q + 2) g) (q := q) (by rw [z_fJ_s]; exact b)
  obtain ⟨g3, a3, b3⟩ := q_flip (σ := z_fJ σ (q + 2) g2) (q := q) (by rw [z_fJ_s]; exact b2)
  rw [z_fJ_fJ] at a2 a3
  refine ⟨g3, ?_, t_cg b3 (fun s hs => t_hit_eq (hb _ (Nat.le_refl _)) hs (fun u => rfl))⟩
  unfold fX5_becomeTelling
  rw [z_bd (q_fillJ σ (q + 2) 64 0 (by decide)), n_1]
  refine Eq.trans a ?_
  rw [z_bd a2, z_bd a3]
