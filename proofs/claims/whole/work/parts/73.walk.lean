/-! pure: the walk's rows -/
theorem w_row_s {g : Nat → Int32} {L : List Nat} {x : Nat} (h : w_row g L) : w_row (upd g L.length (nI x)) (L ++ [x]) := by
  intro k y hy
  by_cases hk : k < L.length
  · rw [List.getElem?_append_left hk] at hy
    rw [u_n (by omega)]
    exact h k y hy
  · rw [List.getElem?_append_right (by omega)] at hy
    have h0 : k - L.length < 1 := (List.getElem?_eq_some_iff.mp hy).1
    have hk2 : k = L.length := by omega
    subst hk2
    rw [Nat.sub_self] at hy
    cases hy
    rw [u_s]
theorem w_row_0 (g : Nat → Int32) : w_row g [] := fun k x hx => by simp at hx
theorem w_1_tk {p k : Nat} {A : List Nat} (hk : k < A.length) : w_1 p (A.take (k + 1)) = if A[k].testBit p then w_1 p (A.take k) else w_1 p (A.take k) ++ [A[k]] := by
  unfold w_1
  rw [List.take_succ_eq_append_getElem hk, List.filter_append, List.filter_cons, List.filter_nil]
  cases A[k].testBit p
  · rw [if_pos (by decide), if_neg (by decide)]
  · rw [if_neg (by decide), if_pos rfl, List.append_nil]
theorem w_R_tk {p k : Nat} {A : List Nat} (hk : k < A.length) : w_R p (A.take (k + 1)) = if A[k].testBit p then w_R p (A.take k) ++ [n_rm p A[k]] else w_R p (A.take k) := by
  unfold w_R
  rw [List.take_succ_eq_append_getElem hk, List.filter_append, List.map_append, List.filter_cons, List.filter_nil]
  cases A[k].testBit p
  · rw [if_neg (by decide), if_neg (by decide), List.map_nil, List.append_nil]
  · rw [if_pos rfl, if_pos rfl, List.map_cons, List.map_nil]
theorem w_cnt (p : Nat) (A : List Nat) : (w_R p A).length + (w_1 p A).length = A.length := by
  unfold w_R w_1
  rw [List.length_map]
  induction A with
  | nil => rfl
  | cons x A ih =>
    rw [List.filter_cons, List.filter_cons]
    cases x.testBit p <;> simp <;> omega
theorem w_1_le (p : Nat) (A : List Nat) (k : Nat) : (w_1 p (A.take k)).length ≤ k ∧ (w_1 p (A.take k)).length ≤ (w_1 p A).length := by
  unfold w_1
  constructor
  · exact Nat.le_trans (List.length_filter_le _ _) (by rw [List.length_take]; omega)
  · exact (List.Sublist.filter _ (List.take_sublist k A)).length_le
theorem w_R_le (p : Nat) (A : List Nat) (k : Nat) : (w_R p (A.take k)).length ≤ k := by
  unfold w_R
  rw [List.length_map]
  exact Nat.le_trans (List.length_filter_le _ _) (by rw [List.length_take]; omega)
section WX
variable {σ : zS} {l p : Nat} {A : List Nat}
theorem n_l1 {l : Nat} (hl : l < 12) : (nI l + (1 : Int32)).toNatClampNeg = l + 1 := by rw [nI_1, nI_clamp (by omega)]
theorem q_wo (hr : w_row (σ.1 (74 + l)) A) (hl : A.length ≤ 40) (hb : ∀ x, x ∈ A → x < 4096) (hl12 : l < 12) (hp : p < 12) : ∃ g, fX6_keepWithout σ (nI l) (nI A.length) (nI p) = some (nI (w_1 p A).length, z_fI σ (74 + (l + 1)) g) ∧ w_row g (w_1 p A) := by
  have r4 : ∀ g, (z_fI σ (74 + (l + 1)) g).1 (74 + l) = σ.1 (74 + l) := fun g => z_fI_n (by omega)
  have key : ∀ (d k n : Nat) (g : Nat → Int32), k + d = A.length → d < n → w_row g (w_1 p (A.take k)) → ∃ g', fX6_keepWithout_L24 (nI A.length) (nI p) (74 + l) (74 + (l + 1)) (fun w1 x1 _ => some (x1, w1)) n (z_fI σ (74 + (l + 1)) g) (nI (w_1 p (A.take k)).length) (nI k) = some (nI (w_1 p A).length, z_fI σ (74 + (l + 1)) g') ∧ w_row g' (w_1 p A) := by
    intro d
    induction d with
    | zero =>
      intro k n g h1 h2 h3
      obtain ⟨n, rfl⟩ : ∃ j, n = j + 1 := ⟨n - 1, by omega⟩
      have hk : k = A.length := by omega
      subst hk
      rw [List.take_length] at h3 ⊢
      exact ⟨g, by rw [fX6_keepWithout_L24.eq_2, if_pos (nI_le (Nat.le_refl _) (by omega))], h3⟩
    | succ d ih =>
      intro k n g h1 h2 h3
      obtain ⟨n, rfl⟩ : ∃ j, n = j + 1 := ⟨n - 1, by omega⟩
      have hk : k < A.length := by omega
      have hx : A[k]? = some A[k] := List.getElem?_eq_getElem hk
      have hbk := hb _ (List.getElem_mem hk)
      have hle := (w_1_le p A k).1
      have ht := w_1_tk (p := p) hk
      rw [fX6_keepWithout_L24.eq_2, if_neg (z_nle hk (by omega)), z_gd_t (z_in_nI (by omega) (by decide)), nI_clamp (show k < 2 ^ 31 by omega), r4, hr k _ hx, nI_1 k]
      cases e : A[k].testBit p
      · rw [e, if_neg (by decide)] at ht
        obtain ⟨g', a, b⟩ := ih (k + 1) n (upd g (w_1 p (A.take k)).length (nI A[k])) (by omega) (by omega) (by rw [ht]; exact w_row_s h3)
        refine ⟨g', ?_, b⟩
        rw [ht, List.length_append] at a
        rw [z_bd (q_hasP0 (by omega) (by omega) e), i_t, z_gd_t (z_in_nI (by omega) (by decide)), z_gd_t (z_in_nI (by omega) (by decide)), z_ltE, nI_clamp (by omega), z_sI_fI, nI_1]
        exact a
      · rw [e, if_pos rfl] at ht
        obtain ⟨g', a, b⟩ := ih (k + 1) n g (by omega) (by omega) (by rw [ht]; exact h3)
        refine ⟨g', ?_, b⟩
        rw [ht] at a
        rw [z_bd (q_hasP1 (by omega) (by omega) e), i_f]
        exact a
  obtain ⟨g, a, b⟩ := key A.length 0 z_F (σ.1 (74 + (l + 1))) (by omega) (by show _ < 5000; omega) (w_row_0 _)
  refine ⟨g, ?_, b⟩
  unfold fX6_keepWithout
  rw [n_l1 hl12, z_gd_t (z_in_nI (show l < 13 by omega) (by decide)), nI_1, z_gd_t (z_in_nI (show l + 1 < 13 by omega) (by decide)), nI_clamp (by omega)]
  rw [z_fI_self] at a
  exact a
theorem q_pin {σ : zS} {q s : Nat} {R : List Nat} (hr : ∀ k x, R[k]? = some x → σ.1 q k = nI x) (hl : R.length ≤ 40) : fX6_hasPartIn σ q (nI R.length) (nI s) = some (o_b (R.any (fun r => n_sub r s))) := by
  unfold fX6_hasPartIn
  rw [z_i0]
  have step : ∀ (n k x : Nat), R[k]? = some x → n_sub x s = false → fX6_hasPartIn_L2 σ q (nI R.length) (nI s) (fun _ => some (nI 0)) (n + 1) (nI k) = fX6_hasPartIn_L2 σ q (nI R.length) (nI s) (fun _ => some (nI 0)) n (nI (k + 1)) := by
    intro n k x hx e
    have hk := (List.getElem?_eq_some_iff.mp hx).1
    rw [fX6_hasPartIn_L2.eq_2, if_neg (z_nle hk (by omega)), z_gd_t (z_in_nI (by omega) (by decide)), nI_clamp (by omega), hr k x hx, z_bd (q_sub x s).1, e, if_pos (show o_b false = 0 from rfl), nI_1]
  by_cases h : ∃ (k : Nat), ∃ (x : Nat), R[k]? = some x ∧ n_sub x s = true
  · obtain ⟨k, ⟨x, hx, e⟩, hm⟩ := pk_least (fun (k : Nat) => ∃ (x : Nat), R[k]? = some x ∧ n_sub x s = true) h
    have hk := (List.getElem?_eq_some_iff.mp hx).1
    have ea : R.any (fun r => n_sub r s) = true := List.any_eq_true.mpr ⟨x, List.mem_of_getElem? hx, e⟩
    rw [ea]
    refine z_findS (fun n v => fX6_hasPartIn_L2 σ q (nI R.length) (nI s) (fun _ => some (nI 0)) n v) R k _ hk (fun n j y hy hj => step n j y hy ?_) (fun n => ?_) z_F (by show _ < 5000; omega)
    · cases q : n_sub y s
      · rfl
      · exact absurd ⟨y, hy, q⟩ (hm j hj)
    · show fX6_hasPartIn_L2 σ q (nI R.length) (nI s) _ (n + 1) (nI k) = _
      rw [fX6_hasPartIn_L2.eq_2, if_neg (z_nle hk (by omega)), z_gd_t (z_in_nI (by omega) (by decide)), nI_clamp (by omega), hr k x hx, z_bd (q_sub x s).1, e, if_neg (show ¬ o_b true = 0 by decide)]
      rfl
  · have hno : ∀ (k x : Nat), R[k]? = some x → n_sub x s = false := fun k x hx => by
      cases q : n_sub x s
      · rfl
      · exact absurd ⟨k, x, hx, q⟩ h
    have ea : R.any (fun r => n_sub r s) = false := by
      rw [List.any_eq_false]
      intro x hx
      obtain ⟨k, hk⟩ := List.getElem?_of_mem hx
      rw [hno k x hk]
      decide
    rw [ea]
    refine z_findN (fun n v => fX6_hasPartIn_L2 σ q (nI R.length) (nI s) (fun _ => some (nI 0)) n v) R _ (fun n j y hy => step n j y hy (hno j y hy)) (fun n => ?_) z_F (by show _ < 5000; omega)
    show fX6_hasPartIn_L2 σ q (nI R.length) (nI s) _ (n + 1) (nI R.length) = _
    rw [fX6_hasPartIn_L2.eq_2, if_pos (nI_le (Nat.le_refl _) (by omega))]
    rfl
theorem q_re (hr : w_row (σ.1 (74 + l)) A) (hl : A.length ≤ 40) (hb : ∀ x, x ∈ A → x < 4096) (hl12 : l < 12) (hp : p < 12) : ∃ g, fX6_keepReduced σ (nI l) (nI A.length) (nI p) = some (nI (w_2 p A).length, z_fI σ (74 + (l + 1)) g) ∧ w_row g (w_2 p A) := by
  have r4 : ∀ g, (z_fI σ (74 + (l + 1)) g).1 (74 + l) = σ.1 (74 + l) := fun g => z_fI_n (by omega)
  have hcnt := w_cnt p A
  have key2 : ∀ (d k n : Nat) (g : Nat → Int32), k + d = A.length → d < n → w_row g (w_R p A ++ (w_1 p (A.take k)).filter (fun s => !(w_R p A).any (fun r => n_sub r s))) → ∃ g', fX6_keepReduced_L74 (nI A.length) (nI p) (74 + l) (74 + (l + 1)) (nI (w_R p A).length) (fun w2 x3 _ => some (x3, w2)) n (z_fI σ (74 + (l + 1)) g) (nI (w_R p A ++ (w_1 p (A.take k)).filter (fun s => !(w_R p A).any (fun r => n_sub r s))).length) (nI k) = some (nI (w_2 p A).length, z_fI σ (74 + (l + 1)) g') ∧ w_row g' (w_2 p A) := by
    intro d
    induction d with
    | zero =>
      intro k n g h1 h2 h3
      obtain ⟨n, rfl⟩ : ∃ j, n = j + 1 := ⟨n - 1, by omega⟩
      have hk : k = A.length := by omega
      subst hk
      rw [List.take_length] at h3 ⊢
      exact ⟨g, by rw [fX6_keepReduced_L74.eq_2, if_pos (nI_le (Nat.le_refl _) (by omega))]; rfl, h3⟩
    | succ d ih =>
      intro k n g h1 h2 h3
      obtain ⟨n, rfl⟩ : ∃ j, n = j + 1 := ⟨n - 1, by omega⟩
      have hk : k < A.length := by omega
      have hx : A[k]? = some A[k] := List.getElem?_eq_getElem hk
      have hbk := hb _ (List.getElem_mem hk)
      have ht := w_1_tk (p := p) hk
      rw [fX6_keepReduced_L74.eq_2, if_neg (z_nle hk (by omega)), z_gd_t (z_in_nI (by omega) (by decide)), nI_clamp (show k < 2 ^ 31 by omega), r4, hr k _ hx, nI_1 k]
      cases e : A[k].testBit p
      · rw [e, if_neg (by decide)] at ht
        have hlt : (w_R p A ++ (w_1 p (A.take k)).filter (fun s => !(w_R p A).any (fun r => n_sub r s))).length < 40 := by
          have a1 := (w_1_le p A (k + 1)).2
          rw [ht, List.length_append] at a1
          have a2 := List.length_filter_le (fun s => !(w_R p A).any (fun r => n_sub r s)) (w_1 p (A.take k))
          have a3 : [A[k]].length = 1 := rfl
          rw [List.length_append]
          omega
        have hpin := q_pin (σ := z_fI σ (74 + (l + 1)) g) (q := 74 + (l + 1)) (s := A[k]) (R := w_R p A) (fun j x hx => by
          rw [z_fI_s]
          exact h3 j x (by rw [List.getElem?_append_left (List.getElem?_eq_some_iff.mp hx).1]; exact hx)) (by omega)
        rw [z_bd (q_hasP0 (by omega) (by omega) e), i_t, z_gd_t (z_in_nI (by omega) (by decide)), z_bd hpin]
        cases ea : (w_R p A).any (fun r => n_sub r A[k])
        · have hf : (w_1 p (A.take (k + 1))).filter (fun s => !(w_R p A).any (fun r => n_sub r s)) = (w_1 p (A.take k)).filter (fun s => !(w_R p A).any (fun r => n_sub r s)) ++ [A[k]] := by
            rw [ht, List.filter_append, List.filter_cons, ea, List.filter_nil]
            rfl
          obtain ⟨g', a, b⟩ := ih (k + 1) n (upd g (w_R p A ++ (w_1 p (A.take k)).filter (fun s => !(w_R p A).any (fun r => n_sub r s))).length (nI A[k])) (by omega) (by omega) (by rw [hf, ← List.append_assoc]; exact w_row_s h3)
          refine ⟨g', ?_, b⟩
          rw [hf, ← List.append_assoc, List.length_append (bs := [A[k]])] at a
          rw [if_pos (show o_b false = 0 from rfl), z_gd_t (z_in_nI (by omega) (by decide)), z_gd_t (z_in_nI hlt (by decide)), z_ltE, nI_clamp (by omega), z_sI_fI, nI_1]
          exact a
        · have hf : (w_1 p (A.take (k + 1))).filter (fun s => !(w_R p A).any (fun r => n_sub r s)) = (w_1 p (A.take k)).filter (fun s => !(w_R p A).any (fun r => n_sub r s)) := by
            rw [ht, List.filter_append, List.filter_cons, ea, List.filter_nil]
            exact List.append_nil _
          obtain ⟨g', a, b⟩ := ih (k + 1) n g (by omega) (by omega) (by rw [hf]; exact h3)
          refine ⟨g', ?_, b⟩
          rw [hf] at a
          rw [if_neg (show ¬ o_b true = 0 by decide)]
          exact a
      · rw [e, if_pos rfl] at ht
        obtain ⟨g', a, b⟩ := ih (k + 1) n g (by omega) (by omega) (by rw [ht]; exact h3)
        refine ⟨g', ?_, b⟩
        rw [ht] at a
        rw [z_bd (q_hasP1 (by omega) (by omega) e), i_f]
        exact a
  have key1 : ∀ (d k n : Nat) (g : Nat → Int32), k + d = A.length → d < n → w_row g (w_R p (A.take k)) → ∃ g', fX6_keepReduced_L24 (nI A.length) (nI p) (74 + l) (74 + (l + 1)) (fun (w1 : zS) (x1 : Int32) (x2 : Int32) => fX6_keepReduced_L74 (nI A.length) (nI p) (74 + l) (74 + (l + 1)) x1 (fun (w2 : zS) (x3 : Int32) (x4 : Int32) => some (x3, w2)) z_F w1 x1 (0 : Int32)) n (z_fI σ (74 + (l + 1)) g) (nI (w_R p (A.take k)).length) (nI k) = some (nI (w_2 p A).length, z_fI σ (74 + (l + 1)) g') ∧ w_row g' (w_2 p A) := by
    intro d
    induction d with
    | zero =>
      intro k n g h1 h2 h3
      obtain ⟨n, rfl⟩ : ∃ j, n = j + 1 := ⟨n - 1, by omega⟩
      have hk : k = A.length := by omega
      subst hk
      rw [List.take_length] at h3 ⊢
      have e0 : w_R p A ++ (w_1 p (A.take 0)).filter (fun s => !(w_R p A).any (fun r => n_sub r s)) = w_R p A := by
        rw [List.take_zero]
        exact List.append_nil _
      obtain ⟨g', a, b⟩ := key2 A.length 0 z_F g (by omega) (by show _ < 5000; omega) (by rw [e0]; exact h3)
      rw [e0] at a
      refine ⟨g', ?_, b⟩
      rw [fX6_keepReduced_L24.eq_2, if_pos (nI_le (Nat.le_refl _) (by omega)), z_i0]
      exact a
    | succ d ih =>
      intro k n g h1 h2 h3
      obtain ⟨n, rfl⟩ : ∃ j, n = j + 1 := ⟨n - 1, by omega⟩
      have hk : k < A.length := by omega
      have hx : A[k]? = some A[k] := List.getElem?_eq_getElem hk
      have hbk := hb _ (List.getElem_mem hk)
      have hle := w_R_le p A k
      have ht := w_R_tk (p := p) hk
      rw [fX6_keepReduced_L24.eq_2, if_neg (z_nle hk (by omega)), z_gd_t (z_in_nI (by omega) (by decide)), nI_clamp (show k < 2 ^ 31 by omega), r4, hr k _ hx, nI_1 k]
      cases e : A[k].testBit p
      · rw [e, if_neg (by decide)] at ht
        obtain ⟨g', a, b⟩ := ih (k + 1) n g (by omega) (by omega) (by rw [ht]; exact h3)
        refine ⟨g', ?_, b⟩
        rw [ht] at a
        rw [z_bd (q_hasP0 (by omega) (by omega) e), i_t]
        exact a
      · rw [e, if_pos rfl] at ht
        obtain ⟨g', a, b⟩ := ih (k + 1) n (upd g (w_R p (A.take k)).length (nI (n_rm p A[k]))) (by omega) (by omega) (by rw [ht]; exact w_row_s h3)
        refine ⟨g', ?_, b⟩
        rw [ht, List.length_append] at a
        rw [z_bd (q_hasP1 (by omega) (by omega) e), i_f, z_gd_t (z_in_nI (by omega) (by decide)), z_gd_t (z_in_nI (by omega) (by decide)), b_rm hp hbk, z_ltE, nI_clamp (by omega), z_sI_fI, nI_1]
        exact a
  obtain ⟨g, a, b⟩ := key1 A.length 0 z_F (σ.1 (74 + (l + 1))) (by omega) (by show _ < 5000; omega) (w_row_0 _)
  refine ⟨g, ?_, b⟩
  unfold fX6_keepReduced
  rw [n_l1 hl12, z_gd_t (z_in_nI (show l < 13 by omega) (by decide)), nI_1, z_gd_t (z_in_nI (show l + 1 < 13 by omega) (by decide)), nI_clamp (by omega)]
  rw [z_fI_self] at a
  exact a
end WX
