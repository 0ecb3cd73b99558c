/-! pure: families -/
theorem z_upj {α β : Type} (f : Nat → α → β) (S : Nat → α) (j N : Nat) (res : β) (hs : ∀ n i, j ≤ i → i < N → f (n + 1) (S i) = f n (S (i + 1))) (he : ∀ n, f (n + 1) (S N) = res) : ∀ n : Nat, j ≤ N → N < n + j → f n (S j) = res := by
  intro n h1 h2
  have := z_up f (fun i => S (j + i)) (N - j) res (fun n i hi => by
    have := hs n (j + i) (by omega) (by omega)
    exact this) (fun n => by
    have := he n
    rw [show j + (N - j) = N by omega]
    exact this) 0 n (Nat.zero_le _) (by omega)
  exact this
theorem z_rd_s {σ : zS} {p k : Nat} {v : Int32} : (z_sI σ p k v).1 p = upd (σ.1 p) k v := if_pos rfl
theorem z_rd_n {σ : zS} {p q k : Nat} {v : Int32} (h : q ≠ p) : (z_sI σ p k v).1 q = σ.1 q := if_neg h
theorem z_rd_2 {σ : zS} {p k : Nat} {v : Int32} : (z_sI σ p k v).2 = σ.2 := rfl
theorem z_rj_s {σ : zS} {p k : Nat} {v : Int64} : (z_sJ σ p k v).2 p = vp_updL (σ.2 p) k v := if_pos rfl
theorem z_rj_n {σ : zS} {p q k : Nat} {v : Int64} (h : q ≠ p) : (z_sJ σ p k v).2 q = σ.2 q := if_neg h
theorem z_rj_1 {σ : zS} {p k : Nat} {v : Int64} : (z_sJ σ p k v).1 = σ.1 := rfl
theorem z_gd_tt {α : Type} {x : Option α} : z_gd true x = x := rfl
theorem u_s {f : Nat → Int32} {k : Nat} {x : Int32} : upd f k x k = x := if_pos rfl
theorem u_n {f : Nat → Int32} {k j : Nat} {x : Int32} (h : j ≠ k) : upd f k x j = f j := if_neg h
def h_fam (n : Int32) (S T : Nat → Int32) (F : List (Nat × Nat)) : Prop := n = nI F.length ∧ ∀ k x, F[k]? = some x → S k = nI x.1 ∧ T k = nI x.2
def h_wf (F : List (Nat × Nat)) : Prop := F.length ≤ 40 ∧ (∀ x, x ∈ F → x.1 < 4096 ∧ 1 ≤ x.2 ∧ x.2 ≤ 99) ∧ (F.map Prod.fst).Nodup
def h_X (σ : zS) (q : Nat) (F : List (Nat × Nat)) : Prop := h_fam (σ.1 q 2) (σ.1 (q + 9)) (σ.1 (q + 18)) F
def h_M (μ : zS) (f : Nat) (F : List (Nat × Nat)) : Prop := h_fam (μ.1 2 f) (fun k => μ.1 3 (40 * f + k)) (fun k => μ.1 4 (40 * f + k)) F
theorem h_at {F : List (Nat × Nat)} {k : Nat} {x : Nat × Nat} (h : F[k]? = some x) : k < F.length ∧ x ∈ F := ⟨(List.getElem?_eq_some_iff.mp h).1, List.mem_of_getElem? h⟩
theorem h_first {F : List (Nat × Nat)} (hw : h_wf F) {k j : Nat} {x y : Nat × Nat} (hk : F[k]? = some x) (hj : F[j]? = some y) (e : y.1 = x.1) : j = k := by
  have h1 : (F.map Prod.fst)[j]? = some y.1 := by rw [List.getElem?_map, hj]; rfl
  have h2 : (F.map Prod.fst)[k]? = some x.1 := by rw [List.getElem?_map, hk]; rfl
  exact (List.getElem?_inj (by rw [List.length_map]; exact (h_at hj).1) hw.2.2).mp (by rw [h1, h2, e])
theorem h_dich (F : List (Nat × Nat)) (s : Nat) : (∀ x, x ∈ F → x.1 ≠ s) ∨ ∃ k t : Nat, F[k]? = some (s, t) := by
  by_cases h : ∃ x, x ∈ F ∧ x.1 = s
  · obtain ⟨x, hx, rfl⟩ := h
    obtain ⟨k, hk⟩ := List.getElem?_of_mem hx
    exact Or.inr ⟨k, x.2, hk⟩
  · exact Or.inl (fun x hx e => h ⟨x, hx, e⟩)
section XFAM
variable {σ : zS} {q : Nat} {F : List (Nat × Nat)} {s : Nat}
theorem q_place_no (hX : h_X σ q F) (hw : h_wf F) (hs : s < 4096) (hn : ∀ x, x ∈ F → x.1 ≠ s) : fX1_placeOf σ q (nI s) = some (-1) := by
  have hl := hw.1
  unfold fX1_placeOf
  rw [z_i0]
  refine z_findN (fun n v => fX1_placeOf_L2 σ q (nI s) (fun _ => some (-1)) n v) F (some (-1)) ?_ ?_ z_F (by show _ < 5000; omega)
  · intro n k x hx
    have hk := h_at hx
    have hb := hw.2.1 x hk.2
    show fX1_placeOf_L2 σ q (nI s) _ (n + 1) (nI k) = fX1_placeOf_L2 σ q (nI s) _ n (nI (k + 1))
    rw [fX1_placeOf_L2.eq_2, hX.1, if_neg (z_nle hk.1 (by omega)), z_gd_t (z_in_nI (by omega) (by decide)), nI_clamp (by omega), (hX.2 k x hx).1, if_neg (fun e => hn x hk.2 ((nI_eq (by omega) (by omega)).mp e)), nI_1]
  · intro n
    show fX1_placeOf_L2 σ q (nI s) _ (n + 1) (nI F.length) = _
    rw [fX1_placeOf_L2.eq_2, hX.1, if_pos (nI_le (Nat.le_refl _) (by omega))]
theorem q_place_at (hX : h_X σ q F) (hw : h_wf F) (hs : s < 4096) {j t : Nat} (hj : F[j]? = some (s, t)) : fX1_placeOf σ q (nI s) = some (nI j) := by
  have hl := hw.1
  have hjl := h_at hj
  unfold fX1_placeOf
  rw [z_i0]
  refine z_findS (fun n v => fX1_placeOf_L2 σ q (nI s) (fun _ => some (-1)) n v) F j (some (nI j)) hjl.1 ?_ ?_ z_F (by show _ < 5000; omega)
  · intro n k x hx hkj
    have hk := h_at hx
    have hb := hw.2.1 x hk.2
    show fX1_placeOf_L2 σ q (nI s) _ (n + 1) (nI k) = fX1_placeOf_L2 σ q (nI s) _ n (nI (k + 1))
    rw [fX1_placeOf_L2.eq_2, hX.1, if_neg (z_nle hk.1 (by omega)), z_gd_t (z_in_nI (by omega) (by decide)), nI_clamp (by omega), (hX.2 k x hx).1, if_neg (fun e => by
      have := h_first hw hj hx ((nI_eq (by omega) (by omega)).mp e)
      omega), nI_1]
  · intro n
    show fX1_placeOf_L2 σ q (nI s) _ (n + 1) (nI j) = _
    rw [fX1_placeOf_L2.eq_2, hX.1, if_neg (z_nle hjl.1 (by omega)), z_gd_t (z_in_nI (by omega) (by decide)), nI_clamp (by omega), (hX.2 j _ hj).1, if_pos rfl]
theorem q_tally_no (hX : h_X σ q F) (hw : h_wf F) (hs : s < 4096) (hn : ∀ x, x ∈ F → x.1 ≠ s) : fX1_tallyOf σ q (nI s) = some 0 := by
  unfold fX1_tallyOf
  rw [z_bd (q_place_no hX hw hs hn), if_pos rfl]
theorem q_tally_at (hX : h_X σ q F) (hw : h_wf F) (hs : s < 4096) {j t : Nat} (hj : F[j]? = some (s, t)) : fX1_tallyOf σ q (nI s) = some (nI t) := by
  have hl := hw.1
  have hjl := h_at hj
  unfold fX1_tallyOf
  rw [z_bd (q_place_at hX hw hs hj), if_neg (n_ne_neg (by omega) (by decide)), z_gd_t (z_in_nI (by omega) (by decide)), nI_clamp (by omega), (hX.2 j _ hj).2]
/-- nothing but a family has changed -/
def h_off (q : Nat) (σ τ : zS) : Prop := (∀ p, p ≠ q → p ≠ q + 9 → p ≠ q + 18 → τ.1 p = σ.1 p) ∧ τ.2 = σ.2
theorem h_off_rf : h_off q σ σ := ⟨fun _ _ _ _ => rfl, rfl⟩
theorem h_off_tr {τ υ : zS} (h1 : h_off q σ τ) (h2 : h_off q τ υ) : h_off q σ υ := ⟨fun p a b c => (h2.1 p a b c).trans (h1.1 p a b c), h2.2.trans h1.2⟩
theorem q_append {t : Nat} (hX : h_X σ q F) (hl : F.length < 40) : ∃ τ, fX1_append σ q (nI s) (nI t) = some (nI t, τ) ∧ h_X τ q (F ++ [(s, t)]) ∧ h_off q σ τ := by
  refine ⟨z_sI (z_sI (z_sI σ (q + 9) F.length (nI s)) (q + 18) F.length (nI t)) q 2 (nI (F.length + 1)), ?_, ⟨?_, ?_⟩, ?_, rfl⟩
  · unfold fX1_append
    rw [hX.1, n_40, if_pos (nI_lt hl (by decide)), z_gd_t (z_in_nI hl (by decide)), nI_clamp (by omega)]
    simp only [z_lt]
    rw [z_rd_n (show q ≠ q + 9 by omega), hX.1, z_gd_t (z_in_nI hl (by decide)), nI_clamp (by omega), z_rd_n (show q ≠ q + 18 by omega), z_rd_n (show q ≠ q + 9 by omega), hX.1, nI_1]
  · rw [z_rd_s, u_s, List.length_append]
    rfl
  · intro k x hx
    rw [z_rd_n (show q + 9 ≠ q by omega), z_rd_n (show q + 9 ≠ q + 18 by omega), z_rd_s, z_rd_n (show q + 18 ≠ q by omega), z_rd_s, z_rd_n (show q + 18 ≠ q + 9 by omega)]
    by_cases hk : k < F.length
    · rw [List.getElem?_append_left hk] at hx
      rw [u_n (by omega), u_n (by omega)]
      exact hX.2 k x hx
    · rw [List.getElem?_append_right (by omega)] at hx
      have h0 : k - F.length < 1 := (List.getElem?_eq_some_iff.mp hx).1
      have hk2 : k = F.length := by omega
      subst hk2
      rw [Nat.sub_self] at hx
      cases hx
      rw [u_s, u_s]
      exact ⟨rfl, rfl⟩
  · intro p h1 h2 h3
    rw [z_rd_n h1, z_rd_n h3, z_rd_n h2]
theorem q_append_full {x y : Int32} (hX : h_X σ q F) (hl : F.length = 40) : fX1_append σ q x y = some (-4, σ) := by
  unfold fX1_append
  rw [hX.1, hl, if_neg (by decide)]
theorem q_set {j t t' : Nat} (hX : h_X σ q F) (hj : F[j]? = some (s, t)) : h_X (z_sI σ (q + 18) j (nI t')) q (F.set j (s, t')) ∧ h_off q σ (z_sI σ (q + 18) j (nI t')) := by
  have hjl := h_at hj
  refine ⟨⟨?_, ?_⟩, ?_, rfl⟩
  · rw [z_rd_n (show q ≠ q + 18 by omega), List.length_set]
    exact hX.1
  · intro k x hx
    rw [z_rd_n (show q + 9 ≠ q + 18 by omega), z_rd_s]
    by_cases hk : k = j
    · subst hk
      rw [List.getElem?_set_self hjl.1] at hx
      cases hx
      rw [u_s]
      exact ⟨(hX.2 k _ hj).1, rfl⟩
    · rw [List.getElem?_set_ne (Ne.symm hk)] at hx
      rw [u_n hk]
      exact hX.2 k x hx
  · intro p h1 h2 h3
    rw [z_rd_n h3]
theorem n_min (a b : Int32) : fJ9_min_7cf53 a b = some (if b < a then b else a) := by
  unfold fJ9_min_7cf53
  split <;> rfl
theorem n_max (a b : Int32) : fJ9_max_7cf53 a b = some (if a < b then b else a) := by
  unfold fJ9_max_7cf53
  split <;> rfl
theorem q_add_at (hX : h_X σ q F) (hw : h_wf F) (hs : s < 4096) {j t : Nat} (hj : F[j]? = some (s, t)) : ∃ τ, fX1_add σ q (nI s) = some (nI (min (t + 1) 99), τ) ∧ h_X τ q (F.set j (s, min (t + 1) 99)) ∧ h_off q σ τ := by
  have hl := hw.1
  have hjl := h_at hj
  have ht := hw.2.1 _ hjl.2
  refine ⟨z_sI σ (q + 18) j (nI (min (t + 1) 99)), ?_, q_set hX hj⟩
  unfold fX1_add
  rw [z_bd (q_place_at hX hw hs hj), if_neg (n_ne_neg (by omega) (by decide)), z_gd_t (z_in_nI (by omega) (by decide)), nI_clamp (by omega), (hX.2 j _ hj).2, nI_1, z_bd (n_min _ _)]
  have e : (if (99 : Int32) < nI (t + 1) then 99 else nI (t + 1)) = nI (min (t + 1) 99) := by
    rw [n_99]
    by_cases h : 99 < t + 1
    · rw [if_pos (nI_lt h (by omega)), Nat.min_eq_right (by omega)]
    · rw [if_neg (nI_nlt (by omega) (by decide)), Nat.min_eq_left (by omega)]
  rw [e, z_gd_t (z_in_nI (by omega) (by decide))]
  simp only [z_lt]
  rw [z_gd_t (z_in_nI (by omega) (by decide)), z_rd_s, u_s]
theorem q_add_new (hX : h_X σ q F) (hw : h_wf F) (hs : s < 4096) (hn : ∀ x, x ∈ F → x.1 ≠ s) (hl : F.length < 40) : ∃ τ, fX1_add σ q (nI s) = some (1, τ) ∧ h_X τ q (F ++ [(s, 1)]) ∧ h_off q σ τ := by
  obtain ⟨τ, h1, h2, h3⟩ := q_append (s := s) (t := 1) hX hl
  refine ⟨τ, ?_, h2, h3⟩
  unfold fX1_add
  rw [z_bd (q_place_no hX hw hs hn), if_pos rfl, n_1, z_bd h1]
theorem q_add_full (hX : h_X σ q F) (hw : h_wf F) (hs : s < 4096) (hn : ∀ x, x ∈ F → x.1 ≠ s) (hl : F.length = 40) : fX1_add σ q (nI s) = some (-4, σ) := by
  unfold fX1_add
  rw [z_bd (q_place_no hX hw hs hn), if_pos rfl, z_bd (q_append_full hX hl)]
/-- places j .. i - 1 hold what stood one further -/
def h_sh (f : Nat → Int32) (j i : Nat) : Nat → Int32 := fun k => if j ≤ k ∧ k < i then f (k + 1) else f k
theorem h_sh_0 (f : Nat → Int32) (j : Nat) : h_sh f j j = f := by
  funext k
  exact if_neg (by omega)
theorem h_sh_s {f : Nat → Int32} {j i : Nat} (h : j ≤ i) : upd (h_sh f j i) i (f (i + 1)) = h_sh f j (i + 1) := by
  funext k
  unfold upd h_sh
  by_cases hk : k = i
  · subst hk
    rw [if_pos rfl, if_pos (by omega)]
  · rw [if_neg hk]
    by_cases h2 : j ≤ k ∧ k < i
    · rw [if_pos h2, if_pos (by omega)]
    · rw [if_neg h2, if_neg (by omega)]
theorem h_sh_i {f : Nat → Int32} {j i k : Nat} (h : i ≤ k) : h_sh f j i k = f k := if_neg (by omega)
theorem z_fI_cm {σ : zS} {p q : Nat} {f g : Nat → Int32} (h : p ≠ q) : z_fI (z_fI σ p f) q g = z_fI (z_fI σ q g) p f := by
  refine Prod.ext ?_ rfl
  funext z
  show va_up (va_up σ.1 p f) q g z = va_up (va_up σ.1 q g) p f z
  unfold va_up
  by_cases h1 : z = q
  · rw [if_pos h1, if_neg (by omega), if_pos h1]
  · rw [if_neg h1]
    by_cases h2 : z = p
    · rw [if_pos h2, if_pos h2]
    · rw [if_neg h2, if_neg h2, if_neg h1]
theorem h_er {F : List (Nat × Nat)} {j k : Nat} : (F.eraseIdx j)[k]? = if k < j then F[k]? else F[k + 1]? := List.getElem?_eraseIdx
theorem q_removeAt {j : Nat} (hX : h_X σ q F) (hl : F.length ≤ 40) (hj : j < F.length) : ∃ τ, fX1_removeAt σ q (nI j) = some τ ∧ h_X τ q (F.eraseIdx j) ∧ h_off q σ τ := by
  have e0 : nI F.length - 1 = nI (F.length - 1) := by
    obtain ⟨m, hm⟩ : ∃ m, F.length = m + 1 := ⟨F.length - 1, by omega⟩
    rw [hm, nI_pred]
    rfl
  refine ⟨z_fI (z_fI (z_sI σ q 2 (nI (F.length - 1))) (q + 9) (h_sh (σ.1 (q + 9)) j (F.length - 1))) (q + 18) (h_sh (σ.1 (q + 18)) j (F.length - 1)), ?_, ⟨?_, ?_⟩, ?_, rfl⟩
  · unfold fX1_removeAt
    simp only [z_lt]
    rw [hX.1, e0]
    have h := z_upj (fun m (x : zS × Int32) => fX1_removeAt_L12 q (fun w2 _ => some w2) m x.1 x.2) (fun i => (z_fI (z_fI (z_sI σ q 2 (nI (F.length - 1))) (q + 9) (h_sh (σ.1 (q + 9)) j i)) (q + 18) (h_sh (σ.1 (q + 18)) j i), nI i)) j (F.length - 1) (some (z_fI (z_fI (z_sI σ q 2 (nI (F.length - 1))) (q + 9) (h_sh (σ.1 (q + 9)) j (F.length - 1))) (q + 18) (h_sh (σ.1 (q + 18)) j (F.length - 1)))) ?_ ?_ z_F (by omega) (by show _ < 5000 + _; omega)
    · have e1 : z_fI (z_fI (z_sI σ q 2 (nI (F.length - 1))) (q + 9) (h_sh (σ.1 (q + 9)) j j)) (q + 18) (h_sh (σ.1 (q + 18)) j j) = z_sI σ q 2 (nI (F.length - 1)) := by
        rw [h_sh_0, h_sh_0]
        have a : σ.1 (q + 9) = (z_sI σ q 2 (nI (F.length - 1))).1 (q + 9) := (z_rd_n (by omega)).symm
        have b : σ.1 (q + 18) = (z_sI σ q 2 (nI (F.length - 1))).1 (q + 18) := (z_rd_n (by omega)).symm
        rw [a, z_fI_self, b, z_fI_self]
      simp only [e1] at h
      exact h
    · intro m i hji hi
      show fX1_removeAt_L12 q _ (m + 1) _ (nI i) = fX1_removeAt_L12 q _ m _ (nI (i + 1))
      rw [fX1_removeAt_L12.eq_2]
      have r1 : (z_fI (z_fI (z_sI σ q 2 (nI (F.length - 1))) (q + 9) (h_sh (σ.1 (q + 9)) j i)) (q + 18) (h_sh (σ.1 (q + 18)) j i)).1 q 2 = nI (F.length - 1) := by
        rw [z_fI_n (by omega), z_fI_n (by omega), z_rd_s, u_s]
      rw [r1, if_neg (z_nle hi (by omega)), nI_1, z_gd_t (z_in_nI (by omega) (by decide)), z_gd_t (z_in_nI (by omega) (by decide)), nI_clamp (by omega), nI_clamp (by omega)]
      simp only [z_lt]
      rw [z_gd_t (z_in_nI (by omega) (by decide)), z_gd_t (z_in_nI (by omega) (by decide))]
      have s1 : z_sI (z_fI (z_fI (z_sI σ q 2 (nI (F.length - 1))) (q + 9) (h_sh (σ.1 (q + 9)) j i)) (q + 18) (h_sh (σ.1 (q + 18)) j i)) (q + 9) i ((z_fI (z_fI (z_sI σ q 2 (nI (F.length - 1))) (q + 9) (h_sh (σ.1 (q + 9)) j i)) (q + 18) (h_sh (σ.1 (q + 18)) j i)).1 (q + 9) (i + 1)) = z_fI (z_fI (z_sI σ q 2 (nI (F.length - 1))) (q + 9) (h_sh (σ.1 (q + 9)) j (i + 1))) (q + 18) (h_sh (σ.1 (q + 18)) j i) := by
        rw [z_fI_n (show q + 9 ≠ q + 18 by omega), z_fI_s, h_sh_i (by omega), z_fI_cm (by omega), z_sI_fI, h_sh_s hji, z_fI_cm (by omega)]
      rw [s1]
      have s2 : z_sI (z_fI (z_fI (z_sI σ q 2 (nI (F.length - 1))) (q + 9) (h_sh (σ.1 (q + 9)) j (i + 1))) (q + 18) (h_sh (σ.1 (q + 18)) j i)) (q + 18) i ((z_fI (z_fI (z_sI σ q 2 (nI (F.length - 1))) (q + 9) (h_sh (σ.1 (q + 9)) j (i + 1))) (q + 18) (h_sh (σ.1 (q + 18)) j i)).1 (q + 18) (i + 1)) = z_fI (z_fI (z_sI σ q 2 (nI (F.length - 1))) (q + 9) (h_sh (σ.1 (q + 9)) j (i + 1))) (q + 18) (h_sh (σ.1 (q + 18)) j (i + 1)) := by
        rw [z_fI_s, h_sh_i (by omega), z_sI_fI, h_sh_s hji]
      rw [s2]
    · intro m
      show fX1_removeAt_L12 q _ (m + 1) _ (nI (F.length - 1)) = _
      rw [fX1_removeAt_L12.eq_2, z_fI_n (by omega), z_fI_n (by omega), z_rd_s, u_s, if_pos (nI_le (Nat.le_refl _) (by omega))]
  · rw [z_fI_n (by omega), z_fI_n (by omega), z_rd_s, u_s, List.length_eraseIdx, if_pos hj]
  · intro k x hx
    rw [z_fI_n (show q + 9 ≠ q + 18 by omega), z_fI_s, z_fI_s]
    rw [h_er] at hx
    unfold h_sh
    by_cases hk : k < j
    · rw [if_pos hk] at hx
      rw [if_neg (by omega), if_neg (by omega)]
      exact hX.2 k x hx
    · rw [if_neg hk] at hx
      have := (h_at hx).1
      rw [if_pos (by omega), if_pos (by omega)]
      exact hX.2 (k + 1) x hx
  · intro p h1 h2 h3
    rw [z_fI_n h3, z_fI_n h2, z_rd_n h1]
theorem q_drop_no (hX : h_X σ q F) (hw : h_wf F) (hs : s < 4096) (hn : ∀ x, x ∈ F → x.1 ≠ s) : fX1_drop σ q (nI s) = some (-1, σ) := by
  unfold fX1_drop
  rw [z_bd (q_place_no hX hw hs hn), if_pos rfl]
/-- what a family is behind a take -/
def h_dr (F : List (Nat × Nat)) (j s t : Nat) : List (Nat × Nat) := if t = 1 then F.eraseIdx j else F.set j (s, t - 1)
theorem q_drop_at (hX : h_X σ q F) (hw : h_wf F) (hs : s < 4096) {j t : Nat} (hj : F[j]? = some (s, t)) : ∃ τ, fX1_drop σ q (nI s) = some (nI (t - 1), τ) ∧ h_X τ q (h_dr F j s t) ∧ h_off q σ τ := by
  have hl := hw.1
  have hjl := h_at hj
  have ht := hw.2.1 _ hjl.2
  obtain ⟨t, rfl⟩ : ∃ u, t = u + 1 := ⟨t - 1, by have := ht.2.1; omega⟩
  obtain ⟨h1, h2⟩ := q_set (t' := t) hX hj
  have hd : fX1_drop σ q (nI s) = (if nI t = 0 then (fX1_removeAt (z_sI σ (q + 18) j (nI t)) q (nI j)).bind (fun r2 => some (nI t, r2)) else some (nI t, z_sI σ (q + 18) j (nI t))) := by
    unfold fX1_drop
    rw [z_bd (q_place_at hX hw hs hj), if_neg (n_ne_neg (by omega) (by decide)), z_gd_t (z_in_nI (by omega) (by decide)), z_gd_t (z_in_nI (by omega) (by decide)), nI_clamp (by omega), (hX.2 j _ hj).2, nI_pred]
    simp only [z_lt]
    rw [z_gd_t (z_in_nI (by omega) (by decide)), z_rd_s, u_s]
  rw [hd]
  by_cases h0 : t = 0
  · subst h0
    rw [if_pos nI_0]
    have hl2 : (F.set j (s, 0)).length ≤ 40 := by rw [List.length_set]; exact hl
    obtain ⟨τ, g1, g2, g3⟩ := q_removeAt (j := j) h1 hl2 (by rw [List.length_set]; exact hjl.1)
    refine ⟨τ, by rw [z_bd g1], ?_, h_off_tr h2 g3⟩
    unfold h_dr
    rw [if_pos rfl]
    have e : (F.set j (s, 0)).eraseIdx j = F.eraseIdx j := List.eraseIdx_set_eq
    rw [← e]
    exact g2
  · rw [if_neg (nI_ne0 (by omega) (by omega))]
    refine ⟨_, rfl, ?_, h2⟩
    unfold h_dr
    rw [if_neg (by omega)]
    exact h1
theorem q_clear : ∃ τ, fX1_clear σ q = some τ ∧ h_X τ q [] ∧ h_off q σ τ := by
  refine ⟨z_sI σ q 2 0, ?_, ⟨?_, ?_⟩, ?_, rfl⟩
  · unfold fX1_clear
    simp only [z_lt]
  · rw [z_rd_s, u_s]
    rfl
  · intro k x hx
    simp at hx
  · intro p h1 _ _
    rw [z_rd_n h1]
theorem n_cpy40 {f g : Nat → Int32} {k : Nat} (h : k < 40) : va_cpy f g (0 : Int32).toNatClampNeg (0 : Int32).toNatClampNeg (40 : Int32).toNatClampNeg k = f k := by
  show va_cpy f g 0 0 40 k = f k
  rw [pk_cpy_in (by omega) (by omega)]
  congr 1
  omega
theorem q_become {p1 : Nat} (h1 : h_X σ p1 F) (hl : F.length ≤ 40) (a1 : p1 + 9 ≠ q) (a3 : p1 + 18 ≠ q) (a4 : p1 + 18 ≠ q + 9) : ∃ τ, fX1_become σ q p1 = some τ ∧ h_X τ q F ∧ h_off q σ τ := by
  refine ⟨z_fI (z_fI (z_sI σ q 2 (σ.1 p1 2)) (q + 9) (va_cpy (σ.1 (p1 + 9)) (σ.1 (q + 9)) (0 : Int32).toNatClampNeg (0 : Int32).toNatClampNeg (40 : Int32).toNatClampNeg)) (q + 18) (va_cpy (σ.1 (p1 + 18)) (σ.1 (q + 18)) (0 : Int32).toNatClampNeg (0 : Int32).toNatClampNeg (40 : Int32).toNatClampNeg), ?_, ⟨?_, ?_⟩, ?_, rfl⟩
  · unfold fX1_become
    simp only [z_lt]
    rw [z_gd_t (by decide), z_gd_t (by decide), z_rd_n (show q + 9 ≠ q by omega), z_rd_n a1, z_fI_n a4, z_rd_n a3, z_fI_n (show q + 18 ≠ q + 9 by omega), z_rd_n (show q + 18 ≠ q by omega)]
  · rw [z_fI_n (by omega), z_fI_n (by omega), z_rd_s, u_s]
    exact h1.1
  · intro k x hx
    have hk := (h_at hx).1
    rw [z_fI_n (show q + 9 ≠ q + 18 by omega), z_fI_s, z_fI_s, n_cpy40 (by omega), n_cpy40 (by omega)]
    exact h1.2 k x hx
  · intro p g1 g2 g3
    rw [z_fI_n g3, z_fI_n g2, z_rd_n g1]
end XFAM
