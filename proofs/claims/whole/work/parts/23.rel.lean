/-! pure: the two states are alike -/
def h_tl (F : List (Nat × Nat)) (s : Nat) : Nat := match F.find? (fun x => x.1 == s) with
  | some x => x.2
  | none => 0
theorem h_tl_no {F : List (Nat × Nat)} {s : Nat} (h : ∀ x, x ∈ F → x.1 ≠ s) : h_tl F s = 0 := by
  unfold h_tl
  have e : F.find? (fun x => x.1 == s) = none := List.find?_eq_none.mpr (fun x hx => by simpa using h x hx)
  rw [e]
theorem h_tl_at {F : List (Nat × Nat)} {s j t : Nat} (hn : (F.map Prod.fst).Nodup) (hj : F[j]? = some (s, t)) : h_tl F s = t := by
  unfold h_tl
  cases e : F.find? (fun x => x.1 == s) with
  | none =>
    have := List.find?_eq_none.mp e (s, t) (List.mem_of_getElem? hj)
    simp at this
  | some y =>
    have h1 : y.1 = s := by simpa using List.find?_some e
    obtain ⟨k, hk⟩ := List.getElem?_of_mem (List.mem_of_find?_eq_some e)
    have h2 : (F.map Prod.fst)[k]? = some y.1 := by rw [List.getElem?_map, hk]; rfl
    have h3 : (F.map Prod.fst)[j]? = some s := by rw [List.getElem?_map, hj]; rfl
    have hkl : k < (F.map Prod.fst).length := by rw [List.length_map]; exact (h_at hk).1
    have hkj : k = j := (List.getElem?_inj (j := j) hkl hn).mp (h2.trans (by rw [h1]; exact h3.symm))
    subst hkj
    have := Option.some.inj (hk.symm.trans hj)
    rw [this]
theorem h_map_set {F : List (Nat × Nat)} {s j t t' : Nat} (hj : F[j]? = some (s, t)) : (F.set j (s, t')).map Prod.fst = F.map Prod.fst := by
  apply List.ext_getElem?
  intro k
  rw [List.getElem?_map, List.getElem?_map]
  by_cases hk : k = j
  · subst hk
    rw [List.getElem?_set_self (h_at hj).1, hj]
    rfl
  · rw [List.getElem?_set_ne (Ne.symm hk)]
theorem h_wf_set {F : List (Nat × Nat)} {s j t t' : Nat} (hw : h_wf F) (hj : F[j]? = some (s, t)) (h1 : 1 ≤ t') (h2 : t' ≤ 99) : h_wf (F.set j (s, t')) := by
  refine ⟨by rw [List.length_set]; exact hw.1, fun x hx => ?_, by rw [h_map_set hj]; exact hw.2.2⟩
  rcases List.mem_or_eq_of_mem_set hx with h | h
  · exact hw.2.1 x h
  · rw [h]
    exact ⟨(hw.2.1 _ (h_at hj).2).1, h1, h2⟩
theorem h_wf_app {F : List (Nat × Nat)} {s t : Nat} (hw : h_wf F) (hl : F.length < 40) (hs : s < 4096) (hn : ∀ x, x ∈ F → x.1 ≠ s) (h1 : 1 ≤ t) (h2 : t ≤ 99) : h_wf (F ++ [(s, t)]) := by
  refine ⟨by rw [List.length_append]; show F.length + 1 ≤ 40; omega, fun x hx => ?_, ?_⟩
  · rcases List.mem_append.mp hx with h | h
    · exact hw.2.1 x h
    · rw [List.mem_singleton] at h
      rw [h]
      exact ⟨hs, h1, h2⟩
  · rw [List.map_append, List.nodup_append]
    refine ⟨hw.2.2, by simp, fun a ha b hb => ?_⟩
    obtain ⟨x, hx, rfl⟩ := List.mem_map.mp ha
    have : b = s := by simpa using hb
    rw [this]
    exact hn x hx
theorem h_wf_er {F : List (Nat × Nat)} {j : Nat} (hw : h_wf F) : h_wf (F.eraseIdx j) := by
  have hs := List.eraseIdx_sublist F j
  exact ⟨Nat.le_trans hs.length_le hw.1, fun x hx => hw.2.1 x (hs.subset hx), List.Nodup.sublist (hs.map Prod.fst) hw.2.2⟩
theorem h_wf_nil : h_wf [] := ⟨by decide, fun x hx => by simp at hx, by simp⟩
theorem h_wf_dr {F : List (Nat × Nat)} {s j t : Nat} (hw : h_wf F) (hj : F[j]? = some (s, t)) : h_wf (h_dr F j s t) := by
  have := hw.2.1 _ (h_at hj).2
  unfold h_dr
  split
  · exact h_wf_er hw
  · exact h_wf_set hw hj (by have := this.2.1; simp only at *; omega) (by have := this.2.2; simp only at *; omega)
theorem h_tl_set {F : List (Nat × Nat)} {s j t t' u : Nat} (hw : h_wf F) (hj : F[j]? = some (s, t)) : h_tl (F.set j (s, t')) u = if u = s then t' else h_tl F u := by
  have hn : ((F.set j (s, t')).map Prod.fst).Nodup := by rw [h_map_set hj]; exact hw.2.2
  by_cases hu : u = s
  · rw [if_pos hu, hu]
    exact h_tl_at hn (j := j) (by rw [List.getElem?_set_self (h_at hj).1])
  · rw [if_neg hu]
    rcases h_dich F u with h | ⟨k, v, hk⟩
    · rw [h_tl_no h, h_tl_no]
      intro x hx
      rcases List.mem_or_eq_of_mem_set hx with h' | h'
      · exact h x h'
      · rw [h']
        exact fun e => hu e.symm
    · have hkj : k ≠ j := by
        intro e
        subst e
        have := Option.some.inj (hk.symm.trans hj)
        have : u = s := congrArg Prod.fst this
        exact hu this
      rw [h_tl_at hw.2.2 hk]
      exact h_tl_at hn (j := k) (by rw [List.getElem?_set_ne (Ne.symm hkj)]; exact hk)
theorem h_tl_app {F : List (Nat × Nat)} {s t u : Nat} (hw : h_wf F) (hn : ∀ x, x ∈ F → x.1 ≠ s) : h_tl (F ++ [(s, t)]) u = if u = s then t else h_tl F u := by
  have hnd : ((F ++ [(s, t)]).map Prod.fst).Nodup := by
    rw [List.map_append, List.nodup_append]
    refine ⟨hw.2.2, by simp, fun a ha b hb => ?_⟩
    obtain ⟨x, hx, rfl⟩ := List.mem_map.mp ha
    have : b = s := by simpa using hb
    rw [this]
    exact hn x hx
  by_cases hu : u = s
  · rw [if_pos hu, hu]
    exact h_tl_at hnd (j := F.length) (by rw [List.getElem?_append_right (Nat.le_refl _), Nat.sub_self]; rfl)
  · rw [if_neg hu]
    rcases h_dich F u with h | ⟨k, v, hk⟩
    · rw [h_tl_no h, h_tl_no]
      intro x hx
      rcases List.mem_append.mp hx with h' | h'
      · exact h x h'
      · rw [List.mem_singleton] at h'
        rw [h']
        exact fun e => hu e.symm
    · rw [h_tl_at hw.2.2 hk]
      exact h_tl_at hnd (j := k) (by rw [List.getElem?_append_left (h_at hk).1]; exact hk)
theorem h_tl_dr {F : List (Nat × Nat)} {s j t u : Nat} (hw : h_wf F) (hj : F[j]? = some (s, t)) : h_tl (h_dr F j s t) u = if u = s then t - 1 else h_tl F u := by
  have ht := hw.2.1 _ (h_at hj).2
  have hw2 := h_wf_dr hw hj
  unfold h_dr at hw2 ⊢
  by_cases h1 : t = 1
  · rw [if_pos h1] at hw2 ⊢
    subst h1
    by_cases hu : u = s
    · rw [if_pos hu, hu]
      refine h_tl_no (fun x hx e => ?_)
      obtain ⟨k, hk⟩ := List.getElem?_of_mem hx
      rw [h_er] at hk
      by_cases hkj : k < j
      · rw [if_pos hkj] at hk
        have := h_first hw hj hk e
        omega
      · rw [if_neg hkj] at hk
        have := h_first hw hj hk e
        omega
    · rw [if_neg hu]
      rcases h_dich F u with h | ⟨k, v, hk⟩
      · rw [h_tl_no h, h_tl_no]
        intro x hx
        exact h x ((List.eraseIdx_sublist F j).subset hx)
      · have hkj : k ≠ j := by
          intro e
          subst e
          have := Option.some.inj (hk.symm.trans hj)
          exact hu (congrArg Prod.fst this)
        rw [h_tl_at hw.2.2 hk]
        by_cases hlt : k < j
        · exact h_tl_at hw2.2.2 (j := k) (by rw [h_er, if_pos hlt]; exact hk)
        · exact h_tl_at hw2.2.2 (j := k - 1) (by rw [h_er, if_neg (by omega), show k - 1 + 1 = k by omega]; exact hk)
  · rw [if_neg h1]
    exact h_tl_set hw hj
/-- families with the same tallies -/
def h_sm (F G : Nat → List (Nat × Nat)) : Prop := ∀ f u, f < 4 → h_tl (F f) u = h_tl (G f) u
/-- F came of G by an act -/
def h_by (F G : Nat → List (Nat × Nat)) (a : Nat × Nat × Int32) : Prop :=
  (a.1 = 0 ∧ a.2.1 < 12 ∧ h_sm F G) ∨
  (a.1 = 1 ∧ a.2.1 < 4 ∧ ∃ s, s < 4096 ∧ a.2.2 = nI s ∧ ∀ f u, f < 4 → h_tl (F f) u = if f = a.2.1 ∧ u = s then h_tl (G f) u + 1 else h_tl (G f) u) ∨
  (a.1 = 2 ∧ a.2.1 < 4 ∧ ∃ s, s < 4096 ∧ a.2.2 = nI s ∧ ∀ f u, f < 4 → h_tl (G f) u = if f = a.2.1 ∧ u = s then h_tl (F f) u + 1 else h_tl (F f) u)
def h_hi (F : Nat → List (Nat × Nat)) : List (Nat × Nat × Int32) → Prop
  | [] => True
  | a :: r => ∃ G, h_by F G a ∧ (∀ f, f < 4 → h_wf (G f)) ∧ h_hi G r
theorem h_by_c {F F' G : Nat → List (Nat × Nat)} {a : Nat × Nat × Int32} (h : h_sm F' F) (hb : h_by F G a) : h_by F' G a := by
  rcases hb with ⟨h0, h1, h2⟩ | ⟨h0, h1, s, h2, h3, h4⟩ | ⟨h0, h1, s, h2, h3, h4⟩
  · exact Or.inl ⟨h0, h1, fun f u hf => (h f u hf).trans (h2 f u hf)⟩
  · exact Or.inr (Or.inl ⟨h0, h1, s, h2, h3, fun f u hf => (h f u hf).trans (h4 f u hf)⟩)
  · exact Or.inr (Or.inr ⟨h0, h1, s, h2, h3, fun f u hf => by rw [h f u hf]; exact h4 f u hf⟩)
theorem h_hi_c {F F' : Nat → List (Nat × Nat)} (h : h_sm F' F) : ∀ {A : List (Nat × Nat × Int32)}, h_hi F A → h_hi F' A
  | [], _ => trivial
  | _ :: _, ⟨G, h1, h2, h3⟩ => ⟨G, h_by_c h h1, h2, h3⟩
theorem h_hi_cut : ∀ {A : List (Nat × Nat × Int32)} {F : Nat → List (Nat × Nat)} {x : Nat × Nat × Int32}, h_hi F (A ++ [x]) → h_hi F A
  | [], _, _, _ => trivial
  | _ :: _, _, _, ⟨G, h1, h2, h3⟩ => ⟨G, h1, h2, h_hi_cut h3⟩
def p_pr (σ μ : zS) : Prop := ∀ p, p < 12 → σ.1 3 p = μ.1 1 p
def p_fa (σ μ : zS) (F : Nat → List (Nat × Nat)) : Prop := ∀ f, f < 4 → h_X σ (7 + f) (F f) ∧ h_M μ f (F f) ∧ h_wf (F f)
def p_rok (h a b c : Int32) (r : Nat) : Prop := ∃ k : Nat, k ≤ 8 ∧ h = nI k ∧ ((k ≤ 5 ∨ k = 8) → ∃ j, j < r ∧ a = nI j) ∧ ((k = 0 ∨ k = 1 ∨ k = 5) → ∃ j, j < r ∧ b = nI j) ∧ ((k = 3 ∨ k = 5) → ∃ j, j < 12 ∧ c = nI j) ∧ (k = 4 → -12 < c.toInt ∧ c.toInt < 12) ∧ (k = 7 → ∃ j, j < 4 ∧ c = nI j)
def p_rule (σ μ : zS) (r : Nat) : Prop := (∀ i, i < 4 → σ.1 (35 + r) i = μ.1 (5 + i) r) ∧ (∀ p, p < 12 → σ.1 (47 + r) p = μ.1 9 (12 * r + p)) ∧ p_rok (μ.1 5 r) (μ.1 6 r) (μ.1 7 r) (μ.1 8 r) r
def p_ru (σ μ : zS) (nr : Nat) : Prop := σ.1 1 2 = nI nr ∧ μ.1 0 4 = nI nr ∧ 4 ≤ nr ∧ nr ≤ 12 ∧ (∀ r, r < 4 → σ.1 (35 + r) 0 = nI (9 + r)) ∧ ∀ r, 4 ≤ r → r < nr → p_rule σ μ r
def p_ac (σ μ : zS) (F : Nat → List (Nat × Nat)) (A : List (Nat × Nat × Int32)) : Prop := σ.1 59 3 = nI A.length ∧ μ.1 0 10 = nI A.length ∧ A.length ≤ 20 ∧ (∀ k x, A[k]? = some x → (σ.1 60 k = nI x.1 ∧ σ.1 61 k = nI x.2.1 ∧ σ.1 62 k = x.2.2) ∧ (μ.1 10 k = nI x.1 ∧ μ.1 11 k = nI x.2.1 ∧ μ.1 12 k = x.2.2)) ∧ h_hi F A.reverse
def p_sh (σ μ : zS) : Prop := ∀ s, s < 4 → σ.1 (64 + s) 1 = μ.1 19 s ∧ σ.1 (64 + s) 2 = μ.1 20 s ∧ (∀ i, i < 40 → σ.2 (68 + s) i = μ.2 21 (40 * s + i)) ∧ (μ.1 19 s = -1 ∨ μ.1 19 s = 0 ∨ μ.1 19 s = 1) ∧ ∃ n, n ≤ 40 ∧ μ.1 20 s = nI n
def p_ke (σ μ : zS) (nr : Nat) : Prop := σ.1 0 2 = μ.1 0 33 ∧ (μ.1 0 33 = 0 ∨ (μ.1 0 33 = 1 ∧ ∃ (G : Nat → List (Nat × Nat)) (kr : Nat), (∀ p, p < 12 → σ.1 4 p = μ.1 22 p) ∧ (∀ f, f < 4 → h_X σ (11 + f) (G f) ∧ h_fam (μ.1 23 f) (fun k => μ.1 24 (40 * f + k)) (fun k => μ.1 25 (40 * f + k)) (G f) ∧ h_wf (G f)) ∧ σ.1 2 2 = nI kr ∧ μ.1 0 38 = nI kr ∧ 4 ≤ kr ∧ kr ≤ nr))
def pP (σ μ : zS) : Prop := ∃ (F : Nat → List (Nat × Nat)) (A : List (Nat × Nat × Int32)) (nr : Nat), p_pr σ μ ∧ p_fa σ μ F ∧ p_ru σ μ nr ∧ p_ac σ μ F A ∧ p_sh σ μ ∧ p_ke σ μ nr
/-! what each part looks at -/
section PC
variable {σ τ μ ν : zS}
theorem p_pr_c (h : p_pr σ μ) (a : τ.1 3 = σ.1 3) (b : ν.1 1 = μ.1 1) : p_pr τ ν := fun p hp => by rw [a, b]; exact h p hp
theorem h_X_c {q : Nat} {F : List (Nat × Nat)} (h : h_X σ q F) (a : τ.1 q = σ.1 q) (b : τ.1 (q + 9) = σ.1 (q + 9)) (c : τ.1 (q + 18) = σ.1 (q + 18)) : h_X τ q F := by
  unfold h_X
  rw [a, b, c]
  exact h
theorem h_M_c {f : Nat} {F : List (Nat × Nat)} (h : h_M μ f F) (a : ν.1 2 = μ.1 2) (b : ν.1 3 = μ.1 3) (c : ν.1 4 = μ.1 4) : h_M ν f F := by
  unfold h_M
  rw [a, b, c]
  exact h
theorem p_fa_c {F : Nat → List (Nat × Nat)} (h : p_fa σ μ F) (a : ∀ p, 7 ≤ p → p < 11 → τ.1 p = σ.1 p ∧ τ.1 (p + 9) = σ.1 (p + 9) ∧ τ.1 (p + 18) = σ.1 (p + 18)) (b : ν.1 2 = μ.1 2 ∧ ν.1 3 = μ.1 3 ∧ ν.1 4 = μ.1 4) : p_fa τ ν F := fun f hf => by
  obtain ⟨h1, h2, h3⟩ := h f hf
  have := a (7 + f) (by omega) (by omega)
  exact ⟨h_X_c h1 this.1 this.2.1 this.2.2, h_M_c h2 b.1 b.2.1 b.2.2, h3⟩
theorem p_rule_c {r : Nat} (h : p_rule σ μ r) (a : ∀ i, i < 4 → τ.1 (35 + r) i = σ.1 (35 + r) i) (b : ∀ p, p < 12 → τ.1 (47 + r) p = σ.1 (47 + r) p) (c : ∀ i, i < 4 → ν.1 (5 + i) r = μ.1 (5 + i) r) (d : ∀ p, p < 12 → ν.1 9 (12 * r + p) = μ.1 9 (12 * r + p)) : p_rule τ ν r := by
  obtain ⟨h1, h2, h3⟩ := h
  refine ⟨fun i hi => by rw [a i hi, c i hi]; exact h1 i hi, fun p hp => by rw [b p hp, d p hp]; exact h2 p hp, ?_⟩
  have e0 := c 0 (by decide)
  have e1 := c 1 (by decide)
  have e2 := c 2 (by decide)
  have e3 := c 3 (by decide)
  simp only [Nat.add_zero, Nat.reduceAdd] at e0 e1 e2 e3
  rw [e0, e1, e2, e3]
  exact h3
theorem p_ru_c {nr : Nat} (h : p_ru σ μ nr) (a : τ.1 1 2 = σ.1 1 2) (b : ν.1 0 4 = μ.1 0 4) (c : ∀ r, r < 12 → (∀ i, i < 4 → τ.1 (35 + r) i = σ.1 (35 + r) i) ∧ τ.1 (47 + r) = σ.1 (47 + r)) (d : ∀ p, 5 ≤ p → p < 10 → ν.1 p = μ.1 p) : p_ru τ ν nr := by
  obtain ⟨h1, h2, h3, h4, h5, h6⟩ := h
  refine ⟨by rw [a]; exact h1, by rw [b]; exact h2, h3, h4, fun r hr => by rw [(c r (by omega)).1 0 (by decide)]; exact h5 r hr, fun r hr1 hr2 => ?_⟩
  exact p_rule_c (h6 r hr1 hr2) (c r (by omega)).1 (fun p _ => by rw [(c r (by omega)).2]) (fun i hi => by rw [d (5 + i) (by omega) (by omega)]) (fun p _ => by rw [d 9 (by decide) (by decide)])
theorem p_ac_c {F G : Nat → List (Nat × Nat)} {A : List (Nat × Nat × Int32)} (h : p_ac σ μ F A) (a : τ.1 59 3 = σ.1 59 3) (b : ν.1 0 10 = μ.1 0 10) (c : ∀ p, 60 ≤ p → p < 63 → τ.1 p = σ.1 p) (d : ∀ p, 10 ≤ p → p < 13 → ν.1 p = μ.1 p) (e : h_hi G A.reverse) : p_ac τ ν G A := by
  obtain ⟨h1, h2, h3, h4, h5⟩ := h
  refine ⟨by rw [a]; exact h1, by rw [b]; exact h2, h3, fun k x hx => ?_, e⟩
  rw [c 60 (by decide) (by decide), c 61 (by decide) (by decide), c 62 (by decide) (by decide), d 10 (by decide) (by decide), d 11 (by decide) (by decide), d 12 (by decide) (by decide)]
  exact h4 k x hx
theorem p_sh_c (h : p_sh σ μ) (a : ∀ s, s < 4 → τ.1 (64 + s) = σ.1 (64 + s)) (b : ∀ s, s < 4 → τ.2 (68 + s) = σ.2 (68 + s)) (c : ν.1 19 = μ.1 19 ∧ ν.1 20 = μ.1 20) (d : ν.2 21 = μ.2 21) : p_sh τ ν := fun s hs => by
  rw [a s hs, b s hs, c.1, c.2, d]
  exact h s hs
theorem p_ke_c {nr nr' : Nat} (h : p_ke σ μ nr) (hn : nr ≤ nr') (a : τ.1 0 2 = σ.1 0 2) (b : ν.1 0 33 = μ.1 0 33 ∧ ν.1 0 38 = μ.1 0 38) (c : τ.1 4 = σ.1 4) (c2 : τ.1 2 2 = σ.1 2 2) (d : ∀ p, 11 ≤ p → p < 15 → τ.1 p = σ.1 p ∧ τ.1 (p + 9) = σ.1 (p + 9) ∧ τ.1 (p + 18) = σ.1 (p + 18)) (e : ∀ p, 22 ≤ p → p < 26 → ν.1 p = μ.1 p) : p_ke τ ν nr' := by
  obtain ⟨h1, h2⟩ := h
  refine ⟨by rw [a, b.1]; exact h1, ?_⟩
  rw [b.1]
  rcases h2 with h2 | ⟨h2, G, kr, g1, g2, g3, g4, g5, g6⟩
  · exact Or.inl h2
  · refine Or.inr ⟨h2, G, kr, fun p hp => by rw [c, e 22 (by decide) (by decide)]; exact g1 p hp, fun f hf => ?_, by rw [c2]; exact g3, by rw [b.2]; exact g4, g5, by omega⟩
    obtain ⟨k1, k2, k3⟩ := g2 f hf
    have := d (11 + f) (by omega) (by omega)
    refine ⟨h_X_c k1 this.1 this.2.1 this.2.2, ?_, k3⟩
    rw [e 23 (by decide) (by decide), e 24 (by decide) (by decide), e 25 (by decide) (by decide)]
    exact k2
end PC
