/-! pure: what is remembered -/
theorem z_ltE {α β : Type} (e : α) (f : α → β) : z_lt e f = f e := Eq.trans (Eq.refl (f e)) (Eq.refl (f e))
theorem z_jnE {α β : Type} (r : α) (b : α → β) : z_jn r b = b r := Eq.trans (Eq.refl (b r)) (Eq.refl (b r))
def h_ac (n : Int32) (S : Nat → Nat → Int32) (A : List (Nat × Nat × Int32)) : Prop := n = nI A.length ∧ ∀ k x, A[k]? = some x → S 0 k = nI x.1 ∧ S 1 k = nI x.2.1 ∧ S 2 k = x.2.2
def h_push (A : List (Nat × Nat × Int32)) (x : Nat × Nat × Int32) : List (Nat × Nat × Int32) := (if A.length = 20 then A.tail else A) ++ [x]
theorem h_push_len {A : List (Nat × Nat × Int32)} {x : Nat × Nat × Int32} (h : A.length ≤ 20) : (h_push A x).length ≤ 20 := by
  unfold h_push
  split
  · rename_i e
    rw [List.length_append, List.length_tail, e]
    show 19 + 1 ≤ 20
    decide
  · rw [List.length_append]
    show A.length + 1 ≤ 20
    omega
theorem h_push_hi {A : List (Nat × Nat × Int32)} {x : Nat × Nat × Int32} {F G : Nat → List (Nat × Nat)} (h : h_hi F A.reverse) (hb : h_by G F x) (hw : ∀ f, f < 4 → h_wf (F f)) : h_hi G (h_push A x).reverse := by
  unfold h_push
  rw [List.reverse_append]
  refine ⟨F, hb, hw, ?_⟩
  split
  · cases A with
    | nil => exact h
    | cons a A =>
      rw [List.reverse_cons] at h
      exact h_hi_cut h
  · exact h
theorem h_ac_cut {n m : Int32} {S T : Nat → Nat → Int32} {A : List (Nat × Nat × Int32)} (h : h_ac n S A) (hl : A.length = 20) (hm : m = nI 19) (hT : ∀ i k, i < 3 → k < 19 → T i k = S i (k + 1)) : h_ac m T A.tail := by
  refine ⟨by rw [List.length_tail, hl]; exact hm, fun k x hx => ?_⟩
  have hk : k < A.tail.length := (List.getElem?_eq_some_iff.mp hx).1
  rw [List.length_tail, hl] at hk
  rw [List.getElem?_tail] at hx
  rw [hT 0 k (by decide) hk, hT 1 k (by decide) hk, hT 2 k (by decide) hk]
  exact h.2 (k + 1) x hx
theorem h_ac_add {n m : Int32} {S T : Nat → Nat → Int32} {A : List (Nat × Nat × Int32)} {a b : Nat} {c : Int32} (h : h_ac n S A) (hm : m = nI (A.length + 1)) (h0 : T 0 = upd (S 0) A.length (nI a)) (h1 : T 1 = upd (S 1) A.length (nI b)) (h2 : T 2 = upd (S 2) A.length c) : h_ac m T (A ++ [(a, b, c)]) := by
  refine ⟨by rw [List.length_append]; exact hm, fun k x hx => ?_⟩
  rw [h0, h1, h2]
  by_cases hk : k < A.length
  · rw [List.getElem?_append_left hk] at hx
    rw [u_n (by omega), u_n (by omega), u_n (by omega)]
    exact h.2 k x hx
  · rw [List.getElem?_append_right (by omega)] at hx
    have h0 : k - A.length < 1 := (List.getElem?_eq_some_iff.mp hx).1
    have hk2 : k = A.length := by omega
    subst hk2
    rw [Nat.sub_self] at hx
    cases hx
    rw [u_s, u_s, u_s]
    exact ⟨rfl, rfl, rfl⟩
def o_ac (σ τ : zS) : Prop := (∀ p, p < 59 ∨ 63 ≤ p → τ.1 p = σ.1 p) ∧ τ.2 = σ.2
theorem q_forget {σ : zS} (h : σ.1 59 3 = nI 20) : ∃ τ, fX0_forgetOldest σ = some τ ∧ τ.1 59 3 = nI 19 ∧ (∀ i k, i < 3 → k < 19 → τ.1 (60 + i) k = σ.1 (60 + i) (k + 1)) ∧ o_ac σ τ := by
  refine ⟨z_fI (z_fI (z_fI (z_sI σ 59 3 (nI 19)) 60 (va_cpy (σ.1 60) (σ.1 60) 1 0 19)) 61 (va_cpy (σ.1 61) (σ.1 61) 1 0 19)) 62 (va_cpy (σ.1 62) (σ.1 62) 1 0 19), ?_, ?_, ?_, ?_, rfl⟩
  · unfold fX0_forgetOldest
    simp only [z_lt]
    rw [z_gd_t (by decide), z_gd_t (by decide), z_gd_t (by decide), h, z_rd_n (show 60 ≠ 59 by decide), z_fI_n (show 61 ≠ 60 by decide), z_rd_n (show 61 ≠ 59 by decide), z_fI_n (show 62 ≠ 61 by decide), z_fI_n (show 62 ≠ 60 by decide), z_rd_n (show 62 ≠ 59 by decide)]
    rfl
  · rw [z_fI_n (by decide), z_fI_n (by decide), z_fI_n (by decide), z_rd_s, u_s]
  · intro i k hi hk
    have e : ∀ f : Nat → Int32, va_cpy f f 1 0 19 k = f (k + 1) := fun f => by
      rw [pk_cpy_in (by omega) (by omega), Nat.sub_zero, Nat.add_comm]
    have : i = 0 ∨ i = 1 ∨ i = 2 := by omega
    rcases this with rfl | rfl | rfl
    · rw [z_fI_n (by decide), z_fI_n (by decide), z_fI_s]
      exact e _
    · rw [z_fI_n (by decide), z_fI_s]
      exact e _
    · rw [z_fI_s]
      exact e _
  · intro p hp
    rw [z_fI_n (by omega), z_fI_n (by omega), z_fI_n (by omega), z_rd_n (by omega)]
theorem q_remember {σ : zS} {A : List (Nat × Nat × Int32)} {a b : Nat} {c : Int32} (h : h_ac (σ.1 59 3) (fun i => σ.1 (60 + i)) A) (hl : A.length ≤ 20) : ∃ τ, fX0_remember σ (nI a) (nI b) c = some τ ∧ h_ac (τ.1 59 3) (fun i => τ.1 (60 + i)) (h_push A (a, b, c)) ∧ o_ac σ τ := by
  have key : ∀ (w : zS) (B : List (Nat × Nat × Int32)), h_ac (w.1 59 3) (fun i => w.1 (60 + i)) B → B.length < 20 → ∃ τ, z_gd (z_in (w.1 59 3) 20) (z_lt (z_sI w 60 (w.1 59 3).toNatClampNeg (nI a)) (fun (w2 : zS) => z_gd (z_in (w2.1 59 3) 20) (z_lt (z_sI w2 61 (w2.1 59 3).toNatClampNeg (nI b)) (fun (w3 : zS) => z_gd (z_in (w3.1 59 3) 20) (z_lt (z_sI w3 62 (w3.1 59 3).toNatClampNeg c) (fun (w4 : zS) => z_lt (z_sI w4 59 3 ((w4.1 59 3) + (1 : Int32))) (fun (w5 : zS) => some w5))))))) = some τ ∧ h_ac (τ.1 59 3) (fun i => τ.1 (60 + i)) (B ++ [(a, b, c)]) ∧ o_ac w τ := by
    intro w B hB hlB
    refine ⟨z_sI (z_sI (z_sI (z_sI w 60 B.length (nI a)) 61 B.length (nI b)) 62 B.length c) 59 3 (nI (B.length + 1)), ?_, ?_, ?_, rfl⟩
    · have g : z_in (nI B.length) 20 = true := z_in_nI hlB (by decide)
      rw [hB.1, z_gd_t g, nI_clamp (by omega)]
      simp only [z_lt]
      rw [z_rd_n (show 59 ≠ 60 by decide), hB.1, z_gd_t g, nI_clamp (by omega), z_rd_n (show 59 ≠ 61 by decide), z_rd_n (show 59 ≠ 60 by decide), hB.1, z_gd_t g, nI_clamp (by omega), z_rd_n (show 59 ≠ 62 by decide), z_rd_n (show 59 ≠ 61 by decide), z_rd_n (show 59 ≠ 60 by decide), hB.1, nI_1]
    · refine h_ac_add hB ?_ ?_ ?_ ?_
      · rw [z_rd_s, u_s]
      · show (z_sI _ 59 3 _).1 60 = _
        rw [z_rd_n (by decide), z_rd_n (by decide), z_rd_n (by decide), z_rd_s]
      · show (z_sI _ 59 3 _).1 61 = _
        rw [z_rd_n (by decide), z_rd_n (by decide), z_rd_s, z_rd_n (by decide)]
      · show (z_sI _ 59 3 _).1 62 = _
        rw [z_rd_n (by decide), z_rd_s, z_rd_n (by decide), z_rd_n (by decide)]
    · intro p hp
      rw [z_rd_n (by omega), z_rd_n (by omega), z_rd_n (by omega), z_rd_n (by omega)]
  unfold fX0_remember
  simp only [z_jn]
  unfold h_push
  by_cases h20 : A.length = 20
  · rw [if_pos h20, if_pos (by rw [h.1, h20]; rfl)]
    obtain ⟨w, f1, f2, f3, f4⟩ := q_forget (σ := σ) (by rw [h.1, h20])
    obtain ⟨τ, g1, g2, g3⟩ := key w A.tail (h_ac_cut h h20 f2 f3) (by rw [List.length_tail, h20]; decide)
    exact ⟨τ, by rw [z_bd f1]; exact g1, g2, fun p hp => (g3.1 p hp).trans (f4.1 p hp), g3.2.trans f4.2⟩
  · rw [if_neg h20, if_neg (by rw [h.1]; exact fun e => h20 ((nI_eq (b := 20) (by omega) (by decide)).mp e))]
    exact key σ A h (by omega)
def o_mc (μ ν : zS) : Prop := (∀ p, (1 ≤ p ∧ p < 10) ∨ 13 ≤ p → ν.1 p = μ.1 p) ∧ (∀ k, k ≠ 10 → ν.1 0 k = μ.1 0 k) ∧ ν.2 = μ.2
theorem r_shift (μ : zS) (K : zS → Option zS) : fX8_remembers_L22 (fun (w7 : zS) (_ : Int32) => K w7) z_F (z_sI μ 0 10 (nI 19)) (nI 0) = K (z_fI (z_fI (z_fI (z_sI μ 0 10 (nI 19)) 10 (h_sh (μ.1 10) 0 19)) 11 (h_sh (μ.1 11) 0 19)) 12 (h_sh (μ.1 12) 0 19)) := by
  have hh := z_up (fun m (x : zS × Int32) => fX8_remembers_L22 (fun (w7 : zS) (_ : Int32) => K w7) m x.1 x.2) (fun i => (z_fI (z_fI (z_fI (z_sI μ 0 10 (nI 19)) 10 (h_sh (μ.1 10) 0 i)) 11 (h_sh (μ.1 11) 0 i)) 12 (h_sh (μ.1 12) 0 i), nI i)) 19 (K (z_fI (z_fI (z_fI (z_sI μ 0 10 (nI 19)) 10 (h_sh (μ.1 10) 0 19)) 11 (h_sh (μ.1 11) 0 19)) 12 (h_sh (μ.1 12) 0 19))) ?_ (fun m => ?_) 0 z_F (Nat.zero_le _) (by show 19 < 5000 + 0; decide)
  · have e1 : z_fI (z_fI (z_fI (z_sI μ 0 10 (nI 19)) 10 (h_sh (μ.1 10) 0 0)) 11 (h_sh (μ.1 11) 0 0)) 12 (h_sh (μ.1 12) 0 0) = z_sI μ 0 10 (nI 19) := by
      rw [h_sh_0, h_sh_0, h_sh_0]
      have x0 : μ.1 10 = (z_sI μ 0 10 (nI 19)).1 10 := (z_rd_n (by decide)).symm
      have x1 : μ.1 11 = (z_sI μ 0 10 (nI 19)).1 11 := (z_rd_n (by decide)).symm
      have x2 : μ.1 12 = (z_sI μ 0 10 (nI 19)).1 12 := (z_rd_n (by decide)).symm
      rw [x0, z_fI_self, x1, z_fI_self, x2, z_fI_self]
    rw [e1] at hh
    exact hh
  · intro m i hi
    show fX8_remembers_L22 _ (m + 1) _ (nI i) = fX8_remembers_L22 _ m _ (nI (i + 1))
    rw [fX8_remembers_L22.eq_2, z_fI_n (show 0 ≠ 12 by decide), z_fI_n (show 0 ≠ 11 by decide), z_fI_n (show 0 ≠ 10 by decide), z_rd_s, u_s, if_neg (z_nle hi (by decide)), nI_1, z_gd_t (z_in_nI (by omega) (by decide)), z_gd_t (z_in_nI (by omega) (by decide)), nI_clamp (by omega), nI_clamp (by omega)]
    simp only [z_lt]
    rw [z_gd_t (z_in_nI (by omega) (by decide)), z_gd_t (z_in_nI (by omega) (by decide)), z_gd_t (z_in_nI (by omega) (by decide)), z_gd_t (z_in_nI (by omega) (by decide))]
    have s1 : ∀ (g h : Nat → Int32), z_sI (z_fI (z_fI (z_fI (z_sI μ 0 10 (nI 19)) 10 (h_sh (μ.1 10) 0 i)) 11 g) 12 h) 10 i ((z_fI (z_fI (z_fI (z_sI μ 0 10 (nI 19)) 10 (h_sh (μ.1 10) 0 i)) 11 g) 12 h).1 10 (i + 1)) = z_fI (z_fI (z_fI (z_sI μ 0 10 (nI 19)) 10 (h_sh (μ.1 10) 0 (i + 1))) 11 g) 12 h := fun g h => by
      rw [z_fI_n (show 10 ≠ 12 by decide), z_fI_n (show 10 ≠ 11 by decide), z_fI_s, h_sh_i (by omega), z_fI_cm (show 11 ≠ 12 by decide), z_fI_cm (show 10 ≠ 12 by decide), z_fI_cm (show 10 ≠ 11 by decide), z_sI_fI, h_sh_s (Nat.zero_le _), z_fI_cm (show 11 ≠ 10 by decide), z_fI_cm (show 12 ≠ 10 by decide), z_fI_cm (show 12 ≠ 11 by decide)]
    rw [s1]
    have s2 : ∀ (w : zS) (h : Nat → Int32), z_sI (z_fI (z_fI w 11 (h_sh (μ.1 11) 0 i)) 12 h) 11 i ((z_fI (z_fI w 11 (h_sh (μ.1 11) 0 i)) 12 h).1 11 (i + 1)) = z_fI (z_fI w 11 (h_sh (μ.1 11) 0 (i + 1))) 12 h := fun w h => by
      rw [z_fI_n (show 11 ≠ 12 by decide), z_fI_s, h_sh_i (by omega), z_fI_cm (show 11 ≠ 12 by decide), z_sI_fI, h_sh_s (Nat.zero_le _), z_fI_cm (show 12 ≠ 11 by decide)]
    rw [s2]
    have s3 : ∀ (w : zS), z_sI (z_fI w 12 (h_sh (μ.1 12) 0 i)) 12 i ((z_fI w 12 (h_sh (μ.1 12) 0 i)).1 12 (i + 1)) = z_fI w 12 (h_sh (μ.1 12) 0 (i + 1)) := fun w => by
      rw [z_fI_s, h_sh_i (by omega), z_sI_fI, h_sh_s (Nat.zero_le _)]
    rw [s3]
  · show fX8_remembers_L22 _ (m + 1) _ (nI 19) = _
    rw [fX8_remembers_L22.eq_2, z_fI_n (show 0 ≠ 12 by decide), z_fI_n (show 0 ≠ 11 by decide), z_fI_n (show 0 ≠ 10 by decide), z_rd_s, u_s, if_pos (nI_le (Nat.le_refl _) (by decide))]
theorem r_remembers {μ : zS} {A : List (Nat × Nat × Int32)} {a b : Nat} {c : Int32} (h : h_ac (μ.1 0 10) (fun i => μ.1 (10 + i)) A) (hl : A.length ≤ 20) : ∃ ν, fX8_remembers μ (nI a) (nI b) c = some ν ∧ h_ac (ν.1 0 10) (fun i => ν.1 (10 + i)) (h_push A (a, b, c)) ∧ o_mc μ ν := by
  have key : ∀ (w : zS) (B : List (Nat × Nat × Int32)), h_ac (w.1 0 10) (fun i => w.1 (10 + i)) B → B.length < 20 → ∃ τ, z_gd (z_in (w.1 0 10) 20) (z_lt (z_sI w 10 (w.1 0 10).toNatClampNeg (nI a)) (fun (w2 : zS) => z_gd (z_in (w2.1 0 10) 20) (z_lt (z_sI w2 11 (w2.1 0 10).toNatClampNeg (nI b)) (fun (w3 : zS) => z_gd (z_in (w3.1 0 10) 20) (z_lt (z_sI w3 12 (w3.1 0 10).toNatClampNeg c) (fun (w4 : zS) => z_lt (z_sI w4 0 10 ((w4.1 0 10) + (1 : Int32))) (fun (w5 : zS) => some w5))))))) = some τ ∧ h_ac (τ.1 0 10) (fun i => τ.1 (10 + i)) (B ++ [(a, b, c)]) ∧ o_mc w τ := by
    intro w B hB hlB
    refine ⟨z_sI (z_sI (z_sI (z_sI w 10 B.length (nI a)) 11 B.length (nI b)) 12 B.length c) 0 10 (nI (B.length + 1)), ?_, ?_, ?_, ?_, rfl⟩
    · have g : z_in (nI B.length) 20 = true := z_in_nI hlB (by decide)
      rw [hB.1, z_gd_t g, nI_clamp (by omega)]
      simp only [z_lt]
      rw [z_rd_n (show 0 ≠ 10 by decide), hB.1, z_gd_t g, nI_clamp (by omega), z_rd_n (show 0 ≠ 11 by decide), z_rd_n (show 0 ≠ 10 by decide), hB.1, z_gd_t g, nI_clamp (by omega), z_rd_n (show 0 ≠ 12 by decide), z_rd_n (show 0 ≠ 11 by decide), z_rd_n (show 0 ≠ 10 by decide), hB.1, nI_1]
    · refine h_ac_add hB ?_ ?_ ?_ ?_
      · rw [z_rd_s, u_s]
      · show (z_sI _ 0 10 _).1 10 = _
        rw [z_rd_n (by decide), z_rd_n (by decide), z_rd_n (by decide), z_rd_s]
      · show (z_sI _ 0 10 _).1 11 = _
        rw [z_rd_n (by decide), z_rd_n (by decide), z_rd_s, z_rd_n (by decide)]
      · show (z_sI _ 0 10 _).1 12 = _
        rw [z_rd_n (by decide), z_rd_s, z_rd_n (by decide), z_rd_n (by decide)]
    · intro p hp
      rw [z_rd_n (by omega), z_rd_n (by omega), z_rd_n (by omega), z_rd_n (by omega)]
    · intro k hk
      rw [z_rd_s, u_n hk, z_rd_n (by decide), z_rd_n (by decide), z_rd_n (by decide)]
  unfold fX8_remembers
  rw [z_jnE]
  unfold h_push
  by_cases h20 : A.length = 20
  · rw [if_pos h20, if_pos (by rw [h.1, h20]; rfl)]
    rw [h.1, h20, show nI 20 - 1 = nI 19 from rfl]
    rw [z_ltE, z_i0, r_shift]
    obtain ⟨τ, g1, g2, g3⟩ := key (z_fI (z_fI (z_fI (z_sI μ 0 10 (nI 19)) 10 (h_sh (μ.1 10) 0 19)) 11 (h_sh (μ.1 11) 0 19)) 12 (h_sh (μ.1 12) 0 19)) A.tail (h_ac_cut h h20 (by rw [z_fI_n (by decide), z_fI_n (by decide), z_fI_n (by decide), z_rd_s, u_s]) (fun i k hi hk => by
      have e : ∀ f : Nat → Int32, h_sh f 0 19 k = f (k + 1) := fun f => if_pos (by omega)
      have : i = 0 ∨ i = 1 ∨ i = 2 := by omega
      rcases this with rfl | rfl | rfl
      · rw [z_fI_n (by decide), z_fI_n (by decide), z_fI_s]
        exact e _
      · rw [z_fI_n (by decide), z_fI_s]
        exact e _
      · rw [z_fI_s]
        exact e _)) (by rw [List.length_tail, h20]; decide)
    refine ⟨τ, ?_, g2, fun p hp => (g3.1 p hp).trans ?_, fun k hk => (g3.2.1 k hk).trans ?_, g3.2.2⟩
    · exact g1
    · rw [z_fI_n (by omega), z_fI_n (by omega), z_fI_n (by omega), z_rd_n (by omega)]
    · rw [z_fI_n (by decide), z_fI_n (by decide), z_fI_n (by decide), z_rd_s, u_n hk]
  · rw [if_neg h20, if_neg (by rw [h.1]; exact fun e => h20 ((nI_eq (b := 20) (by omega) (by decide)).mp e))]
    exact key μ A h (by omega)
