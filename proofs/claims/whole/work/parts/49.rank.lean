/-! pure: ranks -/
abbrev f_bf (w : Nat → Int32) (k i : Nat) : Prop := w k < w i ∨ (w k = w i ∧ k < i)
def f_rk (w : Nat → Int32) (i : Nat) : Nat → Nat
  | 0 => 0
  | k + 1 => if f_bf w k i then f_rk w i k + 1 else f_rk w i k
theorem f_rk_le (w : Nat → Int32) (i : Nat) : ∀ n, f_rk w i n ≤ n
  | 0 => Nat.le_refl _
  | n + 1 => by
    have := f_rk_le w i n
    show (if f_bf w n i then f_rk w i n + 1 else f_rk w i n) ≤ n + 1
    split <;> omega
theorem q_rank {σ : zS} {i n : Nat} (hi : i < 40) (hn : n ≤ 40) : fX7_rankOf σ (nI i) (nI n) = some (nI (f_rk (σ.1 93) i n)) := by
  unfold fX7_rankOf
  have h := z_up (fun m (s : Int32 × Int32) => fX7_rankOf_L5 σ (nI i) (nI n) (fun x1 _ => some x1) m s.1 s.2) (fun k => (nI (f_rk (σ.1 93) i k), nI k)) n (some (nI (f_rk (σ.1 93) i n))) ?_ (fun m => ?_) 0 z_F (Nat.zero_le _) (by show n < 5000 + 0; omega)
  · exact h
  · intro m k hk
    have g1 : z_in (nI k) 40 = true := z_in_nI (by omega) (by decide)
    have g2 : z_in (nI i) 40 = true := z_in_nI (by omega) (by decide)
    show fX7_rankOf_L5 σ (nI i) (nI n) _ (m + 1) (nI (f_rk (σ.1 93) i k)) (nI k) = fX7_rankOf_L5 σ (nI i) (nI n) _ m (nI (if f_bf (σ.1 93) k i then f_rk (σ.1 93) i k + 1 else f_rk (σ.1 93) i k)) (nI (k + 1))
    rw [fX7_rankOf_L5.eq_2, if_neg (z_nle hk (by omega)), z_gd_t g1, z_gd_t g2, z_gd_t g1, z_gd_t g2, nI_clamp (show k < 2 ^ 31 by omega), nI_clamp (show i < 2 ^ 31 by omega), nI_1, nI_1]
    by_cases a : σ.1 93 k < σ.1 93 i
    · rw [if_pos a, if_pos (Or.inl a)]
    · rw [if_neg a]
      by_cases b : σ.1 93 k = σ.1 93 i
      · rw [if_pos b]
        by_cases c : k < i
        · rw [if_neg (z_nle c (by omega)), if_pos (Or.inr ⟨b, c⟩)]
        · rw [if_pos (nI_le (by omega) (by omega)), if_neg (fun q => q.elim a (fun q => c q.2))]
      · rw [if_neg b, if_neg (fun q => q.elim a (fun q => b q.1))]
  · show fX7_rankOf_L5 σ (nI i) (nI n) _ (m + 1) _ (nI n) = _
    rw [fX7_rankOf_L5.eq_2, if_pos (nI_le (Nat.le_refl _) (by omega))]
theorem r_rank {μ : zS} {f i n : Nat} (hf : f < 4) (hs : μ.1 2 f = nI n) (hi : i < 40) (hn : n ≤ 40) (K : Int32 → Option (Int32 × zS)) : fX8_ranked_L77 μ (nI f) (nI i) (fun x1 _ => K x1) z_F 0 0 = K (nI (f_rk (μ.1 18) i n)) := by
  have h := z_up (fun m (s : Int32 × Int32) => fX8_ranked_L77 μ (nI f) (nI i) (fun x1 _ => K x1) m s.1 s.2) (fun k => (nI (f_rk (μ.1 18) i k), nI k)) n (K (nI (f_rk (μ.1 18) i n))) ?_ (fun m => ?_) 0 z_F (Nat.zero_le _) (by show n < 5000 + 0; omega)
  · exact h
  · intro m k hk
    have g1 : z_in (nI k) 40 = true := z_in_nI (by omega) (by decide)
    have g2 : z_in (nI i) 40 = true := z_in_nI (by omega) (by decide)
    show fX8_ranked_L77 μ (nI f) (nI i) _ (m + 1) (nI (f_rk (μ.1 18) i k)) (nI k) = fX8_ranked_L77 μ (nI f) (nI i) _ m (nI (if f_bf (μ.1 18) k i then f_rk (μ.1 18) i k + 1 else f_rk (μ.1 18) i k)) (nI (k + 1))
    rw [fX8_ranked_L77.eq_2, z_gd_t (r_f4 hf), nI_clamp (show f < 2 ^ 31 by omega), hs, if_neg (z_nle hk (by omega)), z_gd_t g1, z_gd_t g2, z_gd_t g1, z_gd_t g2, nI_clamp (show k < 2 ^ 31 by omega), nI_clamp (show i < 2 ^ 31 by omega)]
    simp only [z_ltE]
    rw [nI_1, nI_1, Int32.add_zero]
    by_cases a : μ.1 18 k < μ.1 18 i
    · rw [if_pos a, if_pos (Or.inl a)]
    · rw [if_neg a]
      by_cases b : μ.1 18 k = μ.1 18 i
      · rw [if_pos b]
        by_cases c : k < i
        · rw [if_neg (z_nle c (by omega)), if_pos (Or.inr ⟨b, c⟩)]
        · rw [if_pos (nI_le (by omega) (by omega)), if_neg (fun q => q.elim a (fun q => c q.2))]
      · rw [if_neg b, if_neg (fun q => q.elim a (fun q => b q.1))]
  · show fX8_ranked_L77 μ (nI f) (nI i) _ (m + 1) _ (nI n) = _
    rw [fX8_ranked_L77.eq_2, z_gd_t (r_f4 hf), nI_clamp (by omega), hs, if_pos (nI_le (Nat.le_refl _) (by omega))]
/-! ranks are all different, so each number below n is one's rank -/
theorem f_bf_tr {w : Nat → Int32} {a b c : Nat} (h1 : f_bf w a b) (h2 : f_bf w b c) : f_bf w a c := by
  unfold f_bf at *
  rw [Int32.lt_iff_toInt_lt] at *
  rw [← Int32.toInt_inj] at *
  omega
theorem f_rk_mono {w : Nat → Int32} {i j : Nat} (h : f_bf w i j) : ∀ n, f_rk w i n ≤ f_rk w j n ∧ (i < n → f_rk w i n < f_rk w j n)
  | 0 => ⟨Nat.le_refl _, fun q => absurd q (Nat.not_lt_zero _)⟩
  | n + 1 => by
    have ih := f_rk_mono h n
    show (if f_bf w n i then f_rk w i n + 1 else f_rk w i n) ≤ (if f_bf w n j then f_rk w j n + 1 else f_rk w j n) ∧ (i < n + 1 → (if f_bf w n i then f_rk w i n + 1 else f_rk w i n) < (if f_bf w n j then f_rk w j n + 1 else f_rk w j n))
    by_cases a : f_bf w n i
    · rw [if_pos a, if_pos (f_bf_tr a h)]
      refine ⟨by omega, fun q => ?_⟩
      have : n ≠ i := by
        intro e
        subst e
        unfold f_bf at a
        rw [Int32.lt_iff_toInt_lt] at a
        omega
      have := ih.2 (by omega)
      omega
    · rw [if_neg a]
      by_cases b : f_bf w n j
      · rw [if_pos b]
        exact ⟨by omega, fun _ => by omega⟩
      · rw [if_neg b]
        refine ⟨ih.1, fun q => ?_⟩
        have : n ≠ i := fun e => b (e ▸ h)
        exact ih.2 (by omega)
theorem f_bf_tot (w : Nat → Int32) {i j : Nat} (h : i ≠ j) : f_bf w i j ∨ f_bf w j i := by
  unfold f_bf
  rw [Int32.lt_iff_toInt_lt, Int32.lt_iff_toInt_lt, ← Int32.toInt_inj, ← Int32.toInt_inj]
  omega
theorem f_rk_inj {w : Nat → Int32} {n i j : Nat} (hi : i < n) (hj : j < n) (h : f_rk w i n = f_rk w j n) : i = j := by
  by_cases e : i = j
  · exact e
  · rcases f_bf_tot w e with q | q
    · have := (f_rk_mono q n).2 hi
      omega
    · have := (f_rk_mono q n).2 hj
      omega
