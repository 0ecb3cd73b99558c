/-! pure: count, image, back -/
def f_pay (S : Nat) (f : Nat → Int32) : Nat → Int32
  | 0 => 0
  | n + 1 => if S.testBit n then f_pay S f n + f n else f_pay S f n
theorem q_hasP {S p : Nat} (hS : S < 2 ^ 31) (hp : p < 32) : fX7_hasPoint (nI S) (nI p) = some (if S.testBit p then 1 else 0) := by
  unfold fX7_hasPoint
  rw [b_bit hS hp]
  cases S.testBit p <;> rfl
theorem q_hasP1 {S p : Nat} (hS : S < 2 ^ 31) (hp : p < 32) (h : S.testBit p = true) : fX7_hasPoint (nI S) (nI p) = some 1 := by rw [q_hasP hS hp, if_pos h]
theorem q_hasP0 {S p : Nat} (hS : S < 2 ^ 31) (hp : p < 32) (h : S.testBit p = false) : fX7_hasPoint (nI S) (nI p) = some 0 := by rw [q_hasP hS hp, if_neg (by rw [h]; decide)]
theorem q_pay {σ : zS} {S q : Nat} (hS : S < 2 ^ 31) : fX7_priceOfAll σ (nI S) q = some (f_pay S (σ.1 q) 12) := by
  unfold fX7_priceOfAll
  have h := z_up (fun n (s : Int32 × Int32) => fX7_priceOfAll_L4 σ (nI S) q (fun x1 _ => some x1) n s.1 s.2) (fun i => (f_pay S (σ.1 q) i, nI i)) 12 (some (f_pay S (σ.1 q) 12)) ?_ (fun n => ?_) 0 z_F (Nat.zero_le _) (by show 12 < 5000 + 0; decide)
  · exact h
  · intro n i hi
    show fX7_priceOfAll_L4 σ (nI S) q _ (n + 1) (f_pay S (σ.1 q) i) (nI i) = fX7_priceOfAll_L4 σ (nI S) q _ n (if S.testBit i then f_pay S (σ.1 q) i + σ.1 q i else f_pay S (σ.1 q) i) (nI (i + 1))
    rw [fX7_priceOfAll_L4.eq_2, n_12, if_neg (z_nle hi (by decide)), nI_1]
    cases e : S.testBit i
    · rw [z_bd (q_hasP0 hS (by omega) e), if_neg (show ¬ (false = true) by decide), i_t]
    · rw [z_bd (q_hasP1 hS (by omega) e), if_pos (show true = true from rfl), i_f, z_gd_t (z_in_nI hi (by decide)), z_ltE, nI_clamp (by omega)]
  · show fX7_priceOfAll_L4 σ (nI S) q _ (n + 1) _ (nI 12) = _
    rw [fX7_priceOfAll_L4.eq_2, n_12, if_pos (nI_le (Nat.le_refl _) (by decide))]
def f_sum (f : Nat → Int32) : Nat → Int32
  | 0 => 0
  | n + 1 => f_sum f n + f n
theorem f_sum_c {f g : Nat → Int32} : ∀ {n : Nat}, (∀ i, i < n → f i = g i) → f_sum f n = f_sum g n
  | 0, _ => rfl
  | n + 1, h => by
    show f_sum f n + f n = f_sum g n + g n
    rw [f_sum_c (fun i hi => h i (by omega)), h n (by omega)]
theorem f_pay_all (f : Nat → Int32) : f_pay 4095 f 12 = f_sum f 12 := by
  have : ∀ n, n ≤ 12 → f_pay 4095 f n = f_sum f n := by
    intro n
    induction n with
    | zero => intro _; rfl
    | succ n ih =>
      intro h
      have hb : ∀ i : Fin 12, Nat.testBit 4095 i.val = true := by decide
      show (if Nat.testBit 4095 n then f_pay 4095 f n + f n else f_pay 4095 f n) = f_sum f n + f n
      rw [if_pos (hb ⟨n, by omega⟩), ih (by omega)]
  exact this 12 (Nat.le_refl _)
theorem s_count_p : s_count pP := by
  intro σ μ h a1
  unfold fX7_count fX8_count
  obtain ⟨F, A, nr, h1, h2, h3, h4, h5, h6⟩ := p_un h
  have hm : ∀ K : Int32 → Option Int32, fX8_count_L4 μ (fun x1 _ => K x1) z_F 0 0 = K (f_sum (μ.1 1) 12) := by
    intro K
    have h := z_up (fun n (s : Int32 × Int32) => fX8_count_L4 μ (fun x1 _ => K x1) n s.1 s.2) (fun i => (f_sum (μ.1 1) i, nI i)) 12 (K (f_sum (μ.1 1) 12)) ?_ (fun n => ?_) 0 z_F (Nat.zero_le _) (by show 12 < 5000 + 0; decide)
    · exact h
    · intro n i hi
      show fX8_count_L4 μ _ (n + 1) (f_sum (μ.1 1) i) (nI i) = fX8_count_L4 μ _ n (f_sum (μ.1 1) i + μ.1 1 i) (nI (i + 1))
      rw [fX8_count_L4.eq_2, n_12, if_neg (z_nle hi (by decide)), z_gd_t (z_in_nI hi (by decide)), z_ltE, nI_clamp (by omega), nI_1]
    · show fX8_count_L4 μ _ (n + 1) _ (nI 12) = _
      rw [fX8_count_L4.eq_2, n_12, if_pos (nI_le (Nat.le_refl _) (by decide))]
  rw [hm (fun x1 => (if a1 = 0 then some (μ.1 0 4) else (if a1 = (1 : Int32) then some (μ.1 0 10) else (if a1 = (2 : Int32) then some x1 else some (-2 : Int32)))))]
  by_cases e0 : a1 = 0
  · rw [if_pos e0, if_pos e0]
    exact ⟨_, rfl, by rw [h1.2.1.1, h1.2.1.2.1]⟩
  · rw [if_neg e0, if_neg e0]
    by_cases e1 : a1 = 1
    · rw [if_pos e1, if_pos e1]
      exact ⟨_, rfl, by rw [h3.1, h4.1]⟩
    · rw [if_neg e1, if_neg e1]
      by_cases e2 : a1 = 2
      · rw [if_pos e2, if_pos e2, n_4095, z_bd (q_pay (by decide)), f_pay_all, f_sum_c h1.1]
        exact ⟨_, rfl, rfl⟩
      · rw [if_neg e2, if_neg e2]
        exact ⟨_, rfl, rfl⟩
theorem q_held {σ : zS} : fX4_heldInAll σ 1 = some (f_sum (fun i => σ.1 (7 + i) 2) 4) := by
  unfold fX4_heldInAll
  have h := z_up (fun n (s : Int32 × Int32) => fX4_heldInAll_L4 σ 1 (fun x1 _ => some x1) n s.1 s.2) (fun i => (f_sum (fun i => σ.1 (7 + i) 2) i, nI i)) 4 (some (f_sum (fun i => σ.1 (7 + i) 2) 4)) ?_ (fun n => ?_) 0 z_F (Nat.zero_le _) (by show 4 < 5000 + 0; decide)
  · exact h
  · intro n i hi
    show fX4_heldInAll_L4 σ 1 _ (n + 1) _ (nI i) = fX4_heldInAll_L4 σ 1 _ n (f_sum (fun i => σ.1 (7 + i) 2) i + σ.1 (7 + i) 2) (nI (i + 1))
    rw [fX4_heldInAll_L4.eq_2, n_4, if_neg (z_nle hi (by decide)), z_gd_t (z_in_nI hi (by decide)), z_ltE, nI_clamp (by omega), nI_1]
  · show fX4_heldInAll_L4 σ 1 _ (n + 1) _ (nI 4) = _
    rw [fX4_heldInAll_L4.eq_2, n_4, if_pos (nI_le (Nat.le_refl _) (by decide))]
theorem r_held {μ : zS} : fX8_allHeld μ = some (f_sum (μ.1 2) 4) := by
  unfold fX8_allHeld
  have h := z_up (fun n (s : Int32 × Int32) => fX8_allHeld_L4 μ (fun x1 _ => some x1) n s.1 s.2) (fun i => (f_sum (μ.1 2) i, nI i)) 4 (some (f_sum (μ.1 2) 4)) ?_ (fun n => ?_) 0 z_F (Nat.zero_le _) (by show 4 < 5000 + 0; decide)
  · exact h
  · intro n i hi
    show fX8_allHeld_L4 μ _ (n + 1) _ (nI i) = fX8_allHeld_L4 μ _ n (f_sum (μ.1 2) i + μ.1 2 i) (nI (i + 1))
    rw [fX8_allHeld_L4.eq_2, n_4, if_neg (z_nle hi (by decide)), z_gd_t (z_in_nI hi (by decide)), z_ltE, nI_clamp (by omega), nI_1]
  · show fX8_allHeld_L4 μ _ (n + 1) _ (nI 4) = _
    rw [fX8_allHeld_L4.eq_2, n_4, if_pos (nI_le (Nat.le_refl _) (by decide))]
theorem r_copies {μ : zS} {a b n : Nat} (hab : a ≠ b) (hn : n < 5000) : fX8_copies μ a n b n = some (z_fI μ b (z_mx (μ.1 a) (μ.1 b) n)) := by
  unfold fX8_copies
  have h := z_up (fun m (x : zS × Int32) => fX8_copies_L2 a n b n (fun w1 _ => some w1) m x.1 x.2) (fun i => (z_fI μ b (z_mx (μ.1 a) (μ.1 b) i), nI i)) n (some (z_fI μ b (z_mx (μ.1 a) (μ.1 b) n))) ?_ ?_ 0 z_F (Nat.zero_le _) (by show n < 5000 + 0; omega)
  · have e1 : z_fI μ b (z_mx (μ.1 a) (μ.1 b) 0) = μ := by rw [z_mx_0, z_fI_self]
    rw [e1] at h
    exact h
  · intro m i hi
    show fX8_copies_L2 a n b n _ (m + 1) _ (nI i) = fX8_copies_L2 a n b n _ m _ (nI (i + 1))
    rw [fX8_copies_L2.eq_2, show Int32.ofNat n = nI n from rfl, if_neg (z_nle hi (by omega)), z_gd_t (z_in_nI hi (by omega)), z_gd_t (z_in_nI hi (by omega)), nI_clamp (by omega), nI_1]
    simp only [z_ltE]
    rw [z_fI_n hab, z_sI_fI, z_mx_upd]
  · intro m
    show fX8_copies_L2 a n b n _ (m + 1) _ (nI n) = _
    rw [fX8_copies_L2.eq_2, show Int32.ofNat n = nI n from rfl, if_pos (nI_le (Nat.le_refl n) (by omega))]
/-- four families become four others -/
theorem q_fams {q0 q1 a b : Nat} (ha : 4 * q0 + 3 = a) (hb : 4 * q1 + 3 = b) (hab : (a = 7 ∧ b = 11) ∨ (a = 11 ∧ b = 7)) (K : zS → Option zS) (G : Nat → List (Nat × Nat)) (hG : ∀ g, g < 4 → (G g).length ≤ 40) : ∀ (d i n : Nat) (w : zS), i + d = 4 → d < n → (∀ g, g < 4 → h_X w (b + g) (G g)) → (∀ g, g < i → h_X w (a + g) (G g)) → ∃ w', fX4_become_L17 q0 q1 (fun w _ => K w) n w (nI i) = K w' ∧ (∀ g, g < 4 → h_X w' (a + g) (G g)) ∧ (∀ p, (∀ g, g < 4 → p ≠ a + g ∧ p ≠ a + g + 9 ∧ p ≠ a + g + 18) → w'.1 p = w.1 p) ∧ w'.2 = w.2 := by
  intro d
  induction d with
  | zero =>
    intro i n w h1 h2 h3 h4
    obtain ⟨n, rfl⟩ : ∃ j, n = j + 1 := ⟨n - 1, by omega⟩
    have hi : i = 4 := by omega
    subst hi
    exact ⟨w, by rw [fX4_become_L17.eq_2, n_4, if_pos (nI_le (Nat.le_refl _) (by decide))], h4, fun _ _ => rfl, rfl⟩
  | succ d ih =>
    intro i n w h1 h2 h3 h4
    obtain ⟨n, rfl⟩ : ∃ j, n = j + 1 := ⟨n - 1, by omega⟩
    have hi : i < 4 := by omega
    obtain ⟨w1, g1, g2, g3⟩ := q_become (q := a + i) (h3 i hi) (hG i hi) (by omega) (by omega) (by omega)
    obtain ⟨w2, k1, k2, k3, k4⟩ := ih (i + 1) n w1 (by omega) (by omega) (fun g hg => h_X_c (h3 g hg) (g3.1 _ (by omega) (by omega) (by omega)) (g3.1 _ (by omega) (by omega) (by omega)) (g3.1 _ (by omega) (by omega) (by omega))) (fun g hg => by
      by_cases e : g = i
      · rw [e]
        exact g2
      · exact h_X_c (h4 g (by omega)) (g3.1 _ (by omega) (by omega) (by omega)) (g3.1 _ (by omega) (by omega) (by omega)) (g3.1 _ (by omega) (by omega) (by omega)))
    refine ⟨w2, ?_, k2, fun p hp => (k3 p hp).trans (g3.1 p (hp i hi).1 (hp i hi).2.1 (hp i hi).2.2), k4.trans g3.2⟩
    rw [fX4_become_L17.eq_2, n_4, if_neg (z_nle hi (by decide)), z_gd_t (z_in_nI hi (by decide)), z_gd_t (z_in_nI hi (by decide)), nI_clamp (by omega), ha, hb, z_bd g1, nI_1]
    exact k1
theorem q_stock {σ : zS} {q0 q1 : Nat} (hq : (q0 = 1 ∧ q1 = 2) ∨ (q0 = 2 ∧ q1 = 1)) (G : Nat → List (Nat × Nat)) (hG : ∀ g, g < 4 → (G g).length ≤ 40) (hs : ∀ g, g < 4 → h_X σ (4 * q1 + 3 + g) (G g)) : ∃ τ, fX4_become σ q0 q1 = some τ ∧ (∀ p, p < 12 → τ.1 (q0 + 2) p = σ.1 (q1 + 2) p) ∧ (∀ g, g < 4 → h_X τ (4 * q0 + 3 + g) (G g)) ∧ τ.1 q0 2 = σ.1 q1 2 ∧ (∀ p, p ≠ q0 → p ≠ q0 + 2 → (∀ g, g < 4 → p ≠ 4 * q0 + 3 + g ∧ p ≠ 4 * q0 + 3 + g + 9 ∧ p ≠ 4 * q0 + 3 + g + 18) → τ.1 p = σ.1 p) ∧ τ.2 = σ.2 := by
  unfold fX4_become
  rw [z_gd_t (by decide), z_ltE, z_i0]
  obtain ⟨w, g1, g2, g3, g4⟩ := q_fams (q0 := q0) (q1 := q1) rfl rfl (by omega) (fun (w2 : zS) => z_lt (z_sI w2 q0 2 (w2.1 q1 2)) (fun (w3 : zS) => some w3)) G hG 4 0 z_F (z_fI σ (q0 + 2) (va_cpy (σ.1 (q1 + 2)) (σ.1 (q0 + 2)) (0 : Int32).toNatClampNeg (0 : Int32).toNatClampNeg (12 : Int32).toNatClampNeg)) (by decide) (by show 4 < 5000; decide) (fun g hg => h_X_c (hs g hg) (z_fI_n (by omega)) (z_fI_n (by omega)) (z_fI_n (by omega))) (fun g hg => absurd hg (Nat.not_lt_zero g))
  have e : fX4_become_L17 q0 q1 (fun (w2 : zS) (_ : Int32) => z_lt (z_sI w2 q0 2 (w2.1 q1 2)) (fun (w3 : zS) => some w3)) z_F (z_fI σ (q0 + 2) (va_cpy (σ.1 (q1 + 2)) (σ.1 (q0 + 2)) (nI 0).toNatClampNeg (nI 0).toNatClampNeg (12 : Int32).toNatClampNeg)) (nI 0) = some (z_sI w q0 2 (w.1 q1 2)) := by
    rw [← z_i0]
    rw [← z_i0] at g1
    rw [g1, z_ltE]
  refine ⟨z_sI w q0 2 (w.1 q1 2), e, ?_, ?_, ?_, ?_, ?_⟩
  · intro p hp
    rw [z_rd_n (by omega), g3 _ (by omega), z_fI_s]
    show va_cpy _ _ 0 0 12 p = _
    rw [pk_cpy_in (by omega) (by omega), Nat.zero_add, Nat.sub_zero]
  · intro g hg
    exact h_X_c (g2 g hg) (z_rd_n (by omega)) (z_rd_n (by omega)) (z_rd_n (by omega))
  · rw [z_rd_s, u_s, g3 _ (by omega), z_fI_n (by omega)]
  · intro p p1 p2 p3
    rw [z_rd_n p1, g3 p p3, z_fI_n p2]
  · exact g4
