/-! pure: bits of a set -/
theorem b_sm {p : Nat} (h : p < 32) : ((nI p &&& 31).toBitVec.smod 32).toNat = p := by
  have : ∀ p : Fin 32, ((nI p.val &&& 31).toBitVec.smod 32).toNat = p.val := by decide
  exact this ⟨p, h⟩
theorem b_shr {x p : Nat} (hx : x < 2 ^ 31) (hp : p < 32) : nI x >>> (nI p &&& 31) = nI (x / 2 ^ p) := pk_shrN hx _ p (b_sm hp)
theorem b_bit {x p : Nat} (hx : x < 2 ^ 31) (hp : p < 32) : (nI x >>> (nI p &&& 31)) &&& (1 : Int32) = if x.testBit p then 1 else 0 := by
  rw [b_shr hx hp, pk_andN (m := 1) (Nat.lt_of_le_of_lt (Nat.div_le_self _ _) (by omega)) 1 (by decide), Nat.testBit_eq_decide_div_mod_eq]
  have := Nat.mod_two_eq_zero_or_one (x / 2 ^ p)
  rcases this with h | h
  · rw [h]
    rfl
  · rw [h]
    rfl
theorem b_and (x y : Nat) : nI x &&& nI y = nI (x &&& y) := by
  apply Int32.toBitVec_inj.mp
  apply BitVec.eq_of_toNat_eq
  show ((nI x).toBitVec &&& (nI y).toBitVec).toNat = _
  rw [BitVec.toNat_and]
  show (x % 2 ^ 32) &&& (y % 2 ^ 32) = (x &&& y) % 2 ^ 32
  rw [Nat.and_mod_two_pow]
theorem b_one {p : Nat} (hp : p < 31) : (1 : Int32) <<< (nI p &&& 31) = nI (2 ^ p) := by
  have : 2 ^ p < 2 ^ 31 := Nat.pow_lt_pow_right (by decide) hp
  rw [n_1, pk_shlN _ p (b_sm (by omega)) (by omega), Nat.one_mul]
theorem b_met {x p : Nat} (hx : x < 2 ^ 31) (hp : p < 31) : (nI x &&& ((1 : Int32) <<< (nI p &&& 31))) = 0 ↔ x.testBit p = false := by
  have h2 : 2 ^ p < 2 ^ 31 := Nat.pow_lt_pow_right (by decide) hp
  rw [b_one hp, b_and]
  have ha : (x &&& 2 ^ p).testBit p = x.testBit p := by
    rw [Nat.testBit_and, Nat.testBit_two_pow_self, Bool.and_true]
  constructor
  · intro h
    have h0 : x &&& 2 ^ p = 0 := (nI_eq (Nat.lt_of_le_of_lt Nat.and_le_left hx) (by decide)).mp h
    rw [← ha, h0]
    exact Nat.zero_testBit p
  · intro h
    have h0 : x &&& 2 ^ p = 0 := by
      apply Nat.eq_of_testBit_eq
      intro i
      rw [Nat.testBit_and, Nat.zero_testBit, Nat.testBit_two_pow]
      by_cases e : p = i
      · rw [← e, h]
        rfl
      · rw [decide_eq_false e, Bool.and_false]
    rw [h0]
    rfl
def f_oft (p : Nat) (F : List (Nat × Nat)) : Int32 := F.foldl (fun a x => if x.1.testBit p then a + 1 else a) 0
section OFT
variable {σ μ : zS} {q f p : Nat} {F : List (Nat × Nat)}
theorem q_with (hX : h_X σ q F) (hw : h_wf F) (hp : p < 12) : fX1_countWith σ q (nI p) = some (f_oft p F) := by
  have hl := hw.1
  unfold fX1_countWith fX1_countMet f_oft
  have h := z_fold (fun n (a : Int32) v => fX1_countMet_L4 σ q ((1 : Int32) <<< (nI p &&& 31)) (fun x1 _ => some x1) n a v) F (fun a x => if x.1.testBit p then a + 1 else a) (fun a => some a) ?_ ?_ z_F 0 (by show _ < 5000; omega)
  · exact z_bd h
  · intro n k x a hx
    have hk := h_at hx
    have hb := (hw.2.1 x hk.2).1
    show fX1_countMet_L4 σ q _ _ (n + 1) a (nI k) = fX1_countMet_L4 σ q _ _ n _ (nI (k + 1))
    rw [fX1_countMet_L4.eq_2, hX.1, if_neg (z_nle hk.1 (by omega)), z_gd_t (z_in_nI (by omega) (by decide)), nI_clamp (by omega), (hX.2 k x hx).1, nI_1]
    cases e : x.1.testBit p
    · rw [if_pos ((b_met (by omega) (by omega)).mpr e)]
      rfl
    · rw [if_neg (fun h => by
        have := (b_met (by omega) (by omega)).mp h
        rw [e] at this
        cases this)]
      rfl
  · intro n a
    show fX1_countMet_L4 σ q _ _ (n + 1) a (nI F.length) = _
    rw [fX1_countMet_L4.eq_2, hX.1, if_pos (nI_le (Nat.le_refl _) (by omega))]
theorem r_oft (hf : f < 4) (hM : h_M μ f F) (hw : h_wf F) (hp : p < 12) : fX8_oftenIn μ (nI f) (nI p) = some (f_oft p F) := by
  have hl := hw.1
  unfold fX8_oftenIn f_oft
  have h := z_fold (fun n (a : Int32) v => fX8_oftenIn_L5 μ (nI f) (nI p) (fun x1 _ => some x1) n a v) F (fun a x => if x.1.testBit p then a + 1 else a) (fun a => some a) ?_ ?_ z_F 0 (by show _ < 5000; omega)
  · exact h
  · intro n k x a hx
    have hk := h_at hx
    have hb := (hw.2.1 x hk.2).1
    show fX8_oftenIn_L5 μ (nI f) (nI p) _ (n + 1) a (nI k) = fX8_oftenIn_L5 μ (nI f) (nI p) _ n _ (nI (k + 1))
    rw [fX8_oftenIn_L5.eq_2, z_gd_t (r_f4 hf), r_sz hf hM, if_neg (z_nle hk.1 (by omega)), z_bd (r_set_at hM hf hl hx), b_bit (by omega) (by omega), z_ltE, nI_1]
    cases e : x.1.testBit p
    · rw [if_neg (by decide), if_neg (by decide), Int32.add_zero]
    · rw [if_pos rfl, if_pos rfl]
  · intro n a
    show fX8_oftenIn_L5 μ (nI f) (nI p) _ (n + 1) a (nI F.length) = _
    rw [fX8_oftenIn_L5.eq_2, z_gd_t (r_f4 hf), r_sz hf hM, if_pos (nI_le (Nat.le_refl _) (by omega))]
/-- the inner loop of topPoint, over any row that holds F's sets -/
theorem q_topin {σ : zS} {q p : Nat} {F : List (Nat × Nat)} (hX : ∀ k x, F[k]? = some x → σ.1 q k = nI x.1) (hl : F.length ≤ 40) (hb : ∀ x, x ∈ F → x.1 < 4096) (hp : p < 12) (K : Int32 → Option Int32) : fX7_topPoint_L20 σ q (nI F.length) (nI p) (fun x1 _ => K x1) z_F 0 0 = K (f_oft p F) := by
  unfold f_oft
  have h := z_fold (fun n (a : Int32) v => fX7_topPoint_L20 σ q (nI F.length) (nI p) (fun x1 _ => K x1) n a v) F (fun a x => if x.1.testBit p then a + 1 else a) (fun a => K a) ?_ ?_ z_F 0 (by show _ < 5000; omega)
  · exact h
  · intro n k x a hx
    have hk := h_at hx
    have hb := hb x hk.2
    show fX7_topPoint_L20 σ q _ _ _ (n + 1) a (nI k) = fX7_topPoint_L20 σ q _ _ _ n _ (nI (k + 1))
    rw [fX7_topPoint_L20.eq_2, if_neg (z_nle hk.1 (by omega)), z_gd_t (z_in_nI (by omega) (by decide)), nI_clamp (by omega), hX k x hx, b_bit (by omega) (by omega), z_ltE, nI_1]
    cases e : x.1.testBit p
    · rw [if_neg (by decide), if_neg (by decide), Int32.add_zero]
    · rw [if_pos rfl, if_pos rfl]
  · intro n a
    show fX7_topPoint_L20 σ q _ _ _ (n + 1) a (nI F.length) = _
    rw [fX7_topPoint_L20.eq_2, if_pos (nI_le (Nat.le_refl _) (by omega))]
end OFT
/-- the first point that most sets hold: (point, how often) behind point p -/
def f_top (F : List (Nat × Nat)) : Nat → Int32 × Int32
  | 0 => (-1, 0)
  | p + 1 => if f_oft p F ≤ (f_top F p).2 then f_top F p else (nI p, f_oft p F)
theorem q_top {σ : zS} {q : Nat} {F : List (Nat × Nat)} (hX : ∀ k x, F[k]? = some x → σ.1 q k = nI x.1) (hl : F.length ≤ 40) (hb : ∀ x, x ∈ F → x.1 < 4096) : fX7_topPoint σ q (nI F.length) = some (f_top F 12).1 := by
  unfold fX7_topPoint
  have h := z_up (fun n (s : Int32 × Int32 × Int32) => fX7_topPoint_L7 σ q (nI F.length) (fun x1 _ _ => some x1) n s.1 s.2.1 s.2.2) (fun i => ((f_top F i).1, (f_top F i).2, nI i)) 12 (some (f_top F 12).1) ?_ (fun n => ?_) 0 z_F (Nat.zero_le _) (by show 12 < 5000 + 0; decide)
  · exact h
  · intro n i hi
    show fX7_topPoint_L7 σ q _ _ (n + 1) (f_top F i).1 (f_top F i).2 (nI i) = fX7_topPoint_L7 σ q _ _ n (f_top F (i + 1)).1 (f_top F (i + 1)).2 (nI (i + 1))
    rw [fX7_topPoint_L7.eq_2, n_12, if_neg (z_nle hi (by decide)), q_topin hX hl hb hi (fun x1 => (if x1 ≤ (f_top F i).2 then fX7_topPoint_L7 σ q (nI F.length) (fun x1 _ _ => some x1) n (f_top F i).1 (f_top F i).2 (nI i + 1) else fX7_topPoint_L7 σ q (nI F.length) (fun x1 _ _ => some x1) n (nI i) x1 (nI i + 1))), nI_1]
    show _ = fX7_topPoint_L7 σ q _ _ n (if f_oft i F ≤ (f_top F i).2 then f_top F i else (nI i, f_oft i F)).1 (if f_oft i F ≤ (f_top F i).2 then f_top F i else (nI i, f_oft i F)).2 _
    by_cases e : f_oft i F ≤ (f_top F i).2
    · rw [if_pos e, if_pos e]
    · rw [if_neg e, if_neg e]
  · show fX7_topPoint_L7 σ q _ _ (n + 1) _ _ (nI 12) = _
    rw [fX7_topPoint_L7.eq_2, n_12, if_pos (nI_le (Nat.le_refl _) (by decide))]
theorem r_top {μ : zS} {f : Nat} {F : List (Nat × Nat)} (hf : f < 4) (hM : h_M μ f F) (hw : h_wf F) : fX8_top_L17 μ (nI f) (fun x1 _ _ => some x1) z_F (-1) 0 0 = some (f_top F 12).1 := by
  have h := z_up (fun n (s : Int32 × Int32 × Int32) => fX8_top_L17 μ (nI f) (fun x1 _ _ => some x1) n s.1 s.2.1 s.2.2) (fun i => ((f_top F i).1, (f_top F i).2, nI i)) 12 (some (f_top F 12).1) ?_ (fun n => ?_) 0 z_F (Nat.zero_le _) (by show 12 < 5000 + 0; decide)
  · exact h
  · intro n i hi
    show fX8_top_L17 μ (nI f) _ (n + 1) (f_top F i).1 (f_top F i).2 (nI i) = fX8_top_L17 μ (nI f) _ n (f_top F (i + 1)).1 (f_top F (i + 1)).2 (nI (i + 1))
    rw [fX8_top_L17.eq_2, n_12, if_neg (z_nle hi (by decide)), z_bd (r_oft hf hM hw hi), nI_1]
    show _ = fX8_top_L17 μ (nI f) _ n (if f_oft i F ≤ (f_top F i).2 then f_top F i else (nI i, f_oft i F)).1 (if f_oft i F ≤ (f_top F i).2 then f_top F i else (nI i, f_oft i F)).2 _
    by_cases e : f_oft i F ≤ (f_top F i).2
    · rw [if_pos e, if_pos e, if_pos e]
    · rw [if_neg e, if_neg e, if_neg e]
  · show fX8_top_L17 μ (nI f) _ (n + 1) _ _ (nI 12) = _
    rw [fX8_top_L17.eq_2, n_12, if_pos (nI_le (Nat.le_refl _) (by decide))]
theorem s_often_p : s_often pP := by
  intro σ μ h a1 a2
  unfold fX7_often fX8_often
  rcases n_cases a1 (n := 4) (by decide) with ho | ⟨f, hf, rfl⟩
  · rw [z_bd (q_nf1 ho), z_bd (r_isFamily0 ho), i_f, i_t]
    exact ⟨_, rfl, rfl⟩
  rw [z_bd (q_nf0 hf), z_bd (r_isFamily1 hf), i_t, i_f]
  rcases n_cases a2 (n := 12) (by decide) with ho | ⟨s, hs, rfl⟩
  · rw [z_bd (q_np1 ho), z_bd (r_isPoint0 ho), i_f, i_t]
    exact ⟨_, rfl, rfl⟩
  rw [z_bd (q_np0 hs), z_bd (r_isPoint1 hs), i_t, i_f, z_gd_t (r_f4 hf), nI_clamp (by omega)]
  obtain ⟨F, A, nr, h1, h2, h3, h4, h5, h6⟩ := p_un h
  obtain ⟨hX, hM, hw⟩ := h2 f hf
  rw [z_bd (q_with hX hw hs), z_bd (r_oft hf hM hw hs)]
  exact ⟨_, rfl, rfl⟩
theorem s_top_p : s_top pP := by
  intro σ μ h a1
  unfold fX7_top fX8_top
  rcases n_cases a1 (n := 4) (by decide) with ho | ⟨f, hf, rfl⟩
  · rw [z_bd (q_nf1 ho), z_bd (r_isFamily0 ho), i_f, i_t]
    exact ⟨_, rfl, rfl⟩
  obtain ⟨F, A, nr, h1, h2, h3, h4, h5, h6⟩ := p_un h
  obtain ⟨hX, hM, hw⟩ := h2 f hf
  rw [z_bd (q_nf0 hf), z_bd (r_isFamily1 hf), i_t, i_f, z_gd_t (r_f4 hf), z_gd_t (r_f4 hf), nI_clamp (by omega), hX.1, z_bd (q_top (fun k x hx => (hX.2 k x hx).1) hw.1 (fun x hx => (hw.2.1 x hx).1)), r_top hf hM hw]
  exact ⟨_, rfl, rfl⟩
