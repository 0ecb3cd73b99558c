/-! pure: how many are in a table, which is the k-th, which the next -/
theorem l_cz {x : Int64} : lg_cmp x 0 = 0 ↔ x = 0 := by
  unfold lg_cmp
  constructor
  · intro h
    by_cases h1 : x > 0
    · rw [if_pos h1] at h
      cases h
    · rw [if_neg h1] at h
      by_cases h2 : x = 0
      · exact h2
      · rw [if_neg h2] at h
        cases h
  · intro h
    subst h
    decide
theorem t_cw {g : Nat → Int64} {T : Nat → Bool} (h : t_B g T) {w j : Nat} (hw : w < 64) (hj : j ≤ 64) : fb_ct T (64 * w + j) = fb_ct T (64 * w) + fb_ct (e_b (g w)) j := by
  rw [fb_ct_split]
  congr 1
  exact fb_ct_cong (fun k hk => (h w k hw (by omega)).symm)
theorem n_sh6 : ∀ w : Fin 64, nI w.val <<< ((6 : Int32) &&& 31) = nI (64 * w.val) := by decide +kernel
theorem n_sh6' {w : Nat} (h : w < 64) : nI w <<< ((6 : Int32) &&& 31) = nI (64 * w) := n_sh6 ⟨w, h⟩
section TP
variable {σ : zS} {q : Nat} {T : Nat → Bool}
theorem q_countAll (h : t_B (σ.2 (q + 2)) T) : fX5_countAll σ q = some (nI (fb_ct T 4096)) := by
  unfold fX5_countAll
  have h2 := z_up (fun n (x : Int32 × Int32) => fX5_countAll_L4 σ q (fun x1 _ => some x1) n x.1 x.2) (fun i => (nI (fb_ct T (64 * i)), nI i)) 64 (some (nI (fb_ct T 4096))) ?_ (fun n => ?_) 0 z_F (Nat.zero_le _) (by show 64 < 5000 + 0; decide)
  · exact h2
  · intro n i hi
    show fX5_countAll_L4 σ q _ (n + 1) (nI (fb_ct T (64 * i))) (nI i) = fX5_countAll_L4 σ q _ n (nI (fb_ct T (64 * (i + 1)))) (nI (i + 1))
    rw [fX5_countAll_L4.eq_2, n_64, if_neg (z_nle hi (by decide)), z_gd_t (t_in64 hi), nI_clamp (by omega), z_bd (q_pop _), z_ltE, nI_add, ← t_cw h hi (Nat.le_refl _), nI_1, show 64 * (i + 1) = 64 * i + 64 by omega]
  · show fX5_countAll_L4 σ q _ (n + 1) (nI (fb_ct T 4096)) (nI 64) = _
    rw [fX5_countAll_L4.eq_2, n_64, if_pos (nI_le (Nat.le_refl _) (by decide))]
theorem q_pick_st (h : t_B (σ.2 (q + 2)) T) {k w : Nat} (hw : w < 64) (hk : k < 2 ^ 31) (hc : fb_ct T (64 * (w + 1)) ≤ k) (n : Nat) : fX5_pick_L4 σ q (fun _ _ => some (-12)) (n + 1) (nI (k - fb_ct T (64 * w))) (nI w) = fX5_pick_L4 σ q (fun _ _ => some (-12)) n (nI (k - fb_ct T (64 * (w + 1)))) (nI (w + 1)) := by
  have e := t_cw h hw (Nat.le_refl 64)
  rw [show 64 * w + 64 = 64 * (w + 1) by omega] at e
  rw [fX5_pick_L4.eq_2, n_64, if_neg (z_nle hw (by decide)), z_gd_t (t_in64 hw), nI_clamp (by omega), z_bd (q_pop _), if_pos (nI_le (by omega) (by omega)), z_ltE, pk_sub (by omega), nI_1]
  congr 2
  omega
theorem q_pick (h : t_B (σ.2 (q + 2)) T) {s : Nat} (hs : s < 4096) (ht : T s = true) : fX5_pick σ q (nI (fb_ct T s)) = some (nI s) := by
  have hle := fb_ct_le T s
  unfold fX5_pick
  have hsw : s / 64 < 64 := by omega
  have e1 : fb_ct T s = fb_ct T (64 * (s / 64)) + fb_ct (e_b (σ.2 (q + 2) (s / 64))) (s % 64) := by
    rw [← t_cw h hsw (by omega), show 64 * (s / 64) + s % 64 = s by omega]
  have hb : e_b (σ.2 (q + 2) (s / 64)) (s % 64) = true := by rw [t_at h hs]; exact ht
  have hlt : fb_ct (e_b (σ.2 (q + 2) (s / 64))) (s % 64) < fb_ct (e_b (σ.2 (q + 2) (s / 64))) 64 := by
    have a := fb_ct_mono (e_b (σ.2 (q + 2) (s / 64))) (show s % 64 + 1 ≤ 64 by omega)
    rw [fb_ct_succ, hb] at a
    simp only [if_true] at a
    omega
  have h2 := z_up (fun n (x : Int32 × Int32) => fX5_pick_L4 σ q (fun _ _ => some (-12)) n x.1 x.2) (fun i => (nI (fb_ct T s - fb_ct T (64 * i)), nI i)) (s / 64) (some (nI s)) (fun n i hi => q_pick_st h (by omega) (by omega) (fb_ct_mono T (by omega)) n) (fun n => ?_) 0 z_F (Nat.zero_le _) (by show s / 64 < 5000 + 0; omega)
  · exact h2
  · show fX5_pick_L4 σ q _ (n + 1) (nI (fb_ct T s - fb_ct T (64 * (s / 64)))) (nI (s / 64)) = _
    have e2 : fb_ct T s - fb_ct T (64 * (s / 64)) = fb_ct (e_b (σ.2 (q + 2) (s / 64))) (s % 64) := by omega
    have c := fb_ct_le (e_b (σ.2 (q + 2) (s / 64))) 64
    rw [e2, fX5_pick_L4.eq_2, n_64, if_neg (z_nle hsw (by decide)), z_gd_t (t_in64 hsw), nI_clamp (by omega), z_bd (q_pop _), if_neg (z_nle hlt (by omega)), z_gd_t (t_in64 hsw), z_bd (q_place hb rfl), n_sh6' hsw, nI_add, show 64 * (s / 64) + s % 64 = s by omega]
theorem q_pick_no (h : t_B (σ.2 (q + 2)) T) {k : Nat} (hk : k < 2 ^ 31) (hc : fb_ct T 4096 ≤ k) : fX5_pick σ q (nI k) = some (-12) := by
  unfold fX5_pick
  have h2 := z_up (fun n (x : Int32 × Int32) => fX5_pick_L4 σ q (fun _ _ => some (-12)) n x.1 x.2) (fun i => (nI (k - fb_ct T (64 * i)), nI i)) 64 (some (-12)) (fun n i hi => q_pick_st h hi hk (Nat.le_trans (fb_ct_mono T (by omega)) hc) n) (fun n => ?_) 0 z_F (Nat.zero_le _) (by show 64 < 5000 + 0; decide)
  · exact h2
  · show fX5_pick_L4 σ q _ (n + 1) _ (nI 64) = _
    rw [fX5_pick_L4.eq_2, n_64, if_pos (nI_le (Nat.le_refl _) (by decide))]
/-- what of a word's bits lies at s0 or behind it -/
def e_rs (g : Nat → Int64) (s0 w : Nat) : Int64 := if w = s0 / 64 then g w &&& ((-1 : Int64) <<< ((nI (s0 % 64)).toInt64 &&& 63)) else g w
theorem e_rs_b {g : Nat → Int64} (h : t_B g T) {s0 w i : Nat} (h1 : s0 / 64 ≤ w) (hw : w < 64) (hi : i < 64) : e_b (e_rs g s0 w) i = (decide (s0 ≤ 64 * w + i) && T (64 * w + i)) := by
  unfold e_rs
  by_cases e : w = s0 / 64
  · rw [if_pos e, e_and, e_shl (by omega) hi, h w i hw hi]
    by_cases h2 : s0 % 64 ≤ i
    · rw [decide_eq_true h2, e_m1 (by omega), decide_eq_true (by omega), Bool.true_and, Bool.and_true, Bool.true_and]
    · rw [decide_eq_false h2, decide_eq_false (by omega), Bool.false_and, Bool.and_false]
      rfl
  · rw [if_neg e, h w i hw hi, decide_eq_true (by omega), Bool.true_and]
theorem q_next0 (h : t_B (σ.2 (q + 2)) T) {s0 : Nat} (h0 : s0 < 4096) : fX5_next σ q (nI s0) = fX5_next_L30 σ q (fun (x3 : Int32) (x4 : Int64) => (if (lg_cmp x4 (0 : Int64)) = 0 then some (-1 : Int32) else (fX5_placeOfBit x4 (0 : Int32)).bind (fun r2 => some ((x3 <<< ((6 : Int32) &&& 31)) + r2)))) z_F (nI (s0 / 64)) (e_rs (σ.2 (q + 2)) s0 (s0 / 64)) := by
  unfold fX5_next
  have e : nI s0 >>> ((6 : Int32) &&& 31) = nI (s0 / 64) := by
    rw [n_6, b_shr (by omega) (by decide)]
  rw [z_bd (q_st0 h0), i_t, z_ltE, e, z_gd_t (t_in64 (by omega)), z_ltE, nI_clamp (by omega), t_lo h0]
  unfold e_rs
  rw [if_pos rfl]
theorem q_next_st {s0 w : Nat} (hw : w < 63) (h1 : s0 / 64 ≤ w) (hz : e_rs (σ.2 (q + 2)) s0 w = 0) (K : Int32 → Int64 → Option Int32) (n : Nat) : fX5_next_L30 σ q K (n + 1) (nI w) (e_rs (σ.2 (q + 2)) s0 w) = fX5_next_L30 σ q K n (nI (w + 1)) (e_rs (σ.2 (q + 2)) s0 (w + 1)) := by
  rw [fX5_next_L30.eq_2, hz, if_pos (l_cz.mpr rfl), show (63 : Int32) = nI 63 from rfl, if_neg (z_nle hw (by decide)), nI_1, z_gd_t (t_in64 (by omega)), z_ltE, nI_clamp (by omega)]
  unfold e_rs
  rw [if_neg (by omega)]
theorem q_next (h : t_B (σ.2 (q + 2)) T) {s0 s : Nat} (h0 : s0 ≤ s) (hs : s < 4096) (ht : T s = true) (hn : ∀ u, s0 ≤ u → u < s → T u = false) : fX5_next σ q (nI s0) = some (nI s) := by
  rw [q_next0 h (by omega)]
  have h2 := z_upj (fun n (x : Int32 × Int64) => fX5_next_L30 σ q (fun (x3 : Int32) (x4 : Int64) => (if (lg_cmp x4 (0 : Int64)) = 0 then some (-1 : Int32) else (fX5_placeOfBit x4 (0 : Int32)).bind (fun r2 => some ((x3 <<< ((6 : Int32) &&& 31)) + r2)))) n x.1 x.2) (fun i => (nI i, e_rs (σ.2 (q + 2)) s0 i)) (s0 / 64) (s / 64) (some (nI s)) (fun n i h3 h4 => ?_) (fun n => ?_) z_F (by omega) (by show _ < 5000 + _; omega)
  · exact h2
  · refine q_next_st (by omega) h3 (e_z (fun j hj => ?_)) _ n
    rw [e_rs_b h h3 (by omega) hj]
    by_cases h5 : s0 ≤ 64 * i + j
    · rw [hn _ h5 (by omega), Bool.and_false]
    · rw [decide_eq_false h5]
      rfl
  · show fX5_next_L30 σ q _ (n + 1) (nI (s / 64)) (e_rs (σ.2 (q + 2)) s0 (s / 64)) = _
    have hb : e_b (e_rs (σ.2 (q + 2)) s0 (s / 64)) (s % 64) = true := by
      rw [e_rs_b h (by omega) (by omega) (by omega), show 64 * (s / 64) + s % 64 = s by omega, ht, decide_eq_true h0]
      rfl
    have hlow : fb_ct (e_b (e_rs (σ.2 (q + 2)) s0 (s / 64))) (s % 64) = 0 := fb_ct_zero.mpr (fun j hj => by
      rw [e_rs_b h (by omega) (by omega) (by omega)]
      by_cases h5 : s0 ≤ 64 * (s / 64) + j
      · rw [hn _ h5 (by omega), Bool.and_false]
      · rw [decide_eq_false h5]
        rfl)
    have hnz : ¬ lg_cmp (e_rs (σ.2 (q + 2)) s0 (s / 64)) 0 = 0 := fun e => by
      rw [l_cz.mp e, e_0] at hb
      cases hb
    rw [fX5_next_L30.eq_2, if_neg hnz]
    rw [if_neg hnz, z_i0, z_bd (q_place hb hlow), n_sh6' (by omega), nI_add, show 64 * (s / 64) + s % 64 = s by omega]
theorem q_next_no (h : t_B (σ.2 (q + 2)) T) {s0 : Nat} (h0 : s0 < 4096) (hn : ∀ u, s0 ≤ u → u < 4096 → T u = false) : fX5_next σ q (nI s0) = some (-1) := by
  have hz : ∀ w, s0 / 64 ≤ w → w < 64 → e_rs (σ.2 (q + 2)) s0 w = 0 := fun w h3 h4 => e_z (fun j hj => by
    rw [e_rs_b h h3 h4 hj]
    by_cases h5 : s0 ≤ 64 * w + j
    · rw [hn _ h5 (by omega), Bool.and_false]
    · rw [decide_eq_false h5]
      rfl)
  rw [q_next0 h h0]
  have h2 := z_upj (fun n (x : Int32 × Int64) => fX5_next_L30 σ q (fun (x3 : Int32) (x4 : Int64) => (if (lg_cmp x4 (0 : Int64)) = 0 then some (-1 : Int32) else (fX5_placeOfBit x4 (0 : Int32)).bind (fun r2 => some ((x3 <<< ((6 : Int32) &&& 31)) + r2)))) n x.1 x.2) (fun i => (nI i, e_rs (σ.2 (q + 2)) s0 i)) (s0 / 64) 63 (some (-1)) (fun n i h3 h4 => q_next_st h4 h3 (hz i h3 (by omega)) _ n) (fun n => ?_) z_F (by omega) (by show _ < 5000 + _; omega)
  · exact h2
  · show fX5_next_L30 σ q _ (n + 1) (nI 63) (e_rs (σ.2 (q + 2)) s0 63) = _
    rw [hz 63 (by omega) (by decide), fX5_next_L30.eq_2, if_pos (l_cz.mpr rfl), show (63 : Int32) = nI 63 from rfl, if_pos (nI_le (Nat.le_refl _) (by decide))]
    rw [if_pos (l_cz.mpr rfl)]
/-- SET k of what is in, by listed() -/
theorem q_listed_m1 (h : t_B (σ.2 (q + 2)) T) : fX7_listed σ q (-1) = some (nI (fb_ct T 4096)) := by
  unfold fX7_listed
  rw [if_pos rfl, z_bd (q_countAll h)]
theorem q_listed_at (h : t_B (σ.2 (q + 2)) T) {s : Nat} (hs : s < 4096) (ht : T s = true) : fX7_listed σ q (nI (fb_ct T s)) = some (nI s) := by
  have hle := fb_ct_le T s
  unfold fX7_listed
  rw [if_neg (n_ne_neg (by omega) (by decide)), z_i0, if_pos (nI_le (Nat.zero_le _) (by omega)), z_bd (q_pick h hs ht)]
theorem q_listed_no (h : t_B (σ.2 (q + 2)) T) {k : Int32} (h1 : k ≠ -1) (h2 : n_out k (fb_ct T 4096)) : fX7_listed σ q k = some (-12) := by
  have hle := fb_ct_le T 4096
  unfold fX7_listed
  rw [if_neg h1]
  rcases h2 with h2 | h2
  · rw [if_neg (fun q => by
      have a := n_lt0 h2
      have b := Int32.le_iff_toInt_le.mp q
      have e : (0 : Int32).toInt = 0 := rfl
      omega)]
  · have hk := n_ge (by omega) h2
    obtain ⟨j, hj, rfl⟩ := nI_of (n_nlt0 (by omega) h2)
    rw [nI_toInt hj] at hk
    rw [z_i0, if_pos (nI_le (Nat.zero_le _) hj), z_bd (q_pick_no h hj (by omega))]
end TP
