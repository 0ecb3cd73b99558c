/-! pure: tables of sets -/
theorem n_64 : (64 : Int32) = nI 64 := rfl
theorem n_6 : (6 : Int32) = nI 6 := rfl
def t_B (g : Nat → Int64) (T : Nat → Bool) : Prop := ∀ w i, w < 64 → i < 64 → e_b (g w) i = T (64 * w + i)
theorem t_at {g : Nat → Int64} {T : Nat → Bool} {s : Nat} (h : t_B g T) (hs : s < 4096) : e_b (g (s / 64)) (s % 64) = T s := by
  rw [h (s / 64) (s % 64) (by omega) (by omega), show 64 * (s / 64) + s % 64 = s by omega]
theorem t_cg {g : Nat → Int64} {T U : Nat → Bool} (h : t_B g T) (e : ∀ s, s < 4096 → T s = U s) : t_B g U := fun w i hw hi => by rw [h w i hw hi, e _ (by omega)]
theorem t_ix {s : Nat} (h : s < 4096) : (nI s >>> ((6 : Int32) &&& 31)) &&& (63 : Int32) = nI (s / 64) := by
  rw [n_6, b_shr (by omega) (by decide), pk_andN (by omega) 6 (by decide), show 2 ^ 6 = 64 from rfl, Nat.mod_eq_of_lt (by omega)]
theorem t_lo {s : Nat} (h : s < 4096) : nI s &&& (63 : Int32) = nI (s % 64) := pk_andN (by omega) 6 (by decide)
theorem t_in64 {w : Nat} (h : w < 64) : z_in (nI w) 64 = true := z_in_nI h (by decide)
theorem t_in6 {w : Nat} (h : w < 6) : z_in (nI w) 6 = true := z_in_nI h (by decide)
theorem q_has {σ : zS} {q s : Nat} {T : Nat → Bool} (h : t_B (σ.2 (q + 2)) T) (hs : s < 4096) : fX5_has σ q (nI s) = some (if T s then 1 else 0) := by
  unfold fX5_has
  rw [t_ix hs, z_gd_t (t_in64 (by omega)), nI_clamp (by omega), t_lo hs]
  have hb := t_at h hs
  obtain ⟨n, hn, en⟩ := wb_of (σ.2 (q + 2) (s / 64))
  rw [en] at hb ⊢
  rw [e_lN hn, Nat.testBit_eq_decide_div_mod_eq] at hb
  rw [wb_bit hn (by omega)]
  rcases Nat.mod_two_eq_zero_or_one (n / 2 ^ (s % 64)) with e | e
  · rw [e] at hb ⊢
    rw [← hb, if_pos (by decide)]
    rfl
  · rw [e] at hb ⊢
    rw [← hb, if_neg (by decide)]
    rfl
theorem q_put {σ : zS} {q s : Nat} {T : Nat → Bool} (h : t_B (σ.2 (q + 2)) T) (hs : s < 4096) : ∃ g, fX5_put σ q (nI s) = some (z_fJ σ (q + 2) g) ∧ t_B g (fun u => T u || decide (u = s)) := by
  refine ⟨vp_updL (σ.2 (q + 2)) (s / 64) ((σ.2 (q + 2) (s / 64)) ||| ((1 : Int64) <<< ((nI (s % 64)).toInt64 &&& 63))), ?_, ?_⟩
  · unfold fX5_put
    rw [t_ix hs, z_gd_t (t_in64 (by omega)), z_gd_t (t_in64 (by omega)), nI_clamp (by omega), t_lo hs, z_ltE]
    rfl
  · intro w i hw hi
    show _ = (T (64 * w + i) || decide (64 * w + i = s))
    by_cases e : w = s / 64
    · rw [e, pk_uLs, e_or, h (s / 64) i (by omega) hi, e_shl (by omega) hi, e_1, ← Bool.decide_and]
      congr 1
      exact decide_eq_decide.mpr ⟨fun q => by omega, fun q => by omega⟩
    · rw [pk_uLn e, h w i hw hi, decide_eq_false (by omega), Bool.or_false]
theorem t_f0 {f : Nat → Int64} : t_B (z_mx (fun _ => (0 : Int64)) f 64) (fun _ => false) := fun w i hw _ => by rw [z_mx_in hw, e_0]
theorem t_f1 {f : Nat → Int64} : t_B (z_mx (fun _ => (-1 : Int64)) f 64) (fun _ => true) := fun w i hw hi => by rw [z_mx_in hw, e_m1 hi]
theorem t_map {β : Type} {p : Nat} {G : Int64 → Int64} (f : Nat → zS → Int32 → β) (K : zS → β) (hs : ∀ n τ w, w < 64 → f (n + 1) τ (nI w) = f n (z_sJ τ p w (G (τ.2 p w))) (nI (w + 1))) (he : ∀ n τ, f (n + 1) τ (nI 64) = K τ) (σ : zS) : f z_F σ (nI 0) = K (z_fJ σ p (z_mx (fun w => G (σ.2 p w)) (σ.2 p) 64)) := by
  have h := z_up (fun n (x : zS × Int32) => f n x.1 x.2) (fun i => (z_fJ σ p (z_mx (fun w => G (σ.2 p w)) (σ.2 p) i), nI i)) 64 (K (z_fJ σ p (z_mx (fun w => G (σ.2 p w)) (σ.2 p) 64))) ?_ (fun n => he n _) 0 z_F (Nat.zero_le _) (by show 64 < 5000 + 0; decide)
  · rw [z_mx_0, z_fJ_self] at h
    exact h
  · intro n i hi
    show f (n + 1) (z_fJ σ p (z_mx (fun w => G (σ.2 p w)) (σ.2 p) i)) (nI i) = f n (z_fJ σ p (z_mx (fun w => G (σ.2 p w)) (σ.2 p) (i + 1))) (nI (i + 1))
    rw [hs n _ i hi, z_fJ_s, z_mx_out (Nat.le_refl i), z_sJ_fJ]
    exact congrArg (fun z => f n (z_fJ σ p z) (nI (i + 1))) (z_mx_updL (fun w => G (σ.2 p w)) (σ.2 p) i)
theorem q_flip {σ : zS} {q : Nat} {T : Nat → Bool} (h : t_B (σ.2 (q + 2)) T) : ∃ g, fX5_flip σ q = some (z_fJ σ (q + 2) g) ∧ t_B g (fun u => !T u) := by
  refine ⟨z_mx (fun w => (σ.2 (q + 2) w) ^^^ (-1)) (σ.2 (q + 2)) 64, ?_, fun w i hw hi => by rw [z_mx_in hw, e_not hi, h w i hw hi]⟩
  unfold fX5_flip
  rw [z_i0]
  exact t_map (p := q + 2) (G := fun x => x ^^^ (-1)) (fun n τ v => fX5_flip_L2 q (fun w1 _ => some w1) n τ v) (fun τ => some τ) (fun n τ w hw => by
    show fX5_flip_L2 q _ (n + 1) τ (nI w) = fX5_flip_L2 q _ n _ (nI (w + 1))
    rw [fX5_flip_L2.eq_2, n_64, if_neg (z_nle hw (by decide)), z_gd_t (t_in64 hw), z_gd_t (t_in64 hw), z_ltE, nI_clamp (by omega), nI_1]) (fun n τ => by
    show fX5_flip_L2 q _ (n + 1) τ (nI 64) = _
    rw [fX5_flip_L2.eq_2, n_64, if_pos (nI_le (Nat.le_refl _) (by decide))]) σ
theorem vp_self {f : Nat → Int64} {k : Nat} : vp_updL f k (f k) = f := by
  funext j
  unfold vp_updL
  by_cases h : j = k
  · rw [if_pos h, h]
  · rw [if_neg h]
theorem vp_vp {f : Nat → Int64} {k : Nat} {u v : Int64} : vp_updL (vp_updL f k u) k v = vp_updL f k v := by
  funext j
  unfold vp_updL
  by_cases h : j = k
  · rw [if_pos h, if_pos h]
  · rw [if_neg h, if_neg h, if_neg h]
theorem z_sJ_self {σ : zS} {p k : Nat} : z_sJ σ p k (σ.2 p k) = σ := by
  unfold z_sJ
  rw [vp_self, z_fJ_self]
theorem z_sJ_sJ {σ : zS} {p k : Nat} {u v : Int64} : z_sJ (z_sJ σ p k u) p k v = z_sJ σ p k v := by
  unfold z_sJ
  rw [z_fJ_s, z_fJ_fJ, vp_vp]
theorem z_sJ_rd {σ : zS} {p k : Nat} {u : Int64} : (z_sJ σ p k u).2 p k = u := by rw [z_rj_s, pk_uLs]
/-! sets and their points: the lowest six within a word, the others in its number -/
theorem t_or6 {w i p : Nat} (hi : i < 64) (hp : p < 6) : (64 * w + i) ||| 2 ^ p = 64 * w + (i ||| 2 ^ p) := by
  have h1 : 2 ^ p < 2 ^ 6 := wb_lt2 hp
  have hi : i < 2 ^ 6 := hi
  apply Nat.eq_of_testBit_eq
  intro j
  rw [show 64 = 2 ^ 6 from rfl, Nat.testBit_or, Nat.testBit_two_pow_mul_add w hi, Nat.testBit_two_pow_mul_add w (Nat.or_lt_two_pow hi h1), Nat.testBit_two_pow, Nat.testBit_or, Nat.testBit_two_pow]
  by_cases h : j < 6
  · rw [if_pos h, if_pos h]
  · rw [if_neg h, if_neg h, decide_eq_false (show ¬ p = j by omega), Bool.or_false]
theorem t_or12 {w i b : Nat} (hi : i < 64) : (64 * w + i) ||| 2 ^ (6 + b) = 64 * (w ||| 2 ^ b) + i := by
  have hi : i < 2 ^ 6 := hi
  apply Nat.eq_of_testBit_eq
  intro j
  rw [show 64 = 2 ^ 6 from rfl, Nat.testBit_or, Nat.testBit_two_pow_mul_add w hi, Nat.testBit_two_pow_mul_add (w ||| 2 ^ b) hi, Nat.testBit_two_pow]
  by_cases h : j < 6
  · rw [if_pos h, if_pos h, decide_eq_false (show ¬ 6 + b = j by omega), Bool.or_false]
  · rw [if_neg h, if_neg h, Nat.testBit_or, Nat.testBit_two_pow]
    congr 1
    exact decide_eq_decide.mpr ⟨fun q => by omega, fun q => by omega⟩
theorem t_xor6 {w i p : Nat} (hi : i < 64) (hp : p < 6) : (64 * w + i) ^^^ 2 ^ p = 64 * w + (i ^^^ 2 ^ p) := by
  have h1 : 2 ^ p < 2 ^ 6 := wb_lt2 hp
  have hi : i < 2 ^ 6 := hi
  apply Nat.eq_of_testBit_eq
  intro j
  rw [show 64 = 2 ^ 6 from rfl, Nat.testBit_xor, Nat.testBit_two_pow_mul_add w hi, Nat.testBit_two_pow_mul_add w (Nat.xor_lt_two_pow hi h1), Nat.testBit_two_pow, Nat.testBit_xor, Nat.testBit_two_pow]
  by_cases h : j < 6
  · rw [if_pos h, if_pos h]
  · rw [if_neg h, if_neg h, decide_eq_false (show ¬ p = j by omega), Bool.xor_false]
theorem t_xor12 {w i b : Nat} (hi : i < 64) : (64 * w + i) ^^^ 2 ^ (6 + b) = 64 * (w ^^^ 2 ^ b) + i := by
  have hi : i < 2 ^ 6 := hi
  apply Nat.eq_of_testBit_eq
  intro j
  rw [show 64 = 2 ^ 6 from rfl, Nat.testBit_xor, Nat.testBit_two_pow_mul_add w hi, Nat.testBit_two_pow_mul_add (w ^^^ 2 ^ b) hi, Nat.testBit_two_pow]
  by_cases h : j < 6
  · rw [if_pos h, if_pos h, decide_eq_false (show ¬ 6 + b = j by omega), Bool.xor_false]
  · rw [if_neg h, if_neg h, Nat.testBit_xor, Nat.testBit_two_pow]
    congr 1
    exact decide_eq_decide.mpr ⟨fun q => by omega, fun q => by omega⟩
theorem t_tb6 {w i p : Nat} (hi : i < 64) (hp : p < 6) : (64 * w + i).testBit p = i.testBit p := by
  rw [show 64 = 2 ^ 6 from rfl, Nat.testBit_two_pow_mul_add w (show i < 2 ^ 6 from hi), if_pos hp]
theorem t_tb12 {w i b : Nat} (hi : i < 64) : (64 * w + i).testBit (6 + b) = w.testBit b := by
  rw [show 64 = 2 ^ 6 from rfl, Nat.testBit_two_pow_mul_add w (show i < 2 ^ 6 from hi), if_neg (by omega), Nat.add_sub_cancel_left]
theorem e_with : ∀ p : Fin 6, ∀ i : Fin 64, e_b (z_withL p.val) i.val = i.val.testBit p.val := by decide +kernel
theorem e_withL {p i : Nat} (hp : p < 6) (hi : i < 64) : e_b (z_withL p) i = i.testBit p := e_with ⟨p, hp⟩ ⟨i, hi⟩
theorem n_pt1 : ∀ p : Fin 6, ∀ i : Fin 64, i.val.testBit p.val = true → i.val ||| 2 ^ p.val = i.val ∧ (i.val + 2 ^ p.val < 64 → (i.val + 2 ^ p.val).testBit p.val = false) ∧ 2 ^ p.val ≤ i.val ∧ i.val - 2 ^ p.val = i.val ^^^ 2 ^ p.val ∧ (i.val - 2 ^ p.val).testBit p.val = false := by decide +kernel
theorem n_pt0 : ∀ p : Fin 6, ∀ i : Fin 64, i.val.testBit p.val = false → i.val + 2 ^ p.val = i.val ||| 2 ^ p.val ∧ i.val + 2 ^ p.val = i.val ^^^ 2 ^ p.val ∧ i.val + 2 ^ p.val < 64 ∧ (i.val + 2 ^ p.val).testBit p.val = true ∧ (2 ^ p.val ≤ i.val → (i.val - 2 ^ p.val).testBit p.val = true) := by decide +kernel
theorem n_1t {p i : Nat} (hp : p < 6) (hi : i < 64) (h : i.testBit p = true) : i ||| 2 ^ p = i ∧ (i + 2 ^ p < 64 → (i + 2 ^ p).testBit p = false) ∧ 2 ^ p ≤ i ∧ i - 2 ^ p = i ^^^ 2 ^ p ∧ (i - 2 ^ p).testBit p = false := n_pt1 ⟨p, hp⟩ ⟨i, hi⟩ h
theorem n_0t {p i : Nat} (hp : p < 6) (hi : i < 64) (h : i.testBit p = false) : i + 2 ^ p = i ||| 2 ^ p ∧ i + 2 ^ p = i ^^^ 2 ^ p ∧ i + 2 ^ p < 64 ∧ (i + 2 ^ p).testBit p = true ∧ (2 ^ p ≤ i → (i - 2 ^ p).testBit p = true) := n_pt0 ⟨p, hp⟩ ⟨i, hi⟩ h
theorem n_p64 {p : Nat} (hp : p < 6) : 2 ^ p < 64 := wb_lt2 (b := 6) hp
/-- what a word has one point higher -/
theorem e_dn1 {x : Int64} {p i : Nat} (hp : p < 6) (hi : i < 64) : e_b (((x &&& z_withL p).toUInt64 >>> ((nI (2 ^ p)).toInt64.toUInt64 &&& Int64.toUInt64 63)).toInt64) i = (!i.testBit p && e_b x (i ^^^ 2 ^ p)) := by
  rw [e_shr (n_p64 hp), e_and]
  cases h : i.testBit p
  · obtain ⟨_, h1, h2, h3, _⟩ := n_0t hp hi h
    rw [e_withL hp h2, h3, h1, Bool.and_true]
    rfl
  · obtain ⟨_, h1, _⟩ := n_1t hp hi h
    by_cases h2 : i + 2 ^ p < 64
    · rw [e_withL hp h2, h1 h2, Bool.and_false]
      rfl
    · rw [e_hi (x := x) (by omega)]
      rfl
theorem e_up1 {x : Int64} {p i : Nat} (hp : p < 6) (hi : i < 64) : e_b ((x &&& (z_withL p ^^^ (-1 : Int64))) <<< ((nI (2 ^ p)).toInt64 &&& 63)) i = (i.testBit p && e_b x (i ^^^ 2 ^ p)) := by
  have hlt : i - 2 ^ p < 64 := Nat.lt_of_le_of_lt (Nat.sub_le _ _) hi
  rw [e_shl (n_p64 hp) hi, e_and]
  cases h : i.testBit p
  · by_cases h2 : 2 ^ p ≤ i
    · rw [e_not hlt, e_withL hp hlt, (n_0t hp hi h).2.2.2.2 h2, Bool.not_true, Bool.and_false, Bool.and_false]
      rfl
    · rw [decide_eq_false h2]
      rfl
  · obtain ⟨_, _, h1, h2, h3⟩ := n_1t hp hi h
    rw [decide_eq_true h1, e_not hlt, e_withL hp hlt, h3, h2, Bool.not_false, Bool.and_true]
