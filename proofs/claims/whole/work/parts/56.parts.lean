/-! pure: all parts of what is in, all wholes (c: false, true) -/
def t_mv (c : Bool) (T : Nat → Bool) : Nat → Nat → Bool
  | 0, s => T s
  | p + 1, s => t_mv c T p s || ((s.testBit p == c) && t_mv c T p (s ^^^ 2 ^ p))
theorem n_xx (w p : Nat) : (w ^^^ 2 ^ p) ^^^ 2 ^ p = w := by rw [Nat.xor_assoc, Nat.xor_self, Nat.xor_zero]
theorem n_xb (w p : Nat) : (w ^^^ 2 ^ p).testBit p = !w.testBit p := by rw [Nat.testBit_xor, Nat.testBit_two_pow_self, Bool.xor_true]
theorem n_xo {w p i : Nat} (h : i ≠ p) : (w ^^^ 2 ^ p).testBit i = w.testBit i := by
  rw [Nat.testBit_xor, Nat.testBit_two_pow, decide_eq_false (fun q => h q.symm), Bool.xor_false]
theorem n_x64 {w p : Nat} (hw : w < 64) (hp : p < 6) : w ^^^ 2 ^ p < 64 := Nat.xor_lt_two_pow (n := 6) hw (wb_lt2 hp)
theorem t_mv_sp (c : Bool) (T : Nat → Bool) : ∀ (p s : Nat), t_mv c T p s = true ↔ ∃ t, T t = true ∧ (∀ i, s.testBit i ≠ t.testBit i → i < p ∧ s.testBit i = c)
  | 0, s => by
    constructor
    · intro h
      exact ⟨s, h, fun i hi => absurd rfl hi⟩
    · intro ⟨t, h, g⟩
      have e : s = t := Nat.eq_of_testBit_eq (fun i => Classical.byContradiction fun q => absurd (g i q).1 (Nat.not_lt_zero i))
      rw [e]
      exact h
  | p + 1, s => by
    show (t_mv c T p s || ((s.testBit p == c) && t_mv c T p (s ^^^ 2 ^ p))) = true ↔ _
    rw [Bool.or_eq_true, Bool.and_eq_true, t_mv_sp c T p s, t_mv_sp c T p (s ^^^ 2 ^ p), beq_iff_eq]
    constructor
    · rintro (⟨t, h, g⟩ | ⟨hc, t, h, g⟩)
      · exact ⟨t, h, fun i hi => ⟨by have := (g i hi).1; omega, (g i hi).2⟩⟩
      · refine ⟨t, h, fun i hi => ?_⟩
        by_cases e : i = p
        · subst e
          exact ⟨Nat.lt_succ_self i, hc⟩
        · have := g i (by rw [n_xo e]; exact hi)
          rw [n_xo e] at this
          exact ⟨by omega, this.2⟩
    · rintro ⟨t, h, g⟩
      by_cases e : s.testBit p = t.testBit p
      · refine Or.inl ⟨t, h, fun i hi => ?_⟩
        have := g i hi
        have : i ≠ p := fun q => hi (by rw [q]; exact e)
        exact ⟨by omega, (g i hi).2⟩
      · refine Or.inr ⟨(g p e).2, t, h, fun i hi => ?_⟩
        by_cases q : i = p
        · subst q
          exfalso
          apply hi
          rw [n_xb]
          revert e
          cases s.testBit i <;> cases t.testBit i <;> simp
        · rw [n_xo q] at hi ⊢
          have := g i hi
          exact ⟨by omega, this.2⟩
/-! within the words -/
def e_s (c : Bool) (x : Int64) (p : Nat) : Int64 := if c then x ||| ((x &&& (z_withL p ^^^ (-1 : Int64))) <<< ((nI (2 ^ p)).toInt64 &&& 63)) else x ||| ((x &&& z_withL p).toUInt64 >>> ((nI (2 ^ p)).toInt64.toUInt64 &&& Int64.toUInt64 63)).toInt64
theorem e_s_b {c : Bool} {x : Int64} {p i : Nat} (hp : p < 6) (hi : i < 64) : e_b (e_s c x p) i = (e_b x i || ((i.testBit p == c) && e_b x (i ^^^ 2 ^ p))) := by
  cases c
  · show e_b (x ||| _) i = _
    rw [e_or, e_dn1 hp hi]
    cases i.testBit p <;> rfl
  · show e_b (x ||| _) i = _
    rw [e_or, e_up1 hp hi]
    cases i.testBit p <;> rfl
def e_m (c : Bool) (x : Int64) : Nat → Int64
  | 0 => x
  | p + 1 => e_s c (e_m c x p) p
theorem e_m_b {c : Bool} {x : Int64} {T : Nat → Bool} {w : Nat} (h : ∀ i, i < 64 → e_b x i = T (64 * w + i)) : ∀ p, p ≤ 6 → ∀ i, i < 64 → e_b (e_m c x p) i = t_mv c T p (64 * w + i)
  | 0, _, i, hi => h i hi
  | p + 1, hp, i, hi => by
    have ih := e_m_b (c := c) h p (by omega)
    show e_b (e_s c (e_m c x p) p) i = (t_mv c T p (64 * w + i) || (((64 * w + i).testBit p == c) && t_mv c T p ((64 * w + i) ^^^ 2 ^ p)))
    rw [e_s_b (by omega) hi, ih i hi, ih _ (n_x64 hi (by omega)), t_tb6 hi (by omega), t_xor6 hi (by omega)]
theorem q_parts1 {q w : Nat} (hw : w < 64) (σ : zS) (K : zS → Option zS) : fX5_addParts_L10 q (nI w) (fun w1 _ => K w1) z_F σ (nI 0) = K (z_sJ σ (q + 2) w (e_m false (σ.2 (q + 2) w) 6)) := by
  have h := z_up (fun n (x : zS × Int32) => fX5_addParts_L10 q (nI w) (fun w1 _ => K w1) n x.1 x.2) (fun i => (z_sJ σ (q + 2) w (e_m false (σ.2 (q + 2) w) i), nI i)) 6 (K (z_sJ σ (q + 2) w (e_m false (σ.2 (q + 2) w) 6))) ?_ (fun n => ?_) 0 z_F (Nat.zero_le _) (by show 6 < 5000 + 0; decide)
  · have e : z_sJ σ (q + 2) w (e_m false (σ.2 (q + 2) w) 0) = σ := z_sJ_self
    simp only [e] at h
    exact h
  · intro n i hi
    show fX5_addParts_L10 q (nI w) _ (n + 1) (z_sJ σ (q + 2) w (e_m false (σ.2 (q + 2) w) i)) (nI i) = fX5_addParts_L10 q (nI w) _ n (z_sJ σ (q + 2) w (e_m false (σ.2 (q + 2) w) (i + 1))) (nI (i + 1))
    rw [fX5_addParts_L10.eq_2, n_6, if_neg (z_nle hi (by decide)), z_gd_t (t_in64 hw), z_gd_t (t_in64 hw), z_gd_t (t_in6 hi), z_gd_t (t_in64 hw), z_ltE, nI_clamp (show w < 2 ^ 31 by omega), nI_clamp (show i < 2 ^ 31 by omega), z_sJ_rd, z_sJ_sJ, b_one (by omega), nI_1]
    rfl
  · show fX5_addParts_L10 q (nI w) _ (n + 1) _ (nI 6) = _
    rw [fX5_addParts_L10.eq_2, n_6, if_pos (nI_le (Nat.le_refl _) (by decide))]
theorem q_wholes1 {q w : Nat} (hw : w < 64) (σ : zS) (K : zS → Option zS) : fX5_addWholes_L10 q (nI w) (fun w1 _ => K w1) z_F σ (nI 0) = K (z_sJ σ (q + 2) w (e_m true (σ.2 (q + 2) w) 6)) := by
  have h := z_up (fun n (x : zS × Int32) => fX5_addWholes_L10 q (nI w) (fun w1 _ => K w1) n x.1 x.2) (fun i => (z_sJ σ (q + 2) w (e_m true (σ.2 (q + 2) w) i), nI i)) 6 (K (z_sJ σ (q + 2) w (e_m true (σ.2 (q + 2) w) 6))) ?_ (fun n => ?_) 0 z_F (Nat.zero_le _) (by show 6 < 5000 + 0; decide)
  · have e : z_sJ σ (q + 2) w (e_m true (σ.2 (q + 2) w) 0) = σ := z_sJ_self
    simp only [e] at h
    exact h
  · intro n i hi
    show fX5_addWholes_L10 q (nI w) _ (n + 1) (z_sJ σ (q + 2) w (e_m true (σ.2 (q + 2) w) i)) (nI i) = fX5_addWholes_L10 q (nI w) _ n (z_sJ σ (q + 2) w (e_m true (σ.2 (q + 2) w) (i + 1))) (nI (i + 1))
    rw [fX5_addWholes_L10.eq_2, n_6, if_neg (z_nle hi (by decide)), z_gd_t (t_in64 hw), z_gd_t (t_in64 hw), z_gd_t (t_in6 hi), z_gd_t (t_in64 hw), z_ltE, nI_clamp (show w < 2 ^ 31 by omega), nI_clamp (show i < 2 ^ 31 by omega), z_sJ_rd, z_sJ_sJ, b_one (by omega), nI_1]
    rfl
  · show fX5_addWholes_L10 q (nI w) _ (n + 1) _ (nI 6) = _
    rw [fX5_addWholes_L10.eq_2, n_6, if_pos (nI_le (Nat.le_refl _) (by decide))]
/-! among the words -/
def e_ps (c : Bool) (b : Nat) (g : Nat → Int64) (i w : Nat) : Int64 := if w.testBit b = c ∧ (w ^^^ 2 ^ b) < i then g w ||| g (w ^^^ 2 ^ b) else g w
def e_tg (c : Bool) (b i : Nat) : Nat := if i.testBit b = c then i else i ^^^ 2 ^ b
theorem e_orS (x : Int64) : x ||| x = x := e_ext (fun i _ => by rw [e_or, Bool.or_self])
theorem e_ps_s (c : Bool) (b : Nat) (g : Nat → Int64) (i : Nat) : vp_updL (e_ps c b g i) (e_tg c b i) (e_ps c b g i (e_tg c b i) ||| e_ps c b g i i) = e_ps c b g (i + 1) := by
  funext w
  by_cases hc : i.testBit b = c
  · have et : e_tg c b i = i := if_pos hc
    have same : ∀ w, e_ps c b g i w = e_ps c b g (i + 1) w := by
      intro w
      unfold e_ps
      by_cases h : w.testBit b = c ∧ (w ^^^ 2 ^ b) < i
      · rw [if_pos h, if_pos ⟨h.1, by omega⟩]
      · rw [if_neg h, if_neg]
        intro q
        have : w ^^^ 2 ^ b = i := by
          have := q.2
          have : ¬ (w ^^^ 2 ^ b) < i := fun z => h ⟨q.1, z⟩
          omega
        have hb := n_xb w b
        rw [this, hc, q.1] at hb
        revert hb
        cases c <;> simp
    rw [et, e_orS, vp_self]
    exact same w
  · have et : e_tg c b i = i ^^^ 2 ^ b := if_neg hc
    rw [et]
    have hd : (i ^^^ 2 ^ b).testBit b = c := by
      rw [n_xb]
      revert hc
      cases c <;> cases i.testBit b <;> simp
    by_cases hw : w = i ^^^ 2 ^ b
    · subst hw
      rw [pk_uLs]
      unfold e_ps
      rw [if_neg (fun q => by have := q.2; rw [n_xx] at this; omega), if_neg (fun q => hc q.1), if_pos ⟨hd, by rw [n_xx]; omega⟩, n_xx]
    · rw [pk_uLn hw]
      unfold e_ps
      by_cases h : w.testBit b = c ∧ (w ^^^ 2 ^ b) < i
      · rw [if_pos h, if_pos ⟨h.1, by omega⟩]
      · rw [if_neg h, if_neg]
        intro q
        have : w ^^^ 2 ^ b = i := by
          have := q.2
          have : ¬ (w ^^^ 2 ^ b) < i := fun z => h ⟨q.1, z⟩
          omega
        apply hw
        rw [← this, n_xx]
theorem e_ps_0 (c : Bool) (b : Nat) (g : Nat → Int64) : e_ps c b g 0 = g := by
  funext w
  exact if_neg (fun q => Nat.not_lt_zero _ q.2)
theorem n_tgA : ∀ b : Fin 6, ∀ i : Fin 64, nI i.val &&& (nI (2 ^ b.val) ^^^ (-1 : Int32)) = nI (e_tg false b.val i.val) ∧ nI i.val ||| nI (2 ^ b.val) = nI (e_tg true b.val i.val) ∧ e_tg false b.val i.val < 64 ∧ e_tg true b.val i.val < 64 := by decide +kernel
theorem n_tg {b i : Nat} (hb : b < 6) (hi : i < 64) : nI i &&& (nI (2 ^ b) ^^^ (-1 : Int32)) = nI (e_tg false b i) ∧ nI i ||| nI (2 ^ b) = nI (e_tg true b i) ∧ e_tg false b i < 64 ∧ e_tg true b i < 64 := n_tgA ⟨b, hb⟩ ⟨i, hi⟩
theorem n_dbA : ∀ b : Fin 6, nI (2 ^ b.val) <<< ((1 : Int32) &&& 31) = nI (2 ^ (b.val + 1)) := by decide +kernel
theorem n_db {b : Nat} (hb : b < 6) : nI (2 ^ b) <<< ((1 : Int32) &&& 31) = nI (2 ^ (b + 1)) := n_dbA ⟨b, hb⟩
theorem q_parts2 {q b : Nat} (hb : b < 6) (σ : zS) (K : zS → Option zS) : fX5_addParts_L63 q (nI (2 ^ b)) (fun w1 _ => K w1) z_F σ (nI 0) = K (z_fJ σ (q + 2) (e_ps false b (σ.2 (q + 2)) 64)) := by
  have h := z_up (fun n (x : zS × Int32) => fX5_addParts_L63 q (nI (2 ^ b)) (fun w1 _ => K w1) n x.1 x.2) (fun i => (z_fJ σ (q + 2) (e_ps false b (σ.2 (q + 2)) i), nI i)) 64 (K (z_fJ σ (q + 2) (e_ps false b (σ.2 (q + 2)) 64))) ?_ (fun n => ?_) 0 z_F (Nat.zero_le _) (by show 64 < 5000 + 0; decide)
  · rw [e_ps_0, z_fJ_self] at h
    exact h
  · intro n i hi
    obtain ⟨e1, _, e2, _⟩ := n_tg hb hi
    show fX5_addParts_L63 q (nI (2 ^ b)) _ (n + 1) (z_fJ σ (q + 2) (e_ps false b (σ.2 (q + 2)) i)) (nI i) = fX5_addParts_L63 q (nI (2 ^ b)) _ n (z_fJ σ (q + 2) (e_ps false b (σ.2 (q + 2)) (i + 1))) (nI (i + 1))
    rw [fX5_addParts_L63.eq_2, n_64, if_neg (z_nle hi (by decide)), e1, z_gd_t (t_in64 e2), z_gd_t (t_in64 hi), z_gd_t (t_in64 e2), z_ltE, nI_clamp (show e_tg false b i < 2 ^ 31 by omega), nI_clamp (show i < 2 ^ 31 by omega), z_sJ_fJ, z_fJ_s, e_ps_s, nI_1]
  · show fX5_addParts_L63 q (nI (2 ^ b)) _ (n + 1) _ (nI 64) = _
    rw [fX5_addParts_L63.eq_2, n_64, if_pos (nI_le (Nat.le_refl _) (by decide))]
theorem q_wholes2 {q b : Nat} (hb : b < 6) (σ : zS) (K : zS → Option zS) : fX5_addWholes_L67 q (nI (2 ^ b)) (fun w1 _ => K w1) z_F σ (nI 0) = K (z_fJ σ (q + 2) (e_ps true b (σ.2 (q + 2)) 64)) := by
  have h := z_up (fun n (x : zS × Int32) => fX5_addWholes_L67 q (nI (2 ^ b)) (fun w1 _ => K w1) n x.1 x.2) (fun i => (z_fJ σ (q + 2) (e_ps true b (σ.2 (q + 2)) i), nI i)) 64 (K (z_fJ σ (q + 2) (e_ps true b (σ.2 (q + 2)) 64))) ?_ (fun n => ?_) 0 z_F (Nat.zero_le _) (by show 64 < 5000 + 0; decide)
  · rw [e_ps_0, z_fJ_self] at h
    exact h
  · intro n i hi
    obtain ⟨_, e1, _, e2⟩ := n_tg hb hi
    show fX5_addWholes_L67 q (nI (2 ^ b)) _ (n + 1) (z_fJ σ (q + 2) (e_ps true b (σ.2 (q + 2)) i)) (nI i) = fX5_addWholes_L67 q (nI (2 ^ b)) _ n (z_fJ σ (q + 2) (e_ps true b (σ.2 (q + 2)) (i + 1))) (nI (i + 1))
    rw [fX5_addWholes_L67.eq_2, n_64, if_neg (z_nle hi (by decide)), e1, z_gd_t (t_in64 e2), z_gd_t (t_in64 hi), z_gd_t (t_in64 e2), z_ltE, nI_clamp (show e_tg true b i < 2 ^ 31 by omega), nI_clamp (show i < 2 ^ 31 by omega), z_sJ_fJ, z_fJ_s, e_ps_s, nI_1]
  · show fX5_addWholes_L67 q (nI (2 ^ b)) _ (n + 1) _ (nI 64) = _
    rw [fX5_addWholes_L67.eq_2, n_64, if_pos (nI_le (Nat.le_refl _) (by decide))]
def e_pp (c : Bool) (g : Nat → Int64) : Nat → Nat → Int64
  | 0 => g
  | b + 1 => e_ps c b (e_pp c g b) 64
theorem e_pp_b {c : Bool} {g : Nat → Int64} {T : Nat → Bool} (h : t_B g (t_mv c T 6)) : ∀ b, b ≤ 6 → t_B (e_pp c g b) (t_mv c T (6 + b))
  | 0, _ => h
  | b + 1, hb => by
    have ih := e_pp_b h b (by omega)
    intro w i hw hi
    have hx := n_x64 hw (show b < 6 by omega)
    show e_b (e_ps c b (e_pp c g b) 64 w) i = (t_mv c T (6 + b) (64 * w + i) || (((64 * w + i).testBit (6 + b) == c) && t_mv c T (6 + b) ((64 * w + i) ^^^ 2 ^ (6 + b))))
    rw [t_tb12 hi, t_xor12 hi]
    unfold e_ps
    by_cases hc : w.testBit b = c
    · rw [if_pos ⟨hc, hx⟩, e_or, ih w i hw hi, ih _ i hx hi, hc]
      cases c <;> rfl
    · rw [if_neg (fun q => hc q.1), ih w i hw hi]
      have : (w.testBit b == c) = false := beq_eq_false_iff_ne.mpr hc
      rw [this, Bool.false_and, Bool.or_false]
theorem t_m6 {c : Bool} {g : Nat → Int64} {T : Nat → Bool} (h : t_B g T) : t_B (z_mx (fun w => e_m c (g w) 6) g 64) (t_mv c T 6) := fun w i hw hi => by
  rw [z_mx_in hw]
  exact e_m_b (fun j hj => h w j hw hj) 6 (Nat.le_refl _) i hi
theorem q_addParts {σ : zS} {q : Nat} {T : Nat → Bool} (h : t_B (σ.2 (q + 2)) T) : ∃ g, fX5_addParts σ q = some (z_fJ σ (q + 2) g) ∧ t_B g (t_mv false T 12) := by
  refine ⟨_, ?_, e_pp_b (t_m6 h) 6 (Nat.le_refl _)⟩
  unfold fX5_addParts
  rw [z_i0]
  refine Eq.trans (t_map (p := q + 2) (G := fun x => e_m false x 6) (fun n τ v => fX5_addParts_L2 q (fun w1 _ => fX5_addParts_L55 q (fun w2 _ => some w2) z_F w1 1) n τ v) (fun τ => fX5_addParts_L55 q (fun w2 _ => some w2) z_F τ 1) (fun n τ w hw => ?_) (fun n τ => ?_) σ) ?_
  · show fX5_addParts_L2 q _ (n + 1) τ (nI w) = fX5_addParts_L2 q _ n _ (nI (w + 1))
    rw [fX5_addParts_L2.eq_2, n_64, if_neg (z_nle hw (by decide)), nI_1, z_i0, q_parts1 hw τ (fun w1 => fX5_addParts_L2 q (fun w1 _ => fX5_addParts_L55 q (fun w2 _ => some w2) z_F w1 1) n w1 (nI (w + 1)))]
  · show fX5_addParts_L2 q _ (n + 1) τ (nI 64) = _
    rw [fX5_addParts_L2.eq_2, n_64, if_pos (nI_le (Nat.le_refl _) (by decide))]
  · generalize z_mx (fun w => e_m false (σ.2 (q + 2) w) 6) (σ.2 (q + 2)) 64 = g0
    have h2 := z_up (fun n (x : zS × Int32) => fX5_addParts_L55 q (fun w2 _ => some w2) n x.1 x.2) (fun b => (z_fJ σ (q + 2) (e_pp false g0 b), nI (2 ^ b))) 6 (some (z_fJ σ (q + 2) (e_pp false g0 6))) ?_ (fun n => ?_) 0 z_F (Nat.zero_le _) (by show 6 < 5000 + 0; decide)
    · exact h2
    · intro n b hb
      show fX5_addParts_L55 q _ (n + 1) (z_fJ σ (q + 2) (e_pp false g0 b)) (nI (2 ^ b)) = fX5_addParts_L55 q _ n (z_fJ σ (q + 2) (e_ps false b (e_pp false g0 b) 64)) (nI (2 ^ (b + 1)))
      rw [fX5_addParts_L55.eq_2, n_64, if_neg (z_nle (n_p64 hb) (by decide)), z_i0, q_parts2 hb _ (fun w1 => z_lt (nI (2 ^ b) <<< ((1 : Int32) &&& 31)) (fun (x2 : Int32) => fX5_addParts_L55 q (fun w2 _ => some w2) n w1 x2)), z_ltE, n_db hb, z_fJ_s, z_fJ_fJ]
    · show fX5_addParts_L55 q _ (n + 1) _ (nI 64) = _
      rw [fX5_addParts_L55.eq_2, n_64, if_pos (nI_le (Nat.le_refl _) (by decide))]
theorem q_addWholes {σ : zS} {q : Nat} {T : Nat → Bool} (h : t_B (σ.2 (q + 2)) T) : ∃ g, fX5_addWholes σ q = some (z_fJ σ (q + 2) g) ∧ t_B g (t_mv true T 12) := by
  refine ⟨_, ?_, e_pp_b (t_m6 h) 6 (Nat.le_refl _)⟩
  unfold fX5_addWholes
  rw [z_i0]
  refine Eq.trans (t_map (p := q + 2) (G := fun x => e_m true x 6) (fun n τ v => fX5_addWholes_L2 q (fun w1 _ => fX5_addWholes_L59 q (fun w2 _ => some w2) z_F w1 1) n τ v) (fun τ => fX5_addWholes_L59 q (fun w2 _ => some w2) z_F τ 1) (fun n τ w hw => ?_) (fun n τ => ?_) σ) ?_
  · show fX5_addWholes_L2 q _ (n + 1) τ (nI w) = fX5_addWholes_L2 q _ n _ (nI (w + 1))
    rw [fX5_addWholes_L2.eq_2, n_64, if_neg (z_nle hw (by decide)), nI_1, z_i0, q_wholes1 hw τ (fun w1 => fX5_addWholes_L2 q (fun w1 _ => fX5_addWholes_L59 q (fun w2 _ => some w2) z_F w1 1) n w1 (nI (w + 1)))]
  · show fX5_addWholes_L2 q _ (n + 1) τ (nI 64) = _
    rw [fX5_addWholes_L2.eq_2, n_64, if_pos (nI_le (Nat.le_refl _) (by decide))]
  · generalize z_mx (fun w => e_m true (σ.2 (q + 2) w) 6) (σ.2 (q + 2)) 64 = g0
    have h2 := z_up (fun n (x : zS × Int32) => fX5_addWholes_L59 q (fun w2 _ => some w2) n x.1 x.2) (fun b => (z_fJ σ (q + 2) (e_pp true g0 b), nI (2 ^ b))) 6 (some (z_fJ σ (q + 2) (e_pp true g0 6))) ?_ (fun n => ?_) 0 z_F (Nat.zero_le _) (by show 6 < 5000 + 0; decide)
    · exact h2
    · intro n b hb
      show fX5_addWholes_L59 q _ (n + 1) (z_fJ σ (q + 2) (e_pp true g0 b)) (nI (2 ^ b)) = fX5_addWholes_L59 q _ n (z_fJ σ (q + 2) (e_ps true b (e_pp true g0 b) 64)) (nI (2 ^ (b + 1)))
      rw [fX5_addWholes_L59.eq_2, n_64, if_neg (z_nle (n_p64 hb) (by decide)), z_i0, q_wholes2 hb _ (fun w1 => z_lt (nI (2 ^ b) <<< ((1 : Int32) &&& 31)) (fun (x2 : Int32) => fX5_addWholes_L59 q (fun w2 _ => some w2) n w1 x2)), z_ltE, n_db hb, z_fJ_s, z_fJ_fJ]
    · show fX5_addWholes_L59 q _ (n + 1) _ (nI 64) = _
      rw [fX5_addWholes_L59.eq_2, n_64, if_pos (nI_le (Nat.le_refl _) (by decide))]
