/-! pure: those that can spare no point (c: true), that can take none (c: false) -/
def e_st (c : Bool) (x : Int64) (p : Nat) : Int64 := if c then ((x &&& (z_withL p ^^^ (-1 : Int64))) <<< ((nI (2 ^ p)).toInt64 &&& 63)) else ((x &&& z_withL p).toUInt64 >>> ((nI (2 ^ p)).toInt64.toUInt64 &&& Int64.toUInt64 63)).toInt64
theorem e_st_b {c : Bool} {x : Int64} {p i : Nat} (hp : p < 6) (hi : i < 64) : e_b (e_st c x p) i = ((i.testBit p == c) && e_b x (i ^^^ 2 ^ p)) := by
  cases c
  · refine Eq.trans (e_dn1 hp hi) ?_
    cases i.testBit p <;> rfl
  · refine Eq.trans (e_up1 hp hi) ?_
    cases i.testBit p <;> rfl
def e_sp (c : Bool) (g : Nat → Int64) (w : Nat) : Nat → Int64
  | 0 => 0
  | p + 1 => if w.testBit p = c then (e_sp c g w p ||| e_st c (g w) p) ||| g (w ^^^ 2 ^ p) else e_sp c g w p ||| e_st c (g w) p
def t_sp (c : Bool) (T : Nat → Bool) : Nat → Nat → Bool
  | 0, _ => false
  | p + 1, s => (t_sp c T p s || ((s.testBit p == c) && T (s ^^^ 2 ^ p))) || ((s.testBit (6 + p) == c) && T (s ^^^ 2 ^ (6 + p)))
theorem e_sp_b {c : Bool} {g : Nat → Int64} {T : Nat → Bool} (h : t_B g T) {w i : Nat} (hw : w < 64) (hi : i < 64) : ∀ p, p ≤ 6 → e_b (e_sp c g w p) i = t_sp c T p (64 * w + i)
  | 0, _ => e_0 i
  | p + 1, hp => by
    have ih := e_sp_b (c := c) h hw hi p (by omega)
    show e_b (if w.testBit p = c then (e_sp c g w p ||| e_st c (g w) p) ||| g (w ^^^ 2 ^ p) else e_sp c g w p ||| e_st c (g w) p) i = ((t_sp c T p (64 * w + i) || (((64 * w + i).testBit p == c) && T ((64 * w + i) ^^^ 2 ^ p))) || (((64 * w + i).testBit (6 + p) == c) && T ((64 * w + i) ^^^ 2 ^ (6 + p))))
    rw [t_tb6 hi (by omega), t_tb12 hi, t_xor6 hi (by omega), t_xor12 hi, ← h w _ hw (n_x64 hi (by omega)), ← h _ i (n_x64 hw (by omega)) hi, ← ih]
    by_cases hc : w.testBit p = c
    · rw [if_pos hc, e_or, e_or, e_st_b (by omega) hi, hc]
      cases c <;> rfl
    · rw [if_neg hc, e_or, e_st_b (by omega) hi, show (w.testBit p == c) = false from beq_eq_false_iff_ne.mpr hc, Bool.false_and, Bool.or_false]
theorem t_sp_iff (c : Bool) (T : Nat → Bool) : ∀ (n s : Nat), t_sp c T n s = true ↔ ∃ p, (p < n ∨ (6 ≤ p ∧ p < 6 + n)) ∧ s.testBit p = c ∧ T (s ^^^ 2 ^ p) = true
  | 0, s => by
    constructor
    · intro h
      cases h
    · rintro ⟨p, h, _⟩
      omega
  | n + 1, s => by
    show ((t_sp c T n s || ((s.testBit n == c) && T (s ^^^ 2 ^ n))) || ((s.testBit (6 + n) == c) && T (s ^^^ 2 ^ (6 + n)))) = true ↔ _
    rw [Bool.or_eq_true, Bool.or_eq_true, t_sp_iff c T n s, Bool.and_eq_true, Bool.and_eq_true, beq_iff_eq, beq_iff_eq]
    constructor
    · rintro ((⟨p, h1, h2⟩ | h) | h)
      · exact ⟨p, by omega, h2⟩
      · exact ⟨n, by omega, h⟩
      · exact ⟨6 + n, by omega, h⟩
    · rintro ⟨p, h1, h2⟩
      by_cases e1 : p = n
      · exact Or.inl (Or.inr (e1 ▸ h2))
      · by_cases e2 : p = 6 + n
        · exact Or.inr (e2 ▸ h2)
        · exact Or.inl (Or.inl ⟨p, by omega, h2⟩)
/-- in T, and not in it with point p changed, for each p that it has (c: true) or hasn't -/
def t_lst (c : Bool) (T : Nat → Bool) (s : Nat) : Bool := T s && !t_sp c T 6 s
theorem t_lst_iff {c : Bool} {T : Nat → Bool} {s : Nat} : t_lst c T s = true ↔ T s = true ∧ ∀ p, p < 12 → s.testBit p = c → T (s ^^^ 2 ^ p) = false := by
  unfold t_lst
  rw [Bool.and_eq_true, Bool.not_eq_true']
  constructor
  · rintro ⟨h1, h2⟩
    refine ⟨h1, fun p hp hc => ?_⟩
    cases e : T (s ^^^ 2 ^ p)
    · rfl
    · have : t_sp c T 6 s = true := (t_sp_iff c T 6 s).mpr ⟨p, by omega, hc, e⟩
      rw [h2] at this
      cases this
  · rintro ⟨h1, h2⟩
    refine ⟨h1, ?_⟩
    cases e : t_sp c T 6 s
    · rfl
    · obtain ⟨p, h3, h4, h5⟩ := (t_sp_iff c T 6 s).mp e
      rw [h2 p (by omega) h4] at h5
      cases h5
theorem n_xs {s p : Nat} (hs : s < 4096) (hp : p < 12) : s ^^^ 2 ^ p < 4096 := Nat.xor_lt_two_pow (n := 12) hs (wb_lt2 hp)
theorem t_lst_c {c : Bool} {T U : Nat → Bool} (h : ∀ s, s < 4096 → T s = U s) {s : Nat} (hs : s < 4096) : t_lst c T s = t_lst c U s := by
  rw [Bool.eq_iff_iff, t_lst_iff, t_lst_iff, h s hs]
  constructor
  · rintro ⟨a, b⟩
    exact ⟨a, fun p hp hc => by rw [← h _ (n_xs hs hp)]; exact b p hp hc⟩
  · rintro ⟨a, b⟩
    exact ⟨a, fun p hp hc => by rw [h _ (n_xs hs hp)]; exact b p hp hc⟩
theorem q_least1 {w q1 : Nat} (hw : w < 64) (σ : zS) (K : Int64 → Option zS) : fX5_becomeLeastOf_L21 σ q1 (nI w) (σ.2 (q1 + 2) w) (fun x _ => K x) z_F 0 (nI 0) = K (e_sp true (σ.2 (q1 + 2)) w 6) := by
  have h := z_up (fun n (x : Int64 × Int32) => fX5_becomeLeastOf_L21 σ q1 (nI w) (σ.2 (q1 + 2) w) (fun x _ => K x) n x.1 x.2) (fun i => (e_sp true (σ.2 (q1 + 2)) w i, nI i)) 6 (K (e_sp true (σ.2 (q1 + 2)) w 6)) ?_ (fun n => ?_) 0 z_F (Nat.zero_le _) (by show 6 < 5000 + 0; decide)
  · exact h
  · intro n i hi
    show fX5_becomeLeastOf_L21 σ q1 (nI w) (σ.2 (q1 + 2) w) _ (n + 1) (e_sp true (σ.2 (q1 + 2)) w i) (nI i) = fX5_becomeLeastOf_L21 σ q1 (nI w) (σ.2 (q1 + 2) w) _ n (if w.testBit i = true then (e_sp true (σ.2 (q1 + 2)) w i ||| e_st true (σ.2 (q1 + 2) w) i) ||| σ.2 (q1 + 2) (w ^^^ 2 ^ i) else e_sp true (σ.2 (q1 + 2)) w i ||| e_st true (σ.2 (q1 + 2) w) i) (nI (i + 1))
    rw [fX5_becomeLeastOf_L21.eq_2, n_6, if_neg (z_nle hi (by decide)), z_gd_t (t_in6 hi), z_ltE, nI_clamp (show i < 2 ^ 31 by omega), b_one (by omega), nI_1]
    cases e : w.testBit i
    · rw [z_bd (q_hasP0 (by omega) (by omega) e), i_t, if_neg (by decide)]
      rfl
    · obtain ⟨e1, _, e2, _⟩ := n_tg hi hw
      have et : e_tg false i w = w ^^^ 2 ^ i := if_neg (by rw [e]; decide)
      rw [et] at e1 e2
      rw [z_bd (q_hasP1 (by omega) (by omega) e), i_f, if_pos rfl, e1, z_gd_t (t_in64 e2), z_ltE, nI_clamp (by omega)]
      rfl
  · show fX5_becomeLeastOf_L21 σ q1 (nI w) _ _ (n + 1) _ (nI 6) = _
    rw [fX5_becomeLeastOf_L21.eq_2, n_6, if_pos (nI_le (Nat.le_refl _) (by decide))]
theorem q_great1 {w q1 : Nat} (hw : w < 64) (σ : zS) (K : Int64 → Option zS) : fX5_becomeGreatestOf_L21 σ q1 (nI w) (σ.2 (q1 + 2) w) (fun x _ => K x) z_F 0 (nI 0) = K (e_sp false (σ.2 (q1 + 2)) w 6) := by
  have h := z_up (fun n (x : Int64 × Int32) => fX5_becomeGreatestOf_L21 σ q1 (nI w) (σ.2 (q1 + 2) w) (fun x _ => K x) n x.1 x.2) (fun i => (e_sp false (σ.2 (q1 + 2)) w i, nI i)) 6 (K (e_sp false (σ.2 (q1 + 2)) w 6)) ?_ (fun n => ?_) 0 z_F (Nat.zero_le _) (by show 6 < 5000 + 0; decide)
  · exact h
  · intro n i hi
    show fX5_becomeGreatestOf_L21 σ q1 (nI w) (σ.2 (q1 + 2) w) _ (n + 1) (e_sp false (σ.2 (q1 + 2)) w i) (nI i) = fX5_becomeGreatestOf_L21 σ q1 (nI w) (σ.2 (q1 + 2) w) _ n (if w.testBit i = false then (e_sp false (σ.2 (q1 + 2)) w i ||| e_st false (σ.2 (q1 + 2) w) i) ||| σ.2 (q1 + 2) (w ^^^ 2 ^ i) else e_sp false (σ.2 (q1 + 2)) w i ||| e_st false (σ.2 (q1 + 2) w) i) (nI (i + 1))
    rw [fX5_becomeGreatestOf_L21.eq_2, n_6, if_neg (z_nle hi (by decide)), z_gd_t (t_in6 hi), z_ltE, nI_clamp (show i < 2 ^ 31 by omega), b_one (by omega), nI_1]
    cases e : w.testBit i
    · obtain ⟨_, e1, _, e2⟩ := n_tg hi hw
      have et : e_tg true i w = w ^^^ 2 ^ i := if_neg (by rw [e]; decide)
      rw [et] at e1 e2
      rw [z_bd (q_hasP0 (by omega) (by omega) e), i_t, if_pos rfl, e1, z_gd_t (t_in64 e2), z_ltE, nI_clamp (by omega)]
      rfl
    · rw [z_bd (q_hasP1 (by omega) (by omega) e), i_f, if_neg (by decide)]
      rfl
  · show fX5_becomeGreatestOf_L21 σ q1 (nI w) _ _ (n + 1) _ (nI 6) = _
    rw [fX5_becomeGreatestOf_L21.eq_2, n_6, if_pos (nI_le (Nat.le_refl _) (by decide))]
theorem e_lst_b {c : Bool} {g f : Nat → Int64} {T : Nat → Bool} (h : t_B g T) : t_B (z_mx (fun w => g w &&& (e_sp c g w 6 ^^^ (-1 : Int64))) f 64) (t_lst c T) := fun w i hw hi => by
  rw [z_mx_in hw, e_and, e_not hi, e_sp_b h hw hi 6 (Nat.le_refl _), h w i hw hi]
  rfl
theorem q_least {σ : zS} {q0 q1 : Nat} {T : Nat → Bool} (hq : q1 ≠ q0) (h : t_B (σ.2 (q1 + 2)) T) : ∃ g, fX5_becomeLeastOf σ q0 q1 = some (z_fJ σ (q0 + 2) g) ∧ t_B g (t_lst true T) := by
  refine ⟨_, ?_, e_lst_b (f := σ.2 (q0 + 2)) h⟩
  unfold fX5_becomeLeastOf
  have hr : ∀ g : Nat → Int64, (z_fJ σ (q0 + 2) g).2 (q1 + 2) = σ.2 (q1 + 2) := fun g => z_fJ_n (by omega)
  have h2 := z_up (fun n (x : zS × Int32) => fX5_becomeLeastOf_L2 q0 q1 (fun w1 _ => some w1) n x.1 x.2) (fun i => (z_fJ σ (q0 + 2) (z_mx (fun w => σ.2 (q1 + 2) w &&& (e_sp true (σ.2 (q1 + 2)) w 6 ^^^ (-1 : Int64))) (σ.2 (q0 + 2)) i), nI i)) 64 (some (z_fJ σ (q0 + 2) (z_mx (fun w => σ.2 (q1 + 2) w &&& (e_sp true (σ.2 (q1 + 2)) w 6 ^^^ (-1 : Int64))) (σ.2 (q0 + 2)) 64))) ?_ (fun n => ?_) 0 z_F (Nat.zero_le _) (by show 64 < 5000 + 0; decide)
  · rw [z_mx_0, z_fJ_self] at h2
    exact h2
  · intro n i hi
    show fX5_becomeLeastOf_L2 q0 q1 _ (n + 1) (z_fJ σ (q0 + 2) (z_mx (fun w => σ.2 (q1 + 2) w &&& (e_sp true (σ.2 (q1 + 2)) w 6 ^^^ (-1 : Int64))) (σ.2 (q0 + 2)) i)) (nI i) = fX5_becomeLeastOf_L2 q0 q1 _ n (z_fJ σ (q0 + 2) (z_mx (fun w => σ.2 (q1 + 2) w &&& (e_sp true (σ.2 (q1 + 2)) w 6 ^^^ (-1 : Int64))) (σ.2 (q0 + 2)) (i + 1))) (nI (i + 1))
    rw [← z_mx_updL]
    generalize z_mx (fun w => σ.2 (q1 + 2) w &&& (e_sp true (σ.2 (q1 + 2)) w 6 ^^^ (-1 : Int64))) (σ.2 (q0 + 2)) i = g
    rw [fX5_becomeLeastOf_L2.eq_2, n_64, if_neg (z_nle hi (by decide)), z_gd_t (t_in64 hi), z_ltE, nI_clamp (show i < 2 ^ 31 by omega), z_i0, q_least1 hi (z_fJ σ (q0 + 2) g) (fun x2 => z_gd (z_in (nI i) 64) (z_lt (z_sJ (z_fJ σ (q0 + 2) g) (q0 + 2) i (((z_fJ σ (q0 + 2) g).2 (q1 + 2) i) &&& (x2 ^^^ (-1 : Int64)))) (fun (w1 : zS) => fX5_becomeLeastOf_L2 q0 q1 (fun w1 _ => some w1) n w1 (nI i + (1 : Int32))))), z_gd_t (t_in64 hi), z_ltE, z_sJ_fJ, hr, nI_1]
  · show fX5_becomeLeastOf_L2 q0 q1 _ (n + 1) _ (nI 64) = _
    rw [fX5_becomeLeastOf_L2.eq_2, n_64, if_pos (nI_le (Nat.le_refl _) (by decide))]
theorem q_great {σ : zS} {q0 q1 : Nat} {T : Nat → Bool} (hq : q1 ≠ q0) (h : t_B (σ.2 (q1 + 2)) T) : ∃ g, fX5_becomeGreatestOf σ q0 q1 = some (z_fJ σ (q0 + 2) g) ∧ t_B g (t_lst false T) := by
  refine ⟨_, ?_, e_lst_b (f := σ.2 (q0 + 2)) h⟩
  unfold fX5_becomeGreatestOf
  have hr : ∀ g : Nat → Int64, (z_fJ σ (q0 + 2) g).2 (q1 + 2) = σ.2 (q1 + 2) := fun g => z_fJ_n (by omega)
  have h2 := z_up (fun n (x : zS × Int32) => fX5_becomeGreatestOf_L2 q0 q1 (fun w1 _ => some w1) n x.1 x.2) (fun i => (z_fJ σ (q0 + 2) (z_mx (fun w => σ.2 (q1 + 2) w &&& (e_sp false (σ.2 (q1 + 2)) w 6 ^^^ (-1 : Int64))) (σ.2 (q0 + 2)) i), nI i)) 64 (some (z_fJ σ (q0 + 2) (z_mx (fun w => σ.2 (q1 + 2) w &&& (e_sp false (σ.2 (q1 + 2)) w 6 ^^^ (-1 : Int64))) (σ.2 (q0 + 2)) 64))) ?_ (fun n => ?_) 0 z_F (Nat.zero_le _) (by show 64 < 5000 + 0; decide)
  · rw [z_mx_0, z_fJ_self] at h2
    exact h2
  · intro n i hi
    show fX5_becomeGreatestOf_L2 q0 q1 _ (n + 1) (z_fJ σ (q0 + 2) (z_mx (fun w => σ.2 (q1 + 2) w &&& (e_sp false (σ.2 (q1 + 2)) w 6 ^^^ (-1 : Int64))) (σ.2 (q0 + 2)) i)) (nI i) = fX5_becomeGreatestOf_L2 q0 q1 _ n (z_fJ σ (q0 + 2) (z_mx (fun w => σ.2 (q1 + 2) w &&& (e_sp false (σ.2 (q1 + 2)) w 6 ^^^ (-1 : Int64))) (σ.2 (q0 + 2)) (i + 1))) (nI (i + 1))
    rw [← z_mx_updL]
    generalize z_mx (fun w => σ.2 (q1 + 2) w &&& (e_sp false (σ.2 (q1 + 2)) w 6 ^^^ (-1 : Int64))) (σ.2 (q0 + 2)) i = g
    rw [fX5_becomeGreatestOf_L2.eq_2, n_64, if_neg (z_nle hi (by decide)), z_gd_t (t_in64 hi), z_ltE, nI_clamp (show i < 2 ^ 31 by omega), z_i0, q_great1 hi (z_fJ σ (q0 + 2) g) (fun x2 => z_gd (z_in (nI i) 64) (z_lt (z_sJ (z_fJ σ (q0 + 2) g) (q0 + 2) i (((z_fJ σ (q0 + 2) g).2 (q1 + 2) i) &&& (x2 ^^^ (-1 : Int64)))) (fun (w1 : zS) => fX5_becomeGreatestOf_L2 q0 q1 (fun w1 _ => some w1) n w1 (nI i + (1 : Int32))))), z_gd_t (t_in64 hi), z_ltE, z_sJ_fJ, hr, nI_1]
  · show fX5_becomeGreatestOf_L2 q0 q1 _ (n + 1) _ (nI 64) = _
    rw [fX5_becomeGreatestOf_L2.eq_2, n_64, if_pos (nI_le (Nat.le_refl _) (by decide))]
