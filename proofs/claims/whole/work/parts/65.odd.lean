/-! pure: tables of tests -/
theorem b_sub {x y : Nat} (hx : x < 4096) (hy : y < 4096) : (nI x &&& (nI y ^^^ (-1 : Int32))) = 0 ↔ ∀ i, x.testBit i = true → y.testBit i = true := by
  have e1 : (-1 : Int32) = nI (2 ^ 32 - 1) := by decide +kernel
  have hlt : x &&& (y ^^^ (2 ^ 32 - 1)) < 2 ^ 31 := Nat.lt_of_le_of_lt Nat.and_le_left (by omega)
  rw [e1, b_xor, b_and, z_i0, nI_eq hlt (by decide), n_and0]
  constructor
  · intro h i hi
    have h12 : i < 32 := by
      rcases Nat.lt_or_ge i 12 with q | q
      · omega
      · rw [b_hi hx q] at hi
        cases hi
    have := h i hi
    rw [Nat.testBit_xor, Nat.testBit_two_pow_sub_one, decide_eq_true h12, Bool.xor_true] at this
    cases e : y.testBit i
    · rw [e] at this
      cases this
    · rfl
  · intro h i hi
    have h12 : i < 32 := by
      rcases Nat.lt_or_ge i 12 with q | q
      · omega
      · rw [b_hi hx q] at hi
        cases hi
    rw [Nat.testBit_xor, Nat.testBit_two_pow_sub_one, decide_eq_true h12, h i hi]
    rfl
def n_sub (x y : Nat) : Bool := decide ((nI x &&& (nI y ^^^ (-1 : Int32))) = 0)
theorem n_sub_t {x y : Nat} (hx : x < 4096) (hy : y < 4096) : n_sub x y = true ↔ ∀ i, x.testBit i = true → y.testBit i = true := by
  unfold n_sub
  rw [decide_eq_true_iff]
  exact b_sub hx hy
def o_b (b : Bool) : Int32 := if b then 1 else 0
theorem q_sub (x y : Nat) : fX7_isPart (nI x) (nI y) = some (o_b (n_sub x y)) ∧ fX8_isPart (nI x) (nI y) = some (o_b (n_sub x y)) := by
  unfold n_sub
  by_cases h : (nI x &&& (nI y ^^^ (-1 : Int32))) = 0
  · rw [decide_eq_true h]
    exact q_part1 _ _ h
  · rw [decide_eq_false h]
    exact q_part0 _ _ h
theorem t_wh {F : List (Nat × Nat)} (hw : h_wf F) {s : Nat} (hs : s < 4096) : t_mv true (fun u => F.any (fun x => decide (u = x.1))) 12 s = F.any (fun x => n_sub x.1 s) := by
  rw [Bool.eq_iff_iff, t_mv_sp, List.any_eq_true]
  constructor
  · rintro ⟨t, h1, h2⟩
    obtain ⟨x, hx, e⟩ := List.any_eq_true.mp h1
    have e : t = x.1 := of_decide_eq_true e
    refine ⟨x, hx, (n_sub_t (hw.2.1 x hx).1 hs).mpr (fun i hi => ?_)⟩
    cases es : s.testBit i
    · have := (h2 i (by rw [es, e, hi]; decide)).2
      rw [es] at this
      cases this
    · rfl
  · rintro ⟨x, hx, e⟩
    have hb := (hw.2.1 x hx).1
    have e := (n_sub_t hb hs).mp e
    refine ⟨x.1, List.any_eq_true.mpr ⟨x, hx, decide_eq_true rfl⟩, fun i hi => ?_⟩
    cases es : s.testBit i
    · cases ex : x.1.testBit i
      · rw [es, ex] at hi
        exact absurd rfl hi
      · have := e i ex
        rw [es] at this
        cases this
    · refine ⟨?_, rfl⟩
      rcases Nat.lt_or_ge i 12 with q | q
      · exact q
      · rw [b_hi hs q] at es
        cases es
theorem t_pa {F : List (Nat × Nat)} (hw : h_wf F) {s : Nat} (hs : s < 4096) : t_mv false (fun u => F.any (fun x => decide (u = x.1))) 12 s = F.any (fun x => n_sub s x.1) := by
  rw [Bool.eq_iff_iff, t_mv_sp, List.any_eq_true]
  constructor
  · rintro ⟨t, h1, h2⟩
    obtain ⟨x, hx, e⟩ := List.any_eq_true.mp h1
    have e : t = x.1 := of_decide_eq_true e
    refine ⟨x, hx, (n_sub_t hs (hw.2.1 x hx).1).mpr (fun i hi => ?_)⟩
    cases ex : x.1.testBit i
    · have := (h2 i (by rw [hi, e, ex]; decide)).2
      rw [hi] at this
      cases this
    · rfl
  · rintro ⟨x, hx, e⟩
    have hb := (hw.2.1 x hx).1
    have e := (n_sub_t hs hb).mp e
    refine ⟨x.1, List.any_eq_true.mpr ⟨x, hx, decide_eq_true rfl⟩, fun i hi => ?_⟩
    cases es : s.testBit i
    · refine ⟨?_, rfl⟩
      cases ex : x.1.testBit i
      · rw [es, ex] at hi
        exact absurd rfl hi
      · rcases Nat.lt_or_ge i 12 with q | q
        · exact q
        · rw [b_hi hb q] at ex
          cases ex
    · rw [es, e i es] at hi
      exact absurd rfl hi
/-! odd meetings -/
def f_pr (S i : Nat) : Nat → Bool
  | 0 => false
  | p + 1 => f_pr S i p ^^ (S.testBit p && i.testBit p)
def e_od (S : Nat) : Nat → Int64
  | 0 => 0
  | p + 1 => if S.testBit p then e_od S p ^^^ z_withL p else e_od S p
theorem e_od_b {S i : Nat} (hi : i < 64) : ∀ p, p ≤ 6 → e_b (e_od S p) i = f_pr S i p
  | 0, _ => e_0 i
  | p + 1, hp => by
    have ih := e_od_b (S := S) hi p (by omega)
    show e_b (if S.testBit p then e_od S p ^^^ z_withL p else e_od S p) i = (f_pr S i p ^^ (S.testBit p && i.testBit p))
    cases h : S.testBit p
    · rw [if_neg (by decide), ih, Bool.false_and, Bool.xor_false]
    · rw [if_pos rfl, e_xor, ih, e_withL (by omega) hi, Bool.true_and]
theorem f_cnS : f_all (fun S => f_cn S == f_cn (S / 64) + f_cn (S % 64)) = true := by decide +kernel
theorem f_cn_sp {S : Nat} (h : S < 4096) : f_cn S = f_cn (S / 64) + f_cn (S % 64) := eq_of_beq (f_all_at f_cnS h)
theorem f_prA : ∀ i : Fin 64, ∀ j : Fin 64, f_pr j.val i.val 6 = decide (f_cn (i.val &&& j.val) % 2 = 1) := by decide +kernel
theorem f_pr_m (S i : Nat) : ∀ p, p ≤ 6 → f_pr S i p = f_pr (S % 64) i p
  | 0, _ => rfl
  | p + 1, hp => by
    show (f_pr S i p ^^ (S.testBit p && i.testBit p)) = (f_pr (S % 64) i p ^^ ((S % 64).testBit p && i.testBit p))
    rw [f_pr_m S i p (by omega), show S % 64 = S % 2 ^ 6 from rfl, Nat.testBit_mod_two_pow, decide_eq_true (by omega), Bool.true_and]
theorem f_oddw {S w i : Nat} (hS : S < 4096) (hw : w < 64) (hi : i < 64) : decide (f_cn ((64 * w + i) &&& S) % 2 = 1) = (if f_cn ((S / 64) &&& w) % 2 = 0 then f_pr S i 6 else !f_pr S i 6) := by
  have e1 : ((64 * w + i) &&& S) / 64 = (S / 64) &&& w := by
    rw [show 64 = 2 ^ 6 from rfl, Nat.and_div_two_pow, Nat.and_comm]
    congr 1
    omega
  have e2 : ((64 * w + i) &&& S) % 64 = i &&& (S % 64) := by
    rw [show 64 = 2 ^ 6 from rfl, Nat.and_mod_two_pow]
    congr 1
    omega
  have hlt : (64 * w + i) &&& S < 4096 := Nat.lt_of_le_of_lt Nat.and_le_right hS
  have e3 : f_pr S i 6 = decide (f_cn (i &&& (S % 64)) % 2 = 1) := by
    rw [f_pr_m S i 6 (Nat.le_refl _)]
    exact f_prA ⟨i, hi⟩ ⟨S % 64, by omega⟩
  rw [f_cn_sp hlt, e1, e2, e3]
  generalize f_cn (S / 64 &&& w) = a
  generalize f_cn (i &&& S % 64) = b
  by_cases ha : a % 2 = 0
  · rw [if_pos ha]
    exact decide_eq_decide.mpr ⟨fun q => by omega, fun q => by omega⟩
  · rw [if_neg ha, ← decide_not]
    exact decide_eq_decide.mpr ⟨fun q => by omega, fun q => by omega⟩
theorem q_odd1 {S : Nat} (hS : S < 4096) (σ : zS) (K : Int64 → Option zS) : fX5_keepOdd_L5 σ (nI S) (fun x _ => K x) z_F 0 (nI 0) = K (e_od S 6) := by
  have h := z_up (fun n (x : Int64 × Int32) => fX5_keepOdd_L5 σ (nI S) (fun x _ => K x) n x.1 x.2) (fun i => (e_od S i, nI i)) 6 (K (e_od S 6)) ?_ (fun n => ?_) 0 z_F (Nat.zero_le _) (by show 6 < 5000 + 0; decide)
  · exact h
  · intro n i hi
    show fX5_keepOdd_L5 σ (nI S) _ (n + 1) (e_od S i) (nI i) = fX5_keepOdd_L5 σ (nI S) _ n (if S.testBit i then e_od S i ^^^ z_withL i else e_od S i) (nI (i + 1))
    rw [fX5_keepOdd_L5.eq_2, n_6, if_neg (z_nle hi (by decide)), nI_1]
    cases e : S.testBit i
    · rw [z_bd (q_hasP0 (by omega) (by omega) e), i_t, if_neg (by decide)]
    · rw [z_bd (q_hasP1 (by omega) (by omega) e), i_f, if_pos rfl, z_gd_t (t_in6 hi), z_ltE, nI_clamp (by omega)]
  · show fX5_keepOdd_L5 σ (nI S) _ (n + 1) _ (nI 6) = _
    rw [fX5_keepOdd_L5.eq_2, n_6, if_pos (nI_le (Nat.le_refl _) (by decide))]
theorem q_keepOdd {σ : zS} {q S : Nat} {T : Nat → Bool} (hS : S < 4096) (h : t_B (σ.2 (q + 2)) T) : ∃ g, fX5_keepOdd σ q (nI S) = some (z_fJ σ (q + 2) g) ∧ t_B g (fun s => T s && decide (f_cn (s &&& S) % 2 = 1)) := by
  refine ⟨z_mx (fun w => σ.2 (q + 2) w &&& (if f_cn ((S / 64) &&& w) % 2 = 0 then e_od S 6 else e_od S 6 ^^^ (-1 : Int64))) (σ.2 (q + 2)) 64, ?_, fun w i hw hi => ?_⟩
  · unfold fX5_keepOdd
    rw [z_i0, q_odd1 hS σ (fun x1 => z_lt (nI S >>> ((6 : Int32) &&& 31)) (fun (x3 : Int32) => fX5_keepOdd_L45 q x1 x3 (fun (w1 : zS) (x4 : Int32) => some w1) z_F σ (nI 0))), z_ltE, show nI S >>> ((6 : Int32) &&& 31) = nI (S / 64) from b_shr (p := 6) (by omega) (by decide)]
    have h2 := z_up (fun n (x : zS × Int32) => fX5_keepOdd_L45 q (e_od S 6) (nI (S / 64)) (fun w1 _ => some w1) n x.1 x.2) (fun i => (z_fJ σ (q + 2) (z_mx (fun w => σ.2 (q + 2) w &&& (if f_cn ((S / 64) &&& w) % 2 = 0 then e_od S 6 else e_od S 6 ^^^ (-1 : Int64))) (σ.2 (q + 2)) i), nI i)) 64 (some (z_fJ σ (q + 2) (z_mx (fun w => σ.2 (q + 2) w &&& (if f_cn ((S / 64) &&& w) % 2 = 0 then e_od S 6 else e_od S 6 ^^^ (-1 : Int64))) (σ.2 (q + 2)) 64))) ?_ (fun n => ?_) 0 z_F (Nat.zero_le _) (by show 64 < 5000 + 0; decide)
    · rw [z_mx_0, z_fJ_self] at h2
      exact h2
    · intro n i hi
      show fX5_keepOdd_L45 q (e_od S 6) (nI (S / 64)) _ (n + 1) (z_fJ σ (q + 2) (z_mx (fun w => σ.2 (q + 2) w &&& (if f_cn ((S / 64) &&& w) % 2 = 0 then e_od S 6 else e_od S 6 ^^^ (-1 : Int64))) (σ.2 (q + 2)) i)) (nI i) = fX5_keepOdd_L45 q (e_od S 6) (nI (S / 64)) _ n (z_fJ σ (q + 2) (z_mx (fun w => σ.2 (q + 2) w &&& (if f_cn ((S / 64) &&& w) % 2 = 0 then e_od S 6 else e_od S 6 ^^^ (-1 : Int64))) (σ.2 (q + 2)) (i + 1))) (nI (i + 1))
      have hlt : (S / 64) &&& i < 4096 := Nat.lt_of_le_of_lt Nat.and_le_right (by omega)
      have h12 := f_cn_le ((S / 64) &&& i)
      have ea : nI (f_cn ((S / 64) &&& i)) &&& (1 : Int32) = nI (f_cn ((S / 64) &&& i) % 2) := pk_andN (by omega) 1 (by decide)
      rw [← z_mx_updL, fX5_keepOdd_L45.eq_2, n_64, if_neg (z_nle hi (by decide)), z_gd_t (t_in64 hi), b_and, z_bd (q_cnt hlt), ea, z_gd_t (t_in64 hi), z_gd_t (t_in64 hi), z_ltE, z_ltE, nI_clamp (by omega), z_fJ_s, z_mx_out (Nat.le_refl i), z_sJ_fJ, z_sJ_fJ, nI_1]
      by_cases e : f_cn ((S / 64) &&& i) % 2 = 0
      · rw [e, if_pos nI_0, if_pos rfl]
      · rw [if_neg e, if_neg (nI_ne0 (by omega) (by omega))]
    · show fX5_keepOdd_L45 q (e_od S 6) (nI (S / 64)) _ (n + 1) _ (nI 64) = _
      rw [fX5_keepOdd_L45.eq_2, n_64, if_pos (nI_le (Nat.le_refl _) (by decide))]
  · show _ = (T (64 * w + i) && decide (f_cn ((64 * w + i) &&& S) % 2 = 1))
    rw [z_mx_in hw, e_and, h w i hw hi, f_oddw hS hw hi]
    congr 1
    by_cases e : f_cn ((S / 64) &&& w) % 2 = 0
    · rw [if_pos e, if_pos e, e_od_b hi 6 (Nat.le_refl _)]
    · rw [if_neg e, if_neg e, e_not hi, e_od_b hi 6 (Nat.le_refl _)]
theorem q_oddOf {σ : zS} {q q1 : Nat} {F : List (Nat × Nat)} (hX : h_X σ q1 F) (hw : h_wf F) : ∃ g, fX5_becomeOdd σ q q1 = some (z_fJ σ (q + 2) g) ∧ t_B g (fun s => F.all (fun x => decide (f_cn (s &&& x.1) % 2 = 1))) := by
  have hl := hw.1
  have key : ∀ (d k n : Nat) (g : Nat → Int64), k + d = F.length → d < n → t_B g (fun s => (F.take k).all (fun x => decide (f_cn (s &&& x.1) % 2 = 1))) → ∃ g', fX5_becomeOdd_L12 q q1 (fun w1 _ => some w1) n (z_fJ σ (q + 2) g) (nI k) = some (z_fJ σ (q + 2) g') ∧ t_B g' (fun s => F.all (fun x => decide (f_cn (s &&& x.1) % 2 = 1))) := by
    intro d
    induction d with
    | zero =>
      intro k n g h1 h2 h3
      obtain ⟨n, rfl⟩ : ∃ j, n = j + 1 := ⟨n - 1, by omega⟩
      have hk : k = F.length := by omega
      subst hk
      rw [List.take_length] at h3
      exact ⟨g, by rw [fX5_becomeOdd_L12.eq_2, z_fJ_1, hX.1, if_pos (nI_le (Nat.le_refl _) (by omega))], h3⟩
    | succ d ih =>
      intro k n g h1 h2 h3
      obtain ⟨n, rfl⟩ : ∃ j, n = j + 1 := ⟨n - 1, by omega⟩
      have hk : k < F.length := by omega
      have hx : F[k]? = some F[k] := List.getElem?_eq_getElem hk
      obtain ⟨g1, a1, a2⟩ := q_keepOdd (σ := z_fJ σ (q + 2) g) (q := q) (hw.2.1 _ (h_at hx).2).1 (by rw [z_fJ_s]; exact h3)
      rw [z_fJ_fJ] at a1
      obtain ⟨g2, b1, b2⟩ := ih (k + 1) n g1 (by omega) (by omega) (t_cg a2 (fun s _ => by
        rw [List.take_succ_eq_append_getElem hk, List.all_append, List.all_cons, List.all_nil, Bool.and_true]))
      refine ⟨g2, ?_, b2⟩
      rw [fX5_becomeOdd_L12.eq_2, z_fJ_1, hX.1, if_neg (z_nle hk (by omega)), z_gd_t (z_in_nI (by omega) (by decide)), nI_clamp (by omega), (hX.2 k _ hx).1, z_bd a1, nI_1]
      exact b1
  obtain ⟨g, a, b⟩ := key F.length 0 z_F (z_mx (fun _ => (-1 : Int64)) (σ.2 (q + 2)) 64) (by omega) (by show _ < 5000; omega) (t_cg t_f1 (fun s _ => by rw [List.take_zero, List.all_nil]))
  refine ⟨g, ?_, b⟩
  unfold fX5_becomeOdd
  rw [z_bd (q_fillJ σ (q + 2) 64 (-1) (by decide)), z_i0]
  exact a
