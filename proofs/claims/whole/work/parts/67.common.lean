/-! pure: what is common -/
def u_sm (p : Nat × Nat → Bool) : List (Nat × Nat) → Nat
  | [] => 0
  | x :: F => (if p x then x.2 else 0) + u_sm p F
theorem u_sm_app (p : Nat × Nat → Bool) : ∀ (A B : List (Nat × Nat)), u_sm p (A ++ B) = u_sm p A + u_sm p B
  | [], B => (Nat.zero_add _).symm
  | x :: A, B => by
    show (if p x then x.2 else 0) + u_sm p (A ++ B) = (if p x then x.2 else 0) + u_sm p A + u_sm p B
    rw [u_sm_app p A B, Nat.add_assoc]
theorem u_sm_c {p q : Nat × Nat → Bool} : ∀ {F : List (Nat × Nat)}, (∀ x, x ∈ F → p x = q x) → u_sm p F = u_sm q F
  | [], _ => rfl
  | x :: F, h => by
    show (if p x then x.2 else 0) + u_sm p F = (if q x then x.2 else 0) + u_sm q F
    rw [h x (List.mem_cons_self ..), u_sm_c (fun y hy => h y (List.mem_cons_of_mem _ hy))]
theorem u_sm_or {p q : Nat × Nat → Bool} : ∀ {F : List (Nat × Nat)}, (∀ x, x ∈ F → ¬ (p x = true ∧ q x = true)) → u_sm (fun x => p x || q x) F = u_sm p F + u_sm q F
  | [], _ => rfl
  | x :: F, h => by
    have ih := u_sm_or (F := F) (p := p) (q := q) (fun y hy => h y (List.mem_cons_of_mem _ hy))
    have h1 := h x (List.mem_cons_self ..)
    show (if (p x || q x) then x.2 else 0) + u_sm (fun x => p x || q x) F = (if p x then x.2 else 0) + u_sm p F + ((if q x then x.2 else 0) + u_sm q F)
    rw [ih]
    cases hp : p x <;> cases hq : q x <;> simp_all <;> omega
theorem u_sm_le {p q : Nat × Nat → Bool} : ∀ {F : List (Nat × Nat)}, (∀ x, x ∈ F → p x = true → q x = true) → u_sm p F ≤ u_sm q F
  | [], _ => Nat.le_refl _
  | x :: F, h => by
    have ih := u_sm_le (F := F) (p := p) (q := q) (fun y hy => h y (List.mem_cons_of_mem _ hy))
    have h1 := h x (List.mem_cons_self ..)
    show (if p x then x.2 else 0) + u_sm p F ≤ (if q x then x.2 else 0) + u_sm q F
    cases hp : p x <;> cases hq : q x <;> simp_all <;> omega
theorem u_sm_bd {p : Nat × Nat → Bool} : ∀ {F : List (Nat × Nat)}, (∀ x, x ∈ F → x.2 ≤ 99) → u_sm p F ≤ 99 * F.length
  | [], _ => Nat.le_refl _
  | x :: F, h => by
    have ih := u_sm_bd (F := F) (p := p) (fun y hy => h y (List.mem_cons_of_mem _ hy))
    have h1 := h x (List.mem_cons_self ..)
    show (if p x then x.2 else 0) + u_sm p F ≤ 99 * (F.length + 1)
    split <;> omega
theorem u_sm_wf {p : Nat × Nat → Bool} {F : List (Nat × Nat)} (hw : h_wf F) : u_sm p F ≤ 3960 := by
  have h := u_sm_bd (p := p) (fun x hx => (hw.2.1 x hx).2.2)
  have := hw.1
  omega
theorem u_sm_tk {p : Nat × Nat → Bool} {F : List (Nat × Nat)} {k : Nat} (hk : k < F.length) : u_sm p (F.take (k + 1)) = u_sm p (F.take k) + (if p F[k] then F[k].2 else 0) := by
  rw [List.take_succ_eq_append_getElem hk, u_sm_app]
  rfl
/-! the supports of a word -/
def t_I (g : Nat → Int32) (h : Nat → Nat) : Prop := ∀ i, i < 64 → g i = nI (h i)
def c_p (w : Nat) (x : Nat × Nat) : Bool := n_sub w (x.1 / 64)
theorem z_fIJ {σ : zS} {p q : Nat} {g g' : Nat → Int32} {e : Nat → Int64} : z_fI (z_fJ (z_fI σ p g) q e) p g' = z_fJ (z_fI σ p g') q e := by
  refine Prod.ext ?_ rfl
  show va_up (va_up σ.1 p g) p g' = va_up σ.1 p g'
  funext z
  unfold va_up
  split <;> rfl
theorem z_sI_self {σ : zS} {p k : Nat} {g : Nat → Int32} : z_sI (z_fI σ p g) p k (g k) = z_fI σ p g := by
  rw [z_sI_fI]
  congr 1
  funext j
  unfold upd
  by_cases h : j = k
  · rw [if_pos h, h]
  · rw [if_neg h]
section CW
variable {σ : zS} {q1 : Nat} {F : List (Nat × Nat)}
theorem q_cw1 (hX : h_X σ q1 F) (hw : h_wf F) (hq : q1 < 60) {w : Nat} (hw64 : w < 64) (K : zS → Int32 → Option (Int64 × zS)) : ∀ (d k n : Nat) (g : Nat → Int32), k + d = F.length → d < n → t_I g (fun i => u_sm (fun x => c_p w x && decide (i = x.1 % 64)) (F.take k)) → ∃ g', fX5_commonWord_L14 87 q1 (nI w) (fun w1 x1 _ => K w1 x1) n (z_fI σ 91 g) (nI (u_sm (c_p w) (F.take k))) (nI k) = K (z_fI σ 91 g') (nI (u_sm (c_p w) F)) ∧ t_I g' (fun i => u_sm (fun x => c_p w x && decide (i = x.1 % 64)) F) := by
  have hl := hw.1
  have r0 : ∀ g, (z_fI σ 91 g).1 q1 = σ.1 q1 := fun g => z_fI_n (by omega)
  have r9 : ∀ g, (z_fI σ 91 g).1 (q1 + 9) = σ.1 (q1 + 9) := fun g => z_fI_n (by omega)
  have r18 : ∀ g, (z_fI σ 91 g).1 (q1 + 18) = σ.1 (q1 + 18) := fun g => z_fI_n (by omega)
  intro d
  induction d with
  | zero =>
    intro k n g h1 h2 h3
    obtain ⟨n, rfl⟩ : ∃ j, n = j + 1 := ⟨n - 1, by omega⟩
    have hk : k = F.length := by omega
    subst hk
    rw [List.take_length] at h3 ⊢
    exact ⟨g, by rw [fX5_commonWord_L14.eq_2, r0, hX.1, if_pos (nI_le (Nat.le_refl _) (by omega))], h3⟩
  | succ d ih =>
    intro k n g h1 h2 h3
    obtain ⟨n, rfl⟩ : ∃ j, n = j + 1 := ⟨n - 1, by omega⟩
    have hk : k < F.length := by omega
    have hx : F[k]? = some F[k] := List.getElem?_eq_getElem hk
    have hb := (hw.2.1 _ (h_at hx).2).1
    have e6 : nI F[k].1 >>> ((6 : Int32) &&& 31) = nI (F[k].1 / 64) := b_shr (p := 6) (by omega) (by decide)
    rw [fX5_commonWord_L14.eq_2, r0, hX.1, if_neg (z_nle hk (by omega)), z_gd_t (z_in_nI (by omega) (by decide)), nI_clamp (by omega), r9, (hX.2 k _ hx).1, e6, z_bd (q_sub w (F[k].1 / 64)).1]
    have hcp : n_sub w (F[k].1 / 64) = c_p w F[k] := rfl
    rw [hcp]
    cases e : c_p w F[k]
    · have hm : u_sm (c_p w) (F.take (k + 1)) = u_sm (c_p w) (F.take k) := by
        rw [u_sm_tk hk, e]
        rfl
      obtain ⟨g', a1, a2⟩ := ih (k + 1) n g (by omega) (by omega) (fun i hi => by
        show g i = nI (u_sm (fun x => c_p w x && decide (i = x.1 % 64)) (F.take (k + 1)))
        rw [u_sm_tk hk, e, Bool.false_and]
        exact h3 i hi)
      refine ⟨g', ?_, a2⟩
      rw [if_pos (show o_b false = 0 from rfl), nI_1, ← a1, hm]
    · have hm : u_sm (c_p w) (F.take (k + 1)) = u_sm (c_p w) (F.take k) + F[k].2 := by
        rw [u_sm_tk hk, e]
        rfl
      have hlo : F[k].1 % 64 < 64 := by omega
      obtain ⟨g', a1, a2⟩ := ih (k + 1) n (upd g (F[k].1 % 64) (nI (u_sm (fun x => c_p w x && decide (F[k].1 % 64 = x.1 % 64)) (F.take k) + F[k].2))) (by omega) (by omega) (fun i hi => by
        show upd g (F[k].1 % 64) _ i = nI (u_sm (fun x => c_p w x && decide (i = x.1 % 64)) (F.take (k + 1)))
        rw [u_sm_tk hk, e, Bool.true_and]
        by_cases hi2 : i = F[k].1 % 64
        · rw [hi2, u_s, decide_eq_true rfl]
          rfl
        · rw [u_n hi2, decide_eq_false hi2]
          exact h3 i hi)
      refine ⟨g', ?_, a2⟩
      rw [if_neg (show ¬ o_b true = 0 by decide), z_gd_t (z_in_nI (by omega) (by decide)), t_lo hb, z_gd_t (t_in64 hlo), z_gd_t (z_in_nI (by omega) (by decide)), z_gd_t (t_in64 hlo), z_ltE, nI_clamp (show F[k].1 % 64 < 2 ^ 31 by omega), r18, (hX.2 k _ hx).2, z_fI_s, h3 _ hlo, nI_add, z_sI_fI, z_gd_t (z_in_nI (by omega) (by decide)), z_ltE, r18, (hX.2 k _ hx).2, nI_add, nI_1, ← a1, hm]
end CW
def s_ps (b : Nat) (g : Nat → Int32) (i w : Nat) : Int32 := if w.testBit b = false ∧ w < i then g w + g (w ^^^ 2 ^ b) else g w
theorem s_ps_0 (b : Nat) (g : Nat → Int32) : s_ps b g 0 = g := by
  funext w
  exact if_neg (fun q => Nat.not_lt_zero _ q.2)
theorem s_ps_t {b i : Nat} {g : Nat → Int32} (h : i.testBit b = true) : s_ps b g i = s_ps b g (i + 1) := by
  funext w
  unfold s_ps
  by_cases c : w.testBit b = false ∧ w < i
  · rw [if_pos c, if_pos ⟨c.1, by omega⟩]
  · rw [if_neg c, if_neg]
    intro q
    apply c
    refine ⟨q.1, ?_⟩
    have : w ≠ i := fun z => by
      rw [z, h] at q
      cases q.1
    omega
theorem s_ps_f {b i : Nat} {g : Nat → Int32} (h : i.testBit b = false) : upd (s_ps b g i) i (s_ps b g i i + s_ps b g i (i ^^^ 2 ^ b)) = s_ps b g (i + 1) := by
  have e1 : s_ps b g i i = g i := if_neg (fun q => Nat.lt_irrefl _ q.2)
  have e2 : s_ps b g i (i ^^^ 2 ^ b) = g (i ^^^ 2 ^ b) := if_neg (fun q => by
    have := q.1
    rw [n_xb, h] at this
    cases this)
  rw [e1, e2]
  funext w
  by_cases hw : w = i
  · subst hw
    rw [u_s]
    unfold s_ps
    rw [if_pos ⟨h, Nat.lt_succ_self _⟩]
  · rw [u_n hw]
    unfold s_ps
    by_cases c : w.testBit b = false ∧ w < i
    · rw [if_pos c, if_pos ⟨c.1, by omega⟩]
    · rw [if_neg c, if_neg (fun q => c ⟨q.1, by have := q.2; omega⟩)]
theorem n_anA : ∀ b : Fin 6, ∀ i : Fin 64, (nI i.val &&& nI (2 ^ b.val) = 0) ↔ i.val.testBit b.val = false := by decide +kernel
theorem q_cw2 {b : Nat} (hb : b < 6) (σ : zS) (K : zS → Option (Int64 × zS)) : fX5_commonWord_L104 87 (nI (2 ^ b)) (fun w1 _ => K w1) z_F σ (nI 0) = K (z_fI σ 91 (s_ps b (σ.1 91) 64)) := by
  have h := z_up (fun n (x : zS × Int32) => fX5_commonWord_L104 87 (nI (2 ^ b)) (fun w1 _ => K w1) n x.1 x.2) (fun i => (z_fI σ 91 (s_ps b (σ.1 91) i), nI i)) 64 (K (z_fI σ 91 (s_ps b (σ.1 91) 64))) ?_ (fun n => ?_) 0 z_F (Nat.zero_le _) (by show 64 < 5000 + 0; decide)
  · rw [s_ps_0, z_fI_self] at h
    exact h
  · intro n i hi
    have ha : (nI i &&& nI (2 ^ b) = 0) ↔ i.testBit b = false := n_anA ⟨b, hb⟩ ⟨i, hi⟩
    show fX5_commonWord_L104 87 (nI (2 ^ b)) _ (n + 1) (z_fI σ 91 (s_ps b (σ.1 91) i)) (nI i) = fX5_commonWord_L104 87 (nI (2 ^ b)) _ n (z_fI σ 91 (s_ps b (σ.1 91) (i + 1))) (nI (i + 1))
    rw [fX5_commonWord_L104.eq_2, n_64, if_neg (z_nle hi (by decide)), nI_1]
    cases e : i.testBit b
    · obtain ⟨_, e1, _, e2⟩ := n_tg hb hi
      have et : e_tg true b i = i ^^^ 2 ^ b := if_neg (by rw [e]; decide)
      rw [et] at e1 e2
      rw [if_pos (ha.mpr e), e1, z_gd_t (t_in64 hi), z_gd_t (t_in64 e2), z_gd_t (t_in64 hi), z_ltE, nI_clamp (show i < 2 ^ 31 by omega), nI_clamp (show i ^^^ 2 ^ b < 2 ^ 31 by omega), z_fI_s, z_sI_fI, s_ps_f e]
    · rw [if_neg (fun q => by rw [ha.mp q] at e; cases e), s_ps_t e]
  · show fX5_commonWord_L104 87 (nI (2 ^ b)) _ (n + 1) _ (nI 64) = _
    rw [fX5_commonWord_L104.eq_2, n_64, if_pos (nI_le (Nat.le_refl _) (by decide))]
def s_pp (g : Nat → Int32) : Nat → Nat → Int32
  | 0 => g
  | b + 1 => s_ps b (s_pp g b) 64
theorem q_cw3 (σ : zS) (K : zS → Option (Int64 × zS)) : fX5_commonWord_L94 87 (fun w1 _ => K w1) z_F σ (nI 1) = K (z_fI σ 91 (s_pp (σ.1 91) 6)) := by
  have h := z_up (fun n (x : zS × Int32) => fX5_commonWord_L94 87 (fun w1 _ => K w1) n x.1 x.2) (fun b => (z_fI σ 91 (s_pp (σ.1 91) b), nI (2 ^ b))) 6 (K (z_fI σ 91 (s_pp (σ.1 91) 6))) ?_ (fun n => ?_) 0 z_F (Nat.zero_le _) (by show 6 < 5000 + 0; decide)
  · have e0 : z_fI σ 91 (s_pp (σ.1 91) 0) = σ := z_fI_self
    rw [e0] at h
    exact h
  · intro n b hb
    show fX5_commonWord_L94 87 _ (n + 1) (z_fI σ 91 (s_pp (σ.1 91) b)) (nI (2 ^ b)) = fX5_commonWord_L94 87 _ n (z_fI σ 91 (s_ps b (s_pp (σ.1 91) b) 64)) (nI (2 ^ (b + 1)))
    rw [fX5_commonWord_L94.eq_2, n_64, if_neg (z_nle (n_p64 hb) (by decide)), z_i0, q_cw2 hb _ (fun w1 => z_lt (nI (2 ^ b) <<< ((1 : Int32) &&& 31)) (fun (x2 : Int32) => fX5_commonWord_L94 87 (fun w1 _ => K w1) n w1 x2)), z_ltE, n_db hb, z_fI_s, z_fI_fI]
  · show fX5_commonWord_L94 87 _ (n + 1) _ (nI 64) = _
    rw [fX5_commonWord_L94.eq_2, n_64, if_pos (nI_le (Nat.le_refl _) (by decide))]
theorem s_pp_b {w : Nat} {F : List (Nat × Nat)} {g : Nat → Int32} (h : t_I g (fun i => u_sm (fun x => c_p w x && decide (i = x.1 % 64)) F)) : ∀ b, b ≤ 6 → t_I (s_pp g b) (fun i => u_sm (fun x => c_p w x && t_mv false (fun u => decide (u = x.1 % 64)) b i) F)
  | 0, _ => h
  | b + 1, hb => by
    have ih := s_pp_b h b (by omega)
    intro i hi
    have hx := n_x64 hi (show b < 6 by omega)
    show s_ps b (s_pp g b) 64 i = nI (u_sm (fun x => c_p w x && (t_mv false (fun u => decide (u = x.1 % 64)) b i || ((i.testBit b == false) && t_mv false (fun u => decide (u = x.1 % 64)) b (i ^^^ 2 ^ b)))) F)
    unfold s_ps
    cases e : i.testBit b
    · rw [if_pos ⟨rfl, hi⟩, ih i hi, ih _ hx, nI_add, ← u_sm_or]
      · congr 1
        exact u_sm_c (fun x _ => by
          rw [← Bool.and_or_distrib_left]
          rfl)
      · intro x _ ⟨q1, q2⟩
        rw [Bool.and_eq_true] at q1 q2
        obtain ⟨t1, a1, b1⟩ := (t_mv_sp _ _ _ _).mp q1.2
        obtain ⟨t2, a2, b2⟩ := (t_mv_sp _ _ _ _).mp q2.2
        have a1 : t1 = x.1 % 64 := of_decide_eq_true a1
        have a2 : t2 = x.1 % 64 := of_decide_eq_true a2
        have c1 : i.testBit b = t1.testBit b := Classical.byContradiction fun z => Nat.lt_irrefl _ (b1 b z).1
        have c2 : (i ^^^ 2 ^ b).testBit b = t2.testBit b := Classical.byContradiction fun z => Nat.lt_irrefl _ (b2 b z).1
        rw [n_xb, a2, ← a1, ← c1, e] at c2
        cases c2
    · rw [if_neg (fun q => by cases q.1), ih i hi]
      congr 1
      exact u_sm_c (fun x _ => by
        rw [show ((true : Bool) == false) = false from rfl, Bool.false_and, Bool.or_false])
theorem c_fin {w i x : Nat} (hw : w < 64) (hi : i < 64) (hx : x < 4096) : (n_sub w (x / 64) && t_mv false (fun u => decide (u = x % 64)) 6 i) = n_sub (64 * w + i) x := by
  rw [Bool.eq_iff_iff, Bool.and_eq_true, n_sub_t (by omega) (by omega), t_mv_sp, n_sub_t (by omega) hx]
  have hd : ∀ j, (x / 64).testBit j = x.testBit (j + 6) := fun j => by
    rw [show 64 = 2 ^ 6 from rfl, Nat.testBit_div_two_pow]
  have hm : ∀ j, (x % 64).testBit j = (decide (j < 6) && x.testBit j) := fun j => by
    rw [show 64 = 2 ^ 6 from rfl, Nat.testBit_mod_two_pow]
  constructor
  · rintro ⟨h1, t, h2, h3⟩ j hj
    have h2 : t = x % 64 := of_decide_eq_true h2
    rcases Nat.lt_or_ge j 6 with q | q
    · rw [t_tb6 hi q] at hj
      cases e : x.testBit j
      · have := (h3 j (by rw [h2, hm, hj, e, Bool.and_false]; decide)).2
        rw [hj] at this
        cases this
      · rfl
    · obtain ⟨m, rfl⟩ : ∃ m, j = 6 + m := ⟨j - 6, by omega⟩
      rw [t_tb12 hi] at hj
      have := h1 m hj
      rw [hd, Nat.add_comm] at this
      exact this
  · intro h
    refine ⟨fun j hj => ?_, x % 64, decide_eq_true rfl, fun j hj => ?_⟩
    · rw [hd, Nat.add_comm]
      exact h (6 + j) (by rw [t_tb12 hi]; exact hj)
    · rw [hm] at hj
      rcases Nat.lt_or_ge j 6 with q | q
      · refine ⟨q, ?_⟩
        cases e : i.testBit j
        · rfl
        · have := h j (by rw [t_tb6 hi q]; exact e)
          rw [e, this, decide_eq_true q] at hj
          exact absurd rfl hj
      · rw [decide_eq_false (by omega), Nat.testBit_lt_two_pow (Nat.lt_of_lt_of_le hi (Nat.pow_le_pow_right (n := 2) (by decide) q))] at hj
        exact absurd rfl hj
def e_cw (g : Nat → Int32) (t : Int32) : Nat → Int64
  | 0 => 0
  | i + 1 => if g i < t then e_cw g t i else e_cw g t i ||| ((1 : Int64) <<< ((nI i).toInt64 &&& 63))
theorem e_cw_b {g : Nat → Int32} {t : Int32} {j : Nat} (hj : j < 64) : ∀ n, n ≤ 64 → e_b (e_cw g t n) j = (decide (j < n) && !decide (g j < t))
  | 0, _ => e_0 j
  | n + 1, hn => by
    have ih := e_cw_b (g := g) (t := t) hj n (by omega)
    show e_b (if g n < t then e_cw g t n else e_cw g t n ||| ((1 : Int64) <<< ((nI n).toInt64 &&& 63))) j = _
    by_cases c : g n < t
    · rw [if_pos c, ih]
      by_cases e : j = n
      · subst e
        rw [decide_eq_false (Nat.lt_irrefl j), decide_eq_true c, Bool.not_true, Bool.and_false, Bool.and_false]
      · congr 1
        exact decide_eq_decide.mpr ⟨fun q => by omega, fun q => by omega⟩
    · rw [if_neg c, e_or, ih, e_shl (by omega) hj, e_1, ← Bool.decide_and]
      by_cases e : j = n
      · subst e
        rw [decide_eq_true (show j ≤ j ∧ j - j = 0 by omega), decide_eq_false c, decide_eq_true (Nat.lt_succ_self j), Bool.or_true]
        rfl
      · rw [decide_eq_false (show ¬ (n ≤ j ∧ j - n = 0) by omega), Bool.or_false]
        congr 1
        exact decide_eq_decide.mpr ⟨fun q => by omega, fun q => by omega⟩
theorem q_cw4 (σ : zS) (t : Int32) (K : Int64 → Option (Int64 × zS)) : fX5_commonWord_L160 σ 87 t (fun x _ => K x) z_F 0 (nI 0) = K (e_cw (σ.1 91) t 64) := by
  have h := z_up (fun n (x : Int64 × Int32) => fX5_commonWord_L160 σ 87 t (fun x _ => K x) n x.1 x.2) (fun i => (e_cw (σ.1 91) t i, nI i)) 64 (K (e_cw (σ.1 91) t 64)) ?_ (fun n => ?_) 0 z_F (Nat.zero_le _) (by show 64 < 5000 + 0; decide)
  · exact h
  · intro n i hi
    show fX5_commonWord_L160 σ 87 t _ (n + 1) (e_cw (σ.1 91) t i) (nI i) = fX5_commonWord_L160 σ 87 t _ n (if σ.1 91 i < t then e_cw (σ.1 91) t i else e_cw (σ.1 91) t i ||| ((1 : Int64) <<< ((nI i).toInt64 &&& 63))) (nI (i + 1))
    rw [fX5_commonWord_L160.eq_2, n_64, if_neg (z_nle hi (by decide)), z_gd_t (t_in64 hi), nI_clamp (by omega), nI_1]
    by_cases c : σ.1 91 i < t
    · rw [if_pos c, if_pos c]
    · rw [if_neg c, if_neg c, z_ltE]
  · show fX5_commonWord_L160 σ 87 t _ (n + 1) _ (nI 64) = _
    rw [fX5_commonWord_L160.eq_2, n_64, if_pos (nI_le (Nat.le_refl _) (by decide))]
/-- SUPPORT -/
def f_su (F : List (Nat × Nat)) (s : Nat) : Nat := u_sm (fun x => n_sub s x.1) F
theorem q_cword {σ : zS} {q1 t w : Nat} {F : List (Nat × Nat)} (hX : h_X σ q1 F) (hw : h_wf F) (hq : q1 < 60) (ht : t ≤ 4000) (hw64 : w < 64) : ∃ x g, fX5_commonWord σ 87 q1 (nI t) (nI w) = some (x, z_fI σ 91 g) ∧ ∀ i, i < 64 → e_b x i = decide (t ≤ f_su F (64 * w + i)) := by
  have hl := hw.1
  have hfu : ∀ i, i < 64 → u_sm (fun x => c_p w x && t_mv false (fun u => decide (u = x.1 % 64)) 6 i) F = f_su F (64 * w + i) := fun i hi => u_sm_c (fun x hx => c_fin hw64 hi (hw.2.1 x hx).1)
  have hmo : ∀ i, i < 64 → f_su F (64 * w + i) ≤ u_sm (c_p w) F := fun i hi => by
    rw [← hfu i hi]
    exact u_sm_le (fun x _ q => (Bool.and_eq_true _ _ ▸ q).1)
  have hm := u_sm_wf (p := c_p w) hw
  unfold fX5_commonWord
  obtain ⟨g, a1, a2⟩ := q_cw1 hX hw hq hw64 (fun w1 x1 => (if nI t ≤ x1 then fX5_commonWord_L94 87 (fun (w2 : zS) (x3 : Int32) => fX5_commonWord_L160 w2 87 (nI t) (fun (x4 : Int64) (x5 : Int32) => some (x4, w2)) z_F (0 : Int64) (0 : Int32)) z_F w1 (1 : Int32) else some ((0 : Int64), w1))) F.length 0 z_F (z_mx (fun _ => 0) (σ.1 91) 64) (by omega) (by show _ < 5000; omega) (fun i hi => by
    rw [z_mx_in hi]
    rfl)
  have e1 : fX5_commonWord_L14 87 q1 (nI w) (fun (w1 : zS) (x1 : Int32) (x2 : Int32) => (if nI t ≤ x1 then fX5_commonWord_L94 87 (fun (w2 : zS) (x3 : Int32) => fX5_commonWord_L160 w2 87 (nI t) (fun (x4 : Int64) (x5 : Int32) => some (x4, w2)) z_F (0 : Int64) (0 : Int32)) z_F w1 (1 : Int32) else some ((0 : Int64), w1))) z_F (z_fI σ 91 (z_mx (fun _ => 0) (σ.1 91) 64)) (0 : Int32) (0 : Int32) = _ := a1
  rw [z_bd (q_fillI σ 91 64 0 (by decide)), e1]
  by_cases c : t ≤ u_sm (c_p w) F
  · refine ⟨e_cw (s_pp g 6) (nI t) 64, s_pp g 6, ?_, fun i hi => ?_⟩
    · rw [if_pos (nI_le c (by omega)), n_1, z_i0, q_cw3 _ (fun w2 => fX5_commonWord_L160 w2 87 (nI t) (fun (x4 : Int64) (x5 : Int32) => some (x4, w2)) z_F (0 : Int64) (nI 0)), z_fI_s, z_fI_fI, q_cw4 _ _ (fun x4 => some (x4, z_fI σ 91 (s_pp g 6))), z_fI_s]
    · have h6 : f_su F (64 * w + i) ≤ 3960 := u_sm_wf hw
      have hs6 : s_pp g 6 i = nI (f_su F (64 * w + i)) := (s_pp_b a2 6 (Nat.le_refl _) i hi).trans (congrArg nI (hfu i hi))
      rw [e_cw_b hi 64 (Nat.le_refl _), decide_eq_true hi, Bool.true_and, hs6, ← decide_not]
      refine decide_eq_decide.mpr ⟨fun q => ?_, fun q => nI_nlt q (by omega)⟩
      rcases Nat.lt_or_ge (f_su F (64 * w + i)) t with z | z
      · exact absurd (nI_lt z (by omega)) q
      · exact z
  · refine ⟨0, g, by rw [if_neg (z_nle (by omega) (by omega))], fun i hi => ?_⟩
    have := hmo i hi
    rw [e_0, decide_eq_false (by omega)]
theorem q_common {σ : zS} {q1 t : Nat} {F : List (Nat × Nat)} (hX : h_X σ q1 F) (hw : h_wf F) (hq : q1 < 60) (ht : t ≤ 4000) : ∃ g e, fX5_becomeCommon σ 87 q1 (nI t) = some (z_fJ (z_fI σ 91 g) 89 e) ∧ t_B e (fun s => decide (t ≤ f_su F s)) := by
  have key : ∀ (d k n : Nat) (g : Nat → Int32) (e : Nat → Int64), k + d = 64 → d < n → (∀ w i, w < k → i < 64 → e_b (e w) i = decide (t ≤ f_su F (64 * w + i))) → ∃ g' e', fX5_becomeCommon_L2 87 q1 (nI t) (fun w1 _ => some w1) n (z_fJ (z_fI σ 91 g) 89 e) (nI k) = some (z_fJ (z_fI σ 91 g') 89 e') ∧ t_B e' (fun s => decide (t ≤ f_su F s)) := by
    intro d
    induction d with
    | zero =>
      intro k n g e h1 h2 h3
      obtain ⟨n, rfl⟩ : ∃ j, n = j + 1 := ⟨n - 1, by omega⟩
      have hk : k = 64 := by omega
      subst hk
      exact ⟨g, e, by rw [fX5_becomeCommon_L2.eq_2, n_64, if_pos (nI_le (Nat.le_refl _) (by decide))], fun w i hw' hi => h3 w i hw' hi⟩
    | succ d ih =>
      intro k n g e h1 h2 h3
      obtain ⟨n, rfl⟩ : ∃ j, n = j + 1 := ⟨n - 1, by omega⟩
      have hk : k < 64 := by omega
      have hX' : h_X (z_fJ (z_fI σ 91 g) 89 e) q1 F := h_X_c hX (z_fI_n (by omega)) (z_fI_n (by omega)) (z_fI_n (by omega))
      obtain ⟨x, g1, a1, a2⟩ := q_cword hX' hw hq ht hk
      rw [z_fIJ] at a1
      obtain ⟨g2, e2, b1, b2⟩ := ih (k + 1) n g1 (vp_updL e k x) (by omega) (by omega) (fun w i hw' hi => by
        by_cases q : w = k
        · rw [q, pk_uLs]
          exact a2 i hi
        · rw [pk_uLn q]
          exact h3 w i (by omega) hi)
      refine ⟨g2, e2, ?_, b2⟩
      rw [fX5_becomeCommon_L2.eq_2, n_64, if_neg (z_nle hk (by decide)), z_bd a1, z_gd_t (t_in64 hk), z_ltE, nI_clamp (by omega), z_sJ_fJ, nI_1]
      exact b1
  have h0 : z_fJ (z_fI σ 91 (σ.1 91)) 89 (σ.2 89) = σ := by rw [z_fI_self, z_fJ_self]
  obtain ⟨g, e, a, b⟩ := key 64 0 z_F (σ.1 91) (σ.2 89) (by omega) (by show _ < 5000; omega) (fun w i hw' => absurd hw' (Nat.not_lt_zero w))
  rw [h0] at a
  exact ⟨g, e, a, b⟩
