/-! pure: rows of sets, the point that is in most -/
def w_p (L : List Nat) : List (Nat × Nat) := L.map (fun s => (s, 0))
theorem w_p_len (L : List Nat) : (w_p L).length = L.length := List.length_map ..
theorem w_p_at {L : List Nat} {k : Nat} {x : Nat × Nat} (h : (w_p L)[k]? = some x) : L[k]? = some x.1 := by
  unfold w_p at h
  rw [List.getElem?_map] at h
  cases e : L[k]? with
  | none =>
    rw [e] at h
    cases h
  | some y =>
    rw [e] at h
    cases h
    rfl
theorem w_p_mem {L : List Nat} {x : Nat × Nat} (h : x ∈ w_p L) : x.1 ∈ L := by
  unfold w_p at h
  obtain ⟨s, hs, rfl⟩ := List.mem_map.mp h
  exact hs
def w_ct (p : Nat) (L : List Nat) : Nat := L.countP (fun s => s.testBit p)
theorem f_oft_c (p : Nat) (L : List Nat) : f_oft p (w_p L) = nI (w_ct p L) := by
  have key : ∀ (L : List Nat) (a : Nat), (w_p L).foldl (fun a x => if x.1.testBit p then a + 1 else a) (nI a) = nI (a + w_ct p L) := by
    intro L
    induction L with
    | nil => intro a; rfl
    | cons s L ih =>
      intro a
      show (w_p L).foldl (fun a x => if x.1.testBit p then a + 1 else a) (if s.testBit p then nI a + 1 else nI a) = nI (a + (s :: L).countP (fun s => s.testBit p))
      rw [List.countP_cons]
      cases e : s.testBit p
      · rw [if_neg (by decide), ih a]
        rfl
      · rw [if_pos rfl, nI_1, ih (a + 1)]
        congr 1
        show a + 1 + w_ct p L = a + (w_ct p L + 1)
        omega
  have := key L 0
  rw [Nat.zero_add] at this
  exact this
def w_top (L : List Nat) : Int32 := (f_top (w_p L) 12).1
theorem w_ct_le (p : Nat) (L : List Nat) : w_ct p L ≤ L.length := List.countP_le_length
theorem f_top_c {L : List Nat} (hl : L.length ≤ 40) : ∀ n, (f_top (w_p L) n = (-1, 0) ∧ ∀ p, p < n → w_ct p L = 0) ∨ ∃ p, p < n ∧ f_top (w_p L) n = (nI p, nI (w_ct p L)) ∧ 0 < w_ct p L
  | 0 => Or.inl ⟨rfl, fun p hp => absurd hp (Nat.not_lt_zero p)⟩
  | n + 1 => by
    have hc := w_ct_le n L
    show (((if f_oft n (w_p L) ≤ (f_top (w_p L) n).2 then f_top (w_p L) n else (nI n, f_oft n (w_p L))) = (-1, 0)) ∧ _) ∨ ∃ p, p < n + 1 ∧ (if f_oft n (w_p L) ≤ (f_top (w_p L) n).2 then f_top (w_p L) n else (nI n, f_oft n (w_p L))) = _ ∧ _
    rw [f_oft_c]
    rcases f_top_c hl n with ⟨a, b⟩ | ⟨p, a, b, c⟩
    · rw [a]
      rcases Nat.eq_zero_or_pos (w_ct n L) with e | e
      · left
        rw [e, if_pos (by decide)]
        exact ⟨rfl, fun p hp => by
          by_cases q : p = n
          · rw [q, e]
          · exact b p (by omega)⟩
      · right
        refine ⟨n, Nat.lt_succ_self n, ?_, e⟩
        rw [if_neg (show ¬ nI (w_ct n L) ≤ (0 : Int32) from z_nle (b := 0) e (by omega))]
    · right
      have hp := w_ct_le p L
      rw [b]
      by_cases q : w_ct n L ≤ w_ct p L
      · exact ⟨p, by omega, by rw [if_pos (nI_le q (by omega))], c⟩
      · exact ⟨n, Nat.lt_succ_self n, by rw [if_neg (z_nle (by omega) (by omega))], by omega⟩
/-- no point at all, or one that some set has -/
theorem w_top_c {L : List Nat} (hl : L.length ≤ 40) (hb : ∀ x, x ∈ L → x < 4096) : (w_top L = -1 ∧ ∀ x, x ∈ L → x = 0) ∨ ∃ p, p < 12 ∧ w_top L = nI p ∧ ∃ x, x ∈ L ∧ x.testBit p = true := by
  unfold w_top
  rcases f_top_c hl 12 with ⟨a, b⟩ | ⟨p, a, b, c⟩
  · rw [a]
    refine Or.inl ⟨rfl, fun x hx => Nat.eq_of_testBit_eq (fun i => ?_)⟩
    rw [Nat.zero_testBit]
    rcases Nat.lt_or_ge i 12 with q | q
    · have := List.countP_eq_zero.mp (b i q) x hx
      cases e : x.testBit i
      · rfl
      · exact absurd e this
    · exact b_hi (hb x hx) q
  · rw [b]
    obtain ⟨x, hx, e⟩ := List.countP_pos_iff.mp c
    exact Or.inr ⟨p, a, rfl, x, hx, e⟩
theorem w_top_e {A B : List Nat} (h : A.Perm B) : w_top A = w_top B := by
  have key : ∀ n, f_top (w_p A) n = f_top (w_p B) n := by
    intro n
    induction n with
    | zero => rfl
    | succ n ih =>
      show (if f_oft n (w_p A) ≤ (f_top (w_p A) n).2 then f_top (w_p A) n else (nI n, f_oft n (w_p A))) = (if f_oft n (w_p B) ≤ (f_top (w_p B) n).2 then f_top (w_p B) n else (nI n, f_oft n (w_p B)))
      rw [ih, f_oft_c, f_oft_c]
      unfold w_ct
      rw [h.countP_eq]
  unfold w_top
  rw [key]
/-- a row holds a list -/
def w_row (r : Nat → Int32) (L : List Nat) : Prop := ∀ k x, L[k]? = some x → r k = nI x
theorem q_topL {σ : zS} {q : Nat} {L : List Nat} (hr : w_row (σ.1 q) L) (hl : L.length ≤ 40) (hb : ∀ x, x ∈ L → x < 4096) : fX7_topPoint σ q (nI L.length) = some (w_top L) := by
  have := q_top (σ := σ) (q := q) (F := w_p L) (fun k x hx => hr k x.1 (w_p_at hx)) (by rw [w_p_len]; exact hl) (fun x hx => hb _ (w_p_mem hx))
  rw [w_p_len] at this
  exact this
theorem r_topL {μ : zS} {l : Nat} {L : List Nat} (hr : w_row (fun k => μ.1 16 (40 * l + k)) L) (hl : L.length ≤ 40) (hb : ∀ x, x ∈ L → x < 4096) (hl13 : l ≤ 13) : fX8_topOf μ (nI l) (nI L.length) = some (w_top L) := by
  have inner : ∀ (p : Nat), p < 12 → ∀ (K : Int32 → Option Int32), fX8_topOf_L21 μ (nI l) (nI L.length) (nI p) (fun x1 _ => K x1) z_F 0 0 = K (f_oft p (w_p L)) := by
    intro p hp K
    unfold f_oft
    have h := z_fold (fun n (a : Int32) v => fX8_topOf_L21 μ (nI l) (nI L.length) (nI p) (fun x1 _ => K x1) n a v) (w_p L) (fun a x => if x.1.testBit p then a + 1 else a) (fun a => K a) ?_ ?_ z_F 0 (by rw [w_p_len]; show _ < 5000; omega)
    · exact h
    · intro n k x a hx
      have hx' := w_p_at hx
      have hk := (List.getElem?_eq_some_iff.mp hx').1
      have hb := hb x.1 (List.mem_of_getElem? hx')
      show fX8_topOf_L21 μ (nI l) (nI L.length) (nI p) _ (n + 1) a (nI k) = fX8_topOf_L21 μ (nI l) (nI L.length) (nI p) _ n _ (nI (k + 1))
      rw [fX8_topOf_L21.eq_2, if_neg (z_nle hk (by omega)), n_40k, z_gd_t (z_in_nI (by omega) (by decide)), nI_clamp (by omega), show μ.1 16 (40 * l + k) = nI x.1 from hr k x.1 hx', b_bit (by omega) (by omega), z_ltE, nI_1]
      cases e : x.1.testBit p
      · rw [if_neg (by decide), if_neg (by decide), Int32.add_zero]
      · rw [if_pos rfl, if_pos rfl]
    · intro n a
      show fX8_topOf_L21 μ (nI l) (nI L.length) (nI p) _ (n + 1) a (nI (w_p L).length) = _
      rw [w_p_len, fX8_topOf_L21.eq_2, if_pos (nI_le (Nat.le_refl _) (by omega))]
  unfold fX8_topOf w_top
  have h := z_up (fun n (s : Int32 × Int32 × Int32) => fX8_topOf_L8 μ (nI l) (nI L.length) (fun x1 _ _ => some x1) n s.1 s.2.1 s.2.2) (fun i => ((f_top (w_p L) i).1, (f_top (w_p L) i).2, nI i)) 12 (some (f_top (w_p L) 12).1) ?_ (fun n => ?_) 0 z_F (Nat.zero_le _) (by show 12 < 5000 + 0; decide)
  · exact h
  · intro n i hi
    show fX8_topOf_L8 μ (nI l) (nI L.length) _ (n + 1) (f_top (w_p L) i).1 (f_top (w_p L) i).2 (nI i) = fX8_topOf_L8 μ (nI l) (nI L.length) _ n (if f_oft i (w_p L) ≤ (f_top (w_p L) i).2 then f_top (w_p L) i else (nI i, f_oft i (w_p L))).1 (if f_oft i (w_p L) ≤ (f_top (w_p L) i).2 then f_top (w_p L) i else (nI i, f_oft i (w_p L))).2 (nI (i + 1))
    rw [fX8_topOf_L8.eq_2, n_12, if_neg (z_nle hi (by decide)), inner i hi (fun x1 => (if x1 ≤ (f_top (w_p L) i).2 then (if x1 ≤ (f_top (w_p L) i).2 then fX8_topOf_L8 μ (nI l) (nI L.length) (fun x1 _ _ => some x1) n (f_top (w_p L) i).1 (f_top (w_p L) i).2 (nI i + (1 : Int32)) else fX8_topOf_L8 μ (nI l) (nI L.length) (fun x1 _ _ => some x1) n (f_top (w_p L) i).1 x1 (nI i + (1 : Int32))) else (if x1 ≤ (f_top (w_p L) i).2 then fX8_topOf_L8 μ (nI l) (nI L.length) (fun x1 _ _ => some x1) n (nI i) (f_top (w_p L) i).2 (nI i + (1 : Int32)) else fX8_topOf_L8 μ (nI l) (nI L.length) (fun x1 _ _ => some x1) n (nI i) x1 (nI i + (1 : Int32))))), nI_1]
    by_cases e : f_oft i (w_p L) ≤ (f_top (w_p L) i).2
    · rw [if_pos e, if_pos e, if_pos e]
    · rw [if_neg e, if_neg e, if_neg e]
  · show fX8_topOf_L8 μ (nI l) (nI L.length) _ (n + 1) _ _ (nI 12) = _
    rw [fX8_topOf_L8.eq_2, n_12, if_pos (nI_le (Nat.le_refl _) (by decide))]
/-! a set without a point -/
def n_rm (p s : Nat) : Nat := if s.testBit p then s ^^^ 2 ^ p else s
theorem n_rm_b (p s i : Nat) : (n_rm p s).testBit i = (s.testBit i && !decide (i = p)) := by
  unfold n_rm
  cases e : s.testBit p
  · rw [if_neg (by decide)]
    by_cases q : i = p
    · rw [q, e]
      rfl
    · rw [decide_eq_false q, Bool.not_false, Bool.and_true]
  · rw [if_pos rfl]
    by_cases q : i = p
    · rw [q, n_xb, e, decide_eq_true rfl]
      rfl
    · rw [n_xo q, decide_eq_false q, Bool.not_false, Bool.and_true]
theorem n_rm_lt {p s : Nat} (hp : p < 12) (hs : s < 4096) : n_rm p s < 4096 := by
  unfold n_rm
  split
  · exact n_xs hs hp
  · exact hs
theorem b_rm {p s : Nat} (hp : p < 12) (hs : s < 4096) : nI s &&& (((1 : Int32) <<< (nI p &&& 31)) ^^^ (-1 : Int32)) = nI (n_rm p s) := by
  have e1 : (-1 : Int32) = nI (2 ^ 32 - 1) := by decide +kernel
  rw [b_one (by omega), e1, b_xor, b_and]
  congr 1
  apply Nat.eq_of_testBit_eq
  intro i
  rw [n_rm_b, Nat.testBit_and, Nat.testBit_xor, Nat.testBit_two_pow, Nat.testBit_two_pow_sub_one]
  rcases Nat.lt_or_ge i 12 with q | q
  · rw [decide_eq_true (show i < 32 by omega), Bool.xor_true]
    congr 2
    exact decide_eq_decide.mpr ⟨fun z => z.symm, fun z => z.symm⟩
  · rw [b_hi hs q, Bool.false_and, Bool.false_and]
/-! least ones of a list -/
def w_ac (A : List Nat) : Prop := ∀ x y, x ∈ A → y ∈ A → n_sub x y = true → x = y
def w_mn (C : List Nat) (y : Nat) : Prop := y ∈ C ∧ ∀ z, z ∈ C → n_sub z y = true → z = y
def w_R (p : Nat) (A : List Nat) : List Nat := (A.filter (fun s => s.testBit p)).map (n_rm p)
def w_1 (p : Nat) (A : List Nat) : List Nat := A.filter (fun s => !s.testBit p)
def w_2 (p : Nat) (A : List Nat) : List Nat := w_R p A ++ (w_1 p A).filter (fun s => !(w_R p A).any (fun r => n_sub r s))
theorem n_sub_rf {x : Nat} (h : x < 4096) : n_sub x x = true := (n_sub_t h h).mpr (fun _ q => q)
theorem w_R_mem {p : Nat} {A : List Nat} {y : Nat} : y ∈ w_R p A ↔ ∃ x, x ∈ A ∧ x.testBit p = true ∧ n_rm p x = y := by
  unfold w_R
  rw [List.mem_map]
  constructor
  · rintro ⟨x, hx, e⟩
    rw [List.mem_filter] at hx
    exact ⟨x, hx.1, hx.2, e⟩
  · rintro ⟨x, h1, h2, e⟩
    exact ⟨x, List.mem_filter.mpr ⟨h1, h2⟩, e⟩
theorem w_1_mem {p : Nat} {A : List Nat} {y : Nat} : y ∈ w_1 p A ↔ y ∈ A ∧ y.testBit p = false := by
  unfold w_1
  rw [List.mem_filter, Bool.not_eq_true']
theorem n_rm_0 {p x : Nat} (h : x.testBit p = false) : n_rm p x = x := by
  unfold n_rm
  rw [if_neg (by rw [h]; decide)]
section RED
variable {p : Nat} {A : List Nat}
theorem w_2_mem (hp : p < 12) (hb : ∀ x, x ∈ A → x < 4096) (hac : w_ac A) (y : Nat) : y ∈ w_2 p A ↔ w_mn (A.map (n_rm p)) y := by
  have sub1 : ∀ x z, x ∈ A → z ∈ A → x.testBit p = true → z.testBit p = true → n_sub (n_rm p z) (n_rm p x) = true → z = x := by
    intro x z hx hz ex ez h
    refine hac z x hz hx ((n_sub_t (hb z hz) (hb x hx)).mpr (fun i hi => ?_))
    by_cases q : i = p
    · rw [q]
      exact ex
    · have := (n_sub_t (n_rm_lt hp (hb z hz)) (n_rm_lt hp (hb x hx))).mp h i (by rw [n_rm_b, hi, decide_eq_false q]; rfl)
      rw [n_rm_b, Bool.and_eq_true] at this
      exact this.1
  have sub2 : ∀ x z, x ∈ A → z ∈ A → x.testBit p = true → z.testBit p = false → ¬ n_sub z (n_rm p x) = true := by
    intro x z hx hz ex ez h
    have : z = x := hac z x hz hx ((n_sub_t (hb z hz) (hb x hx)).mpr (fun i hi => by
      have := (n_sub_t (hb z hz) (n_rm_lt hp (hb x hx))).mp h i hi
      rw [n_rm_b, Bool.and_eq_true] at this
      exact this.1))
    rw [this, ex] at ez
    cases ez
  unfold w_2 w_mn
  rw [List.mem_append]
  constructor
  · rintro (h | h)
    · obtain ⟨x, h1, h2, rfl⟩ := w_R_mem.mp h
      refine ⟨List.mem_map.mpr ⟨x, h1, rfl⟩, fun z hz hs => ?_⟩
      obtain ⟨y, hy, rfl⟩ := List.mem_map.mp hz
      cases ey : y.testBit p
      · rw [n_rm_0 ey] at hs
        exact absurd hs (sub2 x y h1 hy h2 ey)
      · rw [sub1 x y h1 hy h2 ey hs]
    · rw [List.mem_filter, w_1_mem, Bool.not_eq_true', List.any_eq_false] at h
      obtain ⟨⟨h1, h2⟩, h3⟩ := h
      refine ⟨List.mem_map.mpr ⟨y, h1, n_rm_0 h2⟩, fun z hz hs => ?_⟩
      obtain ⟨x, hx, rfl⟩ := List.mem_map.mp hz
      cases ex : x.testBit p
      · rw [n_rm_0 ex] at hs ⊢
        exact hac x y hx h1 hs
      · exact absurd hs (h3 _ (w_R_mem.mpr ⟨x, hx, ex, rfl⟩))
  · rintro ⟨h1, h2⟩
    obtain ⟨x, hx, rfl⟩ := List.mem_map.mp h1
    cases ex : x.testBit p
    · right
      rw [n_rm_0 ex] at h2 ⊢
      rw [List.mem_filter, w_1_mem, Bool.not_eq_true', List.any_eq_false]
      refine ⟨⟨hx, ex⟩, fun r hr hs => ?_⟩
      obtain ⟨z, hz, ez, rfl⟩ := w_R_mem.mp hr
      have e := h2 _ (List.mem_map.mpr ⟨z, hz, rfl⟩) hs
      have : x = z := hac x z hx hz ((n_sub_t (hb x hx) (hb z hz)).mpr (fun i hi => by
        rw [← e, n_rm_b, Bool.and_eq_true] at hi
        exact hi.1))
      rw [this, ez] at ex
      cases ex
    · exact Or.inl (w_R_mem.mpr ⟨x, hx, ex, rfl⟩)
theorem w_2_nd (hp : p < 12) (hb : ∀ x, x ∈ A → x < 4096) (hnd : A.Nodup) : (w_2 p A).Nodup := by
  unfold w_2
  rw [List.nodup_append]
  refine ⟨?_, ?_, fun a ha b hb' e => ?_⟩
  · unfold w_R
    rw [List.Nodup, List.pairwise_map]
    refine List.Pairwise.imp_of_mem (fun {a b} ha hb' hab e => hab ?_) (List.Pairwise.filter _ hnd)
    have ha := (List.mem_filter.mp ha).2
    have hb' := (List.mem_filter.mp hb').2
    apply Nat.eq_of_testBit_eq
    intro i
    by_cases q : i = p
    · rw [q, ha, hb']
    · have h1 := n_rm_b p a i
      have h2 := n_rm_b p b i
      rw [e, h2, decide_eq_false q, Bool.not_false, Bool.and_true, Bool.and_true] at h1
      exact h1.symm
  · exact List.Nodup.sublist (List.filter_sublist) (List.Nodup.sublist List.filter_sublist hnd)
  · rw [List.mem_filter, Bool.not_eq_true', List.any_eq_false] at hb'
    obtain ⟨x, hx, ex, rfl⟩ := w_R_mem.mp ha
    exact hb'.2 _ ha (by rw [← e]; exact n_sub_rf (n_rm_lt hp (hb x hx)))
theorem w_2_le : (w_2 p A).length ≤ A.length := by
  unfold w_2 w_R w_1
  rw [List.length_append, List.length_map]
  have h1 : (A.filter (fun s => s.testBit p)).length + (A.filter (fun s => !s.testBit p)).length = A.length := by
    induction A with
    | nil => rfl
    | cons x A ih =>
      rw [List.filter_cons, List.filter_cons]
      cases x.testBit p <;> simp <;> omega
  have h2 := List.length_filter_le (fun s => !((A.filter (fun s => s.testBit p)).map (n_rm p)).any (fun r => n_sub r s)) (A.filter (fun s => !s.testBit p))
  omega
end RED
