/-! pure: the reference: what is wanted, what hits it, which are least -/
def r_W (μ : zS) (W : List Nat) : Prop := μ.1 0 16 = nI W.length ∧ ∀ k x, W[k]? = some x → μ.1 14 k = nI x
theorem r_wants {μ : zS} {f : Nat} {F : List (Nat × Nat)} (hf : f < 4) (hM : h_M μ f F) (hl : F.length ≤ 40) : ∃ ν, fX8_wants μ (nI f) = some ν ∧ r_W ν (F.map Prod.fst) ∧ n_M μ ν := by
  refine ⟨z_fI (z_sI μ 0 16 (nI F.length)) 14 (z_mx (fun k => μ.1 3 (40 * f + k)) ((z_sI μ 0 16 (nI F.length)).1 14) F.length), ?_, ⟨?_, ?_⟩, ?_, ?_, rfl⟩
  · unfold fX8_wants
    rw [z_gd_t (r_f4 hf), r_sz hf hM, z_ltE, z_i0]
    have h := z_up (fun n (x : zS × Int32) => fX8_wants_L12 (nI f) (fun w2 _ => some w2) n x.1 x.2) (fun i => (z_fI (z_sI μ 0 16 (nI F.length)) 14 (z_mx (fun k => μ.1 3 (40 * f + k)) ((z_sI μ 0 16 (nI F.length)).1 14) i), nI i)) F.length (some (z_fI (z_sI μ 0 16 (nI F.length)) 14 (z_mx (fun k => μ.1 3 (40 * f + k)) ((z_sI μ 0 16 (nI F.length)).1 14) F.length))) ?_ (fun n => ?_) 0 z_F (Nat.zero_le _) (by show F.length < 5000 + 0; omega)
    · rw [z_mx_0, z_fI_self] at h
      exact h
    · intro n i hi
      show fX8_wants_L12 (nI f) _ (n + 1) (z_fI (z_sI μ 0 16 (nI F.length)) 14 (z_mx (fun k => μ.1 3 (40 * f + k)) ((z_sI μ 0 16 (nI F.length)).1 14) i)) (nI i) = fX8_wants_L12 (nI f) _ n (z_fI (z_sI μ 0 16 (nI F.length)) 14 (z_mx (fun k => μ.1 3 (40 * f + k)) ((z_sI μ 0 16 (nI F.length)).1 14) (i + 1))) (nI (i + 1))
      rw [fX8_wants_L12.eq_2, z_gd_t (r_f4 hf), nI_clamp (show f < 2 ^ 31 by omega), z_fI_n (show 2 ≠ 14 by decide), z_rd_n (show 2 ≠ 0 by decide), hM.1, if_neg (z_nle hi (by omega)), z_bd (r_setOf hf (by omega)), z_gd_t (z_in_nI (by omega) (by decide)), z_ltE, nI_clamp (by omega), z_fI_n (show 3 ≠ 14 by decide), z_rd_n (show 3 ≠ 0 by decide), z_sI_fI, nI_1]
      exact congrArg (fun z => fX8_wants_L12 (nI f) (fun w2 _ => some w2) n (z_fI (z_sI μ 0 16 (nI F.length)) 14 z) (nI (i + 1))) (z_mx_upd (fun k => μ.1 3 (40 * f + k)) _ i)
    · show fX8_wants_L12 (nI f) _ (n + 1) _ (nI F.length) = _
      rw [fX8_wants_L12.eq_2, z_gd_t (r_f4 hf), nI_clamp (show f < 2 ^ 31 by omega), z_fI_n (show 2 ≠ 14 by decide), z_rd_n (show 2 ≠ 0 by decide), hM.1, if_pos (nI_le (Nat.le_refl _) (by omega))]
  · rw [z_fI_n (show 0 ≠ 14 by decide), z_rd_s, u_s, List.length_map]
  · intro k x hx
    rw [List.getElem?_map] at hx
    cases e : F[k]? with
    | none =>
      rw [e] at hx
      cases hx
    | some y =>
      rw [e] at hx
      cases hx
      rw [z_fI_s, z_mx_in (h_at e).1]
      exact h_M1 hM e
  · intro p hp
    rw [z_fI_n (by omega), z_rd_n (by omega)]
  · intro k hk
    rw [z_fI_n (by decide), z_rd_s, u_n (by omega)]
/-- what all one-point meetings have together -/
def f_ned (s : Nat) (a w : Nat) : Nat := if (w &&& s) &&& ((w &&& s) - 1) = 0 then a ||| (w &&& s) else a
theorem f_ned_b (s p : Nat) : ∀ (W : List Nat) (a : Nat), (W.foldl (f_ned s) a).testBit p = (a.testBit p || W.any (fun w => decide ((w &&& s) &&& ((w &&& s) - 1) = 0) && (w &&& s).testBit p))
  | [], a => by rw [List.any_nil, Bool.or_false]; rfl
  | w :: W, a => by
    show (W.foldl (f_ned s) (f_ned s a w)).testBit p = _
    rw [f_ned_b s p W (f_ned s a w), List.any_cons]
    unfold f_ned
    by_cases h : (w &&& s) &&& ((w &&& s) - 1) = 0
    · rw [if_pos h, decide_eq_true h, Nat.testBit_or, Bool.true_and, Bool.or_assoc]
    · rw [if_neg h, decide_eq_false h, Bool.false_and, Bool.false_or]
theorem n_pow {b p : Nat} (h : b &&& (b - 1) = 0) (hp : b.testBit p = true) : b = 2 ^ p := by
  obtain ⟨j, h1, h2⟩ := pk_least (fun i => b.testBit i = true) ⟨p, hp⟩
  have h2' : ∀ i, i < j → b.testBit i = false := fun i hi => by
    cases e : b.testBit i
    · rfl
    · exact absurd e (h2 i hi)
  have hc := e_clr h1 h2'
  rw [h] at hc
  apply Nat.eq_of_testBit_eq
  intro i
  have e1 := hc i
  rw [Nat.zero_testBit] at e1
  have e2 := hc p
  rw [Nat.zero_testBit, hp] at e2
  have hpj : p = j := by
    by_cases q : p = j
    · exact q
    · rw [if_neg q] at e2
      cases e2
  rw [Nat.testBit_two_pow]
  by_cases q : i = j
  · rw [q, h1, hpj, decide_eq_true rfl]
  · rw [if_neg q] at e1
    rw [← e1, decide_eq_false (by omega)]
theorem n_2pow (p : Nat) : 2 ^ p &&& (2 ^ p - 1) = 0 := by
  apply Nat.eq_of_testBit_eq
  intro i
  rw [Nat.testBit_and, Nat.testBit_two_pow, Nat.testBit_two_pow_sub_one, Nat.zero_testBit]
  by_cases q : p = i
  · rw [decide_eq_false (show ¬ i < p by omega), Bool.and_false]
  · rw [decide_eq_false q, Bool.false_and]
theorem t_hit_f {W : List Nat} {s : Nat} : t_hit W s = false ↔ ∃ w, w ∈ W ∧ w &&& s = 0 := by
  unfold t_hit
  rw [List.all_eq_false]
  constructor
  · rintro ⟨w, hw, h⟩
    exact ⟨w, hw, Classical.byContradiction fun q => h (decide_eq_true q)⟩
  · rintro ⟨w, hw, h⟩
    exact ⟨w, hw, by simp [h]⟩
theorem t_hit_t {W : List Nat} {s : Nat} : t_hit W s = true ↔ ∀ w, w ∈ W → w &&& s ≠ 0 := by
  unfold t_hit
  rw [List.all_eq_true]
  exact ⟨fun h w hw => of_decide_eq_true (h w hw), fun h w hw => decide_eq_true (h w hw)⟩
theorem f_ned_eq {W : List Nat} {s : Nat} (hs : s < 4096) (h : t_hit W s = true) : W.foldl (f_ned s) 0 = s ↔ t_lst true (t_hit W) s = true := by
  rw [t_lst_iff]
  have hb : ∀ p, (W.foldl (f_ned s) 0).testBit p = true ↔ ∃ w, w ∈ W ∧ w &&& s = 2 ^ p := by
    intro p
    rw [f_ned_b, Nat.zero_testBit, Bool.false_or, List.any_eq_true]
    constructor
    · rintro ⟨w, hw, e⟩
      rw [Bool.and_eq_true] at e
      exact ⟨w, hw, n_pow (of_decide_eq_true e.1) e.2⟩
    · rintro ⟨w, hw, e⟩
      refine ⟨w, hw, ?_⟩
      rw [e, decide_eq_true (n_2pow p), Nat.testBit_two_pow_self]
      rfl
  have hx : ∀ p, s.testBit p = true → ((∃ w, w ∈ W ∧ w &&& s = 2 ^ p) ↔ t_hit W (s ^^^ 2 ^ p) = false) := by
    intro p hp
    rw [t_hit_f]
    constructor
    · rintro ⟨w, hw, e⟩
      refine ⟨w, hw, n_and0.mpr (fun i hi => ?_)⟩
      by_cases q : i = p
      · rw [q, n_xb, hp]
        rfl
      · rw [n_xo q]
        have a := Nat.testBit_and w s i
        rw [e, Nat.testBit_two_pow, decide_eq_false (fun z => q z.symm), hi, Bool.true_and] at a
        exact a.symm
    · rintro ⟨w, hw, e⟩
      refine ⟨w, hw, ?_⟩
      have h0 := t_hit_t.mp h w hw
      have ho : ∀ i, i ≠ p → (w &&& s).testBit i = false := fun i hi => by
        rw [Nat.testBit_and]
        cases ew : w.testBit i
        · rfl
        · have a := n_and0.mp e i ew
          rw [n_xo hi] at a
          rw [a]
          rfl
      apply Nat.eq_of_testBit_eq
      intro i
      rw [Nat.testBit_two_pow]
      by_cases q : i = p
      · rw [decide_eq_true q.symm, q]
        cases ep : (w &&& s).testBit p
        · exfalso
          apply h0
          apply Nat.eq_of_testBit_eq
          intro j
          rw [Nat.zero_testBit]
          by_cases z : j = p
          · rw [z]
            exact ep
          · exact ho j z
        · rfl
      · rw [ho i q, decide_eq_false (fun z => q z.symm)]
  constructor
  · intro e
    refine ⟨h, fun p _ hp => (hx p hp).mp ((hb p).mp ?_)⟩
    rw [e]
    exact hp
  · rintro ⟨_, g⟩
    apply Nat.eq_of_testBit_eq
    intro p
    cases ep : s.testBit p
    · cases en : (W.foldl (f_ned s) 0).testBit p
      · rfl
      · obtain ⟨w, hw, e⟩ := (hb p).mp en
        have a := Nat.testBit_and w s p
        rw [e, Nat.testBit_two_pow_self, ep, Bool.and_false] at a
        cases a
    · have h12 : p < 12 := by
        rcases Nat.lt_or_ge p 12 with q | q
        · exact q
        · rw [b_hi hs q] at ep
          cases ep
      exact (hb p).mpr ((hx p ep).mpr (g p h12 ep))
/-- 0 it doesn't hit all, 1 it does, 2 it is least -/
def f_hit (W : List Nat) (s : Nat) : Nat := if t_hit W s then (if t_lst true (t_hit W) s then 2 else 1) else 0
theorem r_hits {μ : zS} {W : List Nat} {s : Nat} (hW : r_W μ W) (hl : W.length ≤ 780) (hb : ∀ w, w ∈ W → w < 4096) (hs : s < 4096) : fX8_hits μ (nI s) = some (nI (f_hit W s)) := by
  have hlt : ∀ w : Nat, w &&& s < 4096 := fun w => Nat.lt_of_le_of_lt Nat.and_le_right hs
  have step : ∀ (n k : Nat) (x a : Nat), W[k]? = some x → x &&& s ≠ 0 → fX8_hits_L4 μ (nI s) (fun (x1 : Int32) (x2 : Int32) => (if x1 = nI s then some (2 : Int32) else some (1 : Int32))) (n + 1) (nI a) (nI k) = fX8_hits_L4 μ (nI s) (fun (x1 : Int32) (x2 : Int32) => (if x1 = nI s then some (2 : Int32) else some (1 : Int32))) n (nI (f_ned s a x)) (nI (k + 1)) := by
    intro n k x a hx h0
    have hk := (List.getElem?_eq_some_iff.mp hx).1
    have hp := hlt x
    have em : nI (x &&& s) - (1 : Int32) = nI ((x &&& s) - 1) := by
      obtain ⟨m, hm⟩ : ∃ m, x &&& s = m + 1 := ⟨(x &&& s) - 1, by omega⟩
      rw [hm, nI_pred]
      rfl
    rw [fX8_hits_L4.eq_2, hW.1, if_neg (z_nle hk (by omega)), z_gd_t (z_in_nI (by omega) (by decide)), nI_clamp (by omega), hW.2 k x hx, b_and, z_ltE, if_neg (nI_ne0 (by omega) (by omega)), em, b_and, nI_1]
    unfold f_ned
    by_cases e : (x &&& s) &&& ((x &&& s) - 1) = 0
    · rw [if_pos e, e, if_pos nI_0, z_ltE, b_or]
    · rw [if_neg e, if_neg (nI_ne0 (by omega) (Nat.lt_of_le_of_lt Nat.and_le_left (by omega))), z_ltE, z_i0, b_or, Nat.or_zero]
  unfold fX8_hits f_hit
  cases ht : t_hit W s
  · rw [if_neg (by decide)]
    obtain ⟨w, hw, e⟩ := t_hit_f.mp ht
    obtain ⟨k0, hk0⟩ := List.getElem?_of_mem hw
    obtain ⟨k, ⟨x, hx, hx0⟩, hmin⟩ := pk_least (fun k => ∃ x, W[k]? = some x ∧ x &&& s = 0) ⟨k0, w, hk0, e⟩
    have hk := (List.getElem?_eq_some_iff.mp hx).1
    have h := z_up (fun n (z : Int32 × Int32) => fX8_hits_L4 μ (nI s) (fun (x1 : Int32) (x2 : Int32) => (if x1 = nI s then some (2 : Int32) else some (1 : Int32))) n z.1 z.2) (fun i => (nI ((W.take i).foldl (f_ned s) 0), nI i)) k (some (nI 0)) ?_ (fun n => ?_) 0 z_F (Nat.zero_le _) (by show k < 5000 + 0; omega)
    · exact h
    · intro n i hi
      have hi' : i < W.length := by omega
      have hxi : W[i]? = some W[i] := List.getElem?_eq_getElem hi'
      show fX8_hits_L4 μ (nI s) _ (n + 1) (nI ((W.take i).foldl (f_ned s) 0)) (nI i) = fX8_hits_L4 μ (nI s) _ n (nI ((W.take (i + 1)).foldl (f_ned s) 0)) (nI (i + 1))
      rw [step n i _ _ hxi (fun q => hmin i hi ⟨_, hxi, q⟩), List.take_succ_eq_append_getElem hi', List.foldl_append]
      rfl
    · show fX8_hits_L4 μ (nI s) _ (n + 1) _ (nI k) = _
      rw [fX8_hits_L4.eq_2, hW.1, if_neg (z_nle hk (by omega)), z_gd_t (z_in_nI (by omega) (by decide)), nI_clamp (by omega), hW.2 k x hx, b_and, hx0, z_ltE, if_pos nI_0]
      rfl
  · rw [if_pos rfl]
    have hall := t_hit_t.mp ht
    have h := z_up (fun n (z : Int32 × Int32) => fX8_hits_L4 μ (nI s) (fun (x1 : Int32) (x2 : Int32) => (if x1 = nI s then some (2 : Int32) else some (1 : Int32))) n z.1 z.2) (fun i => (nI ((W.take i).foldl (f_ned s) 0), nI i)) W.length (some (nI (if t_lst true (t_hit W) s then 2 else 1))) ?_ (fun n => ?_) 0 z_F (Nat.zero_le _) (by show W.length < 5000 + 0; omega)
    · exact h
    · intro n i hi
      have hxi : W[i]? = some W[i] := List.getElem?_eq_getElem hi
      show fX8_hits_L4 μ (nI s) _ (n + 1) (nI ((W.take i).foldl (f_ned s) 0)) (nI i) = fX8_hits_L4 μ (nI s) _ n (nI ((W.take (i + 1)).foldl (f_ned s) 0)) (nI (i + 1))
      rw [step n i _ _ hxi (hall _ (List.getElem_mem hi)), List.take_succ_eq_append_getElem hi, List.foldl_append]
      rfl
    · show fX8_hits_L4 μ (nI s) _ (n + 1) (nI ((W.take W.length).foldl (f_ned s) 0)) (nI W.length) = _
      have hsub : W.foldl (f_ned s) 0 < 4096 := by
        refine Nat.lt_pow_two_of_testBit (n := 12) _ (fun i hi => ?_)
        rw [f_ned_b, Nat.zero_testBit, Bool.false_or, List.any_eq_false]
        intro w _
        rw [b_hi (hlt w) hi, Bool.and_false]
        decide
      rw [List.take_length, fX8_hits_L4.eq_2, hW.1, if_pos (nI_le (Nat.le_refl _) (by omega))]
      by_cases e : W.foldl (f_ned s) 0 = s
      · rw [e, if_pos rfl, if_pos ((f_ned_eq hs ht).mp e)]
        rfl
      · rw [if_neg (fun q => e ((nI_eq (by omega) (by omega)).mp q)), if_neg (fun q => e ((f_ned_eq hs ht).mpr q))]
        rfl
