/-! pure: the reference's rows -/
def k_k (c : Nat → Bool) (L : List Nat) : Nat → List Nat
  | 0 => []
  | n + 1 => if c n then k_k c L n ++ [L.getD n 0] else k_k c L n
theorem k_k_le (c : Nat → Bool) (L : List Nat) : ∀ n, (k_k c L n).length ≤ n
  | 0 => Nat.le_refl _
  | n + 1 => by
    have := k_k_le c L n
    show (if c n then k_k c L n ++ [L.getD n 0] else k_k c L n).length ≤ n + 1
    split
    · rw [List.length_append]
      show _ + 1 ≤ _
      omega
    · omega
theorem k_k_mem {c : Nat → Bool} {L : List Nat} {y : Nat} : ∀ {n : Nat}, y ∈ k_k c L n ↔ ∃ k, k < n ∧ c k = true ∧ L.getD k 0 = y
  | 0 => ⟨fun h => (by cases h), fun ⟨k, h, _⟩ => absurd h (Nat.not_lt_zero k)⟩
  | n + 1 => by
    have ih := k_k_mem (c := c) (L := L) (y := y) (n := n)
    show y ∈ (if c n then k_k c L n ++ [L.getD n 0] else k_k c L n) ↔ _
    cases e : c n
    · rw [if_neg (by decide), ih]
      constructor
      · rintro ⟨k, h1, h2⟩
        exact ⟨k, by omega, h2⟩
      · rintro ⟨k, h1, h2, h3⟩
        have : k ≠ n := fun q => by rw [q, e] at h2; cases h2
        exact ⟨k, by omega, h2, h3⟩
    · rw [if_pos rfl, List.mem_append, List.mem_singleton, ih]
      constructor
      · rintro (⟨k, h1, h2⟩ | h)
        · exact ⟨k, by omega, h2⟩
        · exact ⟨n, Nat.lt_succ_self n, e, h.symm⟩
      · rintro ⟨k, h1, h2, h3⟩
        by_cases q : k = n
        · exact Or.inr (by rw [← h3, q])
        · exact Or.inl ⟨k, by omega, h2, h3⟩
theorem k_k_nd {c : Nat → Bool} {L : List Nat} : ∀ {n : Nat}, (∀ i j, i < j → j < n → c i = true → c j = true → L.getD i 0 ≠ L.getD j 0) → (k_k c L n).Nodup
  | 0, _ => List.nodup_nil
  | n + 1, h => by
    have ih := k_k_nd (c := c) (L := L) (n := n) (fun i j h1 h2 => h i j h1 (by omega))
    show (if c n then k_k c L n ++ [L.getD n 0] else k_k c L n).Nodup
    cases e : c n
    · rw [if_neg (by decide)]
      exact ih
    · rw [if_pos rfl, List.nodup_append]
      refine ⟨ih, by simp, fun a ha b hb q => ?_⟩
      obtain ⟨k, h1, h2, h3⟩ := k_k_mem.mp ha
      rw [List.mem_singleton] at hb
      exact h k n h1 (Nat.lt_succ_self n) h2 e (by rw [h3, q, hb])
theorem l_gd {L : List Nat} {k : Nat} (hk : k < L.length) : L[k]? = some (L.getD k 0) := by
  rw [List.getD_eq_getElem?_getD, List.getElem?_eq_getElem hk]
  rfl
/-- only rows from l on, and what goes, have changed -/
def v_r (l : Nat) (μ ν : zS) : Prop := (∀ p, p ≠ 13 → p ≠ 16 → ν.1 p = μ.1 p) ∧ ν.2 = μ.2 ∧ ∀ j, j < 40 * l → ν.1 16 j = μ.1 16 j
theorem v_r_rf {l : Nat} {μ : zS} : v_r l μ μ := ⟨fun _ _ _ => rfl, rfl, fun _ _ => rfl⟩
theorem v_r_tr {l : Nat} {μ ν ξ : zS} (a : v_r l μ ν) (b : v_r l ν ξ) : v_r l μ ξ := ⟨fun p h1 h2 => (b.1 p h1 h2).trans (a.1 p h1 h2), b.2.1.trans a.2.1, fun j h => (b.2.2 j h).trans (a.2.2 j h)⟩
theorem v_r_s {l j : Nat} {μ : zS} {v : Int32} (h : 40 * l ≤ j) : v_r l μ (z_sI μ 16 j v) := ⟨fun p h1 h2 => z_rd_n h2, rfl, fun i hi => by rw [z_rd_s, u_n (by omega)]⟩
theorem v_r_g {l j : Nat} {μ : zS} {v : Int32} : v_r l μ (z_sI μ 13 j v) := ⟨fun p h1 h2 => z_rd_n h1, rfl, fun i _ => by rw [z_rd_n (by decide)]⟩
def w_rm (μ : zS) (l : Nat) (L : List Nat) : Prop := w_row (fun k => μ.1 16 (40 * l + k)) L
theorem w_rm_c {μ ν : zS} {l m : Nat} {L : List Nat} (h : w_rm μ l L) (hl : L.length ≤ 40) (a : v_r m μ ν) (hm : l < m) : w_rm ν l L := fun k x hx => by
  have hk := (List.getElem?_eq_some_iff.mp hx).1
  show ν.1 16 (40 * l + k) = nI x
  rw [a.2.2 _ (by omega)]
  exact h k x hx
theorem n_40l {l : Nat} (j : Nat) : (40 : Int32) * (nI l + (1 : Int32)) + nI j = nI (40 * (l + 1) + j) := by rw [nI_1, n_40k]
section WM
variable {μ : zS} {l p : Nat} {B : List Nat}
theorem r_wo (hr : w_rm μ l B) (hl : B.length ≤ 40) (hb : ∀ x, x ∈ B → x < 4096) (hl12 : l < 12) (hp : p < 12) (K : zS → Int32 → Option zS) : ∃ ν, fX8_grows_L138 (nI l) (nI B.length) (nI p) (fun w x _ => K w x) z_F μ (nI 0) (nI 0) = K ν (nI (w_1 p B).length) ∧ w_rm ν (l + 1) (w_1 p B) ∧ v_r (l + 1) μ ν := by
  have key : ∀ (d k n : Nat) (w : zS), k + d = B.length → d < n → w_rm w (l + 1) (w_1 p (B.take k)) → v_r (l + 1) μ w → ∃ ν, fX8_grows_L138 (nI l) (nI B.length) (nI p) (fun w x _ => K w x) n w (nI (w_1 p (B.take k)).length) (nI k) = K ν (nI (w_1 p B).length) ∧ w_rm ν (l + 1) (w_1 p B) ∧ v_r (l + 1) μ ν := by
    intro d
    induction d with
    | zero =>
      intro k n w h1 h2 h3 h4
      obtain ⟨n, rfl⟩ : ∃ j, n = j + 1 := ⟨n - 1, by omega⟩
      have hk : k = B.length := by omega
      subst hk
      rw [List.take_length] at h3 ⊢
      exact ⟨w, by rw [fX8_grows_L138.eq_2, if_pos (nI_le (Nat.le_refl _) (by omega))], h3, h4⟩
    | succ d ih =>
      intro k n w h1 h2 h3 h4
      obtain ⟨n, rfl⟩ : ∃ j, n = j + 1 := ⟨n - 1, by omega⟩
      have hk : k < B.length := by omega
      have hx : B[k]? = some B[k] := List.getElem?_eq_getElem hk
      have hbk := hb _ (List.getElem_mem hk)
      have hle := (w_1_le p B k).1
      have ht := w_1_tk (p := p) hk
      have hrd : w.1 16 (40 * l + k) = nI B[k] := by
        rw [h4.2.2 _ (by omega)]
        exact hr k _ hx
      have h5 : w_row (fun j => (z_sI w 16 (40 * (l + 1) + (w_1 p (B.take k)).length) (nI B[k])).1 16 (40 * (l + 1) + j)) (w_1 p (B.take k) ++ [B[k]]) := by
        intro j y hy
        have := w_row_s (x := B[k]) h3 j y hy
        show (z_sI w 16 (40 * (l + 1) + (w_1 p (B.take k)).length) (nI B[k])).1 16 (40 * (l + 1) + j) = nI y
        rw [z_rd_s]
        by_cases q : j = (w_1 p (B.take k)).length
        · rw [q, u_s]
          rw [q, u_s] at this
          exact this
        · rw [u_n (by omega)]
          rw [u_n q] at this
          exact this
      have h6 : v_r (l + 1) μ (z_sI w 16 (40 * (l + 1) + (w_1 p (B.take k)).length) (nI B[k])) := v_r_tr h4 (v_r_s (by omega))
      rw [fX8_grows_L138.eq_2, if_neg (z_nle hk (by omega)), n_40k, z_gd_t (z_in_nI (by omega) (by decide)), nI_clamp (show 40 * l + k < 2 ^ 31 by omega), hrd, z_ltE, n_40l, z_gd_t (z_in_nI (by omega) (by decide)), nI_clamp (by omega), z_ltE, nI_1 k]
      cases e : B[k].testBit p
      · rw [e, if_neg (by decide)] at ht
        obtain ⟨ν, a, b, c⟩ := ih (k + 1) n _ (by omega) (by omega) (by rw [ht]; exact h5) h6
        refine ⟨ν, ?_, b, c⟩
        rw [ht, List.length_append (bs := [B[k]])] at a
        rw [z_bd (r_has0 (by omega) (by omega) e), i_t, z_ltE, nI_1]
        exact a
      · rw [e, if_pos rfl] at ht
        obtain ⟨ν, a, b, c⟩ := ih (k + 1) n _ (by omega) (by omega) (by
          rw [ht]
          intro j y hy
          exact h5 j y (by rw [List.getElem?_append_left (List.getElem?_eq_some_iff.mp hy).1]; exact hy)) h6
        refine ⟨ν, ?_, b, c⟩
        rw [ht] at a
        rw [z_bd (r_has1 (by omega) (by omega) e), i_f, z_ltE, Int32.add_zero]
        exact a
  exact key B.length 0 z_F μ (by omega) (by show _ < 5000; omega) (w_row_0 _) v_r_rf
theorem r_all (hr : w_rm μ l B) (hl : B.length ≤ 40) (hb : ∀ x, x ∈ B → x < 4096) (hl12 : l < 12) (hp : p < 12) (K : zS → Option zS) : ∃ ν, fX8_grows_L218 (nI l) (nI B.length) (nI p) (fun w _ => K w) z_F μ (nI 0) = K ν ∧ w_rm ν (l + 1) (B.map (n_rm p)) ∧ v_r (l + 1) μ ν := by
  have key : ∀ (d k n : Nat) (w : zS), k + d = B.length → d < n → (∀ j x, j < k → B[j]? = some x → w.1 16 (40 * (l + 1) + j) = nI (n_rm p x)) → v_r (l + 1) μ w → ∃ ν, fX8_grows_L218 (nI l) (nI B.length) (nI p) (fun w _ => K w) n w (nI k) = K ν ∧ w_rm ν (l + 1) (B.map (n_rm p)) ∧ v_r (l + 1) μ ν := by
    intro d
    induction d with
    | zero =>
      intro k n w h1 h2 h3 h4
      obtain ⟨n, rfl⟩ : ∃ j, n = j + 1 := ⟨n - 1, by omega⟩
      have hk : k = B.length := by omega
      subst hk
      refine ⟨w, by rw [fX8_grows_L218.eq_2, if_pos (nI_le (Nat.le_refl _) (by omega))], fun j y hy => ?_, h4⟩
      rw [List.getElem?_map] at hy
      cases e : B[j]? with
      | none =>
        rw [e] at hy
        cases hy
      | some x =>
        rw [e] at hy
        cases hy
        exact h3 j x (List.getElem?_eq_some_iff.mp e).1 e
    | succ d ih =>
      intro k n w h1 h2 h3 h4
      obtain ⟨n, rfl⟩ : ∃ j, n = j + 1 := ⟨n - 1, by omega⟩
      have hk : k < B.length := by omega
      have hx : B[k]? = some B[k] := List.getElem?_eq_getElem hk
      have hbk := hb _ (List.getElem_mem hk)
      have hrd : w.1 16 (40 * l + k) = nI B[k] := by
        rw [h4.2.2 _ (by omega)]
        exact hr k _ hx
      obtain ⟨ν, a, b, c⟩ := ih (k + 1) n (z_sI w 16 (40 * (l + 1) + k) (nI (n_rm p B[k]))) (by omega) (by omega) (fun j x hj hx' => by
        rw [z_rd_s]
        by_cases q : j = k
        · subst q
          rw [hx] at hx'
          cases hx'
          rw [u_s]
        · rw [u_n (by omega)]
          exact h3 j x (by omega) hx') (v_r_tr h4 (v_r_s (by omega)))
      refine ⟨ν, ?_, b, c⟩
      rw [fX8_grows_L218.eq_2, if_neg (z_nle hk (by omega)), n_40k, n_40l, z_gd_t (z_in_nI (by omega) (by decide)), z_gd_t (z_in_nI (by omega) (by decide)), nI_clamp (show 40 * l + k < 2 ^ 31 by omega), hrd, b_rm hp hbk, nI_clamp (by omega), z_ltE, nI_1]
      exact a
  exact key B.length 0 z_F μ (by omega) (by show _ < 5000; omega) (fun j x hj => absurd hj (Nat.not_lt_zero j)) v_r_rf
end WM
/-- it stays: no other one is a part of it, and no like one stands ahead -/
def k_ok (C : List Nat) (o k : Nat) : Prop := o = k ∨ (C.getD o 0 = C.getD k 0 ∧ k < o) ∨ n_sub (C.getD o 0) (C.getD k 0) = false
section THIN
variable {l : Nat} {C : List Nat}
theorem r_st {w : zS} (hr : w_rm w l C) (hl : C.length ≤ 40) (hb : ∀ x, x ∈ C → x < 4096) (hl13 : l ≤ 12) {k : Nat} (hk : k < C.length) (K : Int32 → Option (Int32 × zS)) (b : Bool) {o : Nat} (ho : o < C.length) (hb' : b = true ↔ k_ok C o k) (n : Nat) : fX8_thins_L23 w (nI C.length) (nI (40 * l)) (nI k) (fun x1 _ => K x1) (n + 1) 1 (nI o) = fX8_thins_L23 w (nI C.length) (nI (40 * l)) (nI k) (fun x1 _ => K x1) n (o_b b) (nI (o + 1)) := by
  have eo : w.1 16 (40 * l + o) = nI (C.getD o 0) := hr o _ (l_gd ho)
  have ek : w.1 16 (40 * l + k) = nI (C.getD k 0) := hr k _ (l_gd hk)
  have bo := hb _ (List.mem_of_getElem? (l_gd ho))
  have bk := hb _ (List.mem_of_getElem? (l_gd hk))
  have go : z_in (nI (40 * l + o)) 560 = true := z_in_nI (by omega) (by decide)
  have gk : z_in (nI (40 * l + k)) 560 = true := z_in_nI (by omega) (by decide)
  rw [fX8_thins_L23.eq_2, if_neg (z_nle ho (by omega)), if_neg (show ¬ (1 : Int32) = 0 by decide), nI_add, nI_add, z_gd_t go, z_gd_t gk, nI_clamp (show 40 * l + o < 2 ^ 31 by omega), nI_clamp (show 40 * l + k < 2 ^ 31 by omega), eo, ek, z_jnE, nI_1]
  unfold k_ok at hb'
  by_cases q1 : o = k
  · have : b = true := hb'.mpr (Or.inl q1)
    rw [this]
    by_cases q2 : nI (C.getD o 0) = nI (C.getD k 0)
    · rw [if_pos q2]
      dsimp only
      rw [if_pos (by rw [q1])]
      rfl
    · rw [if_neg q2]
      dsimp only
      rw [if_pos (by rw [q1])]
      rfl
  · have hne : ¬ nI o = nI k := fun z => q1 ((nI_eq (by omega) (by omega)).mp z)
    by_cases q2 : C.getD o 0 = C.getD k 0
    · rw [if_pos (by rw [q2])]
      dsimp only
      rw [if_neg hne, if_neg (show ¬ (1 : Int32) = 0 by decide)]
      by_cases q3 : k < o
      · have : b = true := hb'.mpr (Or.inr (Or.inl ⟨q2, q3⟩))
        rw [this, if_pos (nI_lt q3 (by omega))]
        rfl
      · have hs : n_sub (C.getD o 0) (C.getD k 0) = true := by
          rw [q2]
          exact n_sub_rf bk
        have : b = false := by
          cases e : b
          · rfl
          · rcases hb'.mp e with z | z | z
            · exact absurd z q1
            · exact absurd z.2 q3
            · rw [hs] at z
              cases z
        rw [this, if_neg (nI_nlt (by omega) (by omega)), z_gd_t go, z_gd_t gk, z_bd (q_sub _ _).2, hs, if_neg (show ¬ o_b true = 0 by decide)]
        rfl
    · rw [if_neg (fun z => q2 ((nI_eq (by omega) (by omega)).mp z))]
      dsimp only
      rw [if_neg hne, if_pos rfl, z_gd_t go, z_gd_t gk, z_bd (q_sub _ _).2]
      cases hs : n_sub (C.getD o 0) (C.getD k 0)
      · have : b = true := hb'.mpr (Or.inr (Or.inr hs))
        rw [this, if_pos (show o_b false = 0 from rfl)]
        rfl
      · have : b = false := by
          cases e : b
          · rfl
          · rcases hb'.mp e with z | z | z
            · exact absurd z q1
            · exact absurd z.1 q2
            · rw [hs] at z
              cases z
        rw [this, if_neg (show ¬ o_b true = 0 by decide)]
        rfl
theorem r_good {w : zS} (hr : w_rm w l C) (hl : C.length ≤ 40) (hb : ∀ x, x ∈ C → x < 4096) (hl13 : l ≤ 12) {c : Nat → Bool} (hc : ∀ k, c k = true ↔ ∀ o, o < C.length → k_ok C o k) {k : Nat} (hk : k < C.length) (K : Int32 → Option (Int32 × zS)) : fX8_thins_L23 w (nI C.length) (nI (40 * l)) (nI k) (fun x1 _ => K x1) z_F 1 (nI 0) = K (o_b (c k)) := by
  cases e : c k
  · have hex : ∃ o, o < C.length ∧ ¬ k_ok C o k := Classical.byContradiction fun q => by
      have : c k = true := (hc k).mpr (fun o ho => Classical.byContradiction fun z => q ⟨o, ho, z⟩)
      rw [e] at this
      cases this
    obtain ⟨o, ⟨ho, h1⟩, h2⟩ := pk_least (fun o => o < C.length ∧ ¬ k_ok C o k) hex
    refine z_up (fun n (v : Int32) => fX8_thins_L23 w (nI C.length) (nI (40 * l)) (nI k) (fun x1 _ => K x1) (n + 1) 1 v) (fun i => nI i) o (K (o_b false)) (fun n i hi => ?_) (fun n => ?_) 0 4999 (Nat.zero_le _) (by omega)
    · have hok : k_ok C i k := Classical.byContradiction fun z => h2 i hi ⟨by omega, z⟩
      exact r_st hr hl hb hl13 hk K true (by omega) ⟨fun _ => hok, fun _ => rfl⟩ (n + 1)
    · show fX8_thins_L23 w (nI C.length) (nI (40 * l)) (nI k) _ (n + 1 + 1) 1 (nI o) = _
      rw [r_st hr hl hb hl13 hk K false ho ⟨fun z => (by cases z), fun z => absurd z h1⟩ (n + 1), fX8_thins_L23.eq_2]
      by_cases q : nI C.length ≤ nI (o + 1)
      · rw [if_pos q]
      · rw [if_neg q, if_pos (show o_b false = 0 from rfl)]
  · have hok := (hc k).mp e
    refine z_up (fun n (v : Int32) => fX8_thins_L23 w (nI C.length) (nI (40 * l)) (nI k) (fun x1 _ => K x1) n 1 v) (fun i => nI i) C.length (K (o_b true)) (fun n i hi => r_st hr hl hb hl13 hk K true hi ⟨fun _ => hok i hi, fun _ => rfl⟩ n) (fun n => ?_) 0 z_F (Nat.zero_le _) (by show _ < 5000 + 0; omega)
    show fX8_thins_L23 w (nI C.length) (nI (40 * l)) (nI k) _ (n + 1) 1 (nI C.length) = _
    rw [fX8_thins_L23.eq_2, if_pos (nI_le (Nat.le_refl _) (by omega))]
    rfl
theorem r_thins {μ : zS} (hr : w_rm μ l C) (hl : C.length ≤ 40) (hb : ∀ x, x ∈ C → x < 4096) (hl13 : l ≤ 12) {c : Nat → Bool} (hc : ∀ k, c k = true ↔ ∀ o, o < C.length → k_ok C o k) : ∃ ν, fX8_thins μ (nI l) (nI C.length) = some (nI (k_k c C C.length).length, ν) ∧ w_rm ν l (k_k c C C.length) ∧ v_r l μ ν := by
  have key2 : ∀ (d k n : Nat) (w : zS), k + d = C.length → d < n → (∀ j, j < C.length → w.1 13 j = o_b (!c j)) → (∀ j, k ≤ j → j < C.length → w.1 16 (40 * l + j) = nI (C.getD j 0)) → w_rm w l (k_k c C k) → v_r l μ w → ∃ ν, fX8_thins_L144 (nI C.length) (nI (40 * l)) (fun w2 x3 _ => some (x3, w2)) n w (nI (k_k c C k).length) (nI k) = some (nI (k_k c C C.length).length, ν) ∧ w_rm ν l (k_k c C C.length) ∧ v_r l μ ν := by
    intro d
    induction d with
    | zero =>
      intro k n w h1 h2 h3 h4 h5 h6
      obtain ⟨n, rfl⟩ : ∃ j, n = j + 1 := ⟨n - 1, by omega⟩
      have hk : k = C.length := by omega
      rw [hk] at h5 ⊢
      exact ⟨w, by rw [fX8_thins_L144.eq_2, if_pos (nI_le (Nat.le_refl _) (by omega))], h5, h6⟩
    | succ d ih =>
      intro k n w h1 h2 h3 h4 h5 h6
      obtain ⟨n, rfl⟩ : ∃ j, n = j + 1 := ⟨n - 1, by omega⟩
      have hk : k < C.length := by omega
      have hle := k_k_le c C k
      have ek : k_k c C (k + 1) = if c k then k_k c C k ++ [C.getD k 0] else k_k c C k := rfl
      rw [fX8_thins_L144.eq_2, if_neg (z_nle hk (by omega)), z_gd_t (z_in_nI (by omega) (by decide)), nI_clamp (show k < 2 ^ 31 by omega), h3 k hk, nI_1 k]
      cases e : c k
      · rw [e, if_neg (by decide)] at ek
        obtain ⟨ν, a, b, f⟩ := ih (k + 1) n w (by omega) (by omega) h3 (fun j h7 h8 => h4 j (by omega) h8) (by rw [ek]; exact h5) h6
        refine ⟨ν, ?_, b, f⟩
        rw [ek] at a
        rw [if_neg (show ¬ o_b (!false) = 0 by decide)]
        exact a
      · rw [e, if_pos rfl] at ek
        obtain ⟨ν, a, b, f⟩ := ih (k + 1) n (z_sI w 16 (40 * l + (k_k c C k).length) (nI (C.getD k 0))) (by omega) (by omega) (fun j hj => by rw [z_rd_n (by decide)]; exact h3 j hj) (fun j h7 h8 => by rw [z_rd_s, u_n (by omega)]; exact h4 j (by omega) h8) (by
          rw [ek]
          intro j y hy
          have := w_row_s (x := C.getD k 0) h5 j y hy
          show (z_sI w 16 (40 * l + (k_k c C k).length) (nI (C.getD k 0))).1 16 (40 * l + j) = nI y
          rw [z_rd_s]
          by_cases q : j = (k_k c C k).length
          · rw [q, u_s]
            rw [q, u_s] at this
            exact this
          · rw [u_n (by omega)]
            rw [u_n q] at this
            exact this) (v_r_tr h6 (v_r_s (by omega)))
        refine ⟨ν, ?_, b, f⟩
        rw [ek, List.length_append (bs := [C.getD k 0])] at a
        rw [if_pos (show o_b (!true) = 0 from rfl), nI_add, nI_add, z_gd_t (z_in_nI (by omega) (by decide)), z_gd_t (z_in_nI (by omega) (by decide)), z_ltE, nI_clamp (by omega), nI_clamp (by omega), h4 k (Nat.le_refl _) hk, nI_1]
        exact a
  have key1 : ∀ (d k n : Nat) (w : zS), k + d = C.length → d < n → (∀ j, j < k → w.1 13 j = o_b (!c j)) → w_rm w l C → v_r l μ w → ∃ ν, fX8_thins_L11 (nI C.length) (nI (40 * l)) (fun (w1 : zS) (x2 : Int32) => fX8_thins_L144 (nI C.length) (nI (40 * l)) (fun (w2 : zS) (x3 : Int32) (x4 : Int32) => some (x3, w2)) z_F w1 (0 : Int32) (0 : Int32)) n w (nI k) = some (nI (k_k c C C.length).length, ν) ∧ w_rm ν l (k_k c C C.length) ∧ v_r l μ ν := by
    intro d
    induction d with
    | zero =>
      intro k n w h1 h2 h3 h4 h5
      obtain ⟨n, rfl⟩ : ∃ j, n = j + 1 := ⟨n - 1, by omega⟩
      have hk : k = C.length := by omega
      rw [hk] at h3 ⊢
      obtain ⟨ν, a, b, f⟩ := key2 C.length 0 z_F w (by omega) (by show _ < 5000; omega) h3 (fun j _ hj => h4 j _ (l_gd hj)) (w_row_0 _) h5
      refine ⟨ν, ?_, b, f⟩
      rw [fX8_thins_L11.eq_2, if_pos (nI_le (Nat.le_refl _) (by omega))]
      exact a
    | succ d ih =>
      intro k n w h1 h2 h3 h4 h5
      obtain ⟨n, rfl⟩ : ∃ j, n = j + 1 := ⟨n - 1, by omega⟩
      have hk : k < C.length := by omega
      have step : ∀ v : Int32, v = o_b (!c k) → ∃ ν, fX8_thins_L11 (nI C.length) (nI (40 * l)) (fun (w1 : zS) (x2 : Int32) => fX8_thins_L144 (nI C.length) (nI (40 * l)) (fun (w2 : zS) (x3 : Int32) (x4 : Int32) => some (x3, w2)) z_F w1 (0 : Int32) (0 : Int32)) n (z_sI w 13 k v) (nI (k + 1)) = some (nI (k_k c C C.length).length, ν) ∧ w_rm ν l (k_k c C C.length) ∧ v_r l μ ν := fun v hv => ih (k + 1) n (z_sI w 13 k v) (by omega) (by omega) (fun j hj => by
        rw [z_rd_s]
        by_cases q : j = k
        · rw [q, u_s, hv]
        · rw [u_n q]
          exact h3 j (by omega)) (fun j x hx => by
        show (z_sI w 13 k v).1 16 (40 * l + j) = nI x
        rw [z_rd_n (by decide)]
        exact h4 j x hx) (v_r_tr h5 v_r_g)
      rw [fX8_thins_L11.eq_2, if_neg (z_nle hk (by omega)), z_i0, r_good h4 hl hb hl13 hc hk (fun x1 => (if x1 = nI 0 then z_gd (z_in (nI k) 40) (z_gd (z_bz (1 : Int32)) (z_lt (z_sI w 13 (nI k).toNatClampNeg (1 : Int32)) (fun (w2 : zS) => fX8_thins_L11 (nI C.length) (nI (40 * l)) (fun (w1 : zS) (x2 : Int32) => fX8_thins_L144 (nI C.length) (nI (40 * l)) (fun (w2 : zS) (x3 : Int32) (x4 : Int32) => some (x3, w2)) z_F w1 (nI 0) (nI 0)) n w2 (nI k + (1 : Int32))))) else z_gd (z_in (nI k) 40) (z_gd (z_bz (nI 0)) (z_lt (z_sI w 13 (nI k).toNatClampNeg (nI 0)) (fun (w1 : zS) => fX8_thins_L11 (nI C.length) (nI (40 * l)) (fun (w1 : zS) (x2 : Int32) => fX8_thins_L144 (nI C.length) (nI (40 * l)) (fun (w2 : zS) (x3 : Int32) (x4 : Int32) => some (x3, w2)) z_F w1 (nI 0) (nI 0)) n w1 (nI k + (1 : Int32))))))), nI_1, nI_clamp (by omega), z_gd_t (z_in_nI (show k < 40 by omega) (by decide))]
      cases e : c k
      · rw [if_pos (show o_b false = nI 0 from rfl), z_gd_t (by decide), z_ltE]
        exact step 1 (by rw [e]; rfl)
      · rw [if_neg (show ¬ o_b true = nI 0 by decide), z_gd_t (z_in_nI (show k < 40 by omega) (by decide)), z_gd_t (by decide), z_ltE]
        exact step 0 (by rw [e]; rfl)
  unfold fX8_thins
  rw [z_ltE, n_40, pk_mul, z_i0]
  exact key1 C.length 0 z_F μ (by omega) (by show _ < 5000; omega) (fun j hj => absurd hj (Nat.not_lt_zero j)) hr v_r_rf
theorem k_mn {c : Nat → Bool} (hb : ∀ x, x ∈ C → x < 4096) (hc : ∀ k, c k = true ↔ ∀ o, o < C.length → k_ok C o k) : (∀ y, y ∈ k_k c C C.length ↔ w_mn C y) ∧ (k_k c C C.length).Nodup := by
  constructor
  · intro y
    rw [k_k_mem]
    constructor
    · rintro ⟨k, h1, h2, rfl⟩
      refine ⟨List.mem_of_getElem? (l_gd h1), fun z hz hs => ?_⟩
      obtain ⟨o, ho⟩ := List.getElem?_of_mem hz
      have hol := (List.getElem?_eq_some_iff.mp ho).1
      have ez : C.getD o 0 = z := Option.some.inj ((l_gd hol).symm.trans ho)
      rcases (hc k).mp h2 o hol with q | q | q
      · rw [← ez, q]
      · rw [← ez]
        exact q.1
      · rw [ez, hs] at q
        cases q
    · rintro ⟨h1, h2⟩
      obtain ⟨k0, hk0⟩ := List.getElem?_of_mem h1
      have hk0l := (List.getElem?_eq_some_iff.mp hk0).1
      obtain ⟨k, ⟨hk, ek⟩, hm⟩ := pk_least (fun k => k < C.length ∧ C.getD k 0 = y) ⟨k0, hk0l, Option.some.inj ((l_gd hk0l).symm.trans hk0)⟩
      refine ⟨k, hk, (hc k).mpr (fun o ho => ?_), ek⟩
      unfold k_ok
      cases hs : n_sub (C.getD o 0) (C.getD k 0)
      · exact Or.inr (Or.inr rfl)
      · rw [ek] at hs ⊢
        have e := h2 _ (List.mem_of_getElem? (l_gd ho)) hs
        rcases Nat.lt_trichotomy o k with q | q | q
        · exact absurd ⟨ho, e⟩ (hm o q)
        · exact Or.inl q
        · exact Or.inr (Or.inl ⟨e, q⟩)
  · refine k_k_nd (fun i j h1 h2 h3 h4 e => ?_)
    rcases (hc j).mp h4 i (by omega) with q | q | q
    · omega
    · omega
    · rw [e, n_sub_rf (hb _ (List.mem_of_getElem? (l_gd h2)))] at q
      cases q
end THIN
