/-! pure: counters, states, loops -/
theorem z_up {α β : Type} (f : Nat → α → β) (S : Nat → α) (N : Nat) (res : β) (hs : ∀ n i, i < N → f (n + 1) (S i) = f n (S (i + 1))) (he : ∀ n, f (n + 1) (S N) = res) : ∀ (i n : Nat), i ≤ N → N < n + i → f n (S i) = res := by
  have key : ∀ (d i n : Nat), i + d = N → d < n → f n (S i) = res := by
    intro d
    induction d with
    | zero =>
      intro i n h1 h2
      obtain ⟨n, rfl⟩ : ∃ k, n = k + 1 := ⟨n - 1, by omega⟩
      rw [show i = N by omega]
      exact he n
    | succ d ih =>
      intro i n h1 h2
      obtain ⟨n, rfl⟩ : ∃ k, n = k + 1 := ⟨n - 1, by omega⟩
      rw [hs n i (by omega)]
      exact ih (i + 1) n (by omega) (by omega)
  intro i n h1 h2
  exact key (N - i) i n (by omega) (by omega)
theorem z_F_lt {n : Nat} (h : n < 5000) : n < z_F := h
theorem z_in_nI {i n : Nat} (h : i < n) (hn : n ≤ 2 ^ 31) : z_in (nI i) n = true := by
  have e := nI_toInt (show i < 2 ^ 31 by omega)
  exact decide_eq_true ⟨by omega, by omega⟩
theorem z_fI_fI {σ : zS} {p : Nat} {f g : Nat → Int32} : z_fI (z_fI σ p f) p g = z_fI σ p g := by
  unfold z_fI
  refine Prod.ext ?_ rfl
  funext q
  show va_up (va_up σ.1 p f) p g q = va_up σ.1 p g q
  unfold va_up
  split
  · rfl
  · rfl
theorem z_fJ_fJ {σ : zS} {p : Nat} {f g : Nat → Int64} : z_fJ (z_fJ σ p f) p g = z_fJ σ p g := by
  unfold z_fJ
  refine Prod.ext rfl ?_
  funext q
  show va_up (va_up σ.2 p f) p g q = va_up σ.2 p g q
  unfold va_up
  split
  · rfl
  · rfl
theorem z_fI_self {σ : zS} {p : Nat} : z_fI σ p (σ.1 p) = σ := by
  refine Prod.ext ?_ rfl
  funext q
  show va_up σ.1 p (σ.1 p) q = σ.1 q
  unfold va_up
  split
  · rename_i h
    rw [h]
  · rfl
theorem z_fJ_self {σ : zS} {p : Nat} : z_fJ σ p (σ.2 p) = σ := by
  refine Prod.ext rfl ?_
  funext q
  show va_up σ.2 p (σ.2 p) q = σ.2 q
  unfold va_up
  split
  · rename_i h
    rw [h]
  · rfl
theorem z_fI_n {σ : zS} {p q : Nat} {f : Nat → Int32} (h : q ≠ p) : (z_fI σ p f).1 q = σ.1 q := if_neg h
theorem z_fJ_n {σ : zS} {p q : Nat} {f : Nat → Int64} (h : q ≠ p) : (z_fJ σ p f).2 q = σ.2 q := if_neg h
theorem z_fI_2 {σ : zS} {p : Nat} {f : Nat → Int32} : (z_fI σ p f).2 = σ.2 := rfl
theorem z_fJ_1 {σ : zS} {p : Nat} {f : Nat → Int64} : (z_fJ σ p f).1 = σ.1 := rfl
theorem z_sI_fI {σ : zS} {p k : Nat} {f : Nat → Int32} {v : Int32} : z_sI (z_fI σ p f) p k v = z_fI σ p (upd f k v) := by
  unfold z_sI
  rw [z_fI_s, z_fI_fI]
theorem z_sJ_fJ {σ : zS} {p k : Nat} {f : Nat → Int64} {v : Int64} : z_sJ (z_fJ σ p f) p k v = z_fJ σ p (vp_updL f k v) := by
  unfold z_sJ
  rw [z_fJ_s, z_fJ_fJ]
/-- f below i, else g -/
def z_mx {α : Type} (f g : Nat → α) (i : Nat) : Nat → α := fun j => if j < i then f j else g j
theorem z_mx_0 {α : Type} (f g : Nat → α) : z_mx f g 0 = g := by
  funext j
  exact if_neg (Nat.not_lt_zero j)
theorem z_mx_in {α : Type} {f g : Nat → α} {i j : Nat} (h : j < i) : z_mx f g i j = f j := if_pos h
theorem z_mx_out {α : Type} {f g : Nat → α} {i j : Nat} (h : i ≤ j) : z_mx f g i j = g j := if_neg (by omega)
theorem z_mx_upd (f g : Nat → Int32) (i : Nat) : upd (z_mx f g i) i (f i) = z_mx f g (i + 1) := by
  funext j
  unfold upd z_mx
  by_cases h : j = i
  · subst h
    rw [if_pos rfl, if_pos (Nat.lt_succ_self j)]
  · by_cases h2 : j < i
    · rw [if_neg h, if_pos h2, if_pos (by omega)]
    · rw [if_neg h, if_neg h2, if_neg (by omega)]
theorem z_mx_updL (f g : Nat → Int64) (i : Nat) : vp_updL (z_mx f g i) i (f i) = z_mx f g (i + 1) := by
  funext j
  unfold vp_updL z_mx
  by_cases h : j = i
  · subst h
    rw [if_pos rfl, if_pos (Nat.lt_succ_self j)]
  · by_cases h2 : j < i
    · rw [if_neg h, if_pos h2, if_pos (by omega)]
    · rw [if_neg h, if_neg h2, if_neg (by omega)]
theorem z_i0 : (0 : Int32) = nI 0 := rfl
theorem z_nle {a b : Nat} (h : b < a) (ha : a < 2 ^ 31) : ¬ nI a ≤ nI b := nI_ge h ha
/-- Arrays.fill -/
theorem q_fillI (σ : zS) (p n : Nat) (v : Int32) (hn : n < 5000) : fJ7_fill_53178 σ p n v = some (z_fI σ p (z_mx (fun _ => v) (σ.1 p) n)) := by
  unfold fJ7_fill_53178 z_lt
  rw [show Int32.ofNat n = nI n from rfl, z_i0]
  have h := z_up (fun m (x : zS × Int32) => fJ7_fill_53178_L5 p n v (nI n) (fun w1 _ => some w1) m x.1 x.2) (fun i => (z_fI σ p (z_mx (fun _ => v) (σ.1 p) i), nI i)) n (some (z_fI σ p (z_mx (fun _ => v) (σ.1 p) n))) ?_ ?_ 0 z_F (Nat.zero_le _) (by show n < 5000 + 0; omega)
  · rw [z_mx_0, z_fI_self] at h
    exact h
  · intro m i hi
    show fJ7_fill_53178_L5 p n v (nI n) (fun w1 _ => some w1) (m + 1) _ (nI i) = fJ7_fill_53178_L5 p n v (nI n) (fun w1 _ => some w1) m _ (nI (i + 1))
    rw [fJ7_fill_53178_L5.eq_2, if_neg (z_nle hi (by omega)), z_gd_t (z_in_nI hi (by omega)), nI_clamp (by omega), nI_1]
    simp only [z_lt]
    rw [z_sI_fI, z_mx_upd]
  · intro m
    show fJ7_fill_53178_L5 p n v (nI n) (fun w1 _ => some w1) (m + 1) _ (nI n) = _
    rw [fJ7_fill_53178_L5.eq_2, if_pos (nI_le (Nat.le_refl n) (by omega))]
theorem q_fillJ (σ : zS) (p n : Nat) (v : Int64) (hn : n < 5000) : fJ7_fill_d0a16 σ p n v = some (z_fJ σ p (z_mx (fun _ => v) (σ.2 p) n)) := by
  unfold fJ7_fill_d0a16 z_lt
  rw [show Int32.ofNat n = nI n from rfl, z_i0]
  have h := z_up (fun m (x : zS × Int32) => fJ7_fill_d0a16_L6 p n v (nI n) (fun w1 _ => some w1) m x.1 x.2) (fun i => (z_fJ σ p (z_mx (fun _ => v) (σ.2 p) i), nI i)) n (some (z_fJ σ p (z_mx (fun _ => v) (σ.2 p) n))) ?_ ?_ 0 z_F (Nat.zero_le _) (by show n < 5000 + 0; omega)
  · rw [z_mx_0, z_fJ_self] at h
    exact h
  · intro m i hi
    show fJ7_fill_d0a16_L6 p n v (nI n) (fun w1 _ => some w1) (m + 1) _ (nI i) = fJ7_fill_d0a16_L6 p n v (nI n) (fun w1 _ => some w1) m _ (nI (i + 1))
    rw [fJ7_fill_d0a16_L6.eq_2, if_neg (z_nle hi (by omega)), z_gd_t (z_in_nI hi (by omega)), nI_clamp (by omega), nI_1]
    simp only [z_lt]
    rw [z_sJ_fJ, z_mx_updL]
  · intro m
    show fJ7_fill_d0a16_L6 p n v (nI n) (fun w1 _ => some w1) (m + 1) _ (nI n) = _
    rw [fJ7_fill_d0a16_L6.eq_2, if_pos (nI_le (Nat.le_refl n) (by omega))]
/-! a cell of an array is what its first n places hold -/
theorem c_cellI {cA : ClassId} {n : Nat} {f g : Nat → Int32} (h : ∀ j, j < n → f j = g j) : vp_cell cA (n, .inl f) = vp_cell cA (n, .inl g) := by
  show arrV cA n (fun j => .int (f j)) = arrV cA n (fun j => .int (g j))
  unfold arrV
  congr 1
  congr 1
  funext j
  simp only [h j.val j.isLt]
theorem c_cellQ {cA : ClassId} {n : Nat} {f g : Nat → Option Nat} (h : ∀ j, j < n → f j = g j) : vp_cell cA (n, .inr (.inr (.inr (.inr f)))) = vp_cell cA (n, .inr (.inr (.inr (.inr g)))) := by
  show arrV cA n (fun j => va_rf (f j)) = arrV cA n (fun j => va_rf (g j))
  unfold arrV
  congr 1
  congr 1
  funext j
  simp only [h j.val j.isLt]
/-! Arrays.fill, called by a constructor -/
def c_L1 (n : Nat) : zL := (1, fun cs _ _ f _ => .inl (cs 0, n, .inl f))
theorem c_fillI {p : Program} {l : Launch} {e : Env} {s : State} {m : MethodId} {args : Array Value} {below : List Frame} {meth : Method} {c : Code} {Q : State → Prop} {Y : zY} {A : Nat → Prop} {cc : ByteArray} {own : String} {nL : Nat} {ws ws' : va_W} {cells slots mc0 ms0 r q0 a n index pc pc' : Nat} {lv : List (Nat × Value)} {rest : List Value} {f : Nat → Int32} {v : Int32}
    (O : c_ok Y A p s m args c cc own nL) (ha : ws[q0]? = some (a, .inl (Y.2.1 0, n, .inl f))) (hn : n < 5000) (hl0 : Cond.methodLink own index yJ7_fill_53178 ∈ z_TB) (hr : 1 + 1 ≤ r) (hws : ws.set q0 (a, .inl (Y.2.1 0, n, .inl (fun _ => v))) = ws') (hW : (rest.map fun v => v.category).sum ≤ 8) (hc : cells + 0 ≤ mc0 ∧ slots + 0 ≤ ms0) (hd : z_d cc pc (.invokestatic index) 3 pc')
    (k : c_G p l e (c_rm r mc0 ms0) s m args below meth c Q Y A nL ws' cells slots lv pc' rest) : c_G p l e (c_rm r mc0 ms0) s m args below meth c Q Y A nL ws cells slots lv pc (.int v :: .ref a :: rest) := by
  obtain ⟨hd, rfl⟩ := hd
  subst hws
  intro H locs ls hP hD hS hl
  have hi : z_inj (c_L1 n) (Y.1, Y.2.1, (fun _ => a), Y.2.2.2) := fun i j h1 h2 _ => by
    have h1 : i < 1 := h1
    have h2 : j < 1 := h2
    omega
  have h0 : z_FI (c_L1 n) 0 n := ⟨Nat.lt_succ_self 0, fun _ _ _ _ => rfl⟩
  have hM := kJ7_fill_53178 (l := l) (Y := (Y.1, Y.2.1, (fun _ => a), Y.2.2.2)) hi h0 (q_fillI ((fun _ => f), fun _ _ => 0) 0 n v hn)
  have hA1 : ∀ q, z_A (c_L1 n) (Y.1, Y.2.1, (fun _ => a), Y.2.2.2) q → q = a := fun q ⟨_, _, h⟩ => h.symm
  have hAa : A a := hD.2 _ _ ha
  have hsub : ∀ q, z_A (c_L1 n) (Y.1, Y.2.1, (fun _ => a), Y.2.2.2) q → A q := fun q h => by rw [hA1 q h]; exact hAa
  have hw1 : z_wl (c_L1 n) (Y.1, Y.2.1, (fun _ => a), Y.2.2.2) ((fun _ => f), fun _ _ => 0) = [(a, .inl (Y.2.1 0, n, .inl f))] := rfl
  have hPc : va_P Y.1 z_cls [(a, .inl (Y.2.1 0, n, .inl f))] H := fun k z hz => by
    have h0 : k < 1 := (List.getElem?_eq_some_iff.mp hz).1
    rw [show k = 0 by omega] at hz
    cases hz
    exact hP _ _ ha
  refine va_callv (va_runS (As := [.ref a, .int v]) (rest := rest) ⟨O.1, O.2.1, O.2.2.1, O.2.2.2.1, O.2.2.2.2.1⟩ hM ⟨callB_of 2 O.2.2.2.2.1 (z_gin mJ7_fill_53178.1.1) rfl rfl rfl (O.2.2.2.2.1 _ mJ7_fill_53178.1.2.1) (O.2.2.2.2.1 _ hl0) mJ7_fill_53178.1.2.2.1 ⟨hr, by show 8 + (4 + 11) + 64 * 1 ≤ 64 * r; omega⟩, O.2.2.2.2.1 _ mJ7_fill_53178.2⟩ ⟨z_blind, fun U hU hW => ⟨rfl, by rw [hw1, hU]; exact hPc, va_K.moved hW.alike O.2.2.2.2.2.1, ?_⟩⟩ rfl rfl hl.1 rfl (lv_room hW) hd hc) hS (fun q _ h => hsub q h) hsub (fun u t H1 locs1 ht _ hp hB hz hk1 hS1 => ?_)
  · obtain ⟨g1, g2, g3, g4, g5⟩ := z_st_to hW hU hS O.2.2.2.2.2.2.1.1
    exact ⟨g1.narrow hsub, g2.narrow hsub, g3.narrow hsub, g4.narrow hsub, g5⟩
  · refine k H1 locs1 ls ?_ (hD.set ha) hS1 hl
    have hlq := (List.getElem?_eq_some_iff.mp ha).1
    intro j x hx
    by_cases hj : j = q0
    · subst hj
      rw [List.getElem?_set_self hlq] at hx
      cases hx
      have h1 := hB 0 (a, .inl (Y.2.1 0, n, .inl (u.1 0))) (by rfl)
      rw [ht] at h1
      have h2 : H1[a]? = some (vp_cell (Y.2.1 0) (n, .inl (u.1 0))) := h1
      show H1[a]? = some (vp_cell (Y.2.1 0) (n, .inl (fun _ => v)))
      rw [h2]
      congr 1
      refine c_cellI (fun i hi => ?_)
      rw [hp, z_fI_s]
      exact z_mx_in hi
    · rw [List.getElem?_set_ne (Ne.symm hj)] at hx
      refine (hP j x hx).kept (hk1 x.1 ((hP j x hx).lt) (fun h => hj ?_))
      exact hD.1 j q0 x _ hx ha (hA1 _ h)
