/-! pure: packs -/
theorem n_l {s : Nat} (h : s < 2 ^ 31) : (nI s).toInt64 = lN s := by
  apply Int64.toInt_inj.mp
  rw [n_i64, nI_toInt h, pk_lT (by omega)]
def f_pk (g : Nat → Nat) : Nat → Nat
  | 0 => 0
  | n + 1 => f_pk g n + g n * 2 ^ (12 * n)
theorem f_pk_lt {g : Nat → Nat} (hg : ∀ k, g k < 4096) : ∀ n, f_pk g n < 2 ^ (12 * n)
  | 0 => show 0 < 1 by decide
  | n + 1 => by
    have h1 := f_pk_lt hg n
    have h2 : g n * 2 ^ (12 * n) ≤ 4095 * 2 ^ (12 * n) := Nat.mul_le_mul_right _ (by have := hg n; omega)
    have h3 : 2 ^ (12 * (n + 1)) = 4096 * 2 ^ (12 * n) := by rw [show 12 * (n + 1) = 12 + 12 * n by omega, Nat.pow_add]
    show f_pk g n + g n * 2 ^ (12 * n) < _
    rw [h3]
    omega
theorem l_toNat {a : Nat} (h : a < 2 ^ 64) : (lN a).toBitVec.toNat = a := Nat.mod_eq_of_lt h
theorem l_or {a s j : Nat} (hj : j < 5) (ha : a < 2 ^ (12 * j)) (hs : s < 4096) : lN a ||| (lN s <<< (((12 : Int32) * nI j).toInt64 &&& 63)) = lN (a + s * 2 ^ (12 * j)) := by
  have hp : 2 ^ (12 * j) ≤ 2 ^ 48 := Nat.pow_le_pow_right (by decide) (by omega)
  have h1 : s * 2 ^ (12 * j) ≤ 4095 * 2 ^ (12 * j) := Nat.mul_le_mul_right _ (by omega)
  have hk : ((((12 : Int32) * nI j).toInt64 &&& 63).toBitVec.smod 64).toNat = 12 * j := by
    have : ∀ j : Fin 5, ((((12 : Int32) * nI j.val).toInt64 &&& 63).toBitVec.smod 64).toNat = 12 * j.val := by decide
    exact this ⟨j, hj⟩
  apply Int64.toBitVec_inj.mp
  apply BitVec.eq_of_toNat_eq
  rw [l_toNat (by omega)]
  show ((lN a).toBitVec ||| ((lN s).toBitVec <<< ((((12 : Int32) * nI j).toInt64 &&& 63).toBitVec.smod 64))).toNat = _
  rw [BitVec.toNat_or, BitVec.shiftLeft_eq', BitVec.toNat_shiftLeft, hk, l_toNat (by omega), l_toNat (by omega), Nat.shiftLeft_eq, Nat.mod_eq_of_lt (by omega), Nat.or_comm, ← Nat.shiftLeft_eq, ← Nat.shiftLeft_add_eq_or_of_lt ha, Nat.add_comm]
def f_at (F : List (Nat × Nat)) (k : Nat) : Nat := match F[k]? with
  | some x => x.1
  | none => 0
theorem f_at_s {F : List (Nat × Nat)} {k : Nat} {x : Nat × Nat} (h : F[k]? = some x) : f_at F k = x.1 := by
  unfold f_at
  rw [h]
theorem f_at_n {F : List (Nat × Nat)} {k : Nat} (h : F.length ≤ k) : f_at F k = 0 := by
  unfold f_at
  rw [List.getElem?_eq_none h]
theorem f_at_lt {F : List (Nat × Nat)} (hw : h_wf F) (k : Nat) : f_at F k < 4096 := by
  unfold f_at
  cases e : F[k]? with
  | none => decide
  | some x => exact (hw.2.1 x (h_at e).2).1
theorem q_packed {σ : zS} {q i : Nat} {F : List (Nat × Nat)} (hX : h_X σ q F) (hw : h_wf F) (hi : i ≤ 40) : fX1_packedFrom σ q (nI i) = some (lN (f_pk (fun k => f_at F (i + k)) 5)) := by
  have hl := hw.1
  have key : ∀ (d j n : Nat), j + d = 5 → d < n → fX1_packedFrom_L5 σ q (nI i) (fun x1 _ => some x1) n (lN (f_pk (fun k => f_at F (i + k)) j)) (nI j) = some (lN (f_pk (fun k => f_at F (i + k)) 5)) := by
    intro d
    induction d with
    | zero =>
      intro j n h1 h2
      obtain ⟨n, rfl⟩ : ∃ j, n = j + 1 := ⟨n - 1, by omega⟩
      have hj : j = 5 := by omega
      subst hj
      rw [fX1_packedFrom_L5.eq_2, if_pos (by decide)]
    | succ d ih =>
      intro j n h1 h2
      obtain ⟨n, rfl⟩ : ∃ j, n = j + 1 := ⟨n - 1, by omega⟩
      rw [fX1_packedFrom_L5.eq_2, n_5, if_neg (z_nle (show j < 5 by omega) (by decide)), nI_add, hX.1, nI_1]
      by_cases hk : i + j < F.length
      · have hx : F[i + j]? = some F[i + j] := List.getElem?_eq_getElem hk
        have hb := (hw.2.1 _ (h_at hx).2).1
        rw [if_neg (z_nle hk (by omega)), z_gd_t (z_in_nI (by omega) (by decide)), nI_clamp (by omega), (hX.2 _ _ hx).1, z_ltE, n_l (by omega), l_or (by omega) (f_pk_lt (fun k => f_at_lt hw _) j) hb]
        have e : f_pk (fun k => f_at F (i + k)) j + F[i + j].1 * 2 ^ (12 * j) = f_pk (fun k => f_at F (i + k)) (j + 1) := by
          show _ = f_pk (fun k => f_at F (i + k)) j + f_at F (i + j) * 2 ^ (12 * j)
          rw [f_at_s hx]
        rw [e]
        exact ih (j + 1) n (by omega) (by omega)
      · rw [if_pos (nI_le (by omega) (by omega))]
        have e : ∀ m, f_pk (fun k => f_at F (i + k)) (j + m) = f_pk (fun k => f_at F (i + k)) j := by
          intro m
          induction m with
          | zero => rfl
          | succ m ihm =>
            show f_pk (fun k => f_at F (i + k)) (j + m) + f_at F (i + (j + m)) * 2 ^ (12 * (j + m)) = _
            rw [ihm, f_at_n (by omega)]
            omega
        have := e (5 - j)
        rw [show j + (5 - j) = 5 by omega] at this
        rw [this]
  unfold fX1_packedFrom
  exact key 5 0 z_F (by decide) (by show 5 < 5000; decide)
def f_ho (g : Nat → Nat) : Nat → Nat
  | 0 => 0
  | n + 1 => f_ho g n * 4096 + g (4 - n)
theorem f_ho_lt {g : Nat → Nat} (hg : ∀ k, g k < 4096) : ∀ n, f_ho g n < 2 ^ (12 * n)
  | 0 => show 0 < 1 by decide
  | n + 1 => by
    have h1 := f_ho_lt hg n
    have h2 := hg (4 - n)
    have h3 : 2 ^ (12 * (n + 1)) = 4096 * 2 ^ (12 * n) := by rw [show 12 * (n + 1) = 12 + 12 * n by omega, Nat.pow_add]
    show f_ho g n * 4096 + g (4 - n) < _
    rw [h3]
    omega
theorem f_ho_pk (g : Nat → Nat) : f_ho g 5 = f_pk g 5 := by
  show ((((0 * 4096 + g 4) * 4096 + g 3) * 4096 + g 2) * 4096 + g 1) * 4096 + g 0 = 0 + g 0 * 1 + g 1 * 4096 + g 2 * 16777216 + g 3 * 68719476736 + g 4 * 281474976710656
  omega
theorem r_packed {μ : zS} {f i : Nat} {F : List (Nat × Nat)} (hf : f < 4) (hM : h_M μ f F) (hw : h_wf F) (hi : i ≤ 40) (K : Int64 → Option (Int32 × zS)) : fX8_packs_L57 μ (nI f) (nI i) (fun x1 _ => K x1) z_F 0 4 = K (lN (f_pk (fun k => f_at F (5 * i + k)) 5)) := by
  have hl := hw.1
  have em : ∀ j, nI (j + 1) + (-1) = nI j := pk_m1
  have key : ∀ (d n : Nat), d ≤ 5 → d < n → fX8_packs_L57 μ (nI f) (nI i) (fun x1 _ => K x1) n (lN (f_ho (fun k => f_at F (5 * i + k)) (5 - d))) (nI d - 1) = K (lN (f_ho (fun k => f_at F (5 * i + k)) 5)) := by
    intro d
    induction d with
    | zero =>
      intro n h1 h2
      obtain ⟨n, rfl⟩ : ∃ j, n = j + 1 := ⟨n - 1, by omega⟩
      rw [fX8_packs_L57.eq_2, if_pos (by decide)]
    | succ d ih =>
      intro n h1 h2
      obtain ⟨n, rfl⟩ : ∃ j, n = j + 1 := ⟨n - 1, by omega⟩
      have e4 : f_ho (fun k => f_at F (5 * i + k)) (5 - d) = f_ho (fun k => f_at F (5 * i + k)) (5 - (d + 1)) * 4096 + f_at F (5 * i + d) := by
        rw [show 5 - d = (5 - (d + 1)) + 1 by omega]
        show _ * 4096 + f_at F (5 * i + (4 - (5 - (d + 1)))) = _
        rw [show 4 - (5 - (d + 1)) = d by omega]
      have ed : nI d + (-1) = nI d - 1 := (Int32.sub_eq_add_neg (nI d) 1).symm
      have e40 : (4096 : Int64) = lN 4096 := rfl
      rw [fX8_packs_L57.eq_2, nI_pred, if_neg (nI_pos (by omega)), z_gd_t (r_f4 hf), r_sz hf hM, n_5, pk_mul, nI_add, ed]
      have hlt := f_ho_lt (g := fun k => f_at F (5 * i + k)) (fun k => f_at_lt hw _) (5 - (d + 1))
      by_cases hk : 5 * i + d < F.length
      · have hx : F[5 * i + d]? = some F[5 * i + d] := List.getElem?_eq_getElem hk
        have hb := (hw.2.1 _ (h_at hx).2).1
        rw [if_neg (z_nle hk (by omega)), z_bd (r_set_at hM hf hl hx), z_ltE, n_l (by omega), e40, lN_mul, lN_add]
        have := ih n (by omega) (by omega)
        rw [e4, f_at_s hx] at this
        exact this
      · rw [if_pos (nI_le (by omega) (by omega)), z_ltE, show (0 : Int32).toInt64 = lN 0 from rfl, e40, lN_mul, lN_add]
        have := ih n (by omega) (by omega)
        rw [e4, f_at_n (by omega)] at this
        exact this
  have h := key 5 z_F (by decide) (by show 5 < 5000; decide)
  rw [f_ho_pk] at h
  exact h
theorem s_packs_p : s_packs pP := by
  intro σ μ h a1 a2
  unfold fX7_packs fX8_packs
  rcases n_cases a1 (n := 4) (by decide) with ho | ⟨s, hs, rfl⟩
  · rw [z_bd (q_ns1 ho), i_f, z_bd (r_isSheet0 ho), i_t]
    exact ⟨_, _, _, rfl, rfl, h⟩
  rw [z_bd (q_ns0 hs), i_t, z_bd (r_isSheet1 hs), i_f]
  rcases n_cases a2 (n := 4) (by decide) with ho | ⟨f, hf, rfl⟩
  · rw [z_bd (q_nf1 ho), i_f, z_bd (r_isFamily0 ho), i_t]
    exact ⟨_, _, _, rfl, rfl, h⟩
  rw [z_bd (q_nf0 hf), i_t, z_bd (r_isFamily1 hf), i_f, z_gd_t (r_f4 hs), nI_clamp (show s < 2 ^ 31 by omega)]
  rcases r_noLongs h hs with ⟨e1, e2⟩ | ⟨e1, e2, e3⟩ | ⟨e1, e2, e3⟩
  · obtain ⟨F, A, nr, h1, h2, h3, h4, h5, h6⟩ := p_un h
    obtain ⟨hX, hM, hw⟩ := h2 f hf
    have hl := hw.1
    rw [if_pos e1, z_bd e2, i_t, z_gd_t (r_f4 hf), z_gd_t (r_f4 hf), z_gd_t (by decide), r_sz hf hM, n_4, nI_add, n_div5 (by omega), z_ltE, nI_clamp (show f < 2 ^ 31 by omega), z_i0]
    have key : ∀ (d i n : Nat) (σ μ : zS), i + d = ((F f).length + 4) / 5 → d < n → pP σ μ → h_X σ (7 + f) (F f) → h_M μ f (F f) → ¬ σ.1 (64 + s) 1 = -1 → ∃ r σ' μ', fX7_packs_L65 (64 + s) (7 + f) (fun w1 x1 _ => some (x1, w1)) n σ (nI i) (nI (5 * i)) = some (r, σ') ∧ fX8_packs_L44 (nI s) (nI f) (nI (((F f).length + 4) / 5)) (fun w1 _ => some (nI (((F f).length + 4) / 5), w1)) n μ (nI i) = some (r, μ') ∧ pP σ' μ' := by
      intro d
      induction d with
      | zero =>
        intro i n σ μ h1 h2 h hX hM hk
        obtain ⟨n, rfl⟩ : ∃ j, n = j + 1 := ⟨n - 1, by omega⟩
        have hi : i = ((F f).length + 4) / 5 := by omega
        rw [fX7_packs_L65.eq_2, fX8_packs_L44.eq_2, hX.1, if_pos (nI_le (by omega) (by omega)), if_pos (nI_le (by omega) (by omega)), ← hi]
        exact ⟨_, _, _, rfl, rfl, h⟩
      | succ d ih =>
        intro i n σ μ h1 h2 h hX hM hk
        obtain ⟨n, rfl⟩ : ∃ j, n = j + 1 := ⟨n - 1, by omega⟩
        rw [fX7_packs_L65.eq_2, fX8_packs_L44.eq_2, hX.1, if_neg (z_nle (show 5 * i < (F f).length by omega) (by omega)), if_neg (z_nle (show i < ((F f).length + 4) / 5 by omega) (by omega)), z_bd (q_packed hX hw (by omega)), r_packed hf hM hw (by omega) (fun x1 => (fX8_cell μ (nI s) (nI i) x1).bind (fun r1 => (if 0 ≤ r1.1 then fX8_packs_L44 (nI s) (nI f) (nI (((F f).length + 4) / 5)) (fun w1 _ => some (nI (((F f).length + 4) / 5), w1)) n r1.2 (nI i + (1 : Int32)) else some (r1.1, r1.2)))), nI_1, n_5, nI_add]
        obtain ⟨m, hm, w1, w2, w3⟩ := s_put h hs hk (nI i) (lN (f_pk (fun k => f_at (F f) (5 * i + k)) 5))
        rcases w3 with ⟨ho, p1, p2⟩ | ⟨j, σ', μ', hj, e, p1, p2, p3, p4, p5⟩
        · rw [z_bd p1, z_bd p2, i_t, if_neg (show ¬ (0 : Int32) ≤ -12 by decide)]
          exact ⟨_, _, _, rfl, rfl, h⟩
        · rw [z_bd p1, z_bd p2, i_f, if_pos (show (0 : Int32) ≤ 1 by decide), show 5 * i + 5 = 5 * (i + 1) by omega]
          exact ih (i + 1) n σ' μ' (by omega) (by omega) p3 (h_X_c hX (by rw [p4]) (by rw [p4]) (by rw [p4])) (h_M_c hM (by rw [p5]) (by rw [p5]) (by rw [p5])) (by rw [p4]; exact hk)
    exact key (((F f).length + 4) / 5) 0 z_F σ μ (by omega) (by show _ < 5000; omega) h hX hM (by rw [e1]; decide)
  · rw [if_neg e1, if_pos e2, z_bd e3, if_neg (show ¬ (-11 : Int32) = 0 by decide)]
    exact ⟨_, _, _, rfl, rfl, h⟩
  · rw [if_neg e1, if_neg e2, z_bd e3, if_neg (show ¬ (-13 : Int32) = 0 by decide)]
    exact ⟨_, _, _, rfl, rfl, h⟩
