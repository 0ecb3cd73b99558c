/-! pure: one node of the tree -/
theorem f_cn_add {R p : Nat} (hp : p < 12) (h : R.testBit p = false) : f_cn (R ||| 2 ^ p) = f_cn R + 1 := by
  have hb : ∀ i, (R ||| 2 ^ p).testBit i = (R.testBit i || decide (p = i)) := fun i => by rw [Nat.testBit_or, Nat.testBit_two_pow]
  have hc : p = 0 ∨ p = 1 ∨ p = 2 ∨ p = 3 ∨ p = 4 ∨ p = 5 ∨ p = 6 ∨ p = 7 ∨ p = 8 ∨ p = 9 ∨ p = 10 ∨ p = 11 := by omega
  unfold f_cn
  simp only [hb]
  rcases hc with rfl | rfl | rfl | rfl | rfl | rfl | rfl | rfl | rfl | rfl | rfl | rfl <;> (rw [h]; simp; try omega)
theorem f_cn_12 {R i : Nat} (h : f_cn R = 12) (hi : i < 12) : R.testBit i = true := by
  have hb : ∀ b : Bool, (if b then 1 else 0) ≤ 1 := by decide
  have h0 := hb (R.testBit 0)
  have h1 := hb (R.testBit 1)
  have h2 := hb (R.testBit 2)
  have h3 := hb (R.testBit 3)
  have h4 := hb (R.testBit 4)
  have h5 := hb (R.testBit 5)
  have h6 := hb (R.testBit 6)
  have h7 := hb (R.testBit 7)
  have h8 := hb (R.testBit 8)
  have h9 := hb (R.testBit 9)
  have h10 := hb (R.testBit 10)
  have h11 := hb (R.testBit 11)
  have hg : ∀ b : Bool, (if b then 1 else 0) = 1 → b = true := by decide
  unfold f_cn at h
  have hc : i = 0 ∨ i = 1 ∨ i = 2 ∨ i = 3 ∨ i = 4 ∨ i = 5 ∨ i = 6 ∨ i = 7 ∨ i = 8 ∨ i = 9 ∨ i = 10 ∨ i = 11 := by omega
  rcases hc with rfl | rfl | rfl | rfl | rfl | rfl | rfl | rfl | rfl | rfl | rfl | rfl <;> (apply hg; omega)
/-- the sets of a node, by both sides; R: points that are gone -/
def w_nd (A B : List Nat) (R l : Nat) : Prop := A.Nodup ∧ B.Nodup ∧ (∀ x, x ∈ A ↔ x ∈ B) ∧ (∀ x, x ∈ A → x < 4096) ∧ w_ac A ∧ A.length ≤ 40 ∧ f_cn R = l ∧ ∀ x, x ∈ A → x &&& R = 0
section ND
variable {A B : List Nat} {R l p : Nat}
theorem w_nd_pm (h : w_nd A B R l) : A.Perm B := (List.perm_ext_iff_of_nodup h.1 h.2.1).mpr h.2.2.1
theorem w_nd_len (h : w_nd A B R l) : B.length = A.length := (w_nd_pm h).length_eq.symm
theorem w_nd_R (h : w_nd A B R l) {x : Nat} (hx : x ∈ A) (hp : x.testBit p = true) : R.testBit p = false := n_and0.mp (h.2.2.2.2.2.2.2 x hx) p hp
theorem w_nd_1 (h : w_nd A B R l) (hp : p < 12) {x : Nat} (hx : x ∈ A) (hxp : x.testBit p = true) : w_nd (w_1 p A) (w_1 p B) (R ||| 2 ^ p) (l + 1) := by
  obtain ⟨h1, h2, h3, h4, h5, h6, h7, h8⟩ := h
  refine ⟨List.Nodup.sublist List.filter_sublist h1, List.Nodup.sublist List.filter_sublist h2, fun y => by rw [w_1_mem, w_1_mem, h3], fun y hy => h4 y (w_1_mem.mp hy).1, fun y z hy hz hs => h5 y z (w_1_mem.mp hy).1 (w_1_mem.mp hz).1 hs, Nat.le_trans (List.length_filter_le _ _) h6, ?_, fun y hy => ?_⟩
  · rw [f_cn_add hp (n_and0.mp (h8 x hx) p hxp), h7]
  · obtain ⟨a, b⟩ := w_1_mem.mp hy
    apply n_and0.mpr
    intro i hi
    rw [Nat.testBit_or, Nat.testBit_two_pow, n_and0.mp (h8 y a) i hi, decide_eq_false (fun q => by rw [q] at b; rw [b] at hi; cases hi)]
    rfl
theorem w_nd_2 (h : w_nd A B R l) (hp : p < 12) {x : Nat} (hx : x ∈ A) (hxp : x.testBit p = true) {c : Nat → Bool} (hc : ∀ k, c k = true ↔ ∀ o, o < (B.map (n_rm p)).length → k_ok (B.map (n_rm p)) o k) : w_nd (w_2 p A) (k_k c (B.map (n_rm p)) (B.map (n_rm p)).length) (R ||| 2 ^ p) (l + 1) := by
  obtain ⟨h1, h2, h3, h4, h5, h6, h7, h8⟩ := h
  have hbC : ∀ y, y ∈ B.map (n_rm p) → y < 4096 := fun y hy => by
    obtain ⟨z, hz, rfl⟩ := List.mem_map.mp hy
    exact n_rm_lt hp (h4 z ((h3 z).mpr hz))
  obtain ⟨k1, k2⟩ := k_mn hbC hc
  have hm : ∀ y, y ∈ A.map (n_rm p) ↔ y ∈ B.map (n_rm p) := fun y => by
    rw [List.mem_map, List.mem_map]
    constructor
    · rintro ⟨z, hz, e⟩
      exact ⟨z, (h3 z).mp hz, e⟩
    · rintro ⟨z, hz, e⟩
      exact ⟨z, (h3 z).mpr hz, e⟩
  have hA2 := w_2_mem hp h4 h5
  refine ⟨w_2_nd hp h4 h1, k2, fun y => ?_, fun y hy => ?_, fun y z hy hz hs => ?_, Nat.le_trans w_2_le h6, ?_, fun y hy => ?_⟩
  · rw [hA2, k1]
    unfold w_mn
    constructor
    · rintro ⟨a, b⟩
      exact ⟨(hm y).mp a, fun z hz => b z ((hm z).mpr hz)⟩
    · rintro ⟨a, b⟩
      exact ⟨(hm y).mpr a, fun z hz => b z ((hm z).mp hz)⟩
  · exact hbC y ((hm y).mp ((hA2 y).mp hy).1)
  · exact ((hA2 z).mp hz).2 y ((hA2 y).mp hy).1 hs
  · rw [f_cn_add hp (n_and0.mp (h8 x hx) p hxp), h7]
  · obtain ⟨z, hz, rfl⟩ := List.mem_map.mp ((hA2 y).mp hy).1
    apply n_and0.mpr
    intro i hi
    rw [n_rm_b, Bool.and_eq_true, Bool.not_eq_true', decide_eq_false_iff_not] at hi
    rw [Nat.testBit_or, Nat.testBit_two_pow, n_and0.mp (h8 z hz) i hi.1, decide_eq_false (fun q => hi.2 q.symm)]
    rfl
theorem w_nd_12 (h : w_nd A B R 12) : ∀ x, x ∈ A → x = 0 := fun x hx => by
  apply Nat.eq_of_testBit_eq
  intro i
  rw [Nat.zero_testBit]
  rcases Nat.lt_or_ge i 12 with q | q
  · cases e : x.testBit i
    · rfl
    · have := n_and0.mp (h.2.2.2.2.2.2.2 x hx) i e
      rw [f_cn_12 h.2.2.2.2.2.2.1 q] at this
      cases this
  · exact b_hi (h.2.2.2.1 x hx) q
end ND
/-! the reference's node -/
def v_a (μ : zS) (tp n l pts : Int32) : zS := if μ.1 0 20 = μ.1 0 23 then z_sI (z_sI (z_sI (z_sI μ 0 24 tp) 0 25 n) 0 26 l) 0 27 pts else μ
def v_dp (d l : Int32) : Int32 := if l ≤ d then d else l
def v_4 (μ : zS) (tp n l pts : Int32) : zS := z_sI (z_sI (z_sI (v_a μ tp n l pts) 0 20 (μ.1 0 20 + 1)) 0 21 (v_dp (μ.1 0 21) l)) 0 22 (μ.1 0 22 + (if n = 0 then 1 else 0))
section V4
variable {μ : zS} {tp n l pts : Int32}
theorem v_a_0 {k : Nat} (hk : k < 24 ∨ 27 < k) : (v_a μ tp n l pts).1 0 k = μ.1 0 k := by
  unfold v_a
  split
  · rw [z_rd_s, u_n (by omega), z_rd_s, u_n (by omega), z_rd_s, u_n (by omega), z_rd_s, u_n (by omega)]
  · rfl
theorem v_a_p {p : Nat} (hp : p ≠ 0) : (v_a μ tp n l pts).1 p = μ.1 p := by
  unfold v_a
  split
  · rw [z_rd_n hp, z_rd_n hp, z_rd_n hp, z_rd_n hp]
  · rfl
theorem v_a_2 : (v_a μ tp n l pts).2 = μ.2 := by
  unfold v_a
  split <;> rfl
theorem v_4_p {p : Nat} (hp : p ≠ 0) : (v_4 μ tp n l pts).1 p = μ.1 p := by
  unfold v_4
  rw [z_rd_n hp, z_rd_n hp, z_rd_n hp, v_a_p hp]
theorem v_4_2 : (v_4 μ tp n l pts).2 = μ.2 := by
  unfold v_4
  rw [z_rd_2, z_rd_2, z_rd_2, v_a_2]
theorem v_4_k {k : Nat} (hk : k < 20 ∨ 27 < k ∨ k = 23) : (v_4 μ tp n l pts).1 0 k = μ.1 0 k := by
  unfold v_4
  rw [z_rd_s, u_n (by omega), z_rd_s, u_n (by omega), z_rd_s, u_n (by omega), v_a_0 (by omega)]
theorem v_4_20 : (v_4 μ tp n l pts).1 0 20 = μ.1 0 20 + 1 := by
  unfold v_4
  rw [z_rd_s, u_n (by decide), z_rd_s, u_n (by decide), z_rd_s, u_s]
theorem v_4_21 : (v_4 μ tp n l pts).1 0 21 = v_dp (μ.1 0 21) l := by
  unfold v_4
  rw [z_rd_s, u_n (by decide), z_rd_s, u_s]
theorem v_4_22 : (v_4 μ tp n l pts).1 0 22 = μ.1 0 22 + (if n = 0 then 1 else 0) := by
  unfold v_4
  rw [z_rd_s, u_s]
theorem v_4_s (h : μ.1 0 20 = μ.1 0 23) : (v_4 μ tp n l pts).1 0 24 = tp ∧ (v_4 μ tp n l pts).1 0 25 = n ∧ (v_4 μ tp n l pts).1 0 26 = l ∧ (v_4 μ tp n l pts).1 0 27 = pts := by
  unfold v_4 v_a
  rw [if_pos h]
  refine ⟨?_, ?_, ?_, ?_⟩
  · rw [z_rd_s, u_n (by decide), z_rd_s, u_n (by decide), z_rd_s, u_n (by decide), z_rd_s, u_n (by decide), z_rd_s, u_n (by decide), z_rd_s, u_n (by decide), z_rd_s, u_s]
  · rw [z_rd_s, u_n (by decide), z_rd_s, u_n (by decide), z_rd_s, u_n (by decide), z_rd_s, u_n (by decide), z_rd_s, u_n (by decide), z_rd_s, u_s]
  · rw [z_rd_s, u_n (by decide), z_rd_s, u_n (by decide), z_rd_s, u_n (by decide), z_rd_s, u_n (by decide), z_rd_s, u_s]
  · rw [z_rd_s, u_n (by decide), z_rd_s, u_n (by decide), z_rd_s, u_n (by decide), z_rd_s, u_s]
theorem v_4_o (h : ¬ μ.1 0 20 = μ.1 0 23) {k : Nat} (hk : 24 ≤ k) : (v_4 μ tp n l pts).1 0 k = μ.1 0 k := by
  unfold v_4 v_a
  rw [if_neg h, z_rd_s, u_n (by omega), z_rd_s, u_n (by omega), z_rd_s, u_n (by omega)]
end V4
section GN
variable {μ : zS} {l d : Nat} {B : List Nat} {pts : Int32}
/-- what follows behind the node itself -/
def v_go (d : Nat) (a1 a2 a3 r1 : Int32) (w4 : zS) : Option zS := fX8_grows_L138 a1 a2 r1 (fun (w5 : zS) (x4 : Int32) (x5 : Int32) => (fX8_grows d w5 (a1 + (1 : Int32)) x4 (a3 ||| ((1 : Int32) <<< (r1 &&& 31)))).bind (fun r2 => fX8_grows_L218 a1 a2 r1 (fun (w6 : zS) (x6 : Int32) => (fX8_thins w6 (a1 + (1 : Int32)) a2).bind (fun r3 => (fX8_grows d r3.2 (a1 + (1 : Int32)) r3.1 a3).bind (fun r4 => some r4))) z_F r2 (0 : Int32))) z_F w4 (0 : Int32) (0 : Int32)
theorem r_grow (hr : w_rm μ l B) (hl : B.length ≤ 40) (hb : ∀ x, x ∈ B → x < 4096) (hl12 : l ≤ 12) (hac : ∀ x y, x ∈ B → y ∈ B → n_sub x y = true → x = y) (hnd : B.Nodup) : fX8_grows (d + 1) μ (nI l) (nI B.length) pts = (if w_top B = -1 then some (v_4 μ (w_top B) (nI B.length) (nI l) pts) else v_go d (nI l) (nI B.length) pts (w_top B) (v_4 μ (w_top B) (nI B.length) (nI l) pts)) := by
  have htop := r_topL (l := l) hr hl hb (by omega)
  have hj4 : ∀ (J : Int32 → Option zS), z_jn J (fun j4 => (if nI B.length = 0 then j4 (1 : Int32) else (if w_top B = (-1 : Int32) then j4 (1 : Int32) else z_gd (z_in ((40 : Int32) * nI l) 560) ((if (μ.1 16 ((40 : Int32) * nI l).toNatClampNeg) = 0 then j4 (1 : Int32) else j4 (0 : Int32)))))) = J (if w_top B = -1 then 1 else 0) := fun J => by
    rw [z_jnE]
    rcases w_top_c hl hb with ⟨a, b⟩ | ⟨p, a, b, x, hx, e⟩
    · rw [a]
      by_cases q : nI B.length = 0
      · rw [if_pos q, if_pos rfl]
      · rw [if_neg q, if_pos rfl, if_pos rfl]
    · have hne : ¬ w_top B = -1 := by
        rw [b]
        exact n_ne_neg (by omega) (by decide)
      have hlen : 0 < B.length := List.length_pos_of_mem hx
      have h0 : B.getD 0 0 ≠ 0 := fun z => by
        have hm : B.getD 0 0 ∈ B := List.mem_of_getElem? (l_gd hlen)
        have hs : n_sub (B.getD 0 0) x = true := (n_sub_t (hb _ hm) (hb x hx)).mpr (fun i hi => by
          rw [z, Nat.zero_testBit] at hi
          cases hi)
        have := hac _ _ hm hx hs
        rw [← this, z, Nat.zero_testBit] at e
        cases e
      have hrd : μ.1 16 (40 * l) = nI (B.getD 0 0) := hr 0 _ (l_gd hlen)
      have hb0 := hb _ (List.mem_of_getElem? (l_gd hlen))
      rw [if_neg (nI_ne0 (by omega) (by omega)), if_neg hne, n_40, pk_mul, z_gd_t (z_in_nI (by omega) (by decide)), nI_clamp (by omega), hrd, if_neg (nI_ne0 (by omega) (by omega)), if_neg hne]
  have hj3 : ∀ (J : zS → Option zS) (x1 : Int32), x1 = (if w_top B = -1 then 1 else 0) → z_jn J (fun j3 => (if (μ.1 0 20) = (μ.1 0 23) then (if x1 = 0 then z_lt (z_sI μ 0 24 (w_top B)) (fun (w7 : zS) => z_lt (z_sI w7 0 25 (nI B.length)) (fun (w8 : zS) => z_lt (z_sI w8 0 26 (nI l)) (fun (w9 : zS) => z_lt (z_sI w9 0 27 pts) (fun (w10 : zS) => j3 w10)))) else z_lt (z_sI μ 0 24 (-1 : Int32)) (fun (w11 : zS) => z_lt (z_sI w11 0 25 (nI B.length)) (fun (w12 : zS) => z_lt (z_sI w12 0 26 (nI l)) (fun (w13 : zS) => z_lt (z_sI w13 0 27 pts) (fun (w14 : zS) => j3 w14))))) else j3 μ)) = J (v_a μ (w_top B) (nI B.length) (nI l) pts) := fun J x1 hx => by
    rw [z_jnE, hx]
    unfold v_a
    by_cases q : μ.1 0 20 = μ.1 0 23
    · rw [if_pos q, if_pos q]
      simp only [z_ltE]
      by_cases q2 : w_top B = -1
      · rw [if_pos q2, i_f, q2]
      · rw [if_neg q2, i_t]
    · rw [if_neg q, if_neg q]
  have hj2 : ∀ (J : Int32 → Option zS) (a b : Int32), z_jn J (fun j2 => (if a ≤ b then j2 b else j2 a)) = J (v_dp b a) := fun J a b => by
    rw [z_jnE]
    unfold v_dp
    by_cases q : a ≤ b
    · rw [if_pos q, if_pos q]
    · rw [if_neg q, if_neg q]
  have hj1 : ∀ (J : Int32 → Option zS), z_jn J (fun j1 => (if nI B.length = 0 then j1 (1 : Int32) else j1 (0 : Int32))) = J (if nI B.length = 0 then 1 else 0) := fun J => by
    rw [z_jnE]
    by_cases q : nI B.length = 0
    · rw [if_pos q, if_pos q]
    · rw [if_neg q, if_neg q]
  rw [fX8_grows.eq_2, z_bd htop, hj4, hj3 _ _ rfl, z_ltE, hj2, z_ltE, hj1, z_ltE]
  have e4 : z_sI (z_sI (z_sI (v_a μ (w_top B) (nI B.length) (nI l) pts) 0 20 ((v_a μ (w_top B) (nI B.length) (nI l) pts).1 0 20 + 1)) 0 21 (v_dp ((z_sI (v_a μ (w_top B) (nI B.length) (nI l) pts) 0 20 ((v_a μ (w_top B) (nI B.length) (nI l) pts).1 0 20 + 1)).1 0 21) (nI l))) 0 22 ((z_sI (z_sI (v_a μ (w_top B) (nI B.length) (nI l) pts) 0 20 ((v_a μ (w_top B) (nI B.length) (nI l) pts).1 0 20 + 1)) 0 21 (v_dp ((z_sI (v_a μ (w_top B) (nI B.length) (nI l) pts) 0 20 ((v_a μ (w_top B) (nI B.length) (nI l) pts).1 0 20 + 1)).1 0 21) (nI l))).1 0 22 + (if nI B.length = 0 then 1 else 0)) = v_4 μ (w_top B) (nI B.length) (nI l) pts := by
    unfold v_4
    rw [v_a_0 (k := 20) (by decide)]
    have a1 : (z_sI (v_a μ (w_top B) (nI B.length) (nI l) pts) 0 20 (μ.1 0 20 + 1)).1 0 21 = μ.1 0 21 := by rw [z_rd_s, u_n (by decide), v_a_0 (by decide)]
    rw [a1]
    have a2 : (z_sI (z_sI (v_a μ (w_top B) (nI B.length) (nI l) pts) 0 20 (μ.1 0 20 + 1)) 0 21 (v_dp (μ.1 0 21) (nI l))).1 0 22 = μ.1 0 22 := by rw [z_rd_s, u_n (by decide), z_rd_s, u_n (by decide), v_a_0 (by decide)]
    rw [a2]
  rw [e4]
  by_cases q : w_top B = -1
  · rw [if_pos q, if_pos q, i_f]
  · rw [if_neg q, if_neg q, i_t]
    rfl
end GN
