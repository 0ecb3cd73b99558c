/-! pure: the tree, both sides at once -/
def w_J (σ μ : zS) (w : Int32) (N : Nat) : Prop := σ.1 72 1 = w ∧ μ.1 0 23 = w ∧ μ.1 0 20 = nI N ∧ ((σ.1 72 5 = 0 ∧ σ.1 72 2 = nI N ∧ σ.1 72 3 = μ.1 0 21 ∧ σ.1 72 4 = μ.1 0 22 ∧ ∀ j, j < N → ¬ w = nI j) ∨ (σ.1 72 5 = 1 ∧ (∃ j, j < N ∧ w = nI j) ∧ σ.1 72 6 = μ.1 0 24 ∧ σ.1 72 7 = μ.1 0 25 ∧ σ.1 72 8 = μ.1 0 26 ∧ σ.1 72 9 = μ.1 0 27))
theorem w_J_c {σ μ τ ν : zS} {w : Int32} {N : Nat} (h : w_J σ μ w N) (a : τ.1 72 = σ.1 72) (b : ν.1 0 = μ.1 0) : w_J τ ν w N := by
  unfold w_J
  rw [a, b]
  exact h
def v_X (l : Nat) (σ τ : zS) : Prop := (∀ q, q ≠ 72 → (q ≤ 74 + l ∨ 87 ≤ q) → τ.1 q = σ.1 q) ∧ τ.2 = σ.2
def v_M (l : Nat) (μ ν : zS) : Prop := (∀ p, p ≠ 0 → p ≠ 13 → p ≠ 16 → ν.1 p = μ.1 p) ∧ ν.2 = μ.2 ∧ (∀ k, k < 20 ∨ 27 < k → ν.1 0 k = μ.1 0 k) ∧ ∀ j, j < 40 * (l + 1) → ν.1 16 j = μ.1 16 j
theorem v_X_rf {l : Nat} {σ : zS} : v_X l σ σ := ⟨fun _ _ _ => rfl, rfl⟩
theorem v_X_tr {l : Nat} {σ τ υ : zS} (a : v_X l σ τ) (b : v_X l τ υ) : v_X l σ υ := ⟨fun q h1 h2 => (b.1 q h1 h2).trans (a.1 q h1 h2), b.2.trans a.2⟩
theorem v_X_dn {l : Nat} {σ τ : zS} (a : v_X (l + 1) σ τ) : v_X l σ τ := ⟨fun q h1 h2 => a.1 q h1 (by omega), a.2⟩
theorem v_X_f {l : Nat} {σ : zS} {g : Nat → Int32} (hl : l < 12) : v_X l σ (z_fI σ (74 + (l + 1)) g) := ⟨fun q h1 h2 => z_fI_n (by omega), rfl⟩
theorem v_X_s {l k : Nat} {σ : zS} {v : Int32} : v_X l σ (z_sI σ 72 k v) := ⟨fun q h1 h2 => z_rd_n h1, rfl⟩
theorem v_M_tr {l : Nat} {μ ν ξ : zS} (a : v_M l μ ν) (b : v_M l ν ξ) : v_M l μ ξ := ⟨fun p h1 h2 h3 => (b.1 p h1 h2 h3).trans (a.1 p h1 h2 h3), b.2.1.trans a.2.1, fun k h => (b.2.2.1 k h).trans (a.2.2.1 k h), fun j h => (b.2.2.2 j h).trans (a.2.2.2 j h)⟩
theorem v_M_dn {l : Nat} {μ ν : zS} (a : v_M (l + 1) μ ν) : v_M l μ ν := ⟨a.1, a.2.1, a.2.2.1, fun j h => a.2.2.2 j (by omega)⟩
theorem v_M_r {l : Nat} {μ ν : zS} (a : v_r (l + 1) μ ν) : v_M l μ ν := ⟨fun p _ h2 h3 => a.1 p h2 h3, a.2.1, fun k _ => by rw [a.1 0 (by decide) (by decide)], a.2.2⟩
theorem v_M_4 {l : Nat} {μ : zS} {tp n a pts : Int32} : v_M l μ (v_4 μ tp n a pts) := ⟨fun p h1 _ _ => v_4_p h1, v_4_2, fun k h => v_4_k (by omega), fun j _ => by rw [v_4_p (by decide)]⟩
theorem w_rm_M {μ ν : zS} {l m : Nat} {L : List Nat} (h : w_rm μ l L) (hl : L.length ≤ 40) (a : v_M m μ ν) (hm : l ≤ m) : w_rm ν l L := fun k x hx => by
  have hk := (List.getElem?_eq_some_iff.mp hx).1
  show ν.1 16 (40 * l + k) = nI x
  rw [a.2.2.2 _ (by omega)]
  exact h k x hx
/-! the program's node -/
def u_f (σ : zS) (tp n l pts : Int32) : zS := z_sI (z_sI (z_sI (z_sI (z_sI σ 72 5 1) 72 6 tp) 72 7 n) 72 8 l) 72 9 pts
def u_3 (σ : zS) (l : Int32) : zS := z_sI (z_sI (z_sI σ 72 5 0) 72 2 (σ.1 72 2 + 1)) 72 3 (v_dp (σ.1 72 3) l)
def u_4 (σ : zS) (n l : Int32) : zS := if n = 0 then z_sI (u_3 σ l) 72 4 (σ.1 72 4 + 1) else u_3 σ l
def u_go (d : Nat) (a1 a2 a3 r1 : Int32) (w4 : zS) : Option zS := (fX6_keepWithout w4 a1 a2 r1).bind (fun r3 => (fX6_visit d r3.2 (a1 + (1 : Int32)) r3.1 (a3 ||| ((1 : Int32) <<< (r1 &&& 31)))).bind (fun r4 => (fX6_keepReduced r4 a1 a2 r1).bind (fun r5 => (fX6_visit d r5.2 (a1 + (1 : Int32)) r5.1 a3).bind (fun r6 => some r6))))
theorem q_visit0 {σ : zS} {d : Nat} {a1 a2 a3 : Int32} (h : σ.1 72 5 = 1) : fX6_visit (d + 1) σ a1 a2 a3 = some σ := by
  rw [fX6_visit.eq_2, if_neg (by rw [h]; decide)]
theorem q_visit1 {σ : zS} {d l : Nat} {A : List Nat} {pts : Int32} (h : σ.1 72 5 = 0) (hr : w_row (σ.1 (74 + l)) A) (hl : A.length ≤ 40) (hb : ∀ x, x ∈ A → x < 4096) (hl12 : l ≤ 12) : fX6_visit (d + 1) σ (nI l) (nI A.length) pts = (if σ.1 72 2 = σ.1 72 1 then some (u_f σ (w_top A) (nI A.length) (nI l) pts) else if w_top A = -1 then some (u_4 σ (nI A.length) (nI l)) else if l = 12 then some (u_4 σ (nI A.length) (nI l)) else u_go d (nI l) (nI A.length) pts (w_top A) (u_4 σ (nI A.length) (nI l))) := by
  rw [fX6_visit.eq_2, if_pos h, n_12, if_pos (nI_le hl12 (by decide)), z_gd_t (z_in_nI (by omega) (by decide)), nI_clamp (by omega), z_bd (q_topL hr hl hb), z_jnE]
  by_cases q : σ.1 72 2 = σ.1 72 1
  · rw [if_pos q, if_pos q]
    dsimp only
    rw [z_gd_t (by decide), z_ltE, z_rd_s, u_s, i_f]
    simp only [z_ltE]
    rfl
  · rw [if_neg q, if_neg q]
    dsimp only
    have e2 : (z_sI σ 72 5 0).1 72 2 = σ.1 72 2 := by rw [z_rd_s, u_n (by decide)]
    have e3 : (z_sI (z_sI σ 72 5 0) 72 2 (σ.1 72 2 + 1)).1 72 3 = σ.1 72 3 := by rw [z_rd_s, u_n (by decide), z_rd_s, u_n (by decide)]
    have e4 : (u_3 σ (nI l)).1 72 4 = σ.1 72 4 := by
      unfold u_3
      rw [z_rd_s, u_n (by decide), z_rd_s, u_n (by decide), z_rd_s, u_n (by decide)]
    have em : (if σ.1 72 3 < nI l then nI l else σ.1 72 3) = v_dp (σ.1 72 3) (nI l) := by
      unfold v_dp
      by_cases c : nI l ≤ σ.1 72 3
      · rw [if_pos c, if_neg (fun z => by
          rw [i_lt] at z
          rw [i_le] at c
          omega)]
      · rw [if_neg c, if_pos ((i_lt _ _).mpr (by
          rw [i_le] at c
          omega))]
    rw [z_gd_t (by decide), z_ltE, z_rd_s, u_s, i_t, u_n (show 2 ≠ 5 by decide), z_ltE, e3, z_bd (n_max _ _), em, z_ltE, show z_sI (z_sI (z_sI σ 72 5 0) 72 2 (σ.1 72 2 + 1)) 72 3 (v_dp (σ.1 72 3) (nI l)) = u_3 σ (nI l) from rfl, z_jnE, e4]
    have key : ∀ w4 : zS, (if w_top A = (-1 : Int32) then some w4 else (if nI l = nI 12 then some w4 else (fX6_keepWithout w4 (nI l) (nI A.length) (w_top A)).bind (fun r3 => (fX6_visit d r3.2 (nI l + (1 : Int32)) r3.1 (pts ||| ((1 : Int32) <<< (w_top A &&& 31)))).bind (fun r4 => (fX6_keepReduced r4 (nI l) (nI A.length) (w_top A)).bind (fun r5 => (fX6_visit d r5.2 (nI l + (1 : Int32)) r5.1 pts).bind (fun r6 => some r6)))))) = (if w_top A = -1 then some w4 else if l = 12 then some w4 else u_go d (nI l) (nI A.length) pts (w_top A) w4) := by
      intro w4
      by_cases c : w_top A = -1
      · rw [if_pos c, if_pos c]
      · rw [if_neg c, if_neg c]
        by_cases c2 : l = 12
        · rw [if_pos (by rw [c2]), if_pos c2]
        · rw [if_neg (fun z => c2 ((nI_eq (by omega) (by decide)).mp z)), if_neg c2]
          rfl
    unfold u_4
    by_cases c : nI A.length = 0
    · rw [if_pos c, if_pos c, z_ltE]
      exact key _
    · rw [if_neg c, if_neg c]
      exact key _
theorem u_4_72 {σ : zS} {n l : Int32} : (u_4 σ n l).1 72 1 = σ.1 72 1 ∧ (u_4 σ n l).1 72 5 = 0 ∧ (u_4 σ n l).1 72 2 = σ.1 72 2 + 1 ∧ (u_4 σ n l).1 72 3 = v_dp (σ.1 72 3) l ∧ (u_4 σ n l).1 72 4 = σ.1 72 4 + (if n = 0 then 1 else 0) := by
  have a1 : (u_3 σ l).1 72 1 = σ.1 72 1 := by
    unfold u_3
    rw [z_rd_s, u_n (by decide), z_rd_s, u_n (by decide), z_rd_s, u_n (by decide)]
  have a5 : (u_3 σ l).1 72 5 = 0 := by
    unfold u_3
    rw [z_rd_s, u_n (by decide), z_rd_s, u_n (by decide), z_rd_s, u_s]
  have a2 : (u_3 σ l).1 72 2 = σ.1 72 2 + 1 := by
    unfold u_3
    rw [z_rd_s, u_n (by decide), z_rd_s, u_s]
  have a3 : (u_3 σ l).1 72 3 = v_dp (σ.1 72 3) l := by
    unfold u_3
    rw [z_rd_s, u_s]
  have a4 : (u_3 σ l).1 72 4 = σ.1 72 4 := by
    unfold u_3
    rw [z_rd_s, u_n (by decide), z_rd_s, u_n (by decide), z_rd_s, u_n (by decide)]
  unfold u_4
  by_cases c : n = 0
  · rw [if_pos c, if_pos c, z_rd_s, u_n (by decide), u_n (by decide), u_n (by decide), u_n (by decide), u_s]
    exact ⟨a1, a5, a2, a3, rfl⟩
  · rw [if_neg c, if_neg c, Int32.add_zero]
    exact ⟨a1, a5, a2, a3, a4⟩
theorem u_4_v {σ : zS} {n a : Int32} {l : Nat} : v_X l σ (u_4 σ n a) := by
  have h3 : v_X l σ (u_3 σ a) := v_X_tr v_X_s (v_X_tr v_X_s v_X_s)
  unfold u_4
  split
  · exact v_X_tr h3 v_X_s
  · exact h3
theorem u_f_v {σ : zS} {tp n a pts : Int32} {l : Nat} : v_X l σ (u_f σ tp n a pts) := v_X_tr v_X_s (v_X_tr v_X_s (v_X_tr v_X_s (v_X_tr v_X_s v_X_s)))
theorem u_f_72 {σ : zS} {tp n l pts : Int32} : (u_f σ tp n l pts).1 72 1 = σ.1 72 1 ∧ (u_f σ tp n l pts).1 72 5 = 1 ∧ (u_f σ tp n l pts).1 72 6 = tp ∧ (u_f σ tp n l pts).1 72 7 = n ∧ (u_f σ tp n l pts).1 72 8 = l ∧ (u_f σ tp n l pts).1 72 9 = pts := by
  unfold u_f
  refine ⟨?_, ?_, ?_, ?_, ?_, ?_⟩
  · rw [z_rd_s, u_n (by decide), z_rd_s, u_n (by decide), z_rd_s, u_n (by decide), z_rd_s, u_n (by decide), z_rd_s, u_n (by decide)]
  · rw [z_rd_s, u_n (by decide), z_rd_s, u_n (by decide), z_rd_s, u_n (by decide), z_rd_s, u_n (by decide), z_rd_s, u_s]
  · rw [z_rd_s, u_n (by decide), z_rd_s, u_n (by decide), z_rd_s, u_n (by decide), z_rd_s, u_s]
  · rw [z_rd_s, u_n (by decide), z_rd_s, u_n (by decide), z_rd_s, u_s]
  · rw [z_rd_s, u_n (by decide), z_rd_s, u_s]
  · rw [z_rd_s, u_s]
def s_V (d : Nat) : Prop := ∀ (l : Nat) (A B : List Nat) (R N : Nat) (σ μ : zS) (w pts : Int32), 13 ≤ d + l → l ≤ 12 → N + 2 ^ d ≤ 2 ^ 20 → w_nd A B R l → (σ.1 72 5 = 0 → w_row (σ.1 (74 + l)) A) → w_rm μ l B → w_J σ μ w N → ∃ σ' μ' N', fX6_visit d σ (nI l) (nI A.length) pts = some σ' ∧ fX8_grows d μ (nI l) (nI B.length) pts = some μ' ∧ w_J σ' μ' w N' ∧ N' + 1 ≤ N + 2 ^ d ∧ v_X l σ σ' ∧ v_M l μ μ'
theorem s_go {d l p N R : Nat} {A B : List Nat} {σ μ : zS} {w pts : Int32} (ih : s_V d) (h1 : 13 ≤ d + 1 + l) (hl : l < 12) (hN : N + 2 ^ d + 2 ^ d ≤ 2 ^ 20 + 1) (hn : w_nd A B R l) (hp : p < 12) {x : Nat} (hx : x ∈ A) (hxp : x.testBit p = true) (hr : σ.1 72 5 = 0 → w_row (σ.1 (74 + l)) A) (hm : w_rm μ l B) (hJ : w_J σ μ w N) : ∃ σ' μ' N', v_go d (nI l) (nI B.length) pts (nI p) μ = some μ' ∧ (σ.1 72 5 = 1 → σ' = σ) ∧ (σ.1 72 5 = 0 → u_go d (nI l) (nI A.length) pts (nI p) σ = some σ') ∧ w_J σ' μ' w N' ∧ N' + 2 ≤ N + 2 ^ d + 2 ^ d ∧ v_X l σ σ' ∧ v_M l μ μ' := by
  have hlB := w_nd_len hn
  have hA40 := hn.2.2.2.2.2.1
  have hbA := hn.2.2.2.1
  have hbB : ∀ y, y ∈ B → y < 4096 := fun y hy => hbA y ((hn.2.2.1 y).mpr hy)
  have hn1 := w_nd_1 hn hp hx hxp
  obtain ⟨c, hc⟩ : ∃ c : Nat → Bool, ∀ k, c k = true ↔ ∀ o, o < (B.map (n_rm p)).length → k_ok (B.map (n_rm p)) o k := by
    classical
    exact ⟨fun k => decide (∀ o, o < (B.map (n_rm p)).length → k_ok (B.map (n_rm p)) o k), fun k => decide_eq_true_iff⟩
  have hn2 := w_nd_2 hn hp hx hxp hc
  have hbC : ∀ y, y ∈ B.map (n_rm p) → y < 4096 := fun y hy => by
    obtain ⟨z, hz, rfl⟩ := List.mem_map.mp hy
    exact n_rm_lt hp (hbB z hz)
  have hlC : (B.map (n_rm p)).length = B.length := List.length_map ..
  have hd1 : 1 ≤ d := by omega
  have hp1 : 1 ≤ 2 ^ d := Nat.one_le_two_pow
  -- the program's first child
  obtain ⟨σ1, x1, x2, x3, x4⟩ : ∃ σ1, (σ.1 72 5 = 0 → fX6_keepWithout σ (nI l) (nI A.length) (nI p) = some (nI (w_1 p A).length, σ1)) ∧ (σ1.1 72 5 = 0 → w_row (σ1.1 (74 + (l + 1))) (w_1 p A)) ∧ v_X l σ σ1 ∧ σ1.1 72 = σ.1 72 ∧ (σ.1 72 5 = 1 → σ1 = σ) := by
    by_cases q : σ.1 72 5 = 0
    · obtain ⟨g, a, b⟩ := q_wo (hr q) hA40 hbA hl hp
      exact ⟨_, fun _ => a, fun _ => by rw [z_fI_s]; exact b, v_X_f hl, z_fI_n (by omega), fun z => by rw [q] at z; exact absurd z (by decide)⟩
    · exact ⟨σ, fun z => absurd z q, fun z => absurd z q, v_X_rf, rfl, fun _ => rfl⟩
  obtain ⟨x4, x5⟩ := x4
  let K1 : zS → Int32 → Option zS := fun w5 x4 => (fX8_grows d w5 (nI l + (1 : Int32)) x4 (pts ||| ((1 : Int32) <<< (nI p &&& 31)))).bind (fun r2 => fX8_grows_L218 (nI l) (nI B.length) (nI p) (fun (w6 : zS) (x6 : Int32) => (fX8_thins w6 (nI l + (1 : Int32)) (nI B.length)).bind (fun r3 => (fX8_grows d r3.2 (nI l + (1 : Int32)) r3.1 pts).bind (fun r4 => some r4))) z_F r2 (0 : Int32))
  obtain ⟨μ1, y1, y2, y3⟩ := r_wo hm (by omega) hbB hl hp K1
  obtain ⟨σ2, μ2, N2, z1, z2, z3, z4, z5, z6⟩ := ih (l + 1) (w_1 p A) (w_1 p B) (R ||| 2 ^ p) N σ1 μ1 w (pts ||| ((1 : Int32) <<< (nI p &&& 31))) (by omega) (by omega) (by omega) hn1 x2 y2 (w_J_c hJ x4 (y3.1 0 (by decide) (by decide)))
  have hm2 : w_rm μ2 l B := w_rm_M (w_rm_M hm (by omega) (v_M_r y3) (Nat.le_refl _)) (by omega) z6 (by omega)
  let K2 : zS → Option zS := fun w6 => (fX8_thins w6 (nI l + (1 : Int32)) (nI B.length)).bind (fun r3 => (fX8_grows d r3.2 (nI l + (1 : Int32)) r3.1 pts).bind (fun r4 => some r4))
  obtain ⟨μ3, a1, a2, a3⟩ := r_all hm2 (by omega) hbB hl hp K2
  obtain ⟨μ4, b1, b2, b3⟩ := r_thins a2 (by omega) hbC (show l + 1 ≤ 12 by omega) hc
  have hfound1 : σ.1 72 5 = 1 → σ2 = σ := fun q => by
    obtain ⟨d', rfl⟩ : ∃ d', d = d' + 1 := ⟨d - 1, by omega⟩
    have e := x5 q
    rw [e, q_visit0 q] at z1
    exact (Option.some.inj z1).symm
  -- the program's second child
  obtain ⟨σ3, s1, s2, s3, s4, s5⟩ : ∃ σ3, (σ.1 72 5 = 0 → fX6_keepReduced σ2 (nI l) (nI A.length) (nI p) = some (nI (w_2 p A).length, σ3)) ∧ (σ3.1 72 5 = 0 → w_row (σ3.1 (74 + (l + 1))) (w_2 p A)) ∧ v_X l σ2 σ3 ∧ σ3.1 72 = σ2.1 72 ∧ (σ.1 72 5 = 1 → σ3 = σ) := by
    by_cases q : σ.1 72 5 = 0
    · have hrow : w_row (σ2.1 (74 + l)) A := by
        rw [z5.1 _ (by omega) (by omega), x3.1 _ (by omega) (by omega)]
        exact hr q
      obtain ⟨g, a, b⟩ := q_re hrow hA40 hbA hl hp
      exact ⟨_, fun _ => a, fun _ => by rw [z_fI_s]; exact b, v_X_f hl, z_fI_n (by omega), fun z => by rw [q] at z; exact absurd z (by decide)⟩
    · have q1 : σ.1 72 5 = 1 := by
        rcases hJ.2.2.2 with z | z
        · exact absurd z.1 q
        · exact z.1
      exact ⟨σ2, fun z => absurd z q, fun z => by rw [hfound1 q1] at z; exact absurd z q, v_X_rf, rfl, fun z => hfound1 z⟩
  obtain ⟨σ4, μ5, N3, t1, t2, t3, t4, t5, t6⟩ := ih (l + 1) (w_2 p A) (k_k c (B.map (n_rm p)) (B.map (n_rm p)).length) (R ||| 2 ^ p) N2 σ3 μ4 w pts (by omega) (by omega) (by omega) hn2 s2 b2 (w_J_c z3 s4 (by rw [b3.1 0 (by decide) (by decide), a3.1 0 (by decide) (by decide)]))
  have hfound2 : σ.1 72 5 = 1 → σ4 = σ := fun q => by
    obtain ⟨d', rfl⟩ : ∃ d', d = d' + 1 := ⟨d - 1, by omega⟩
    have e := s5 q
    rw [e, q_visit0 q] at t1
    exact (Option.some.inj t1).symm
  refine ⟨σ4, μ5, N3, ?_, hfound2, fun q => ?_, t3, by omega, v_X_tr x3 (v_X_tr (v_X_dn z5) (v_X_tr s3 (v_X_dn t5))), v_M_tr (v_M_r y3) (v_M_tr (v_M_dn z6) (v_M_tr (v_M_r a3) (v_M_tr (v_M_r b3) (v_M_dn t6))))⟩
  · have z2' : fX8_grows d μ1 (nI l + (1 : Int32)) (nI (w_1 p B).length) (pts ||| ((1 : Int32) <<< (nI p &&& 31))) = some μ2 := by rw [nI_1]; exact z2
    have b1' : fX8_thins μ3 (nI l + (1 : Int32)) (nI B.length) = some (nI (k_k c (B.map (n_rm p)) (B.map (n_rm p)).length).length, μ4) := by
      rw [nI_1, ← hlC]
      exact b1
    have t2' : fX8_grows d μ4 (nI l + (1 : Int32)) (nI (k_k c (B.map (n_rm p)) (B.map (n_rm p)).length).length) pts = some μ5 := by rw [nI_1]; exact t2
    refine Eq.trans (show v_go d (nI l) (nI B.length) pts (nI p) μ = _ from y1) ?_
    show (fX8_grows d μ1 (nI l + (1 : Int32)) (nI (w_1 p B).length) (pts ||| ((1 : Int32) <<< (nI p &&& 31)))).bind _ = _
    rw [z_bd z2']
    refine Eq.trans a1 ?_
    show (fX8_thins μ3 (nI l + (1 : Int32)) (nI B.length)).bind _ = _
    rw [z_bd b1']
    dsimp only
    rw [z_bd t2']
  · unfold u_go
    rw [z_bd (x1 q), nI_1]
    dsimp only
    rw [z_bd z1, z_bd (s1 q)]
    dsimp only
    rw [z_bd t1]
theorem s_visit : ∀ d, s_V d := by
  intro d
  induction d with
  | zero =>
    intro l A B R N σ μ w pts h1 h2
    omega
  | succ d ih =>
    intro l A B R N σ μ w pts h1 h2 h3 hn hr hm hJ
    have hlB := w_nd_len hn
    have hA40 := hn.2.2.2.2.2.1
    have hbA := hn.2.2.2.1
    have hbB : ∀ y, y ∈ B → y < 4096 := fun y hy => hbA y ((hn.2.2.1 y).mpr hy)
    have hacB : ∀ x y, x ∈ B → y ∈ B → n_sub x y = true → x = y := fun x y hx hy => hn.2.2.2.2.1 x y ((hn.2.2.1 x).mpr hx) ((hn.2.2.1 y).mpr hy)
    have htop : w_top B = w_top A := (w_top_e (w_nd_pm hn)).symm
    have hg := r_grow (d := d) (pts := pts) hm (by omega) hbB h2 hacB hn.2.1
    have hp2 : 2 ^ (d + 1) = 2 ^ d + 2 ^ d := by rw [Nat.pow_succ]; omega
    have hp1 : 1 ≤ 2 ^ d := Nat.one_le_two_pow
    rw [htop, hlB] at hg
    -- the node itself
    obtain ⟨σ4, e1, e2, e3⟩ : ∃ σ4, w_J σ4 (v_4 μ (w_top A) (nI A.length) (nI l) pts) w (N + 1) ∧ v_X l σ σ4 ∧ ((σ4.1 72 5 = 1 ∧ fX6_visit (d + 1) σ (nI l) (nI A.length) pts = some σ4) ∨ (σ4.1 72 5 = 0 ∧ σ.1 72 5 = 0 ∧ fX6_visit (d + 1) σ (nI l) (nI A.length) pts = (if w_top A = -1 then some σ4 else if l = 12 then some σ4 else u_go d (nI l) (nI A.length) pts (w_top A) σ4))) := by
      obtain ⟨j1, j2, j3, j4⟩ := hJ
      rcases j4 with ⟨k1, k2, k3, k4, k5⟩ | ⟨k1, ⟨j, hj, k2⟩, k3, k4, k5, k6⟩
      · have hv := q_visit1 (d := d) (pts := pts) k1 (hr k1) hA40 hbA h2
        by_cases q : w = nI N
        · have hs : μ.1 0 20 = μ.1 0 23 := by rw [j3, j2, q]
          obtain ⟨s1, s2, s3, s4⟩ := v_4_s (tp := w_top A) (n := nI A.length) (l := nI l) (pts := pts) hs
          obtain ⟨f1, f5, f6, f7, f8, f9⟩ := u_f_72 (σ := σ) (tp := w_top A) (n := nI A.length) (l := nI l) (pts := pts)
          refine ⟨u_f σ (w_top A) (nI A.length) (nI l) pts, ⟨by rw [f1]; exact j1, by rw [v_4_k (by decide)]; exact j2, by rw [v_4_20, j3, nI_1], Or.inr ⟨f5, ⟨N, Nat.lt_succ_self N, q⟩, by rw [f6, s1], by rw [f7, s2], by rw [f8, s3], by rw [f9, s4]⟩⟩, u_f_v, Or.inl ⟨f5, ?_⟩⟩
          rw [hv, if_pos (by rw [k2, j1, q])]
        · obtain ⟨g1, g5, g2, g3, g4⟩ := u_4_72 (σ := σ) (n := nI A.length) (l := nI l)
          refine ⟨u_4 σ (nI A.length) (nI l), ⟨by rw [g1]; exact j1, by rw [v_4_k (by decide)]; exact j2, by rw [v_4_20, j3, nI_1], Or.inl ⟨g5, by rw [g2, k2, nI_1], by rw [g3, v_4_21, k3], by rw [g4, v_4_22, k4], fun j hj => ?_⟩⟩, u_4_v, Or.inr ⟨g5, k1, ?_⟩⟩
          · by_cases z : j = N
            · rw [z]
              exact q
            · exact k5 j (by omega)
          · rw [hv, if_neg (by rw [k2, j1]; exact fun z => q z.symm)]
      · have hs : ¬ μ.1 0 20 = μ.1 0 23 := by
          rw [j3, j2, k2]
          intro z
          have := (nI_eq (by omega) (by omega)).mp z
          omega
        refine ⟨σ, ⟨j1, by rw [v_4_k (by decide)]; exact j2, by rw [v_4_20, j3, nI_1], Or.inr ⟨k1, ⟨j, by omega, k2⟩, by rw [v_4_o hs (by decide)]; exact k3, by rw [v_4_o hs (by decide)]; exact k4, by rw [v_4_o hs (by decide)]; exact k5, by rw [v_4_o hs (by decide)]; exact k6⟩⟩, v_X_rf, Or.inl ⟨k1, q_visit0 k1⟩⟩
    have hm4 : w_rm (v_4 μ (w_top A) (nI A.length) (nI l) pts) l B := w_rm_M hm (by omega) (v_M_4 (l := l)) (Nat.le_refl _)
    rcases w_top_c hA40 hbA with ⟨t1, t2⟩ | ⟨p, hp, t1, x, hx, hxp⟩
    · refine ⟨σ4, v_4 μ (w_top A) (nI A.length) (nI l) pts, N + 1, ?_, ?_, e1, by omega, e2, v_M_4⟩
      · rcases e3 with ⟨_, e3⟩ | ⟨_, _, e3⟩
        · exact e3
        · rw [e3, if_pos t1]
      · rw [hlB, hg, if_pos t1]
    · have hne : ¬ w_top A = -1 := by
        rw [t1]
        exact n_ne_neg (by omega) (by decide)
      have hl12 : l < 12 := by
        rcases Nat.lt_or_ge l 12 with q | q
        · exact q
        · have : l = 12 := by omega
          subst this
          rw [w_nd_12 hn x hx, Nat.zero_testBit] at hxp
          cases hxp
      obtain ⟨σ', μ', N', o1, o2, o3, o4, o5, o6, o7⟩ := s_go (pts := pts) ih h1 hl12 (show N + 1 + 2 ^ d + 2 ^ d ≤ 2 ^ 20 + 1 by omega) hn hp hx hxp (fun z => by
        rcases e3 with ⟨q, _⟩ | ⟨_, q, _⟩
        · rw [q] at z
          exact absurd z (by decide)
        · rw [e2.1 _ (by omega) (by omega)]
          exact hr q) hm4 e1
      refine ⟨σ', μ', N', ?_, ?_, o4, by omega, v_X_tr e2 o6, v_M_tr v_M_4 o7⟩
      · rcases e3 with ⟨q, e3⟩ | ⟨q, _, e3⟩
        · rw [e3, o2 q]
        · rw [e3, if_neg hne, if_neg (by omega), t1]
          exact o3 q
      · rw [hlB, hg, if_neg hne]
        rw [hlB] at o1
        rw [← t1] at o1
        exact o1
