/-! pure: how many points -/
def f_cn (S : Nat) : Nat := (if S.testBit 0 then 1 else 0) + (if S.testBit 1 then 1 else 0) + (if S.testBit 2 then 1 else 0) + (if S.testBit 3 then 1 else 0) + (if S.testBit 4 then 1 else 0) + (if S.testBit 5 then 1 else 0) + (if S.testBit 6 then 1 else 0) + (if S.testBit 7 then 1 else 0) + (if S.testBit 8 then 1 else 0) + (if S.testBit 9 then 1 else 0) + (if S.testBit 10 then 1 else 0) + (if S.testBit 11 then 1 else 0)
/-- all numbers below 4096 -/
def f_all (q : Nat → Bool) : Bool := (List.range 64).all (fun a => (List.range 64).all (fun b => q (64 * a + b)))
theorem f_all_at {q : Nat → Bool} (h : f_all q = true) {S : Nat} (hS : S < 4096) : q S = true := by
  unfold f_all at h
  have h1 := List.all_eq_true.mp h (S / 64) (List.mem_range.mpr (by omega))
  have h2 := List.all_eq_true.mp h1 (S % 64) (List.mem_range.mpr (by omega))
  rw [show 64 * (S / 64) + S % 64 = S by omega] at h2
  exact h2
def f_cnq (S : Nat) : Bool := decide (fJ6_bitCount_0f7a4 (nI S) = some (nI (f_cn S)))
theorem f_cnA : f_all f_cnq = true := by decide +kernel
theorem q_cnt {S : Nat} (h : S < 4096) : fJ6_bitCount_0f7a4 (nI S) = some (nI (f_cn S)) := of_decide_eq_true (f_all_at f_cnA h)
def f_cnk (S : Nat) : Bool := S == 0 || f_cn S == f_cn (S &&& (S - 1)) + 1
theorem f_cnB : f_all f_cnk = true := by decide +kernel
theorem f_cn_k {S : Nat} (h : S < 4096) (h0 : S ≠ 0) : f_cn S = f_cn (S &&& (S - 1)) + 1 := by
  have := f_all_at f_cnB h
  unfold f_cnk at this
  rcases Bool.or_eq_true_iff.mp this with e | e
  · exact absurd (eq_of_beq e) h0
  · exact eq_of_beq e
theorem f_cn_le (S : Nat) : f_cn S ≤ 12 := by
  unfold f_cn
  have : ∀ b : Bool, (if b then 1 else 0) ≤ 1 := by decide
  have h0 := this (S.testBit 0)
  have h1 := this (S.testBit 1)
  have h2 := this (S.testBit 2)
  have h3 := this (S.testBit 3)
  have h4 := this (S.testBit 4)
  have h5 := this (S.testBit 5)
  have h6 := this (S.testBit 6)
  have h7 := this (S.testBit 7)
  have h8 := this (S.testBit 8)
  have h9 := this (S.testBit 9)
  have h10 := this (S.testBit 10)
  have h11 := this (S.testBit 11)
  omega
theorem r_many {S : Nat} (h : S < 4096) : fX8_many (nI S) = some (nI (f_cn S)) := by
  have key : ∀ (c S a n : Nat), S < 4096 → f_cn S = c → c < n → fX8_many_L4 (fun x1 _ => some x1) n (nI a) (nI S) = some (nI (a + c)) := by
    intro c
    induction c with
    | zero =>
      intro S a n hS hc hn
      obtain ⟨n, rfl⟩ : ∃ j, n = j + 1 := ⟨n - 1, by omega⟩
      have h0 : S = 0 := by
        by_cases e : S = 0
        · exact e
        · have := f_cn_k hS e
          omega
      subst h0
      rw [fX8_many_L4.eq_2, if_pos nI_0]
      rfl
    | succ c ih =>
      intro S a n hS hc hn
      obtain ⟨n, rfl⟩ : ∃ j, n = j + 1 := ⟨n - 1, by omega⟩
      have h0 : S ≠ 0 := by
        intro e
        subst e
        have : f_cn 0 = 0 := by decide
        omega
      have hk := f_cn_k hS h0
      have e1 : nI S - 1 = nI (S - 1) := by
        obtain ⟨m, rfl⟩ : ∃ m, S = m + 1 := ⟨S - 1, by omega⟩
        rw [nI_pred]
        rfl
      rw [fX8_many_L4.eq_2, if_neg (nI_ne0 (by omega) (by omega)), z_ltE, e1, b_and, nI_1, ih (S &&& (S - 1)) (a + 1) n (Nat.lt_of_le_of_lt Nat.and_le_left hS) (by omega) (by omega), show a + 1 + c = a + (c + 1) by omega]
  unfold fX8_many
  rw [z_i0, key (f_cn S) S 0 z_F h rfl (by have := f_cn_le S; show _ < 5000; omega), Nat.zero_add]
