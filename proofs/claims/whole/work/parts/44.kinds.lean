/-! pure: the other rules -/
theorem b_any (S : Nat) (y : Int32) : ∃ S', S' ≤ S ∧ nI S &&& y = nI S' := by
  have e : y = nI y.toBitVec.toNat := by
    apply Int32.toBitVec_inj.mp
    apply BitVec.eq_of_toNat_eq
    exact (Nat.mod_eq_of_lt y.toBitVec.isLt).symm
  exact ⟨S &&& y.toBitVec.toNat, Nat.and_le_left, by rw [← b_and, ← e]⟩
section KIND
variable {σ μ : zS} {nr r S : Nat}
theorem w_open {d : Nat} {k : Nat} (h4 : 4 ≤ r) (hr : r < 12) (hk : μ.1 5 r = nI k) : fX8_worthOf (d + 1) μ (nI r) (nI S) = (if nI k = 0 then (fX8_worthOf d μ (μ.1 6 r) (nI S)).bind (fun r1 => (fX8_worthOf d μ (μ.1 7 r) (nI S)).bind (fun r2 => some (r1 + r2))) else (if nI k = 1 then (fX8_worthOf d μ (μ.1 6 r) (nI S)).bind (fun r3 => (fX8_worthOf d μ (μ.1 7 r) (nI S)).bind (fun r4 => (if r3 ≤ r4 then some r4 else some r3))) else (if nI k = 2 then (fX8_worthOf d μ (μ.1 6 r) (nI S)).bind (fun r5 => some (μ.1 8 r * r5)) else (if nI k = 3 then (fX8_worthOf d μ (μ.1 6 r) (nI S &&& (((1 : Int32) <<< (μ.1 8 r &&& 31)) ^^^ (-1 : Int32)))).bind (fun r6 => some r6) else (if nI k = 4 then (if 0 ≤ μ.1 8 r then (fX8_worthOf d μ (μ.1 6 r) ((nI S <<< (μ.1 8 r &&& 31)) &&& (4095 : Int32))).bind (fun r7 => some r7) else (fX8_worthOf d μ (μ.1 6 r) (nI S >>> ((-μ.1 8 r) &&& 31))).bind (fun r8 => some r8)) else (if nI k = 5 then (fX8_has (nI S) (μ.1 8 r)).bind (fun r9 => (if r9 = 0 then (fX8_worthOf d μ (μ.1 7 r) (nI S)).bind (fun r10 => some r10) else (fX8_worthOf d μ (μ.1 6 r) (nI S)).bind (fun r11 => some r11))) else (if nI k = 6 then fX8_worthOf_L217 μ (nI r) (nI S) (fun (x3 : Int32) (x4 : Int32) => some x3) z_F (0 : Int32) (0 : Int32) else (if nI k = 7 then (fX8_metBy μ (μ.1 8 r) (nI S)).bind (fun r12 => some r12) else (fX8_worthOf d μ (μ.1 6 r) ((4095 : Int32) &&& (nI S ^^^ (-1 : Int32)))).bind (fun r13 => some r13))))))))) := by
  have g : z_in (nI r) 12 = true := z_in_nI hr (by decide)
  rw [fX8_worthOf.eq_2, if_pos (show (4 : Int32) ≤ nI r from nI_le (a := 4) h4 (by omega)), z_gd_t g, z_ltE, z_gd_t g, z_ltE, z_gd_t g, nI_clamp (by omega), hk]
  simp only [z_gd_t g]
end KIND
