/-! pure: the start -/
theorem pP_init : pP i_X i_M := by
  refine ⟨fun _ => [], [], 4, fun p _ => rfl, fun f hf => ⟨⟨?_, fun k x hx => by simp at hx⟩, ⟨rfl, fun k x hx => by simp at hx⟩, h_wf_nil⟩, ⟨rfl, rfl, by decide, by decide, fun r hr => ?_, fun r h1 h2 => by omega⟩, ⟨rfl, rfl, by decide, fun k x hx => by simp at hx, trivial⟩, fun s hs => ?_, ⟨rfl, Or.inl rfl⟩⟩
  · have : f = 0 ∨ f = 1 ∨ f = 2 ∨ f = 3 := by omega
    rcases this with rfl | rfl | rfl | rfl <;> rfl
  · have : r = 0 ∨ r = 1 ∨ r = 2 ∨ r = 3 := by omega
    rcases this with rfl | rfl | rfl | rfl <;> rfl
  · have : s = 0 ∨ s = 1 ∨ s = 2 ∨ s = 3 := by omega
    rcases this with rfl | rfl | rfl | rfl
    all_goals exact ⟨rfl, rfl, fun i _ => rfl, Or.inl rfl, 0, by decide, rfl⟩
