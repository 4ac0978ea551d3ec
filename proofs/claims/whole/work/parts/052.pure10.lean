theorem uA_nm {us : Nat → Int32} {U q : List Nat} {a : Nat} (gus : ∀ a, a < 264 → us a = bI (decide (a ∈ U))) (ha : a < 264) (c : gU us q a = 0) : a ∉ U ++ q := by
  unfold gU at c
  by_cases h : a ∈ q
  · rw [if_pos h] at c; exact absurd c (by decide)
  · rw [if_neg h, gus a ha] at c
    have := bd_f c
    intro z
    rcases List.mem_append.mp z with z | z
    · exact this z
    · exact h z
theorem uA_m {us : Nat → Int32} {U q : List Nat} {a : Nat} (gus : ∀ a, a < 264 → us a = bI (decide (a ∈ U))) (ha : a < 264) (c : ¬ gU us q a = 0) : a ∈ U ++ q := by
  unfold gU at c
  by_cases h : a ∈ q
  · exact List.mem_append_right _ h
  · rw [if_neg h, gus a ha] at c
    exact List.mem_append_left _ (bd_t c)
theorem filF_b {us : Nat → Int32} {a : Nat} (h : a < 264) : filF 264 (bI false) us a = bI false := filF_in h
theorem gU_us {us : Nat → Int32} {U : List Nat} (h0 : ∀ a, a < 264 → us a = bI false) : ∀ a, a < 264 → gU us U a = bI (decide (a ∈ U)) := fun a ha => gU_in (h0 a ha)
