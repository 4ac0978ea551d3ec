/-! cells and edges: the next edge is one to one; the class's lines are the reference's -/
section CE
variable {w h : Nat} {f : Nat → Nat → Int32} {tw : Int32}
theorem dec4 {x y k : Nat} (hx : x + 1 < w) (hy : y + 1 < h) (hk : k < 4) :
    (k = 0 ∧ eO w h x y k < nR w h ∧ xE w h (eO w h x y k) = x ∧ yE w h (eO w h x y k) = y) ∨ (k = 1 ∧ ¬ eO w h x y k < nR w h ∧ xE w h (eO w h x y k) = x + 1 ∧ yE w h (eO w h x y k) = y) ∨
    (k = 2 ∧ eO w h x y k < nR w h ∧ xE w h (eO w h x y k) = x ∧ yE w h (eO w h x y k) = y + 1) ∨ (k = 3 ∧ ¬ eO w h x y k < nR w h ∧ xE w h (eO w h x y k) = x ∧ yE w h (eO w h x y k) = y) := by
  rcases (show k = 0 ∨ k = 1 ∨ k = 2 ∨ k = 3 by omega) with rfl | rfl | rfl | rfl
  · rw [eO_0 rfl]; exact Or.inl ⟨rfl, dec_a hx (by omega)⟩
  · rw [eO_1 rfl]; exact Or.inr (Or.inl ⟨rfl, dec_b hx⟩)
  · rw [eO_2 rfl]; exact Or.inr (Or.inr (Or.inl ⟨rfl, dec_a hx hy⟩))
  · rw [eO_3 rfl]; exact Or.inr (Or.inr (Or.inr ⟨rfl, dec_b (by omega)⟩))
theorem dnB_0 (x y : Nat) : dnB f tw x y 0 = (abI tw (f x y) && !abI tw (f (x + 1) y)) := rfl
theorem dnB_1 (x y : Nat) : dnB f tw x y 1 = (abI tw (f (x + 1) y) && !abI tw (f (x + 1) (y + 1))) := rfl
theorem dnB_2 (x y : Nat) : dnB f tw x y 2 = (abI tw (f (x + 1) (y + 1)) && !abI tw (f x (y + 1))) := rfl
theorem dnB_3 (x y : Nat) : dnB f tw x y 3 = (abI tw (f x (y + 1)) && !abI tw (f x y)) := rfl
theorem upB_0 (x y : Nat) : upB f tw x y 0 = (!abI tw (f x y) && abI tw (f (x + 1) y)) := rfl
theorem upB_1 (x y : Nat) : upB f tw x y 1 = (!abI tw (f (x + 1) y) && abI tw (f (x + 1) (y + 1))) := rfl
theorem upB_2 (x y : Nat) : upB f tw x y 2 = (!abI tw (f (x + 1) (y + 1)) && abI tw (f x (y + 1))) := rfl
theorem upB_3 (x y : Nat) : upB f tw x y 3 = (!abI tw (f x (y + 1)) && abI tw (f x y)) := rfl
theorem cl0_t {x y : Nat} (hx : x + 1 < w) (hy : y + 1 < h) : cl0 w h x y = true := by unfold cl0; simp [hx, hy]
theorem clY_t {x y : Nat} (hx : x + 1 < w) (hy : y + 1 < h) : clY w h x (y + 1) = true := by unfold clY; simp [hx, hy]
theorem clX_t {x y : Nat} (hx : x + 1 < w) (hy : y + 1 < h) : clX w h (x + 1) y = true := by unfold clX; simp [hx, hy]
/-- S1 -/
theorem nx_dn {x y k : Nat} (hx : x + 1 < w) (hy : y + 1 < h) (hk : k < 4) (hd : dnB f tw x y k = true) : nxR w h f tw (eO w h x y k) = nI (eO w h x y (ldB f tw x y k)) := by
  unfold nxR
  rcases dec4 (w := w) (h := h) hx hy hk with ⟨rfl, h1, h2, h3⟩ | ⟨rfl, h1, h2, h3⟩ | ⟨rfl, h1, h2, h3⟩ | ⟨rfl, h1, h2, h3⟩
  · rw [if_pos h1, h2, h3, cl0_t hx hy, hd]
    have hno : (clY w h x y && dnB f tw x (y - 1) 2) = false := by
      cases hc : clY w h x y with
      | false => rfl
      | true =>
        have h4 := clY_ok hc
        rw [dnB_2, show y - 1 + 1 = y from by omega]
        rw [dnB_0] at hd
        revert hd
        cases abI tw (f x y) <;> cases abI tw (f (x + 1) y) <;> simp
    rw [hno]; simp
  · rw [if_neg h1, h2, h3, clX_t hx hy, show x + 1 - 1 = x from by omega, hd]; simp
  · rw [if_pos h1, h2, h3, clY_t hx hy, show y + 1 - 1 = y from by omega, hd]; simp
  · rw [if_neg h1, h2, h3, cl0_t hx hy, hd]
    have hno : (clX w h x y && dnB f tw (x - 1) y 1) = false := by
      cases hc : clX w h x y with
      | false => rfl
      | true =>
        have h4 := clX_ok hc
        rw [dnB_1, show x - 1 + 1 = x from by omega]
        rw [dnB_3] at hd
        revert hd
        cases abI tw (f x y) <;> cases abI tw (f x (y + 1)) <;> simp
    rw [hno]; simp
theorem lt_up {x y k : Nat} (hx : x + 1 < w) (hy : y + 1 < h) (hk : k < 4) (hd : upB f tw x y k = true) : ltR w h f tw (eO w h x y k) = true := by
  unfold ltR
  rcases dec4 (w := w) (h := h) hx hy hk with ⟨rfl, h1, h2, h3⟩ | ⟨rfl, h1, h2, h3⟩ | ⟨rfl, h1, h2, h3⟩ | ⟨rfl, h1, h2, h3⟩
  · rw [if_pos h1, h2, h3, cl0_t hx hy, hd]; simp
  · rw [if_neg h1, h2, h3, clX_t hx hy, show x + 1 - 1 = x from by omega, hd]; simp
  · rw [if_pos h1, h2, h3, clY_t hx hy, show y + 1 - 1 = y from by omega, hd]; simp
  · rw [if_neg h1, h2, h3, cl0_t hx hy, hd]; simp
theorem enc0 {e : Nat} (c : e < nR w h) : eO w h (xE w h e) (yE w h e) 0 = e := by rw [eO_0 rfl]; exact enc_a c
theorem enc2 {e : Nat} (c : e < nR w h) (hy : 1 ≤ yE w h e) : eO w h (xE w h e) (yE w h e - 1) 2 = e := by
  rw [eO_2 rfl, show yE w h e - 1 + 1 = yE w h e from by omega]; exact enc_a c
theorem enc3 {e : Nat} (c : ¬ e < nR w h) : eO w h (xE w h e) (yE w h e) 3 = e := by rw [eO_3 rfl]; exact enc_b c
theorem enc1 {e : Nat} (c : ¬ e < nR w h) (hx : 1 ≤ xE w h e) : eO w h (xE w h e - 1) (yE w h e) 1 = e := by
  rw [eO_1 rfl, show xE w h e - 1 + 1 = xE w h e from by omega]; exact enc_b c
/-- S2 -/
theorem nx_ex {e : Nat} (hne : ¬ nxR w h f tw e = -1) : ∃ x y k, x + 1 < w ∧ y + 1 < h ∧ k < 4 ∧ dnB f tw x y k = true ∧ e = eO w h x y k := by
  unfold nxR at hne
  by_cases c : e < nR w h
  · rw [if_pos c] at hne
    cases h1 : (clY w h (xE w h e) (yE w h e) && dnB f tw (xE w h e) (yE w h e - 1) 2) with
    | true =>
      rw [Bool.and_eq_true] at h1
      have h2 := clY_ok h1.1
      exact ⟨_, _, 2, h2.1, h2.2.2, by decide, h1.2, (enc2 c h2.2.1).symm⟩
    | false =>
      cases h3 : (cl0 w h (xE w h e) (yE w h e) && dnB f tw (xE w h e) (yE w h e) 0) with
      | true =>
        rw [Bool.and_eq_true] at h3
        have h2 := cl0_ok h3.1
        exact ⟨_, _, 0, h2.1, h2.2, by decide, h3.2, (enc0 c).symm⟩
      | false => rw [h1, h3] at hne; exact absurd rfl hne
  · rw [if_neg c] at hne
    cases h1 : (clX w h (xE w h e) (yE w h e) && dnB f tw (xE w h e - 1) (yE w h e) 1) with
    | true =>
      rw [Bool.and_eq_true] at h1
      have h2 := clX_ok h1.1
      exact ⟨_, _, 1, h2.1, h2.2.2, by decide, h1.2, (enc1 c h2.2.1).symm⟩
    | false =>
      cases h3 : (cl0 w h (xE w h e) (yE w h e) && dnB f tw (xE w h e) (yE w h e) 3) with
      | true =>
        rw [Bool.and_eq_true] at h3
        have h2 := cl0_ok h3.1
        exact ⟨_, _, 3, h2.1, h2.2, by decide, h3.2, (enc3 c).symm⟩
      | false => rw [h1, h3] at hne; exact absurd rfl hne
theorem lt_ex {e : Nat} (hl : ltR w h f tw e = true) : ∃ x y k, x + 1 < w ∧ y + 1 < h ∧ k < 4 ∧ upB f tw x y k = true ∧ e = eO w h x y k := by
  unfold ltR at hl
  by_cases c : e < nR w h
  · rw [if_pos c, Bool.or_eq_true, Bool.and_eq_true, Bool.and_eq_true] at hl
    rcases hl with h1 | h1
    · have h2 := cl0_ok h1.1
      exact ⟨_, _, 0, h2.1, h2.2, by decide, h1.2, (enc0 c).symm⟩
    · have h2 := clY_ok h1.1
      exact ⟨_, _, 2, h2.1, h2.2.2, by decide, h1.2, (enc2 c h2.2.1).symm⟩
  · rw [if_neg c, Bool.or_eq_true, Bool.and_eq_true, Bool.and_eq_true] at hl
    rcases hl with h1 | h1
    · have h2 := cl0_ok h1.1
      exact ⟨_, _, 3, h2.1, h2.2, by decide, h1.2, (enc3 c).symm⟩
    · have h2 := clX_ok h1.1
      exact ⟨_, _, 1, h2.1, h2.2.2, by decide, h1.2, (enc1 c h2.2.1).symm⟩
/-- S3 -/
theorem up_uni {x y k x' y' k' : Nat} (hx : x + 1 < w) (hy : y + 1 < h) (hk : k < 4) (hx' : x' + 1 < w) (hy' : y' + 1 < h) (hk' : k' < 4) (hu : upB f tw x y k = true) (hu' : upB f tw x' y' k' = true) (he : eO w h x y k = eO w h x' y' k') : x = x' ∧ y = y' ∧ k = k' := by
  have d1 := dec4 (w := w) (h := h) hx hy hk
  have d2 := dec4 (w := w) (h := h) hx' hy' hk'
  rw [← he] at d2
  rcases d1 with ⟨rfl, a1, a2, a3⟩ | ⟨rfl, a1, a2, a3⟩ | ⟨rfl, a1, a2, a3⟩ | ⟨rfl, a1, a2, a3⟩ <;> rcases d2 with ⟨rfl, b1, b2, b3⟩ | ⟨rfl, b1, b2, b3⟩ | ⟨rfl, b1, b2, b3⟩ | ⟨rfl, b1, b2, b3⟩
  · exact ⟨by omega, by omega, rfl⟩
  · exact absurd a1 b1
  · exfalso
    have e1 : x' = x := by omega
    have e2 : y = y' + 1 := by omega
    subst e1; subst e2
    rw [upB_0] at hu; rw [upB_2] at hu'
    revert hu hu'
    cases abI tw (f x' (y' + 1)) <;> cases abI tw (f (x' + 1) (y' + 1)) <;> simp
  · exact absurd a1 b1
  · exact absurd b1 a1
  · exact ⟨by omega, by omega, rfl⟩
  · exact absurd b1 a1
  · exfalso
    have e1 : x' = x + 1 := by omega
    have e2 : y' = y := by omega
    subst e1; subst e2
    rw [upB_1] at hu; rw [upB_3] at hu'
    revert hu hu'
    cases abI tw (f (x + 1) y') <;> cases abI tw (f (x + 1) (y' + 1)) <;> simp
  · exfalso
    have e1 : x' = x := by omega
    have e2 : y' = y + 1 := by omega
    subst e1; subst e2
    rw [upB_2] at hu; rw [upB_0] at hu'
    revert hu hu'
    cases abI tw (f x' (y + 1)) <;> cases abI tw (f (x' + 1) (y + 1)) <;> simp
  · exact absurd a1 b1
  · exact ⟨by omega, by omega, rfl⟩
  · exact absurd a1 b1
  · exact absurd b1 a1
  · exfalso
    have e1 : x = x' + 1 := by omega
    have e2 : y' = y := by omega
    subst e1; subst e2
    rw [upB_3] at hu; rw [upB_1] at hu'
    revert hu hu'
    cases abI tw (f (x' + 1) y') <;> cases abI tw (f (x' + 1) (y' + 1)) <;> simp
  · exact absurd b1 a1
  · exact ⟨by omega, by omega, rfl⟩
/-- S4, S5, S6: within one cell -/
theorem ld_up (c : Nat → Bool) (m : Bool) (h4 : ∀ k, c (k + 4) = c k) (k : Nat) (hk : k < 4) (hd : (c k && !c (k + 1)) = true) : (!c (ldG c m k % 4) && c (ldG c m k % 4 + 1)) = true := by
  have e4 : c 4 = c 0 := h4 0
  have e5 : c 5 = c 1 := h4 1
  have e6 : c 6 = c 2 := h4 2
  have e7 : c 7 = c 3 := h4 3
  revert hd
  rcases (show k = 0 ∨ k = 1 ∨ k = 2 ∨ k = 3 by omega) with rfl | rfl | rfl | rfl <;>
    simp only [ldG, Nat.reduceAdd, e4, e5, e6, e7] <;>
    cases h0 : c 0 <;> cases h1 : c 1 <;> cases h2 : c 2 <;> cases h3 : c 3 <;> cases m <;> simp [h0, h1, h2, h3, e4]
theorem ld_onto (c : Nat → Bool) (m : Bool) (h4 : ∀ k, c (k + 4) = c k) (j : Nat) (hj : j < 4) (hu : (!c j && c (j + 1)) = true) : ∃ k, k < 4 ∧ (c k && !c (k + 1)) = true ∧ ldG c m k % 4 = j := by
  have e4 : c 4 = c 0 := h4 0
  have e5 : c 5 = c 1 := h4 1
  have e6 : c 6 = c 2 := h4 2
  have e7 : c 7 = c 3 := h4 3
  have key : ((c 0 && !c (0 + 1)) = true ∧ ldG c m 0 % 4 = j) ∨ ((c 1 && !c (1 + 1)) = true ∧ ldG c m 1 % 4 = j) ∨ ((c 2 && !c (2 + 1)) = true ∧ ldG c m 2 % 4 = j) ∨ ((c 3 && !c (3 + 1)) = true ∧ ldG c m 3 % 4 = j) := by
    revert hu
    rcases (show j = 0 ∨ j = 1 ∨ j = 2 ∨ j = 3 by omega) with rfl | rfl | rfl | rfl <;>
      simp only [ldG, Nat.reduceAdd, e4, e5, e6, e7] <;>
      generalize c 0 = a0 <;> generalize c 1 = a1 <;> generalize c 2 = a2 <;> generalize c 3 = a3 <;>
      cases a0 <;> cases a1 <;> cases a2 <;> cases a3 <;> cases m <;> decide
  rcases key with q | q | q | q
  · exact ⟨0, by decide, q.1, q.2⟩
  · exact ⟨1, by decide, q.1, q.2⟩
  · exact ⟨2, by decide, q.1, q.2⟩
  · exact ⟨3, by decide, q.1, q.2⟩
theorem ld_inj (c : Nat → Bool) (m : Bool) (h4 : ∀ k, c (k + 4) = c k) (k k' : Nat) (hk : k < 4) (hk' : k' < 4) (hd : (c k && !c (k + 1)) = true) (hd' : (c k' && !c (k' + 1)) = true) (he : ldG c m k % 4 = ldG c m k' % 4) : k = k' := by
  have e4 : c 4 = c 0 := h4 0
  have e5 : c 5 = c 1 := h4 1
  have e6 : c 6 = c 2 := h4 2
  have e7 : c 7 = c 3 := h4 3
  revert hd hd' he
  rcases (show k = 0 ∨ k = 1 ∨ k = 2 ∨ k = 3 by omega) with rfl | rfl | rfl | rfl <;>
    rcases (show k' = 0 ∨ k' = 1 ∨ k' = 2 ∨ k' = 3 by omega) with rfl | rfl | rfl | rfl <;>
    simp only [ldG, Nat.reduceAdd, e4, e5, e6, e7] <;>
    generalize c 0 = a0 <;> generalize c 1 = a1 <;> generalize c 2 = a2 <;> generalize c 3 = a3 <;>
    cases a0 <;> cases a1 <;> cases a2 <;> cases a3 <;> cases m <;> decide
theorem ldB_up {x y k : Nat} (hk : k < 4) (hd : dnB f tw x y k = true) : upB f tw x y (ldB f tw x y k % 4) = true := by
  rw [ldG_eq]; exact ld_up (crn f tw x y) (mdB f tw x y) (crn_4 f tw x y) k hk hd
end CE
