section LI
variable {w h : Nat} {f : Nat → Nat → Int32} {tw : Int32}
theorem nx_rng {a : Nat} : nxR w h f tw a = -1 ∨ ∃ b, b < nE w h ∧ nxR w h f tw a = nI b := by
  by_cases hne : nxR w h f tw a = -1
  · exact Or.inl hne
  · obtain ⟨x, y, k, hx, hy, hk, hd, rfl⟩ := nx_ex hne
    exact Or.inr ⟨_, eO_lt _ hx hy, nx_dn hx hy hk hd⟩
theorem lt_iff {b : Nat} (hw : w ≤ 12) (hh : h ≤ 12) (hb : b < nE w h) : ltR w h f tw b = true ↔ ∃ a, a < nE w h ∧ nxR w h f tw a = nI b := by
  have hE := nE_le hw hh
  constructor
  · intro hl
    obtain ⟨x, y, j, hx, hy, hj, hu, rfl⟩ := lt_ex hl
    obtain ⟨k, hk, hd, he⟩ := ld_onto (crn f tw x y) (mdB f tw x y) (crn_4 f tw x y) j hj hu
    refine ⟨eO w h x y k, eO_lt _ hx hy, ?_⟩
    rw [nx_dn hx hy hk hd, ldG_eq, ← eO_mod w h x y (ldG _ _ _), he]
  · rintro ⟨a, ha, e⟩
    obtain ⟨x, y, k, hx, hy, hk, hd, rfl⟩ := nx_ex (w := w) (h := h) (f := f) (tw := tw) (e := a) (by rw [e]; exact nI_nm1 (by omega))
    rw [nx_dn hx hy hk hd] at e
    have := nI_inj31 (by have := eO_lt (w := w) (h := h) (ldB f tw x y k) hx hy; omega) (by omega) e
    rw [← this, ← eO_mod]
    exact lt_up hx hy (Nat.mod_lt _ (by decide)) (ldB_up hk hd)
theorem nx_gN (hw : w ≤ 12) (hh : h ≤ 12) : gN1 (nE w h) (nxR w h f tw) := by
  have hE := nE_le hw hh
  refine ⟨fun a _ => nx_rng, ?_, ?_⟩
  · intro a a' b ha ha' hb e e'
    obtain ⟨x, y, k, hx, hy, hk, hd, rfl⟩ := nx_ex (w := w) (h := h) (f := f) (tw := tw) (e := a) (by rw [e]; exact nI_nm1 (by omega))
    obtain ⟨x', y', k', hx', hy', hk', hd', rfl⟩ := nx_ex (w := w) (h := h) (f := f) (tw := tw) (e := a') (by rw [e']; exact nI_nm1 (by omega))
    rw [nx_dn hx hy hk hd] at e
    rw [nx_dn hx' hy' hk' hd'] at e'
    have e1 := nI_inj31 (by have := eO_lt (w := w) (h := h) (ldB f tw x y k) hx hy; omega) (by omega) e
    have e2 := nI_inj31 (by have := eO_lt (w := w) (h := h) (ldB f tw x' y' k') hx' hy'; omega) (by omega) e'
    obtain ⟨rfl, rfl, e3⟩ := up_uni hx hy (Nat.mod_lt _ (by decide)) hx' hy' (Nat.mod_lt _ (by decide)) (ldB_up hk hd) (ldB_up hk' hd') (by rw [eO_mod, eO_mod, e1, e2])
    rw [ldG_eq, ldG_eq] at e3
    rw [ld_inj (crn f tw x y) (mdB f tw x y) (crn_4 f tw x y) k k' hk hk' hd hd' e3]
  · intro a ha e
    obtain ⟨x, y, k, hx, hy, hk, hd, rfl⟩ := nx_ex (w := w) (h := h) (f := f) (tw := tw) (e := a) (by rw [e]; exact nI_nm1 (by omega))
    rw [nx_dn hx hy hk hd] at e
    have e1 := nI_inj31 (by have := eO_lt (w := w) (h := h) (ldB f tw x y k) hx hy; omega) (by omega) e
    rw [← eO_mod] at e1
    have hu := ldB_up hk hd
    have hj : ldB f tw x y k % 4 < 4 := Nat.mod_lt _ (by decide)
    have d1 := dec4 (w := w) (h := h) hx hy hk
    have d2 := dec4 (w := w) (h := h) hx hy hj
    rw [e1] at d2
    have ek : ldB f tw x y k % 4 = k := by
      rcases d1 with ⟨a0, a1, a2, a3⟩ | ⟨a0, a1, a2, a3⟩ | ⟨a0, a1, a2, a3⟩ | ⟨a0, a1, a2, a3⟩ <;> rcases d2 with ⟨b0, b1, b2, b3⟩ | ⟨b0, b1, b2, b3⟩ | ⟨b0, b1, b2, b3⟩ | ⟨b0, b1, b2, b3⟩ <;> omega
    rw [ek] at hu
    unfold dnB at hd
    unfold upB at hu
    revert hd hu
    cases crn f tw x y k <;> simp
theorem cr_eO {x y k : Nat} (hx : x + 1 < w) (hy : y + 1 < h) (hk : k < 4) : crB w h f tw (eO w h x y k) = (crn f tw x y k != crn f tw x y (k + 1)) := by
  unfold crB fst2 snd2
  rcases dec4 (w := w) (h := h) hx hy hk with ⟨rfl, h1, h2, h3⟩ | ⟨rfl, h1, h2, h3⟩ | ⟨rfl, h1, h2, h3⟩ | ⟨rfl, h1, h2, h3⟩
  · rw [if_pos h1, h2, h3]; rfl
  · rw [if_neg h1, h2, h3]; rfl
  · rw [if_pos h1, h2, h3]
    show (abI tw (f x (y + 1)) != abI tw (f (x + 1) (y + 1))) = (abI tw (f (x + 1) (y + 1)) != abI tw (f x (y + 1)))
    cases abI tw (f x (y + 1)) <;> cases abI tw (f (x + 1) (y + 1)) <;> rfl
  · rw [if_neg h1, h2, h3]
    show (abI tw (f x y) != abI tw (f x (y + 1))) = (abI tw (f x (y + 1)) != abI tw (f x y))
    cases abI tw (f x y) <;> cases abI tw (f x (y + 1)) <;> rfl
theorem dn_or_up {x y k : Nat} (hc : (crn f tw x y k != crn f tw x y (k + 1)) = true) : dnB f tw x y k = true ∨ upB f tw x y k = true := by
  unfold dnB upB
  revert hc
  cases crn f tw x y k <;> cases crn f tw x y (k + 1) <;> simp
theorem cr_of {e : Nat} (gw : 2 ≤ w) (gw2 : w ≤ 12) (gh : 2 ≤ h) (gh2 : h ≤ 12) (he : e < nE w h) (hc : crB w h f tw e = true) : ¬ nxR w h f tw e = -1 ∨ ltR w h f tw e = true := by
  have hE := nE_le gw2 gh2
  have go : ∀ x y k, x + 1 < w → y + 1 < h → k < 4 → eO w h x y k = e → ¬ nxR w h f tw e = -1 ∨ ltR w h f tw e = true := by
    intro x y k hx hy hk ee
    subst ee
    rw [cr_eO hx hy hk] at hc
    rcases dn_or_up hc with q | q
    · left
      rw [nx_dn hx hy hk q]
      exact nI_nm1 (by have := eO_lt (w := w) (h := h) (ldB f tw x y k) hx hy; omega)
    · right; exact lt_up hx hy hk q
  by_cases c : e < nR w h
  · have h1 := xy_a gw c
    by_cases hy : yE w h e + 1 < h
    · exact go _ _ 0 h1.1 hy (by decide) (enc0 c)
    · exact go _ _ 2 h1.1 (show yE w h e - 1 + 1 < h by omega) (by decide) (enc2 c (by omega))
  · have h1 := xy_b gw gh he c
    by_cases hx : xE w h e + 1 < w
    · exact go _ _ 3 hx h1.2 (by decide) (enc3 c)
    · exact go _ _ 1 (show xE w h e - 1 + 1 < w by omega) h1.2 (by decide) (enc1 c (by omega))
theorem cr_nx {e : Nat} (hne : ¬ nxR w h f tw e = -1) : crB w h f tw e = true := by
  obtain ⟨x, y, k, hx, hy, hk, hd, rfl⟩ := nx_ex hne
  rw [cr_eO hx hy hk]
  unfold dnB at hd
  revert hd
  cases crn f tw x y k <;> cases crn f tw x y (k + 1) <;> simp
theorem cr_lt {e : Nat} (hl : ltR w h f tw e = true) : crB w h f tw e = true := by
  obtain ⟨x, y, k, hx, hy, hk, hd, rfl⟩ := lt_ex hl
  rw [cr_eO hx hy hk]
  unfold upB at hd
  revert hd
  cases crn f tw x y k <;> cases crn f tw x y (k + 1) <;> simp
theorem nx_gCS (gw : 2 ≤ w) (gw2 : w ≤ 12) (gh : 2 ≤ h) (gh2 : h ≤ 12) : gCS (nE w h) (nxR w h f tw) (crB w h f tw) (fun e => crB w h f tw e && !ltR w h f tw e) := by
  refine ⟨fun a _ hne => cr_nx hne, fun a b ha hb e => cr_lt ((lt_iff gw2 gh2 hb).mpr ⟨a, ha, e⟩), ?_, ?_⟩
  · intro z hz
    show (crB w h f tw z && !ltR w h f tw z) = true ↔ _
    rw [Bool.and_eq_true]
    constructor
    · rintro ⟨h1, h2⟩
      refine ⟨h1, fun a ha e => ?_⟩
      rw [(lt_iff gw2 gh2 hz).mpr ⟨a, ha, e⟩] at h2
      cases h2
    · rintro ⟨h1, h2⟩
      refine ⟨h1, ?_⟩
      cases hl : ltR w h f tw z with
      | false => rfl
      | true =>
        obtain ⟨a, ha, e⟩ := (lt_iff gw2 gh2 hz).mp hl
        exact absurd e (h2 a ha)
  · intro z hz hs
    have hs : (crB w h f tw z && !ltR w h f tw z) = true := hs
    rw [Bool.and_eq_true] at hs
    rcases cr_of gw gw2 gh gh2 hz hs.1 with q | q
    · exact q
    · rw [q] at hs; exact absurd hs.2 (by decide)
/-- what the class has drawn: of the cells P -/
def okN (w h : Nat) (f : Nat → Nat → Int32) (tw : Int32) (P : Nat → Nat → Nat → Prop) (g : Nat → Int32) : Prop :=
  ∀ e, e < 264 → ((∃ x y k, P x y k ∧ x + 1 < w ∧ y + 1 < h ∧ k < 4 ∧ dnB f tw x y k = true ∧ e = eO w h x y k) → g e = nxR w h f tw e) ∧ ((¬ ∃ x y k, P x y k ∧ x + 1 < w ∧ y + 1 < h ∧ k < 4 ∧ dnB f tw x y k = true ∧ e = eO w h x y k) → g e = -1)
def okB (w h : Nat) (f : Nat → Nat → Int32) (tw : Int32) (P : Nat → Nat → Nat → Prop) (g : Nat → Int32) : Prop :=
  ∀ e, e < 264 → ((∃ x y k, P x y k ∧ x + 1 < w ∧ y + 1 < h ∧ k < 4 ∧ dnB f tw x y k = true ∧ e = eO w h x y (ldB f tw x y k)) → ¬ g e = -1) ∧ ((¬ ∃ x y k, P x y k ∧ x + 1 < w ∧ y + 1 < h ∧ k < 4 ∧ dnB f tw x y k = true ∧ e = eO w h x y (ldB f tw x y k)) → g e = -1)
theorem okN_to {P P' : Nat → Nat → Nat → Prop} {g : Nat → Int32} (hP : ∀ x y k, x + 1 < w → y + 1 < h → k < 4 → (P x y k ↔ P' x y k)) (h1 : okN w h f tw P g) : okN w h f tw P' g := by
  intro e he
  have key : (∃ x y k, P x y k ∧ x + 1 < w ∧ y + 1 < h ∧ k < 4 ∧ dnB f tw x y k = true ∧ e = eO w h x y k) ↔ (∃ x y k, P' x y k ∧ x + 1 < w ∧ y + 1 < h ∧ k < 4 ∧ dnB f tw x y k = true ∧ e = eO w h x y k) := by
    constructor
    · rintro ⟨x, y, k, a, b, c, d, r⟩; exact ⟨x, y, k, (hP x y k b c d).mp a, b, c, d, r⟩
    · rintro ⟨x, y, k, a, b, c, d, r⟩; exact ⟨x, y, k, (hP x y k b c d).mpr a, b, c, d, r⟩
  rw [← key]
  exact h1 e he
theorem okB_to {P P' : Nat → Nat → Nat → Prop} {g : Nat → Int32} (hP : ∀ x y k, x + 1 < w → y + 1 < h → k < 4 → (P x y k ↔ P' x y k)) (h1 : okB w h f tw P g) : okB w h f tw P' g := by
  intro e he
  have key : (∃ x y k, P x y k ∧ x + 1 < w ∧ y + 1 < h ∧ k < 4 ∧ dnB f tw x y k = true ∧ e = eO w h x y (ldB f tw x y k)) ↔ (∃ x y k, P' x y k ∧ x + 1 < w ∧ y + 1 < h ∧ k < 4 ∧ dnB f tw x y k = true ∧ e = eO w h x y (ldB f tw x y k)) := by
    constructor
    · rintro ⟨x, y, k, a, b, c, d, r⟩; exact ⟨x, y, k, (hP x y k b c d).mp a, b, c, d, r⟩
    · rintro ⟨x, y, k, a, b, c, d, r⟩; exact ⟨x, y, k, (hP x y k b c d).mpr a, b, c, d, r⟩
  rw [← key]
  exact h1 e he
theorem okN_dc {P : Nat → Nat → Nat → Prop} {g : Nat → Int32} {x y : Nat} (hx : x + 1 < w) (hy : y + 1 < h) (h1 : okN w h f tw P g) : ∀ j, j ≤ 4 → okN w h f tw (fun x' y' k' => P x' y' k' ∨ (x' = x ∧ y' = y ∧ k' < j)) (dcN w h f tw x y g j) := by
  intro j
  induction j with
  | zero => intro _; exact okN_to (fun x' y' k' _ _ _ => ⟨Or.inl, fun q => q.elim id (fun z => absurd z.2.2 (Nat.not_lt_zero _))⟩) h1
  | succ j ih =>
    intro hj
    have i := ih (by omega)
    cases hd : dnB f tw x y j with
    | false =>
      rw [dcN_f hd]
      intro e he
      refine ⟨fun ⟨x', y', k', hp, b, c, d, hd', r⟩ => (i e he).1 ⟨x', y', k', ?_, b, c, d, hd', r⟩, fun q => (i e he).2 (fun ⟨x', y', k', hp, r⟩ => q ⟨x', y', k', hp.imp id (fun z => ⟨z.1, z.2.1, by omega⟩), r⟩)⟩
      rcases hp with hp | ⟨rfl, rfl, hk⟩
      · exact Or.inl hp
      · have : k' ≠ j := fun e => by subst e; rw [hd] at hd'; cases hd'
        exact Or.inr ⟨rfl, rfl, by omega⟩
    | true =>
      rw [dcN_t hd]
      intro e he
      by_cases hee : e = eO w h x y j
      · refine ⟨fun _ => ?_, fun q => absurd ⟨x, y, j, Or.inr ⟨rfl, rfl, by omega⟩, hx, hy, by omega, hd, hee⟩ q⟩
        rw [hee, nx_dn hx hy (by omega) hd]
        simp [upd]
      · have hup : upd (dcN w h f tw x y g j) (eO w h x y j) (nI (eO w h x y (ldB f tw x y j))) e = dcN w h f tw x y g j e := by simp [upd, hee]
        rw [hup]
        refine ⟨fun ⟨x', y', k', hp, b, c, d, hd', r⟩ => (i e he).1 ⟨x', y', k', ?_, b, c, d, hd', r⟩, fun q => (i e he).2 (fun ⟨x', y', k', hp, r⟩ => q ⟨x', y', k', hp.imp id (fun z => ⟨z.1, z.2.1, by omega⟩), r⟩)⟩
        rcases hp with hp | ⟨rfl, rfl, hk⟩
        · exact Or.inl hp
        · have : k' ≠ j := fun e' => by subst e'; exact hee r
          exact Or.inr ⟨rfl, rfl, by omega⟩
theorem okB_dc (gw2 : w ≤ 12) (gh2 : h ≤ 12) {P : Nat → Nat → Nat → Prop} {g : Nat → Int32} {x y : Nat} (hx : x + 1 < w) (hy : y + 1 < h) (h1 : okB w h f tw P g) : ∀ j, j ≤ 4 → okB w h f tw (fun x' y' k' => P x' y' k' ∨ (x' = x ∧ y' = y ∧ k' < j)) (dcB w h f tw x y g j) := by
  have hE := nE_le gw2 gh2
  intro j
  induction j with
  | zero => intro _; exact okB_to (fun x' y' k' _ _ _ => ⟨Or.inl, fun q => q.elim id (fun z => absurd z.2.2 (Nat.not_lt_zero _))⟩) h1
  | succ j ih =>
    intro hj
    have i := ih (by omega)
    cases hd : dnB f tw x y j with
    | false =>
      rw [dcB_f hd]
      intro e he
      refine ⟨fun ⟨x', y', k', hp, b, c, d, hd', r⟩ => (i e he).1 ⟨x', y', k', ?_, b, c, d, hd', r⟩, fun q => (i e he).2 (fun ⟨x', y', k', hp, r⟩ => q ⟨x', y', k', hp.imp id (fun z => ⟨z.1, z.2.1, by omega⟩), r⟩)⟩
      rcases hp with hp | ⟨rfl, rfl, hk⟩
      · exact Or.inl hp
      · have : k' ≠ j := fun e => by subst e; rw [hd] at hd'; cases hd'
        exact Or.inr ⟨rfl, rfl, by omega⟩
    | true =>
      rw [dcB_t hd]
      intro e he
      by_cases hee : e = eO w h x y (ldB f tw x y j)
      · refine ⟨fun _ => ?_, fun q => absurd ⟨x, y, j, Or.inr ⟨rfl, rfl, by omega⟩, hx, hy, by omega, hd, hee⟩ q⟩
        rw [hee]
        simp only [upd, if_true]
        exact nI_nm1 (by have := eO_lt (w := w) (h := h) j hx hy; omega)
      · have hup : upd (dcB w h f tw x y g j) (eO w h x y (ldB f tw x y j)) (nI (eO w h x y j)) e = dcB w h f tw x y g j e := by simp [upd, hee]
        rw [hup]
        refine ⟨fun ⟨x', y', k', hp, b, c, d, hd', r⟩ => (i e he).1 ⟨x', y', k', ?_, b, c, d, hd', r⟩, fun q => (i e he).2 (fun ⟨x', y', k', hp, r⟩ => q ⟨x', y', k', hp.imp id (fun z => ⟨z.1, z.2.1, by omega⟩), r⟩)⟩
        rcases hp with hp | ⟨rfl, rfl, hk⟩
        · exact Or.inl hp
        · have : k' ≠ j := fun e' => by subst e'; exact hee r
          exact Or.inr ⟨rfl, rfl, by omega⟩
theorem okN_dr {y : Nat} {g : Nat → Int32} (hy : y + 1 < h) (h1 : okN w h f tw (fun _ y' _ => y' < y) g) : ∀ x, x ≤ w - 1 → okN w h f tw (fun x' y' _ => y' < y ∨ (y' = y ∧ x' < x)) (drN w h f tw y g x) := by
  intro x
  induction x with
  | zero => intro _; exact okN_to (fun x' y' k' _ _ _ => ⟨Or.inl, fun q => q.elim id (fun z => absurd z.2 (Nat.not_lt_zero _))⟩) h1
  | succ x ih =>
    intro hx
    refine okN_to (fun x' y' k' _ _ hk => ?_) (okN_dc (x := x) (y := y) (by omega) hy (ih (by omega)) 4 (Nat.le_refl _))
    constructor
    · rintro ((q | q) | q)
      · exact Or.inl q
      · exact Or.inr ⟨q.1, by omega⟩
      · exact Or.inr ⟨q.2.1, by omega⟩
    · rintro (q | q)
      · exact Or.inl (Or.inl q)
      · rcases Nat.lt_or_ge x' x with r | r
        · exact Or.inl (Or.inr ⟨q.1, r⟩)
        · exact Or.inr ⟨by omega, q.1, hk⟩
theorem okB_dr (gw2 : w ≤ 12) (gh2 : h ≤ 12) {y : Nat} {g : Nat → Int32} (hy : y + 1 < h) (h1 : okB w h f tw (fun _ y' _ => y' < y) g) : ∀ x, x ≤ w - 1 → okB w h f tw (fun x' y' _ => y' < y ∨ (y' = y ∧ x' < x)) (drB w h f tw y g x) := by
  intro x
  induction x with
  | zero => intro _; exact okB_to (fun x' y' k' _ _ _ => ⟨Or.inl, fun q => q.elim id (fun z => absurd z.2 (Nat.not_lt_zero _))⟩) h1
  | succ x ih =>
    intro hx
    refine okB_to (fun x' y' k' _ _ hk => ?_) (okB_dc gw2 gh2 (x := x) (y := y) (by omega) hy (ih (by omega)) 4 (Nat.le_refl _))
    constructor
    · rintro ((q | q) | q)
      · exact Or.inl q
      · exact Or.inr ⟨q.1, by omega⟩
      · exact Or.inr ⟨q.2.1, by omega⟩
    · rintro (q | q)
      · exact Or.inl (Or.inl q)
      · rcases Nat.lt_or_ge x' x with r | r
        · exact Or.inl (Or.inr ⟨q.1, r⟩)
        · exact Or.inr ⟨by omega, q.1, hk⟩
theorem okN_dl {nx : Nat → Int32} (h0 : ∀ e, e < 264 → nx e = -1) : ∀ y, y ≤ h - 1 → okN w h f tw (fun _ y' _ => y' < y) (dlN w h f tw nx y) := by
  intro y
  induction y with
  | zero => intro _ e he; exact ⟨fun ⟨x, y, k, q, _⟩ => absurd q (Nat.not_lt_zero _), fun _ => h0 e he⟩
  | succ y ih =>
    intro hy
    refine okN_to (fun x' y' k' hx' _ _ => ?_) (okN_dr (y := y) (by omega) (ih (by omega)) (w - 1) (Nat.le_refl _))
    constructor
    · rintro (q | q) <;> omega
    · intro q
      rcases Nat.lt_or_ge y' y with r | r
      · exact Or.inl r
      · exact Or.inr ⟨by omega, by omega⟩
theorem okB_dl (gw2 : w ≤ 12) (gh2 : h ≤ 12) {nx : Nat → Int32} (h0 : ∀ e, e < 264 → nx e = -1) : ∀ y, y ≤ h - 1 → okB w h f tw (fun _ y' _ => y' < y) (dlB w h f tw nx y) := by
  intro y
  induction y with
  | zero => intro _ e he; exact ⟨fun ⟨x, y, k, q, _⟩ => absurd q (Nat.not_lt_zero _), fun _ => h0 e he⟩
  | succ y ih =>
    intro hy
    refine okB_to (fun x' y' k' hx' _ _ => ?_) (okB_dr gw2 gh2 (y := y) (by omega) (ih (by omega)) (w - 1) (Nat.le_refl _))
    constructor
    · rintro (q | q) <;> omega
    · intro q
      rcases Nat.lt_or_ge y' y with r | r
      · exact Or.inl r
      · exact Or.inr ⟨by omega, by omega⟩
/-- T2: the class's next edges are the reference's -/
theorem dl_nx (gw2 : w ≤ 12) (gh2 : h ≤ 12) {nx : Nat → Int32} (h0 : ∀ e, e < 264 → nx e = -1) {e : Nat} (he : e < 264) : dlN w h f tw nx (h - 1) e = nxR w h f tw e ∨ (nE w h ≤ e ∧ dlN w h f tw nx (h - 1) e = -1) := by
  have k := okN_dl (w := w) (h := h) (f := f) (tw := tw) h0 (h - 1) (Nat.le_refl _) e he
  by_cases hne : nxR w h f tw e = -1
  · left
    rw [hne]
    apply k.2
    rintro ⟨x, y, j, -, hx, hy, hj, hd, rfl⟩
    rw [nx_dn hx hy hj hd] at hne
    exact nI_nm1 (by have := eO_lt (w := w) (h := h) (ldB f tw x y j) hx hy; have := nE_le gw2 gh2; omega) hne
  · left
    obtain ⟨x, y, j, hx, hy, hj, hd, rfl⟩ := nx_ex hne
    exact k.1 ⟨x, y, j, by show y < h - 1; omega, hx, hy, hj, hd, rfl⟩
theorem dl_all (gw2 : w ≤ 12) (gh2 : h ≤ 12) {nx : Nat → Int32} (h0 : ∀ e, e < 264 → nx e = -1) : ∀ e, e < 264 → dlN w h f tw nx (h - 1) e = nxR w h f tw e ∨ dlN w h f tw nx (h - 1) e = -1 := fun e he => (dl_nx gw2 gh2 h0 he).imp id (fun q => q.2)
theorem dl_eq (gw2 : w ≤ 12) (gh2 : h ≤ 12) {nx : Nat → Int32} (h0 : ∀ e, e < 264 → nx e = -1) : ∀ e, e < nE w h → dlN w h f tw nx (h - 1) e = nxR w h f tw e := fun e he => (dl_nx gw2 gh2 h0 (by have := nE_le gw2 gh2; omega)).elim id (fun q => absurd he (by omega))
theorem dl_bf (gw2 : w ≤ 12) (gh2 : h ≤ 12) {bf : Nat → Int32} (h0 : ∀ e, e < 264 → bf e = -1) : ∀ e, e < nE w h → (dlB w h f tw bf (h - 1) e = -1 ↔ ltR w h f tw e = false) := by
  intro e he
  have hE := nE_le gw2 gh2
  have k := okB_dl (w := w) (h := h) (f := f) (tw := tw) gw2 gh2 h0 (h - 1) (Nat.le_refl _) e (by omega)
  cases hl : ltR w h f tw e with
  | true =>
    refine ⟨fun q => ?_, fun q => by cases q⟩
    exfalso
    obtain ⟨x, y, j, hx, hy, hj, hu, rfl⟩ := lt_ex hl
    obtain ⟨i, hi, hd, hee⟩ := ld_onto (crn f tw x y) (mdB f tw x y) (crn_4 f tw x y) j hj hu
    refine k.1 ⟨x, y, i, by show y < h - 1; omega, hx, hy, hi, hd, ?_⟩ q
    rw [ldG_eq, ← eO_mod w h x y (ldG _ _ _), hee]
  | false =>
    refine ⟨fun _ => rfl, fun _ => k.2 ?_⟩
    rintro ⟨x, y, j, -, hx, hy, hj, hd, rfl⟩
    rw [← eO_mod, lt_up hx hy (Nat.mod_lt _ (by decide)) (ldB_up hj hd)] at hl
    cases hl
end LI
