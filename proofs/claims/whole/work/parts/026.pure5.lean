/-! where a line that comes in over side k of a cell goes out; the reference's next edge -/
def ldB (f : Nat → Nat → Int32) (tw : Int32) (x y k : Nat) : Nat :=
  if upB f tw x y (k + 1) && upB f tw x y (k + 3) then (if mdB f tw x y then k + 1 else k + 3)
  else if upB f tw x y (k + 1) then k + 1 else if upB f tw x y (k + 2) then k + 2 else k + 3
theorem crn_4 (f : Nat → Nat → Int32) (tw : Int32) (x y k : Nat) : crn f tw x y (k + 4) = crn f tw x y k := by
  unfold crn cX cY; rw [Nat.add_mod_right]
theorem up_4 (f : Nat → Nat → Int32) (tw : Int32) (x y k : Nat) : upB f tw x y (k + 4) = upB f tw x y k := by
  unfold upB; rw [crn_4, show k + 4 + 1 = k + 1 + 4 from by omega, crn_4]
theorem dn_4 (f : Nat → Nat → Int32) (tw : Int32) (x y k : Nat) : dnB f tw x y (k + 4) = dnB f tw x y k := by
  unfold dnB; rw [crn_4, show k + 4 + 1 = k + 1 + 4 from by omega, crn_4]
theorem up_some {f : Nat → Nat → Int32} {tw : Int32} {x y k : Nat} (h : dnB f tw x y k = true) (h1 : upB f tw x y (k + 1) = false) (h2 : upB f tw x y (k + 2) = false) : upB f tw x y (k + 3) = true := by
  unfold dnB upB at *
  have h4 := crn_4 f tw x y k
  rw [show k + 3 + 1 = k + 4 from by omega, h4]
  simp only [Nat.add_assoc] at *
  revert h h1 h2
  cases crn f tw x y k <;> cases crn f tw x y (k + 1) <;> cases crn f tw x y (k + 2) <;> cases crn f tw x y (k + 3) <;> simp
theorem ldB_4 {f : Nat → Nat → Int32} {tw : Int32} {x y k : Nat} (h1 : upB f tw x y (k + 1) = true) (h3 : upB f tw x y (k + 3) = true) : ldB f tw x y k = if mdB f tw x y then k + 1 else k + 3 := by
  unfold ldB; simp [h1, h3]
theorem ldB_1 {f : Nat → Nat → Int32} {tw : Int32} {x y k : Nat} (h1 : upB f tw x y (k + 1) = true) (h3 : upB f tw x y (k + 3) = false) : ldB f tw x y k = k + 1 := by
  unfold ldB; simp [h1, h3]
theorem ldB_2 {f : Nat → Nat → Int32} {tw : Int32} {x y k : Nat} (h1 : upB f tw x y (k + 1) = false) (h2 : upB f tw x y (k + 2) = true) : ldB f tw x y k = k + 2 := by
  unfold ldB; simp [h1, h2]
theorem ldB_3 {f : Nat → Nat → Int32} {tw : Int32} {x y k : Nat} (h1 : upB f tw x y (k + 1) = false) (h2 : upB f tw x y (k + 2) = false) : ldB f tw x y k = k + 3 := by
  unfold ldB; simp [h1, h2]
/-- one cell beside an edge: is there a cell, does a line come in (go out) -/
def cl0 (w h x y : Nat) : Bool := decide (x + 1 < w) && decide (y + 1 < h)
def clY (w h x y : Nat) : Bool := decide (x + 1 < w) && (decide (1 ≤ y) && decide (y < h))
def clX (w h x y : Nat) : Bool := (decide (1 ≤ x) && decide (x < w)) && decide (y + 1 < h)
theorem d_0 {a : Nat} (ha : a < 2 ^ 31) : decide ((0 : Int32) ≤ nI a) = true := decide_eq_true (nI_pos' ha)
theorem d_l {a b : Nat} (ha : a < 2 ^ 30) (hb : b < 2 ^ 30) (h1 : 1 ≤ b) : decide (nI a < nI (b - 1)) = decide (a + 1 < b) := by
  have h2 : (nI a < nI (b - 1)) ↔ a + 1 < b := by rw [nI_ltI (by omega) (by omega)]; omega
  exact decide_eq_decide.mpr h2
theorem cl_0 {w h x y : Nat} (gw : 2 ≤ w) (gw2 : w ≤ 12) (gh : 2 ≤ h) (gh2 : h ≤ 12) (hx : x < 12) (hy : y < 12) : (decide (0 ≤ nI x) && decide (nI x < nI (w - 1)) && decide (0 ≤ nI y) && decide (nI y < nI (h - 1))) = cl0 w h x y := by
  unfold cl0
  rw [d_0 (by omega), d_0 (by omega), d_l (by omega) (by omega) (by omega), d_l (by omega) (by omega) (by omega)]
  simp
theorem cl_Y {w h x y : Nat} (gw : 2 ≤ w) (gw2 : w ≤ 12) (gh : 2 ≤ h) (gh2 : h ≤ 12) (hx : x < 12) (hy : y < 12) : (decide (0 ≤ nI x) && decide (nI x < nI (w - 1)) && decide (0 ≤ nI y - 1) && decide (nI y - 1 < nI (h - 1))) = clY w h x y := by
  unfold clY
  rcases Nat.eq_zero_or_pos y with rfl | h0
  · rw [show decide ((0 : Int32) ≤ nI 0 - 1) = false from by decide]; simp
  · rw [nI_m1 h0, d_0 (by omega), d_0 (by omega), d_l (by omega) (by omega) (by omega), d_l (by omega) (by omega) (by omega), show y - 1 + 1 = y from by omega, decide_eq_true (show 1 ≤ y from h0)]
    simp
theorem cl_X {w h x y : Nat} (gw : 2 ≤ w) (gw2 : w ≤ 12) (gh : 2 ≤ h) (gh2 : h ≤ 12) (hx : x < 12) (hy : y < 12) : (decide (0 ≤ nI x - 1) && decide (nI x - 1 < nI (w - 1)) && decide (0 ≤ nI y) && decide (nI y < nI (h - 1))) = clX w h x y := by
  unfold clX
  rcases Nat.eq_zero_or_pos x with rfl | h0
  · rw [show decide ((0 : Int32) ≤ nI 0 - 1) = false from by decide]; simp
  · rw [nI_m1 h0, d_0 (by omega), d_0 (by omega), d_l (by omega) (by omega) (by omega), d_l (by omega) (by omega) (by omega), show x - 1 + 1 = x from by omega, decide_eq_true (show 1 ≤ x from h0)]
    simp
/-- the reference's next edge, and whether a line leads to an edge -/
def nxR (w h : Nat) (f : Nat → Nat → Int32) (tw : Int32) (e : Nat) : Int32 :=
  if e < nR w h then
    (if clY w h (xE w h e) (yE w h e) && dnB f tw (xE w h e) (yE w h e - 1) 2 then nI (eO w h (xE w h e) (yE w h e - 1) (ldB f tw (xE w h e) (yE w h e - 1) 2))
     else if cl0 w h (xE w h e) (yE w h e) && dnB f tw (xE w h e) (yE w h e) 0 then nI (eO w h (xE w h e) (yE w h e) (ldB f tw (xE w h e) (yE w h e) 0)) else -1)
  else
    (if clX w h (xE w h e) (yE w h e) && dnB f tw (xE w h e - 1) (yE w h e) 1 then nI (eO w h (xE w h e - 1) (yE w h e) (ldB f tw (xE w h e - 1) (yE w h e) 1))
     else if cl0 w h (xE w h e) (yE w h e) && dnB f tw (xE w h e) (yE w h e) 3 then nI (eO w h (xE w h e) (yE w h e) (ldB f tw (xE w h e) (yE w h e) 3)) else -1)
def ltR (w h : Nat) (f : Nat → Nat → Int32) (tw : Int32) (e : Nat) : Bool :=
  if e < nR w h then (cl0 w h (xE w h e) (yE w h e) && upB f tw (xE w h e) (yE w h e) 0) || (clY w h (xE w h e) (yE w h e) && upB f tw (xE w h e) (yE w h e - 1) 2)
  else (cl0 w h (xE w h e) (yE w h e) && upB f tw (xE w h e) (yE w h e) 3) || (clX w h (xE w h e) (yE w h e) && upB f tw (xE w h e - 1) (yE w h e) 1)
theorem cl0_ok {w h x y : Nat} (h1 : cl0 w h x y = true) : x + 1 < w ∧ y + 1 < h := by unfold cl0 at h1; simp at h1; exact h1
theorem clY_ok {w h x y : Nat} (h1 : clY w h x y = true) : x + 1 < w ∧ 1 ≤ y ∧ (y - 1) + 1 < h := by unfold clY at h1; simp at h1; omega
theorem clX_ok {w h x y : Nat} (h1 : clX w h x y = true) : (x - 1) + 1 < w ∧ 1 ≤ x ∧ y + 1 < h := by unfold clX at h1; simp at h1; omega
