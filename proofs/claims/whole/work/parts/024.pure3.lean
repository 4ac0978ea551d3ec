/-! the reference's edges: where an edge lies -/
def xE (w h e : Nat) : Nat := if e < nR w h then e % (w - 1) else (e - nR w h) % w
def yE (w h e : Nat) : Nat := if e < nR w h then e / (w - 1) else (e - nR w h) / w
/-- a field's test at a place, an edge's first and second sample -/
def fst2 (w h : Nat) (f : Nat → Nat → Int32) (e : Nat) : Int32 := f (xE w h e) (yE w h e)
def snd2 (w h : Nat) (f : Nat → Nat → Int32) (e : Nat) : Int32 := if e < nR w h then f (xE w h e + 1) (yE w h e) else f (xE w h e) (yE w h e + 1)
def crB (w h : Nat) (f : Nat → Nat → Int32) (tw : Int32) (e : Nat) : Bool := abI tw (fst2 w h f e) != abI tw (snd2 w h f e)
theorem xE_a {w h e : Nat} (gw : 2 ≤ w) (hw : w ≤ 12) (he : e < 264) (c : e < nR w h) : nI e - nI e / nI (w - 1) * nI (w - 1) = nI (xE w h e) := by
  rw [pk_rem (by omega) (by omega) (by omega)]; unfold xE; rw [if_pos c]
theorem xE_b {w h e : Nat} (gw : 2 ≤ w) (hw : w ≤ 12) (hh : h ≤ 12) (he : e < 264) (c : ¬ e < nR w h) : (nI e - nI (nR w h)) - (nI e - nI (nR w h)) / nI w * nI w = nI (xE w h e) := by
  rw [pk_sub (by omega), pk_rem (by omega) (by omega) (by omega)]; unfold xE; rw [if_neg c]
theorem yE_a {w h e : Nat} (gw : 2 ≤ w) (hw : w ≤ 12) (he : e < 264) (c : e < nR w h) : nI e / nI (w - 1) = nI (yE w h e) := by
  rw [pk_div (by omega) (by omega) (by omega)]; unfold yE; rw [if_pos c]
theorem yE_b {w h e : Nat} (gw : 2 ≤ w) (hw : w ≤ 12) (hh : h ≤ 12) (he : e < 264) (c : ¬ e < nR w h) : (nI e - nI (nR w h)) / nI w = nI (yE w h e) := by
  rw [pk_sub (by omega), pk_div (by omega) (by omega) (by omega)]; unfold yE; rw [if_neg c]
theorem xy_a {w h e : Nat} (gw : 2 ≤ w) (c : e < nR w h) : xE w h e + 1 < w ∧ yE w h e < h := by
  unfold xE yE; rw [if_pos c, if_pos c]
  have h1 : e % (w - 1) < w - 1 := Nat.mod_lt _ (by omega)
  have h2 : e / (w - 1) < h := Nat.div_lt_of_lt_mul (by unfold nR at c; rw [Nat.mul_comm]; exact c)
  omega
theorem xy_b {w h e : Nat} (gw : 2 ≤ w) (gh : 2 ≤ h) (he : e < nE w h) (c : ¬ e < nR w h) : xE w h e < w ∧ yE w h e + 1 < h := by
  unfold xE yE; rw [if_neg c, if_neg c]
  rw [nE_eq] at he
  have h1 : (e - nR w h) % w < w := Nat.mod_lt _ (by omega)
  have h2 : (e - nR w h) / w < h - 1 := Nat.div_lt_of_lt_mul (by rw [Nat.mul_comm]; omega)
  omega
theorem xy_1 {w h e : Nat} (gw : 2 ≤ w) (gh : 2 ≤ h) (he : e < nE w h) : xE w h e < w ∧ yE w h e < h := by
  by_cases c : e < nR w h
  · have := xy_a gw c; omega
  · have := xy_b gw gh he c; omega
theorem nI_12 {x y : Nat} : (12 : Int32) * nI y + nI x = nI (12 * y + x) := by
  rw [show (12 : Int32) = nI 12 from rfl, pk_mul, nI_add]
theorem bd_t {P : Prop} [Decidable P] (h : ¬ bI (decide P) = 0) : P := of_decide_eq_true (bI_n0.mp h)
theorem bd_f {P : Prop} [Decidable P] (h : bI (decide P) = 0) : ¬ P := of_decide_eq_false (bI_0.mp h)
/-- a corner of a cell, above or not; a line comes in over side k, goes out over side k; where it goes out -/
def crn (f : Nat → Nat → Int32) (tw : Int32) (x y k : Nat) : Bool := abI tw (f (cX x k) (cY y k))
def dnB (f : Nat → Nat → Int32) (tw : Int32) (x y k : Nat) : Bool := crn f tw x y k && !crn f tw x y (k + 1)
def upB (f : Nat → Nat → Int32) (tw : Int32) (x y k : Nat) : Bool := !crn f tw x y k && crn f tw x y (k + 1)
def mdB (f : Nat → Nat → Int32) (tw : Int32) (x y : Nat) : Bool := midI tw (f x y) (f (x + 1) y) (f (x + 1) (y + 1)) (f x (y + 1))
theorem cX_0 {x k : Nat} (h : 0 = k % 4) : cX x k = x := by simp [cX, ← h]
theorem cX_1 {x k : Nat} (h : 1 = k % 4) : cX x k = x + 1 := by simp [cX, ← h]
theorem cX_2 {x k : Nat} (h : 2 = k % 4) : cX x k = x + 1 := by simp [cX, ← h]
theorem cX_3 {x k : Nat} (h : 3 = k % 4) : cX x k = x := by simp [cX, ← h]
theorem cY_0 {x k : Nat} (h : 0 = k % 4) : cY x k = x := by simp [cY, ← h]
theorem cY_1 {x k : Nat} (h : 1 = k % 4) : cY x k = x := by simp [cY, ← h]
theorem cY_2 {x k : Nat} (h : 2 = k % 4) : cY x k = x + 1 := by simp [cY, ← h]
theorem cY_3 {x k : Nat} (h : 3 = k % 4) : cY x k = x + 1 := by simp [cY, ← h]
theorem eO_0 {w h x y k : Nat} (e : 0 = k % 4) : eO w h x y k = y * (w - 1) + x := by simp [eO, ← e]
theorem eO_1 {w h x y k : Nat} (e : 1 = k % 4) : eO w h x y k = nR w h + y * w + (x + 1) := by simp [eO, ← e]
theorem eO_2 {w h x y k : Nat} (e : 2 = k % 4) : eO w h x y k = (y + 1) * (w - 1) + x := by simp [eO, ← e]
theorem eO_3 {w h x y k : Nat} (e : 3 = k % 4) : eO w h x y k = nR w h + y * w + x := by simp [eO, ← e]
theorem cX_lt {w x : Nat} (k : Nat) (h : x + 1 < w) : cX x k < w := by
  have : k % 4 < 4 := Nat.mod_lt _ (by decide)
  rcases (show 0 = k % 4 ∨ 1 = k % 4 ∨ 2 = k % 4 ∨ 3 = k % 4 by omega) with e | e | e | e
  · rw [cX_0 e]; omega
  · rw [cX_1 e]; omega
  · rw [cX_2 e]; omega
  · rw [cX_3 e]; omega
theorem cY_lt {w x : Nat} (k : Nat) (h : x + 1 < w) : cY x k < w := by
  have : k % 4 < 4 := Nat.mod_lt _ (by decide)
  rcases (show 0 = k % 4 ∨ 1 = k % 4 ∨ 2 = k % 4 ∨ 3 = k % 4 by omega) with e | e | e | e
  · rw [cY_0 e]; omega
  · rw [cY_1 e]; omega
  · rw [cY_2 e]; omega
  · rw [cY_3 e]; omega
