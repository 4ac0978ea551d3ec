/-! pure words: truth values as ints, the height test, the middle, edges by their numbers -/
def bI (b : Bool) : Int32 := if b then 1 else 0
theorem bI_0 {b : Bool} : bI b = 0 ↔ b = false := by cases b <;> decide
theorem bI_n0 {b : Bool} : ¬ bI b = 0 ↔ b = true := by cases b <;> decide
theorem bI_nar (b : Bool) : narrow .boolean (.int (bI b)) = .int (bI b) := by cases b <;> rfl
theorem bI_vp (b : Bool) : vp_nar .boolean (bI b) = bI b := by cases b <;> rfl
theorem bI_t : bI true = 1 := rfl
theorem bI_f : bI false = 0 := rfl
theorem bI_inj {a b : Bool} : bI a = bI b ↔ a = b := by cases a <;> cases b <;> decide
theorem bI_1 {b : Bool} (h : b = true) : (1 : Int32) = bI b := by rw [h]; rfl
theorem bI_z {b : Bool} (h : b = false) : (0 : Int32) = bI b := by rw [h]; rfl
/-- a sample is above the height -/
def abI (tw v : Int32) : Bool := decide (tw < 2 * v)
/-- the middle of a cell is above the height, in the ints and longs of both programs -/
def midI (tw a b c d : Int32) : Bool :=
  if 0 < a.toInt64 + c.toInt64 - b.toInt64 - d.toInt64 then decide (tw.toInt64 * (a.toInt64 + c.toInt64 - b.toInt64 - d.toInt64) < 2 * (a.toInt64 * c.toInt64 - b.toInt64 * d.toInt64))
  else decide (2 * (a.toInt64 * c.toInt64 - b.toInt64 * d.toInt64) < tw.toInt64 * (a.toInt64 + c.toInt64 - b.toInt64 - d.toInt64))
/-- held to the bounds -/
def holdI (v : Int64) : Int32 := (if (if v < 1000000 then v else 1000000) < -1000000 then (-1000000 : Int64) else (if v < 1000000 then v else 1000000)).toInt32
/-- how many edges go to the right; how many there are -/
def nR (w h : Nat) : Nat := h * (w - 1)
def nE (w h : Nat) : Nat := h * (w - 1) + (h - 1) * w
/-- the edges of a cell by its sides, the samples by their corners -/
def eO (w h x y k : Nat) : Nat := match k % 4 with
  | 0 => y * (w - 1) + x
  | 1 => nR w h + y * w + (x + 1)
  | 2 => (y + 1) * (w - 1) + x
  | _ => nR w h + y * w + x
def cX (x k : Nat) : Nat := match k % 4 with
  | 0 => x
  | 1 => x + 1
  | 2 => x + 1
  | _ => x
def cY (y k : Nat) : Nat := match k % 4 with
  | 0 => y
  | 1 => y
  | 2 => y + 1
  | _ => y + 1
/-- an edge's first sample and its second, in the class's numbers -/
def fS (w h e : Nat) : Nat := if nR w h ≤ e then e - nR w h else e + e / (w - 1)
def sS (w h e : Nat) : Nat := fS w h e + (if e < nR w h then 1 else w)
theorem nI_m1 {w : Nat} (hw : 1 ≤ w) : nI w - 1 = nI (w - 1) := by
  have := pk_sub (a := w) (b := 1) hw
  exact this
theorem nI_one : nI 1 = 1 := rfl
theorem nR_le {w h : Nat} (hw : w ≤ 12) (hh : h ≤ 12) : nR w h ≤ 132 := by
  have : h * (w - 1) ≤ 12 * 11 := Nat.mul_le_mul hh (by omega)
  simpa [nR] using this
theorem nE_eq (w h : Nat) : nE w h = nR w h + (h - 1) * w := rfl
theorem nE_le {w h : Nat} (hw : w ≤ 12) (hh : h ≤ 12) : nE w h ≤ 264 := by
  have h1 := nR_le hw hh
  have h2 : (h - 1) * w ≤ 11 * 12 := Nat.mul_le_mul (by omega) hw
  rw [nE_eq]; omega
theorem sA_lt {w h x y : Nat} (hw : w ≤ 12) (hh : h ≤ 12) (hx : x < w) (hy : y < h) : y * w + x < 144 := by
  have h1 : y * w ≤ 11 * 12 := Nat.mul_le_mul (by omega) hw
  omega
theorem fS_lt {w h e : Nat} (hw2 : 2 ≤ w) (hw : w ≤ 12) (hh2 : 2 ≤ h) (hh : h ≤ 12) (he : e < nE w h) : fS w h e < 144 ∧ sS w h e < 144 := by
  have h2 : (h - 1) * w ≤ 11 * 12 := Nat.mul_le_mul (by omega) hw
  have h3 := nR_le hw hh
  rw [nE_eq] at he
  unfold sS fS
  by_cases hr : nR w h ≤ e
  · rw [if_pos hr, if_neg (by omega)]; omega
  · rw [if_neg hr, if_pos (by omega)]
    have h4 : e / (w - 1) < h := Nat.div_lt_of_lt_mul (by unfold nR at hr; rw [Nat.mul_comm]; omega)
    have h5 : e / (w - 1) * (w - 1) ≤ e := Nat.div_mul_le_self e (w - 1)
    have h6 : e < h * (w - 1) := by unfold nR at hr; omega
    have h7 : e / (w - 1) ≤ 11 := by omega
    omega
