/-! what each call accepts; rows; chains as lists -/
def okT (t : Int32) : Bool := decide (t &&& 1 = 1) && (decide (-1999999 ≤ t) && decide (t ≤ 1999999))
def okF (a b : Int32) : Bool := (decide (2 ≤ a) && decide (a ≤ 12)) && (decide (2 ≤ b) && decide (b ≤ 12))
def okY (h : Nat) (y : Int32) : Bool := decide (0 ≤ y) && decide (y < nI h)
def okS (w h : Nat) (x y v : Int32) : Bool := (decide (0 ≤ x) && decide (x < nI w)) && (okY h y && decide (v = holdI v.toInt64))
theorem okY_n {h : Nat} {y : Int32} (g : okY h y = true) (hh : h < 2 ^ 31) : ∃ j, j < h ∧ y = nI j := by
  unfold okY at g
  simp only [Bool.and_eq_true, decide_eq_true_eq] at g
  rcases pk_ix y hh with q | q | q
  · exact absurd g.1 (by rw [Int32.not_le]; exact q)
  · exact absurd g.2 (by rw [Int32.not_lt]; exact q)
  · exact q
theorem okY_nI {h j : Nat} (hj : j < h) (hh : h < 2 ^ 31) : okY h (nI j) = true := by
  unfold okY
  simp only [Bool.and_eq_true, decide_eq_true_eq]
  exact ⟨nI_pos' (by omega), nI_lt hj hh⟩
/-- row y of the class's samples, j of them written -/
def rowF (w y : Nat) (fr sp : Int32) (sm : Nat → Int32) : Nat → Nat → Int32
  | 0 => sm
  | j + 1 => upd (rowF w y fr sp sm j) (y * w + j) (holdI (fr.toInt64 + (nI j).toInt64 * sp.toInt64))
/-- how many edges lie in the chains ahead of chain i -/
def pfx (L : List (List Nat)) (i : Nat) : Nat := (L.take i).flatten.length
theorem pfx_0 (L : List (List Nat)) : pfx L 0 = 0 := by simp [pfx]
theorem pfx_len (L : List (List Nat)) : pfx L L.length = L.flatten.length := by simp [pfx]
theorem pfx_s {L : List (List Nat)} {i : Nat} (h : i < L.length) : pfx L (i + 1) = pfx L i + L[i].length := by
  unfold pfx
  rw [List.take_succ_eq_append_getElem h, List.flatten_append, List.length_append]
  congr 1
  simp
theorem pfx_mono {L : List (List Nat)} : ∀ {i j : Nat}, i ≤ j → pfx L i ≤ pfx L j := by
  intro i j h
  induction j with
  | zero => have : i = 0 := by omega
            subst this; exact Nat.le_refl _
  | succ j ih =>
    rcases Nat.lt_or_ge i (j + 1) with q | q
    · have h1 := ih (by omega)
      by_cases hj : j < L.length
      · rw [pfx_s hj]; omega
      · unfold pfx at *
        rw [show L.take (j + 1) = L.take j from by rw [List.take_of_length_le (by omega), List.take_of_length_le (by omega)]]
        exact h1
    · have : i = j + 1 := by omega
      subst this; exact Nat.le_refl _
theorem pfx_le {L : List (List Nat)} {i : Nat} (h : i ≤ L.length) : pfx L i ≤ L.flatten.length := by
  rw [← pfx_len]; exact pfx_mono h
/-- the answers of size, isClosed, edge out of the chains -/
def szL (L : List (List Nat)) (y : Int32) : Int32 := bif okY L.length y then nI (pfx L (y.toNatClampNeg + 1) - pfx L y.toNatClampNeg) else -1
def clL (L : List (List Nat)) (no : Nat) (y : Int32) : Bool := okY L.length y && decide (nI no ≤ y)
def edL (L : List (List Nat)) (y i : Int32) : Int32 := bif okY L.length y && okY (pfx L (y.toNatClampNeg + 1) - pfx L y.toNatClampNeg) i then nI (L.flatten.getD (pfx L y.toNatClampNeg + i.toNatClampNeg) 0) else -1
theorem szL_n {L : List (List Nat)} {j : Nat} (hj : j < L.length) (hL : L.length < 2 ^ 31) : szL L (nI j) = nI (pfx L (j + 1) - pfx L j) := by
  unfold szL; rw [okY_nI hj hL, nI_clamp (by omega)]; rfl
theorem szL_z {L : List (List Nat)} {y : Int32} (h : okY L.length y = false) : szL L y = -1 := by unfold szL; rw [h]; rfl
theorem nI_cl1 {j : Nat} (h : j < 2 ^ 30) : nI j + 1 = nI (j + 1) := nI_p1 j
theorem okT_ok {t : Int32} : okT t = true ↔ (t &&& 1 = 1) ∧ -1999999 ≤ t ∧ t ≤ 1999999 := by unfold okT; simp
theorem okF_ok {a b : Int32} : okF a b = true ↔ (2 ≤ a ∧ a ≤ 12) ∧ 2 ≤ b ∧ b ≤ 12 := by unfold okF; simp
theorem bf_of {P : Prop} {b : Bool} (h : b = true ↔ P) (n : ¬ P) : b = false := by cases b <;> simp_all
theorem edL_z {L : List (List Nat)} {y i : Int32} (h : okY L.length y = false ∨ okY (pfx L (y.toNatClampNeg + 1) - pfx L y.toNatClampNeg) i = false) : edL L y i = -1 := by
  unfold edL; rcases h with h | h <;> rw [h] <;> simp
theorem edL_n {L : List (List Nat)} {j i : Nat} (hj : j < L.length) (hi : i < pfx L (j + 1) - pfx L j) (hL : L.length < 2 ^ 31) (hz : pfx L (j + 1) - pfx L j < 2 ^ 31) : edL L (nI j) (nI i) = nI (L.flatten.getD (pfx L j + i) 0) := by
  unfold edL; rw [okY_nI hj hL, nI_clamp (by omega), nI_clamp (by omega), okY_nI hi hz]; rfl
theorem szL_c {L : List (List Nat)} {y : Int32} (gL : L.length ≤ 132) (gU : L.flatten.length ≤ 264) : okY L.length y = false ∧ szL L y = -1 ∨ ∃ j, j < L.length ∧ y = nI j ∧ szL L y = nI (pfx L (j + 1) - pfx L j) ∧ pfx L (j + 1) - pfx L j ≤ 264 := by
  cases h : okY L.length y with
  | false => exact Or.inl ⟨rfl, szL_z h⟩
  | true =>
    obtain ⟨j, hj, rfl⟩ := okY_n h (by omega)
    have := pfx_le (L := L) (i := j + 1) (by omega)
    exact Or.inr ⟨j, hj, rfl, szL_n hj (by omega), by omega⟩
theorem edL_c {L : List (List Nat)} {y i : Int32} (gL : L.length ≤ 132) (gU : L.flatten.length ≤ 264) (c1 : ¬ i < 0) (c2 : szL L y ≤ i) : (-1 : Int32) = edL L y i := by
  rcases szL_c gL gU (y := y) with ⟨h, -⟩ | ⟨j, hj, rfl, h, h2⟩
  · rw [edL_z (Or.inl h)]
  · rw [h] at c2
    rw [edL_z (Or.inr _)]
    unfold okY
    rw [nI_clamp (by omega), decide_eq_false (Int32.not_lt.mpr c2)]; simp
theorem edL_r {L : List (List Nat)} {y i : Int32} (gL : L.length ≤ 132) (gU : L.flatten.length ≤ 264) (c1 : ¬ i < 0) (c2 : ¬ szL L y ≤ i) : ∃ j i0, j < L.length ∧ i0 < pfx L (j + 1) - pfx L j ∧ y = nI j ∧ i = nI i0 := by
  rcases szL_c gL gU (y := y) with ⟨h, h1⟩ | ⟨j, hj, rfl, h, h2⟩
  · rw [h1] at c2
    exfalso
    apply c2
    rw [Int32.le_iff_toInt_le]
    have := Int32.not_lt.mp c1
    rw [Int32.le_iff_toInt_le] at this
    simp at this ⊢
    omega
  · rw [h] at c2
    obtain ⟨i0, hi, rfl⟩ := okY_n (h := pfx L (j + 1) - pfx L j) (y := i) (by unfold okY; rw [decide_eq_true (Int32.not_lt.mp c1), decide_eq_true (Int32.not_le.mp c2)]; rfl) (by omega)
    exact ⟨j, i0, hj, hi, rfl, rfl⟩
