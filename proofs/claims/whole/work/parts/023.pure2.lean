theorem nR_lt31 {w h : Nat} (hw : w ≤ 12) (hh : h ≤ 12) : nR w h < 2 ^ 31 := by have := nR_le hw hh; omega
theorem fS_a {w h e : Nat} (hw : w ≤ 12) (hh : h ≤ 12) (he : e < 264) (c : ¬ nI e < nI (nR w h)) : nI e - nI (nR w h) = nI (fS w h e) := by
  have h1 : nR w h ≤ e := by
    rw [nI_ltI (by omega) (nR_lt31 hw hh)] at c; omega
  rw [pk_sub h1]; unfold fS; rw [if_pos h1]
theorem fS_b {w h e : Nat} (gw : 2 ≤ w) (hw : w ≤ 12) (hh : h ≤ 12) (he : e < 264) (c : nI e < nI (nR w h)) : nI e + nI e / nI (w - 1) = nI (fS w h e) := by
  have h1 : e < nR w h := by
    rwa [nI_ltI (by omega) (nR_lt31 hw hh)] at c
  rw [pk_div (by omega) (by omega) (by omega), nI_add]; unfold fS; rw [if_neg (by omega)]
theorem sS_a {w h e : Nat} (hw : w ≤ 12) (hh : h ≤ 12) (he : e < 264) (c : nI (nR w h) ≤ nI e) : nI (fS w h e) + nI w = nI (sS w h e) := by
  have h1 : nR w h ≤ e := by
    rwa [nI_leI (nR_lt31 hw hh) (by omega)] at c
  rw [nI_add]; unfold sS; rw [if_neg (by omega)]
theorem sS_b {w h e : Nat} (hw : w ≤ 12) (hh : h ≤ 12) (he : e < 264) (c : ¬ nI (nR w h) ≤ nI e) : nI (fS w h e) + 1 = nI (sS w h e) := by
  have h1 : ¬ nR w h ≤ e := by
    rwa [nI_leI (nR_lt31 hw hh) (by omega)] at c
  rw [nI_1]; unfold sS; rw [if_pos (by omega)]
theorem hc_eq : ∀ a, a < 16 → ∀ k, k < 8 → ((nI a >>> ((nI k - nI k / 4 * 4) &&& 31)) &&& 1) = bI (a.testBit (k % 4)) := by decide +kernel
theorem bI_ne1 {b : Bool} (h : ¬ bI b = 1) : b = false := by cases b <;> simp_all [bI]
theorem bI_e1 {b : Bool} (h : bI b = 1) : b = true := by cases b <;> simp_all [bI]
/-- a line comes in, goes out over side k of a cell whose corners above are the bits of a -/
def inA (a k : Nat) : Bool := a.testBit (k % 4) && !a.testBit ((k + 1) % 4)
def outA (a k : Nat) : Bool := !a.testBit (k % 4) && a.testBit ((k + 1) % 4)
theorem mid_1 {tw a b c d : Int32} {lo mi lv : Int64} (h1 : lo = a.toInt64 + c.toInt64 - b.toInt64 - d.toInt64) (h2 : mi = 2 * (a.toInt64 * c.toInt64 - b.toInt64 * d.toInt64)) (h3 : lv = tw.toInt64 * lo) (c1 : ¬ lg_cmp lo 0 ≤ 0) : midI tw a b c d = decide (lv < mi) := by
  rw [lg_cmp_le] at c1
  subst h1 h2 h3
  unfold midI
  rw [if_pos (Int64.not_le.mp c1)]
theorem mid_2 {tw a b c d : Int32} {lo mi lv : Int64} (h1 : lo = a.toInt64 + c.toInt64 - b.toInt64 - d.toInt64) (h2 : mi = 2 * (a.toInt64 * c.toInt64 - b.toInt64 * d.toInt64)) (h3 : lv = tw.toInt64 * lo) (c1 : lg_cmp lo 0 ≤ 0) : midI tw a b c d = decide (mi < lv) := by
  rw [lg_cmp_le] at c1
  subst h1 h2 h3
  unfold midI
  rw [if_neg (Int64.not_lt.mpr c1)]
theorem nI_p1 (x : Nat) : nI x + 1 = nI (x + 1) := nI_1 x
