/-! where an edge is crossed -/
def upN (t p : Int32) : Nat := (t.toInt - 2 * p.toInt).natAbs
def loN (p q : Int32) : Nat := (2 * (q.toInt - p.toInt)).natAbs
def sB (v : Int32) : Prop := -1000000 ≤ v.toInt ∧ v.toInt ≤ 1000000
def tB (t : Int32) : Prop := -1999999 ≤ t.toInt ∧ t.toInt ≤ 1999999 ∧ t.toInt % 2 = 1
theorem i2_2 : (2 : Int32).toInt = 2 := by decide
theorem m2_I {p : Int32} (hp : sB p) : (2 * p).toInt = 2 * p.toInt := by
  rw [Int32.toInt_mul, i2_2]
  apply Int.bmod_eq_of_le
  · have := hp.1; simp; omega
  · have := hp.2; simp; omega
theorem up_I {t p : Int32} (ht : tB t) (hp : sB p) : (t - 2 * p).toInt = t.toInt - 2 * p.toInt := by
  rw [Int32.toInt_sub, m2_I hp]
  apply Int.bmod_eq_of_le
  · have := hp.2; have := ht.1; simp; omega
  · have := hp.1; have := ht.2.1; simp; omega
theorem lo_I {p q : Int32} (hp : sB p) (hq : sB q) : (2 * (q - p)).toInt = 2 * (q.toInt - p.toInt) := by
  have h1 : (q - p).toInt = q.toInt - p.toInt := by
    rw [Int32.toInt_sub]
    apply Int.bmod_eq_of_le
    · have := hp.2; have := hq.1; simp; omega
    · have := hp.1; have := hq.2; simp; omega
  rw [Int32.toInt_mul, i2_2, h1]
  apply Int.bmod_eq_of_le
  · have := hp.2; have := hq.1; simp; omega
  · have := hp.1; have := hq.2; simp; omega
theorem nI_ofI {x : Int32} {n : Nat} (h : x.toInt = (n : Int)) (hn : n < 2 ^ 31) : x = nI n := Int32.toInt_inj.mp (by rw [h, nI_toInt hn])
theorem neg_I {x : Int32} (h : -2 ^ 31 < x.toInt) : (-x).toInt = -x.toInt := by
  have := x.toInt_lt
  rw [Int32.toInt_neg]
  apply Int.bmod_eq_of_le
  · simp; omega
  · simp; omega
theorem abs_I {x : Int32} (h : -2 ^ 31 < x.toInt) : (if 0 ≤ x then x else 0 - x) = nI x.toInt.natAbs := by
  have b1 := x.toInt_lt
  have z : (0 : Int32).toInt = 0 := by decide
  by_cases c : (0 : Int32) ≤ x
  · rw [if_pos c]
    rw [Int32.le_iff_toInt_le, z] at c
    exact nI_ofI (by omega) (by omega)
  · rw [if_neg c]
    rw [Int32.le_iff_toInt_le, z] at c
    refine nI_ofI ?_ (by omega)
    rw [Int32.zero_sub, neg_I h]; omega
theorem upN_lt {t p : Int32} (ht : tB t) (hp : sB p) : upN t p < 4000000 := by
  unfold upN; have := hp.1; have := hp.2; have := ht.1; have := ht.2.1; omega
theorem loN_lt {p q : Int32} (hp : sB p) (hq : sB q) : loN p q < 4194304 := by
  unfold loN; have := hp.1; have := hp.2; have := hq.1; have := hq.2; omega
theorem up_abs {t p : Int32} (ht : tB t) (hp : sB p) : (if 0 ≤ t - 2 * p then t - 2 * p else 0 - (t - 2 * p)) = nI (upN t p) := by
  have h1 := up_I ht hp
  rw [abs_I (by rw [h1]; have := hp.2; have := ht.1; omega), h1]; rfl
theorem lo_abs {p q : Int32} (hp : sB p) (hq : sB q) : (if 0 ≤ 2 * (q - p) then 2 * (q - p) else 0 - (2 * (q - p))) = nI (loN p q) := by
  have h1 := lo_I hp hq
  rw [abs_I (by rw [h1]; have := hp.2; have := hq.1; omega), h1]; rfl
theorem ab_I {t p : Int32} (hp : sB p) : abI t p = decide (t.toInt < 2 * p.toInt) := by
  unfold abI
  exact decide_eq_decide.mpr (by rw [Int32.lt_iff_toInt_lt, m2_I hp])
/-- an edge is crossed: the two differences have one sign, and none is 0 -/
theorem cr_sign {t p q : Int32} (ht : tB t) (hp : sB p) (hq : sB q) (hc : (abI t p != abI t q) = true) :
    (t.toInt - 2 * p.toInt < 0 ∧ 2 * (q.toInt - p.toInt) < 0) ∨ (0 < t.toInt - 2 * p.toInt ∧ 0 < 2 * (q.toInt - p.toInt)) := by
  rw [ab_I hp, ab_I hq] at hc
  have ho := ht.2.2
  by_cases h1 : t.toInt < 2 * p.toInt <;> by_cases h2 : t.toInt < 2 * q.toInt
  · simp [h1, h2] at hc
  · left; omega
  · right; omega
  · simp [h1, h2] at hc
theorem cr_neg {t p q : Int32} (ht : tB t) (hp : sB p) (hq : sB q) (hc : (abI t p != abI t q) = true) (c : ¬ 0 ≤ 2 * (q - p)) : -(t - 2 * p) = nI (upN t p) ∧ -(2 * (q - p)) = nI (loN p q) := by
  have h1 := up_I ht hp
  have h2 := lo_I hp hq
  have z : (0 : Int32).toInt = 0 := by decide
  rw [Int32.le_iff_toInt_le, z, h2] at c
  have b := upN_lt ht hp
  have b2 := loN_lt hp hq
  rcases cr_sign ht hp hq hc with s | s
  · refine ⟨nI_ofI ?_ (by omega), nI_ofI ?_ (by omega)⟩
    · rw [neg_I (by rw [h1]; have := hp.2; have := ht.1; omega), h1]; unfold upN; omega
    · rw [neg_I (by rw [h2]; have := hp.2; have := hq.1; omega), h2]; unfold loN; omega
  · omega
theorem cr_pos {t p q : Int32} (ht : tB t) (hp : sB p) (hq : sB q) (hc : (abI t p != abI t q) = true) (c : 0 ≤ 2 * (q - p)) : t - 2 * p = nI (upN t p) ∧ 2 * (q - p) = nI (loN p q) := by
  have h1 := up_I ht hp
  have h2 := lo_I hp hq
  have z : (0 : Int32).toInt = 0 := by decide
  rw [Int32.le_iff_toInt_le, z, h2] at c
  have b := upN_lt ht hp
  have b2 := loN_lt hp hq
  rcases cr_sign ht hp hq hc with s | s
  · omega
  · refine ⟨nI_ofI ?_ (by omega), nI_ofI ?_ (by omega)⟩
    · rw [h1]; unfold upN; omega
    · rw [h2]; unfold loN; omega
theorem cr_gpos {t p q : Int32} (ht : tB t) (hp : sB p) (hq : sB q) (hc : (abI t p != abI t q) = true) : 0 < Nat.gcd (upN t p) (loN p q) := by
  apply Nat.gcd_pos_of_pos_right
  unfold loN
  rcases cr_sign ht hp hq hc with s | s <;> omega
def crV (t p q b : Int32) : Int32 := nI ((if b = 0 then upN t p else loN p q) / Nat.gcd (upN t p) (loN p q))
def okC (w h : Nat) (f : Nat → Nat → Int32) (tw a b : Int32) : Bool := (okY (nE w h) a && (decide (0 ≤ b) && decide (b < 2))) && crB w h f tw a.toNatClampNeg
def crA (w h : Nat) (f : Nat → Nat → Int32) (tw a b : Int32) : Int32 := bif okC w h f tw a b then crV tw (fst2 w h f a.toNatClampNeg) (snd2 w h f a.toNatClampNeg) b else 0
theorem fst_B {w h e : Nat} {f : Nat → Nat → Int32} (gw : 2 ≤ w) (gh : 2 ≤ h) (gb : ∀ x y, x < w → y < h → sB (f x y)) (ge : e < nE w h) : sB (fst2 w h f e) := gb _ _ (xy_1 gw gh ge).1 (xy_1 gw gh ge).2
theorem snd_B {w h e : Nat} {f : Nat → Nat → Int32} (gw : 2 ≤ w) (gh : 2 ≤ h) (gb : ∀ x y, x < w → y < h → sB (f x y)) (ge : e < nE w h) : sB (snd2 w h f e) := by
  unfold snd2
  by_cases c : e < nR w h
  · rw [if_pos c]; exact gb _ _ (xy_a gw c).1 (xy_a gw c).2
  · rw [if_neg c]; exact gb _ _ (xy_b gw gh ge c).1 (xy_b gw gh ge c).2
theorem lt2_le1 {b : Int32} : (b < 2) ↔ (b ≤ 1) := by
  rw [Int32.lt_iff_toInt_lt, Int32.le_iff_toInt_le, i2_2, show (1 : Int32).toInt = 1 from by decide]; omega
theorem euc_64 {a b : Nat} (hb : b < 4194304) : euc 64 a b = Nat.gcd a b := euc_gcd 22 64 a b (by simpa using hb) (by decide)
