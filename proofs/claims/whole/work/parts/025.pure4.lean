/-! samples by edges in the class's numbers; the exit of a cell; masks; counts -/
theorem fS_eq {w h e : Nat} (gw : 2 ≤ w) : fS w h e = yE w h e * w + xE w h e := by
  unfold fS xE yE
  by_cases c : e < nR w h
  · rw [if_neg (by omega), if_pos c, if_pos c]
    have h1 := Nat.div_add_mod e (w - 1)
    have h2 : e / (w - 1) * w = (w - 1) * (e / (w - 1)) + e / (w - 1) := by
      have : w = (w - 1) + 1 := by omega
      rw [Nat.mul_comm, this, Nat.add_mul]; simp
    omega
  · rw [if_pos (by omega), if_neg c, if_neg c]
    have h1 := Nat.div_add_mod (e - nR w h) w
    rw [Nat.mul_comm] at h1
    omega
theorem sS_eq {w h e : Nat} (gw : 2 ≤ w) : sS w h e = if e < nR w h then yE w h e * w + (xE w h e + 1) else (yE w h e + 1) * w + xE w h e := by
  unfold sS
  rw [fS_eq gw]
  by_cases c : e < nR w h
  · rw [if_pos c, if_pos c]; omega
  · rw [if_neg c, if_neg c, Nat.add_mul]; omega
theorem fS_f {w h e : Nat} {f : Nat → Nat → Int32} {sm : Nat → Int32} (gw : 2 ≤ w) (gh : 2 ≤ h) (gf : ∀ x y, x < w → y < h → sm (y * w + x) = f x y) (ge : e < nE w h) : sm (fS w h e) = fst2 w h f e := by
  rw [fS_eq gw]
  exact gf _ _ (xy_1 gw gh ge).1 (xy_1 gw gh ge).2
theorem sS_f {w h e : Nat} {f : Nat → Nat → Int32} {sm : Nat → Int32} (gw : 2 ≤ w) (gh : 2 ≤ h) (gf : ∀ x y, x < w → y < h → sm (y * w + x) = f x y) (ge : e < nE w h) : sm (sS w h e) = snd2 w h f e := by
  rw [sS_eq gw]
  unfold snd2
  by_cases c : e < nR w h
  · rw [if_pos c, if_pos c]
    exact gf _ _ (xy_a gw c).1 (xy_a gw c).2
  · rw [if_neg c, if_neg c]
    exact gf _ _ (xy_b gw gh ge c).1 (xy_b gw gh ge c).2
theorem le_n {a b : Nat} (h : nI a ≤ nI b) (ha : a < 2 ^ 31) (hb : b < 2 ^ 31) : a ≤ b := (nI_leI ha hb).mp h
theorem nle_n {a b : Nat} (h : ¬ nI a ≤ nI b) (ha : a < 2 ^ 31) (hb : b < 2 ^ 31) : b < a := by
  rw [nI_leI ha hb] at h; omega
theorem rem4 {a : Nat} (h : a < 2 ^ 31) : nI a - nI a / 4 * 4 = nI (a % 4) := pk_rem (d := 4) h (by decide) (by decide)
def exL : Nat → Nat → Nat → Nat → Nat
  | 0, _, s, _ => s
  | n + 1, a, s, t => if outA a s then s else exL n a ((s + t) % 4) t
def exA (a k t : Nat) : Nat := exL 4 a ((k + t) % 4) t
theorem exL_0 {a s t n : Nat} (h : n = 0) : exL n a s t = s := by subst h; rfl
theorem exL_t {a s t n : Nat} (hn : 0 < n) (h : outA a s = true) : exL n a s t = s := by
  cases n with
  | zero => omega
  | succ n => simp [exL, h]
theorem exL_f {a s t n m : Nat} (hn : n = m + 1) (h : outA a s = false) : exL n a s t = exL m a ((s + t) % 4) t := by
  subst hn; simp [exL, h]
def mk4 (c : Nat → Bool) : Nat → Nat
  | 0 => 0
  | n + 1 => mk4 c n + (if c n then 2 ^ n else 0)
theorem mk4_lt (c : Nat → Bool) (n : Nat) : mk4 c n < 2 ^ n := by
  induction n with
  | zero => simp [mk4]
  | succ n ih => simp only [mk4]; rw [Nat.pow_succ]; split <;> omega
theorem or4 : ∀ j, j < 4 → ∀ m, m < 16 → m < 2 ^ j → nI m ||| ((1 : Int32) <<< (nI j &&& 31)) = nI (m + 2 ^ j) := by decide +kernel
theorem mk4_bit : ∀ (c : Nat → Bool) (k : Nat), k < 4 → (mk4 c 4).testBit k = c k := by
  intro c k hk
  rcases (show k = 0 ∨ k = 1 ∨ k = 2 ∨ k = 3 by omega) with rfl | rfl | rfl | rfl <;> simp only [mk4] <;> cases c 0 <;> cases c 1 <;> cases c 2 <;> cases c 3 <;> decide
/-- how many below n -/
def cntB (p : Nat → Bool) : Nat → Nat
  | 0 => 0
  | n + 1 => cntB p n + (if p n then 1 else 0)
theorem cntB_le (p : Nat → Bool) (n : Nat) : cntB p n ≤ n := by
  induction n with
  | zero => simp [cntB]
  | succ n ih => simp only [cntB]; split <;> omega
theorem cntB_t {p : Nat → Bool} {n : Nat} (h : p n = true) : cntB p (n + 1) = cntB p n + 1 := by simp [cntB, h]
theorem cntB_f {p : Nat → Bool} {n : Nat} (h : p n = false) : cntB p (n + 1) = cntB p n := by simp [cntB, h]
/-- Euclid's steps -/
def euc : Nat → Nat → Nat → Nat
  | 0, a, _ => a
  | n + 1, a, b => if b = 0 then a else euc n b (a % b)
theorem euc_0 {n a b : Nat} (h : n = 0 ∨ b = 0) : euc n a b = a := by
  cases n with
  | zero => rfl
  | succ n => rcases h with h | h <;> simp_all [euc]
theorem euc_s {n m a b : Nat} (hn : n = m + 1) (hb : ¬ b = 0) : euc n a b = euc m b (a % b) := by subst hn; simp [euc, hb]
theorem euc_gcd : ∀ (k n a b : Nat), b < 2 ^ k → 2 * k ≤ n → euc n a b = Nat.gcd a b := by
  intro k
  induction k with
  | zero =>
    intro n a b hb _
    have : b = 0 := by simpa using hb
    subst this
    rw [euc_0 (Or.inr rfl), Nat.gcd_zero_right]
  | succ k ih =>
    intro n a b hb hn
    by_cases hb0 : b = 0
    · subst hb0
      rw [euc_0 (Or.inr rfl), Nat.gcd_zero_right]
    · obtain ⟨m, rfl⟩ : ∃ m, n = m + 2 := ⟨n - 2, by omega⟩
      rw [euc_s (m := m + 1) rfl hb0]
      have g1 : Nat.gcd a b = Nat.gcd b (a % b) := by rw [Nat.gcd_comm a b, Nat.gcd_rec b a, Nat.gcd_comm]
      by_cases hr : a % b = 0
      · rw [euc_0 (Or.inr hr), g1, hr, Nat.gcd_zero_right]
      · rw [euc_s (m := m) rfl hr, g1]
        have g2 : Nat.gcd b (a % b) = Nat.gcd (a % b) (b % (a % b)) := by rw [Nat.gcd_comm b, Nat.gcd_rec (a % b) b, Nat.gcd_comm]
        rw [g2]
        have h1 : a % b < b := Nat.mod_lt _ (by omega)
        have h2 : b % (a % b) < a % b := Nat.mod_lt _ (by omega)
        have h3 : b % (a % b) + (a % b) ≤ b := by
          have h4 := Nat.mod_add_div b (a % b)
          have h5 : 1 ≤ b / (a % b) := Nat.div_pos (by omega) (by omega)
          have h6 : a % b * 1 ≤ a % b * (b / (a % b)) := Nat.mul_le_mul_left _ h5
          omega
        apply ih m
        · rw [Nat.pow_succ] at hb; omega
        · omega
