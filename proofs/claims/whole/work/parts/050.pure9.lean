/-! the reference's writers: pure words -/
def rowR (y : Nat) (fr sp : Int32) (sm : Nat → Int32) : Nat → Nat → Int32
  | 0 => sm
  | j + 1 => upd (rowR y fr sp sm j) (12 * y + j) (holdI (fr.toInt64 + (nI j).toInt64 * sp.toInt64))
theorem hold_lo {v : Int64} (h : v < -1000000) : holdI v = -1000000 := by
  unfold holdI
  rw [if_pos (show v < 1000000 from Int64.lt_trans h (by decide)), if_pos h]; rfl
theorem hold_hi {v : Int64} (h : 1000000 < v) : holdI v = 1000000 := by
  unfold holdI
  rw [if_neg (show ¬ v < 1000000 from Int64.not_lt.mpr (Int64.le_of_lt h)), if_neg (by decide)]; rfl
theorem hold_in {v : Int64} (h1 : ¬ v < -1000000) (h2 : ¬ 1000000 < v) : holdI v = v.toInt32 := by
  unfold holdI
  by_cases h : v < 1000000
  · rw [if_pos h, if_neg h1]
  · rw [if_neg h, if_neg (by decide), Int64.le_antisymm (Int64.not_lt.mp h2) (Int64.not_lt.mp h)]
theorem hold_ok (v : Int32) : decide (v = holdI v.toInt64) = (decide (-1000000 ≤ v) && decide (v ≤ 1000000)) := by
  have e1 : (v.toInt64 < (-1000000 : Int64)) ↔ v < -1000000 := by
    rw [Int64.lt_iff_toInt_lt, Int32.lt_iff_toInt_lt, Int32.toInt_toInt64]
    rw [show (-1000000 : Int64).toInt = -1000000 from by decide, show (-1000000 : Int32).toInt = -1000000 from by decide]
  have e2 : ((1000000 : Int64) < v.toInt64) ↔ 1000000 < v := by
    rw [Int64.lt_iff_toInt_lt, Int32.lt_iff_toInt_lt, Int32.toInt_toInt64]
    rw [show (1000000 : Int64).toInt = 1000000 from by decide, show (1000000 : Int32).toInt = 1000000 from by decide]
  by_cases h1 : v < -1000000
  · rw [hold_lo (e1.mpr h1), decide_eq_false (Int32.not_le.mpr h1)]
    simp
    intro h; rw [h] at h1; exact absurd h1 (by decide)
  · by_cases h2 : 1000000 < v
    · rw [hold_hi (e2.mpr h2), decide_eq_false (Int32.not_le.mpr h2)]
      simp
      intro h; rw [h] at h2; exact absurd h2 (by decide)
    · rw [hold_in (fun z => h1 (e1.mp z)) (fun z => h2 (e2.mp z)), decide_eq_true (Int32.not_lt.mp h1), decide_eq_true (Int32.not_lt.mp h2)]
      simp
theorem rem2_toInt (t : Int32) : (t - t / 2 * 2).toInt = t.toInt.tmod 2 := by
  have b1 := t.toInt_lt
  have b2 := t.le_toInt
  have h2 : (2 : Int32).toInt = 2 := by decide
  have hd : (t / 2).toInt = t.toInt.tdiv 2 := by
    rw [Int32.toInt_div, h2]
    apply Int.bmod_eq_of_le
    · have := Int.mul_tdiv_add_tmod t.toInt 2; have h9 := Int.tmod_lt_of_pos t.toInt (show (0 : Int) < 2 by decide); have h8 := Int.lt_tmod_of_pos t.toInt (show (0 : Int) < 2 by decide); omega
    · have := Int.mul_tdiv_add_tmod t.toInt 2; have h9 := Int.tmod_lt_of_pos t.toInt (show (0 : Int) < 2 by decide); have h8 := Int.lt_tmod_of_pos t.toInt (show (0 : Int) < 2 by decide); omega
  have e0 := Int.mul_tdiv_add_tmod t.toInt 2
  have e1 := Int.tmod_lt_of_pos t.toInt (show (0 : Int) < 2 by decide)
  have e2 := Int.lt_tmod_of_pos t.toInt (show (0 : Int) < 2 by decide)
  rw [Int32.toInt_sub, Int32.toInt_mul, hd, h2]
  have e3 : (t.toInt.tdiv 2 * 2).bmod (2 ^ 32) = t.toInt.tdiv 2 * 2 := by
    by_cases hz : t.toInt.tdiv 2 * 2 < -2 ^ 31
    · exfalso
      have : t.toInt.tmod 2 = t.toInt - 2 * t.toInt.tdiv 2 := by omega
      by_cases hn : t.toInt < 0
      · have h7 : t.toInt.tmod 2 ≤ 0 := by
          have q := Int.neg_tmod (-t.toInt) 2
          rw [Int.neg_neg] at q
          have q2 : 0 ≤ (-t.toInt).tmod 2 := Int.tmod_nonneg _ (by omega)
          omega
        omega
      · omega
    · apply Int.bmod_eq_of_le
      · simp; omega
      · by_cases hn : t.toInt < 0
        · simp; omega
        · have h7 : 0 ≤ t.toInt.tmod 2 := Int.tmod_nonneg _ (by omega)
          simp; omega
  rw [e3]
  rw [show t.toInt - t.toInt.tdiv 2 * 2 = t.toInt.tmod 2 from by omega]
  apply Int.bmod_eq_of_le
  · simp; omega
  · simp; omega
theorem odd_iff (t : Int32) : (t &&& 1 = 1) ↔ ¬ (t - t / 2 * 2 = 0) := by
  have h1 : t &&& 1 = nI (t.toBitVec.toNat % 2) := pk_and t 1 (by decide)
  have h2 := rem2_toInt t
  have h4 : t.toInt = (t.toBitVec.toInt) := rfl
  have h5 : t.toInt % 2 = ((t.toBitVec.toNat % 2 : Nat) : Int) := by
    rw [h4, BitVec.toInt_eq_toNat_cond]
    split <;> omega
  have h6 : t.toInt.tmod 2 = 0 ↔ t.toInt % 2 = 0 := by
    rw [← Int.dvd_iff_tmod_eq_zero, Int.dvd_iff_emod_eq_zero]
  constructor
  · intro h hz
    rw [h1] at h
    rw [hz] at h2
    have h8 : t.toBitVec.toNat % 2 = 1 := by
      rcases Nat.mod_two_eq_zero_or_one t.toBitVec.toNat with q | q
      · rw [q] at h; exact absurd h (by decide)
      · exact q
    have h9 := h6.mp (h2.symm.trans (by decide))
    rw [h8] at h5
    omega
  · intro h
    rw [h1]
    rcases Nat.mod_two_eq_zero_or_one t.toBitVec.toNat with q | q
    · exfalso
      apply h
      rw [q] at h5
      rw [← Int32.toInt_inj, h2]
      exact (h6.mpr (by omega)).trans (by decide)
    · rw [q]; rfl
def zA (g : Nat → Int32) (lo hi : Nat) (v : Int32) : Nat → Int32 := fun c => if lo ≤ c ∧ c < hi then v else g c
theorem zA_0 (g : Nat → Int32) (lo : Nat) (v : Int32) : zA g lo lo v = g := by funext c; unfold zA; rw [if_neg (by omega)]
theorem zA_s (g : Nat → Int32) {lo hi : Nat} (h : lo ≤ hi) (v : Int32) : upd (zA g lo hi v) hi v = zA g lo (hi + 1) v := by
  funext c
  unfold upd zA
  by_cases e : c = hi
  · subst e; rw [if_pos rfl, if_pos (by omega)]
  · rw [if_neg e]
    by_cases h2 : lo ≤ c ∧ c < hi
    · show (if lo ≤ c ∧ c < hi then v else g c) = _
      rw [if_pos h2, if_pos (by omega)]
    · show (if lo ≤ c ∧ c < hi then v else g c) = _
      rw [if_neg h2, if_neg (by omega)]
def gU (us : Nat → Int32) (p : List Nat) : Nat → Int32 := fun e => if e ∈ p then bI true else us e
theorem gU_0 (us : Nat → Int32) : gU us [] = us := by funext k; simp [gU]
theorem gU_s (us : Nat → Int32) (c : Nat) (p : List Nat) : upd (gU us p) c (bI true) = gU us (p ++ [c]) := by
  funext k
  unfold gU upd
  by_cases h : k = c
  · subst h; simp
  · simp [h]
theorem gU_app (us : Nat → Int32) (p q : List Nat) : gU (gU us p) q = gU us (p ++ q) := by
  funext k
  unfold gU
  by_cases h : k ∈ q <;> by_cases h2 : k ∈ p <;> simp [h, h2]
theorem gU_in {us : Nat → Int32} {p : List Nat} {a : Nat} (h0 : us a = bI false) : gU us p a = bI (decide (a ∈ p)) := by
  unfold gU
  by_cases h : a ∈ p <;> simp [h, h0]
def opG (S : Nat → Bool) (N : Nat → Int32) : Nat → List (List Nat)
  | 0 => []
  | e + 1 => bif S e then opG S N e ++ [pth 264 N (opG S N e).flatten (nI e)] else opG S N e
def csG (C : Nat → Bool) (N : Nat → Int32) (L0 : List (List Nat)) : Nat → List (List Nat)
  | 0 => L0
  | e + 1 => bif C e && decide (e ∉ (csG C N L0 e).flatten) then csG C N L0 e ++ [pth 264 N (csG C N L0 e).flatten (nI e)] else csG C N L0 e
theorem opG_t {S : Nat → Bool} {N : Nat → Int32} {e : Nat} (h : S e = true) : opG S N (e + 1) = opG S N e ++ [pth 264 N (opG S N e).flatten (nI e)] := by simp [opG, h]
theorem opG_f {S : Nat → Bool} {N : Nat → Int32} {e : Nat} (h : S e = false) : opG S N (e + 1) = opG S N e := by simp [opG, h]
theorem csG_t {C : Nat → Bool} {N : Nat → Int32} {L0 : List (List Nat)} {e : Nat} (h : C e = true) (h2 : e ∉ (csG C N L0 e).flatten) : csG C N L0 (e + 1) = csG C N L0 e ++ [pth 264 N (csG C N L0 e).flatten (nI e)] := by
  simp only [csG]; rw [h, decide_eq_true h2]; rfl
theorem csG_f {C : Nat → Bool} {N : Nat → Int32} {L0 : List (List Nat)} {e : Nat} (h : C e = false ∨ e ∈ (csG C N L0 e).flatten) : csG C N L0 (e + 1) = csG C N L0 e := by
  simp only [csG]
  rcases h with h | h
  · rw [h]; rfl
  · rw [decide_eq_false (fun z => z h), Bool.and_false]; rfl
theorem flat_app (L : List (List Nat)) (p : List Nat) : (L ++ [p]).flatten = L.flatten ++ p := by simp
