/-! edges by places and back; samples within a chain; crossings as fractions -/
theorem enc_a {w h e : Nat} (c : e < nR w h) : yE w h e * (w - 1) + xE w h e = e := by
  unfold xE yE; rw [if_pos c, if_pos c, Nat.mul_comm]
  exact Nat.div_add_mod e (w - 1)
theorem enc_b {w h e : Nat} (c : ¬ e < nR w h) : nR w h + yE w h e * w + xE w h e = e := by
  unfold xE yE; rw [if_neg c, if_neg c, Nat.mul_comm]
  have := Nat.div_add_mod (e - nR w h) w
  omega
theorem dec_a {w h x y : Nat} (hx : x + 1 < w) (hy : y < h) : y * (w - 1) + x < nR w h ∧ xE w h (y * (w - 1) + x) = x ∧ yE w h (y * (w - 1) + x) = y := by
  have h1 : y * (w - 1) + x < nR w h := by
    have : (y + 1) * (w - 1) ≤ h * (w - 1) := Nat.mul_le_mul_right _ hy
    rw [Nat.add_mul] at this
    show y * (w - 1) + x < h * (w - 1)
    omega
  refine ⟨h1, ?_, ?_⟩
  · unfold xE; rw [if_pos h1, Nat.mul_comm, Nat.mul_add_mod, Nat.mod_eq_of_lt (by omega)]
  · unfold yE; rw [if_pos h1, Nat.mul_comm, Nat.mul_add_div (by omega), Nat.div_eq_of_lt (by omega), Nat.add_zero]
theorem dec_b {w h x y : Nat} (hx : x < w) : ¬ nR w h + y * w + x < nR w h ∧ xE w h (nR w h + y * w + x) = x ∧ yE w h (nR w h + y * w + x) = y := by
  have h1 : ¬ nR w h + y * w + x < nR w h := by omega
  refine ⟨h1, ?_, ?_⟩
  · unfold xE; rw [if_neg h1, show nR w h + y * w + x - nR w h = w * y + x from by rw [Nat.mul_comm w y]; omega, Nat.mul_add_mod, Nat.mod_eq_of_lt hx]
  · unfold yE; rw [if_neg h1, show nR w h + y * w + x - nR w h = w * y + x from by rw [Nat.mul_comm w y]; omega, Nat.mul_add_div (by omega), Nat.div_eq_of_lt hx, Nat.add_zero]
/-- how many edges of a list lie in row y ahead of place x; how many samples lie within -/
def rwC (w : Nat) (l : List Nat) (y x : Nat) : Nat := cntB (fun k => decide (y * (w - 1) + k ∈ l)) x
def wiR (w : Nat) (l : List Nat) (y : Nat) : Nat → Nat
  | 0 => 0
  | x + 1 => wiR w l y x + rwC w l y x % 2
def wiA (w : Nat) (l : List Nat) : Nat → Nat
  | 0 => 0
  | y + 1 => wiA w l y + wiR w l y w
theorem wiR_le (w : Nat) (l : List Nat) (y x : Nat) : wiR w l y x ≤ x := by
  induction x with
  | zero => simp [wiR]
  | succ x ih => simp only [wiR]; omega
theorem wiA_le (w : Nat) (l : List Nat) (y : Nat) : wiA w l y ≤ y * w := by
  induction y with
  | zero => simp [wiA]
  | succ y ih => simp only [wiA]; have := wiR_le w l y w; rw [Nat.add_mul]; omega
theorem wiR_1 (w : Nat) (l : List Nat) (y : Nat) : wiR w l y 1 = 0 := by simp [wiR, rwC, cntB]
theorem rwC_t {w : Nat} {l : List Nat} {y x : Nat} (h : y * (w - 1) + x ∈ l) : rwC w l y (x + 1) = rwC w l y x + 1 := cntB_t (decide_eq_true h)
theorem rwC_f {w : Nat} {l : List Nat} {y x : Nat} (h : ¬ y * (w - 1) + x ∈ l) : rwC w l y (x + 1) = rwC w l y x := cntB_f (decide_eq_false h)
/-- the reference's count of a chain's edges -/
def kcP (w h y x : Nat) (e : Nat) : Bool := decide (e < nR w h) && (decide (yE w h e = y) && decide (xE w h e < x))
def kcN (w h y x : Nat) (l : List Nat) (i : Nat) : Nat := (l.take i).countP (kcP w h y x)
theorem kcN_0 (w h y x : Nat) (l : List Nat) : kcN w h y x l 0 = 0 := by simp [kcN]
theorem kcN_s {w h y x : Nat} {l : List Nat} {i : Nat} (hi : i < l.length) : kcN w h y x l (i + 1) = kcN w h y x l i + (if kcP w h y x (l.getD i 0) then 1 else 0) := by
  unfold kcN
  rw [List.take_succ_eq_append_getElem hi, List.countP_append, List.countP_singleton]
  simp [List.getD, hi]
theorem kcN_le (w h y x : Nat) (l : List Nat) (i : Nat) : kcN w h y x l i ≤ l.length := by
  unfold kcN
  exact Nat.le_trans List.countP_le_length (by simp; omega)
theorem kc_add {w h y x : Nat} (hx : x + 1 < w) (hy : y < h) (l : List Nat) : l.countP (kcP w h y (x + 1)) = l.countP (kcP w h y x) + l.count (y * (w - 1) + x) := by
  induction l with
  | nil => simp
  | cons e l ih =>
    rw [List.countP_cons, List.countP_cons, List.count_cons, ih]
    have key : (if kcP w h y (x + 1) e = true then 1 else 0) = (if kcP w h y x e = true then 1 else 0) + (if (e == y * (w - 1) + x) = true then 1 else 0) := by
      by_cases he : e = y * (w - 1) + x
      · obtain ⟨a1, a2, a3⟩ := dec_a (w := w) (h := h) hx hy
        subst he
        simp [kcP, a1, a2, a3]
      · have h1 : (e == y * (w - 1) + x) = false := by simp [he]
        rw [h1]
        have h2 : kcP w h y (x + 1) e = kcP w h y x e := by
          unfold kcP
          by_cases c1 : e < nR w h
          · by_cases c2 : yE w h e = y
            · have c3 : ¬ xE w h e = x := by
                intro z
                apply he
                have := enc_a c1
                rw [c2, z] at this
                exact this.symm
              have c4 : (xE w h e < x + 1) ↔ (xE w h e < x) := by omega
              rw [decide_eq_decide.mpr c4]
            · simp [c2]
          · simp [c1]
        rw [h2]; simp
    omega
theorem cnt_one {l : List Nat} {a : Nat} (hn : l.Nodup) (h : a ∈ l) : l.count a = 1 := by
  induction l with
  | nil => simp at h
  | cons b l ih =>
    rw [List.count_cons]
    have hn2 := List.nodup_cons.mp hn
    by_cases e : b = a
    · subst e; rw [List.count_eq_zero_of_not_mem hn2.1]; simp
    · rcases List.mem_cons.mp h with q | q
      · exact absurd q.symm e
      · rw [ih hn2.2 q]; simp [e]
theorem kc_rw {w h y : Nat} (hy : y < h) {l : List Nat} (hn : l.Nodup) : ∀ x, x < w → l.countP (kcP w h y x) = rwC w l y x := by
  intro x
  induction x with
  | zero => intro _; simp [kcP, rwC, cntB]
  | succ x ih =>
    intro hx
    rw [kc_add hx hy, ih (by omega)]
    by_cases hm : y * (w - 1) + x ∈ l
    · rw [rwC_t hm, cnt_one hn hm]
    · rw [rwC_f hm, List.count_eq_zero_of_not_mem hm]; rfl
theorem kcN_all {w h y x : Nat} (hy : y < h) (hx : x < w) {l : List Nat} (hn : l.Nodup) : kcN w h y x l l.length = rwC w l y x := by
  unfold kcN; rw [List.take_length]; exact kc_rw hy hn x hx
/-- chain c's edges -/
def nthL (L : List (List Nat)) (c : Nat) : List Nat := L.getD c []
theorem nth_len {L : List (List Nat)} {c : Nat} (h : c < L.length) : pfx L (c + 1) = pfx L c + (nthL L c).length := by
  rw [pfx_s h]; unfold nthL; simp [List.getD, h]
theorem flat_nth : ∀ (L : List (List Nat)) (c i : Nat), c < L.length → i < (nthL L c).length → L.flatten.getD (pfx L c + i) 0 = (nthL L c).getD i 0 := by
  intro L
  induction L with
  | nil => intro c i h; simp at h
  | cons l L ih =>
    intro c i hc hi
    cases c with
    | zero =>
      simp only [pfx, List.take_zero, List.flatten_nil, List.length_nil, Nat.zero_add, nthL, List.getD_cons_zero] at hi ⊢
      simp only [List.flatten_cons, List.getD]
      rw [List.getElem?_append_left hi]
    | succ c =>
      have h1 : pfx (l :: L) (c + 1) = l.length + pfx L c := by simp [pfx]
      have h2 : nthL (l :: L) (c + 1) = nthL L c := by simp [nthL]
      rw [h1, h2] at *
      rw [← ih c i (by simpa using hc) hi]
      simp only [List.flatten_cons, List.getD]
      rw [List.getElem?_append_right (by omega), show l.length + pfx L c + i - l.length = pfx L c + i from by omega]
theorem nth_mem {L : List (List Nat)} {c : Nat} (h : c < L.length) : nthL L c ∈ L := by
  unfold nthL; simp [List.getD, h]
theorem nth_nodup {L : List (List Nat)} (hn : L.flatten.Nodup) {c : Nat} (h : c < L.length) : (nthL L c).Nodup :=
  hn.sublist (List.sublist_flatten_of_mem (nth_mem h))
def wiV (w h : Nat) (L : List (List Nat)) (no : Nat) (z : Int32) : Int32 := bif clL L no z then nI (wiA w (nthL L z.toNatClampNeg) h) else -1
