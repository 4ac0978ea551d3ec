/-! all chains: the open ones, the closed ones; what their making writes -/
def opL (N B : Nat → Int32) : Nat → List (List Nat)
  | 0 => []
  | e + 1 => if ¬ N e = -1 ∧ B e = -1 then opL N B e ++ [pth 264 N (opL N B e).flatten (nI e)] else opL N B e
def csL (N : Nat → Int32) (L0 : List (List Nat)) : Nat → List (List Nat)
  | 0 => L0
  | e + 1 => if ¬ N e = -1 ∧ e ∉ (csL N L0 e).flatten then csL N L0 e ++ [pth 264 N (csL N L0 e).flatten (nI e)] else csL N L0 e
theorem opL_t {N B : Nat → Int32} {e : Nat} (h1 : ¬ N e = -1) (h2 : B e = -1) : opL N B (e + 1) = opL N B e ++ [pth 264 N (opL N B e).flatten (nI e)] := by simp [opL, h1, h2]
theorem opL_f {N B : Nat → Int32} {e : Nat} (h : N e = -1 ∨ ¬ B e = -1) : opL N B (e + 1) = opL N B e := by
  simp only [opL]; rw [if_neg]; rintro ⟨h1, h2⟩; exact h.elim h1 (fun q => q h2)
theorem csL_t {N : Nat → Int32} {L0 : List (List Nat)} {e : Nat} (h1 : ¬ N e = -1) (h2 : e ∉ (csL N L0 e).flatten) : csL N L0 (e + 1) = csL N L0 e ++ [pth 264 N (csL N L0 e).flatten (nI e)] := by
  simp only [csL]; rw [if_pos ⟨h1, h2⟩]
theorem csL_f {N : Nat → Int32} {L0 : List (List Nat)} {e : Nat} (h : N e = -1 ∨ e ∈ (csL N L0 e).flatten) : csL N L0 (e + 1) = csL N L0 e := by
  simp only [csL]; rw [if_neg]; rintro ⟨h1, h2⟩; exact h.elim h1 (fun q => h2 q)
def gdL (L : List (List Nat)) : Prop := L.length ≤ 132 ∧ L.flatten.Nodup ∧ ∀ z ∈ L.flatten, z < 264
theorem gdL.len {L : List (List Nat)} (h : gdL L) : L.flatten.length ≤ 264 := nd_len h.2.1 h.2.2
def oA (od : Nat → Int32) (L : List (List Nat)) : Nat → Int32 := fun k => if k < L.flatten.length then nI (L.flatten.getD k 0) else od k
def sA (st : Nat → Int32) (L : List (List Nat)) : Nat → Int32 := fun i => if 1 ≤ i ∧ i ≤ L.length then nI (pfx L i) else st i
def wOr : List (List Nat) → Nat → (Nat → Int32) → Nat → Int32
  | [], _, g => g
  | l :: ls, c, g => wOr ls (c + 1) (gW g (nI c) l)
def wO (ow : Nat → Int32) (L : List (List Nat)) : Nat → Int32 := wOr L 0 ow
theorem oA_0 (od : Nat → Int32) : oA od [] = od := by funext k; simp [oA]
theorem sA_0 (st : Nat → Int32) : sA st [] = st := by funext k; unfold sA; rw [if_neg]; simp; omega
theorem wO_0 (ow : Nat → Int32) : wO ow [] = ow := rfl
theorem oA_s (od : Nat → Int32) (L : List (List Nat)) (p : List Nat) : gO (oA od L) L.flatten.length p = oA od (L ++ [p]) := by
  funext k
  unfold gO oA
  rw [show (L ++ [p]).flatten = L.flatten ++ p from by simp]
  by_cases h : L.flatten.length ≤ k ∧ k < L.flatten.length + p.length
  · rw [if_pos h, if_pos (by rw [List.length_append]; omega)]
    congr 1
    simp only [List.getD]
    rw [List.getElem?_append_right h.1]
  · rw [if_neg h]
    by_cases h2 : k < L.flatten.length
    · show (if k < L.flatten.length then nI (L.flatten.getD k 0) else od k) = _
      rw [if_pos h2, if_pos (by rw [List.length_append]; omega)]
      congr 1
      simp only [List.getD]
      rw [List.getElem?_append_left h2]
    · show (if k < L.flatten.length then nI (L.flatten.getD k 0) else od k) = _
      rw [if_neg h2, if_neg (by rw [List.length_append]; omega)]
theorem pfx_app {L : List (List Nat)} {p : List Nat} {i : Nat} (h : i ≤ L.length) : pfx (L ++ [p]) i = pfx L i := by
  unfold pfx; rw [List.take_append_of_le_length h]
theorem pfx_all (L : List (List Nat)) (p : List Nat) : pfx (L ++ [p]) (L.length + 1) = L.flatten.length + p.length := by
  unfold pfx; rw [List.take_of_length_le (by simp)]
  rw [show (L ++ [p]).flatten = L.flatten ++ p from by simp, List.length_append]
theorem sA_s (st : Nat → Int32) (L : List (List Nat)) (p : List Nat) : upd (sA st L) (L.length + 1) (nI (L.flatten.length + p.length)) = sA st (L ++ [p]) := by
  funext i
  unfold upd sA
  rw [show (L ++ [p]).length = L.length + 1 from by simp]
  by_cases h : i = L.length + 1
  · subst h
    rw [if_pos rfl, if_pos (by omega), pfx_all]
  · rw [if_neg h]
    by_cases h2 : 1 ≤ i ∧ i ≤ L.length
    · show (if 1 ≤ i ∧ i ≤ L.length then nI (pfx L i) else st i) = _
      rw [if_pos h2, if_pos (by omega), pfx_app h2.2]
    · show (if 1 ≤ i ∧ i ≤ L.length then nI (pfx L i) else st i) = _
      rw [if_neg h2, if_neg (by omega)]
theorem wOr_app (L : List (List Nat)) (p : List Nat) (c : Nat) (g : Nat → Int32) : wOr (L ++ [p]) c g = gW (wOr L c g) (nI (c + L.length)) p := by
  induction L generalizing c g with
  | nil => rfl
  | cons l L ih =>
    simp only [List.cons_append, wOr, List.length_cons]
    rw [ih, show c + 1 + L.length = c + (L.length + 1) from by omega]
theorem wO_s (ow : Nat → Int32) (L : List (List Nat)) (p : List Nat) : gW (wO ow L) (nI L.length) p = wO ow (L ++ [p]) := by
  unfold wO; rw [wOr_app, Nat.zero_add]
theorem sA_len {st : Nat → Int32} {L : List (List Nat)} (h0 : st 0 = 0) : ∀ i, i ≤ L.length → sA st L i = nI (pfx L i) := by
  intro i hi
  unfold sA
  by_cases h : 1 ≤ i ∧ i ≤ L.length
  · rw [if_pos h]
  · have : i = 0 := by omega
    subst this
    rw [if_neg (by omega), h0, pfx_0]; rfl
theorem oA_in {od : Nat → Int32} {L : List (List Nat)} : ∀ j, j < L.flatten.length → oA od L j = nI (L.flatten.getD j 0) := by
  intro j h; unfold oA; rw [if_pos h]
theorem wOr_m (L : List (List Nat)) : ∀ (c : Nat) (g : Nat → Int32) (a : Nat), c + L.length < 2 ^ 31 → (wOr L c g a = -1 ↔ (a ∉ L.flatten ∧ g a = -1)) := by
  induction L with
  | nil => intro c g a _; simp [wOr]
  | cons l L ih =>
    intro c g a hc
    simp only [wOr, List.length_cons] at *
    rw [ih (c + 1) _ a (by omega)]
    unfold gW
    by_cases h : a ∈ l
    · rw [if_pos h]
      constructor
      · intro q; exact absurd q.2 (nI_nm1 (by omega))
      · intro q; exact absurd (List.mem_flatten.mpr ⟨l, List.mem_cons_self, h⟩) q.1
    · rw [if_neg h]
      rw [List.flatten_cons, List.mem_append]
      constructor
      · intro q; exact ⟨fun z => z.elim h q.1, q.2⟩
      · intro q; exact ⟨fun z => q.1 (Or.inr z), q.2⟩
theorem wO_m {ow : Nat → Int32} {L : List (List Nat)} (hL : L.length ≤ 132) (h0 : ∀ a, a < 264 → ow a = -1) : ∀ a, a < 264 → (wO ow L a = -1 ↔ a ∉ L.flatten) := by
  intro a ha
  unfold wO
  rw [wOr_m L 0 ow a (by omega)]
  exact ⟨fun q => q.1, fun q => ⟨q, h0 a ha⟩⟩
