/-! the class's lines through cells, the path of a chain -/
def ldG (c : Nat → Bool) (m : Bool) (k : Nat) : Nat :=
  if (!c (k + 1) && c (k + 1 + 1)) && (!c (k + 3) && c (k + 3 + 1)) then (if m then k + 1 else k + 3)
  else if !c (k + 1) && c (k + 1 + 1) then k + 1 else if !c (k + 2) && c (k + 2 + 1) then k + 2 else k + 3
theorem ldG_eq (f : Nat → Nat → Int32) (tw : Int32) (x y k : Nat) : ldB f tw x y k = ldG (crn f tw x y) (mdB f tw x y) k := rfl
def tnC (a : Nat) (m : Bool) : Nat := if (a = 5 ∨ a = 10) ∧ m = true then 1 else 3
theorem ex_ld (c : Nat → Bool) (m : Bool) (h4 : ∀ k, c (k + 4) = c k) (k : Nat) (hk : k < 4) (hd : (c k && !c (k + 1)) = true) : exA (mk4 c 4) k (tnC (mk4 c 4) m) = (ldG c m k) % 4 := by
  have e4 : c 4 = c 0 := h4 0
  have e5 : c 5 = c 1 := h4 1
  have e6 : c 6 = c 2 := h4 2
  have e7 : c 7 = c 3 := h4 3
  revert hd
  rcases (show k = 0 ∨ k = 1 ∨ k = 2 ∨ k = 3 by omega) with rfl | rfl | rfl | rfl <;>
    simp only [ldG, mk4, Nat.reduceAdd, e4, e5, e6, e7] <;>
    generalize c 0 = a0 <;> generalize c 1 = a1 <;> generalize c 2 = a2 <;> generalize c 3 = a3 <;>
    cases a0 <;> cases a1 <;> cases a2 <;> cases a3 <;> cases m <;> decide
theorem eO_mod (w h x y k : Nat) : eO w h x y (k % 4) = eO w h x y k := by unfold eO; rw [Nat.mod_mod]
theorem exL_lt (n a s t : Nat) (h : s < 4) : exL n a s t < 4 := by
  induction n generalizing s with
  | zero => exact h
  | succ n ih => simp only [exL]; split
                 · exact h
                 · exact ih _ (Nat.mod_lt _ (by decide))
theorem exA_lt (a k t : Nat) : exA a k t < 4 := exL_lt _ _ _ _ (Nat.mod_lt _ (by decide))
theorem ex_eO {w h : Nat} {f : Nat → Nat → Int32} {tw : Int32} {x y k : Nat} (hk : k < 4) (hd : dnB f tw x y k = true) : eO w h x y (exA (mk4 (crn f tw x y) 4) k (tnC (mk4 (crn f tw x y) 4) (mdB f tw x y))) = eO w h x y (ldB f tw x y k) := by
  rw [ex_ld (crn f tw x y) (mdB f tw x y) (crn_4 f tw x y) k hk hd, ldG_eq, eO_mod]
theorem crn_mod (f : Nat → Nat → Int32) (tw : Int32) (x y k : Nat) : crn f tw x y (k % 4) = crn f tw x y k := by
  unfold crn cX cY; rw [Nat.mod_mod]
theorem in_dn {f : Nat → Nat → Int32} {tw : Int32} {x y k : Nat} : inA (mk4 (crn f tw x y) 4) k = dnB f tw x y k := by
  unfold inA dnB
  rw [mk4_bit _ _ (Nat.mod_lt _ (by decide)), mk4_bit _ _ (Nat.mod_lt _ (by decide)), crn_mod, crn_mod]
def dcN (w h : Nat) (f : Nat → Nat → Int32) (tw : Int32) (x y : Nat) (nx : Nat → Int32) : Nat → Nat → Int32
  | 0 => nx
  | j + 1 => bif dnB f tw x y j then upd (dcN w h f tw x y nx j) (eO w h x y j) (nI (eO w h x y (ldB f tw x y j))) else dcN w h f tw x y nx j
def dcB (w h : Nat) (f : Nat → Nat → Int32) (tw : Int32) (x y : Nat) (bf : Nat → Int32) : Nat → Nat → Int32
  | 0 => bf
  | j + 1 => bif dnB f tw x y j then upd (dcB w h f tw x y bf j) (eO w h x y (ldB f tw x y j)) (nI (eO w h x y j)) else dcB w h f tw x y bf j
theorem dcN_t {w h : Nat} {f : Nat → Nat → Int32} {tw : Int32} {x y j : Nat} {nx : Nat → Int32} (hd : dnB f tw x y j = true) : dcN w h f tw x y nx (j + 1) = upd (dcN w h f tw x y nx j) (eO w h x y j) (nI (eO w h x y (ldB f tw x y j))) := by simp [dcN, hd]
theorem dcN_f {w h : Nat} {f : Nat → Nat → Int32} {tw : Int32} {x y j : Nat} {nx : Nat → Int32} (hd : dnB f tw x y j = false) : dcN w h f tw x y nx (j + 1) = dcN w h f tw x y nx j := by simp [dcN, hd]
theorem dcB_t {w h : Nat} {f : Nat → Nat → Int32} {tw : Int32} {x y j : Nat} {nx : Nat → Int32} (hd : dnB f tw x y j = true) : dcB w h f tw x y nx (j + 1) = upd (dcB w h f tw x y nx j) (eO w h x y (ldB f tw x y j)) (nI (eO w h x y j)) := by simp [dcB, hd]
theorem dcB_f {w h : Nat} {f : Nat → Nat → Int32} {tw : Int32} {x y j : Nat} {nx : Nat → Int32} (hd : dnB f tw x y j = false) : dcB w h f tw x y nx (j + 1) = dcB w h f tw x y nx j := by simp [dcB, hd]
def drN (w h : Nat) (f : Nat → Nat → Int32) (tw : Int32) (y : Nat) (nx : Nat → Int32) : Nat → Nat → Int32
  | 0 => nx
  | x + 1 => dcN w h f tw x y (drN w h f tw y nx x) 4
def drB (w h : Nat) (f : Nat → Nat → Int32) (tw : Int32) (y : Nat) (nx : Nat → Int32) : Nat → Nat → Int32
  | 0 => nx
  | x + 1 => dcB w h f tw x y (drB w h f tw y nx x) 4
def dlN (w h : Nat) (f : Nat → Nat → Int32) (tw : Int32) (nx : Nat → Int32) : Nat → Nat → Int32
  | 0 => nx
  | y + 1 => drN w h f tw y (dlN w h f tw nx y) (w - 1)
def dlB (w h : Nat) (f : Nat → Nat → Int32) (tw : Int32) (nx : Nat → Int32) : Nat → Nat → Int32
  | 0 => nx
  | y + 1 => drB w h f tw y (dlB w h f tw nx y) (w - 1)
theorem eO_lt {w h x y : Nat} (k : Nat) (hx : x + 1 < w) (hy : y + 1 < h) : eO w h x y k < nE w h := by
  have : k % 4 < 4 := Nat.mod_lt _ (by decide)
  rw [nE_eq]
  have a0 : y * (w - 1) + (w - 1) ≤ h * (w - 1) := by
    have : (y + 1) * (w - 1) ≤ h * (w - 1) := Nat.mul_le_mul_right _ (by omega)
    rw [Nat.add_mul] at this; omega
  have a2 : (y + 1) * (w - 1) + (w - 1) ≤ h * (w - 1) := by
    have : (y + 1 + 1) * (w - 1) ≤ h * (w - 1) := Nat.mul_le_mul_right _ (by omega)
    rw [Nat.add_mul] at this; omega
  have a1 : y * w + w ≤ (h - 1) * w := by
    have : (y + 1) * w ≤ (h - 1) * w := Nat.mul_le_mul_right _ (by omega)
    rw [Nat.add_mul] at this; omega
  have hR : nR w h = h * (w - 1) := rfl
  rcases (show 0 = k % 4 ∨ 1 = k % 4 ∨ 2 = k % 4 ∨ 3 = k % 4 by omega) with e | e | e | e
  · rw [eO_0 e]; omega
  · rw [eO_1 e]; omega
  · rw [eO_2 e]; omega
  · rw [eO_3 e]; omega
/-- a path along the next edges: till there is none, or one that is used -/
def pth : Nat → (Nat → Int32) → List Nat → Int32 → List Nat
  | 0, _, _, _ => []
  | n + 1, N, us, e => if e = -1 then [] else if e.toNatClampNeg ∈ us then [] else e.toNatClampNeg :: pth n N (us ++ [e.toNatClampNeg]) (N e.toNatClampNeg)
theorem nI_nm1 {c : Nat} (h : c < 2 ^ 31) : ¬ nI c = -1 := by
  intro q
  have h1 := congrArg Int32.toInt q
  rw [nI_toInt h] at h1
  have : (-1 : Int32).toInt = -1 := by decide
  omega
theorem pth_0 (N : Nat → Int32) (us : List Nat) (e : Int32) : pth 0 N us e = [] := rfl
theorem pth_m (n : Nat) (N : Nat → Int32) (us : List Nat) : pth n N us (-1) = [] := by cases n <;> simp [pth]
theorem pth_i {n c : Nat} {N : Nat → Int32} {us : List Nat} (hc : c < 2 ^ 31) (h : c ∈ us) : pth n N us (nI c) = [] := by
  cases n with
  | zero => rfl
  | succ n => simp only [pth]; rw [if_neg (nI_nm1 hc), nI_clamp hc, if_pos h]
theorem pth_s {n c : Nat} {N : Nat → Int32} {us : List Nat} (hc : c < 2 ^ 31) (h : c ∉ us) : pth (n + 1) N us (nI c) = c :: pth n N (us ++ [c]) (N c) := by
  simp only [pth]; rw [if_neg (nI_nm1 hc), nI_clamp hc, if_neg h]
/-- what a chain's making writes -/
def gO (od : Nat → Int32) (n : Nat) (p : List Nat) : Nat → Int32 := fun k => if n ≤ k ∧ k < n + p.length then nI (p.getD (k - n) 0) else od k
def gW (ow : Nat → Int32) (c : Int32) (p : List Nat) : Nat → Int32 := fun e => if e ∈ p then c else ow e
theorem gO_0 (od : Nat → Int32) (n : Nat) : gO od n [] = od := by
  funext k; unfold gO; rw [if_neg (by simp)]
theorem gW_0 (ow : Nat → Int32) (c : Int32) : gW ow c [] = ow := by funext k; simp [gW]
theorem gO_s (od : Nat → Int32) (n c : Nat) (p : List Nat) : upd (gO od n p) (n + p.length) (nI c) = gO od n (p ++ [c]) := by
  funext k
  unfold gO upd
  by_cases h : k = n + p.length
  · subst h
    rw [if_pos rfl, if_pos (by simp)]
    simp [List.getD]
  · rw [if_neg h]
    by_cases h2 : n ≤ k ∧ k < n + p.length
    · show (if n ≤ k ∧ k < n + p.length then nI (p.getD (k - n) 0) else od k) = _
      rw [if_pos h2, if_pos (by simp; omega)]
      congr 1
      simp only [List.getD]
      rw [List.getElem?_append_left (by omega)]
    · show (if n ≤ k ∧ k < n + p.length then nI (p.getD (k - n) 0) else od k) = _
      rw [if_neg h2, if_neg (by simp; omega)]
theorem gW_s (ow : Nat → Int32) (q : Int32) (c : Nat) (p : List Nat) : upd (gW ow q p) c q = gW ow q (p ++ [c]) := by
  funext k
  unfold gW upd
  by_cases h : k = c
  · subst h; simp
  · simp [h]
/-- as many different numbers below n as n at most -/
theorem nd_sub : ∀ (l1 l2 : List Nat), l1.Nodup → (∀ a ∈ l1, a ∈ l2) → l1.length ≤ l2.length := by
  intro l1
  induction l1 with
  | nil => intro l2 _ _; simp
  | cons a l ih =>
    intro l2 hn hs
    have ha : a ∈ l2 := hs a List.mem_cons_self
    have h1 := ih (l2.erase a) (List.nodup_cons.mp hn).2 (fun b hb => by
      have hne : b ≠ a := fun e => (List.nodup_cons.mp hn).1 (e ▸ hb)
      exact (List.mem_erase_of_ne hne).mpr (hs b (List.mem_cons_of_mem _ hb)))
    rw [List.length_erase_of_mem ha] at h1
    have : 0 < l2.length := List.length_pos_of_mem ha
    simp only [List.length_cons]
    omega
theorem nd_len {l : List Nat} {n : Nat} (h : l.Nodup) (hb : ∀ a ∈ l, a < n) : l.length ≤ n := by
  have := nd_sub l (List.range n) h (fun a ha => List.mem_range.mpr (hb a ha))
  simpa using this
theorem nd_snoc {l : List Nat} {a : Nat} (h : l.Nodup) (ha : a ∉ l) : (l ++ [a]).Nodup := by
  rw [List.nodup_append]
  refine ⟨h, by simp, ?_⟩
  intro b hb c hc e
  rw [List.mem_singleton] at hc
  subst hc
  exact ha (e ▸ hb)
theorem gW_nm {ow : Nat → Int32} {U q : List Nat} {k a : Nat} (gow : ∀ a, a < 264 → (ow a = -1 ↔ a ∉ U)) (ha : a < 264) (hk : k < 264) (c : gW ow (nI k) q a = -1) : a ∉ U ++ q := by
  unfold gW at c
  by_cases h : a ∈ q
  · rw [if_pos h] at c; exact absurd c (nI_nm1 (by omega))
  · rw [if_neg h] at c
    intro z
    rcases List.mem_append.mp z with z | z
    · exact (gow a ha).mp c z
    · exact h z
theorem gW_m {ow : Nat → Int32} {U q : List Nat} {c0 : Int32} {a : Nat} (gow : ∀ a, a < 264 → (ow a = -1 ↔ a ∉ U)) (ha : a < 264) (c : ¬ gW ow c0 q a = -1) : a ∈ U ++ q := by
  unfold gW at c
  by_cases h : a ∈ q
  · exact List.mem_append_right _ h
  · rw [if_neg h, gow a ha] at c
    exact List.mem_append_left _ (Classical.not_not.mp c)
